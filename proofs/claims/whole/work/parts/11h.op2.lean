/-! calls that tell: blower, kind, quarrel, tell, feed -/
theorem step_d {f : Nat → Int32} {r : Nat} {c d d' : Nat → Nat} (h : stepOK f r c d) (h0 : d' 0 = d 0) (h1 : d' 1 = d 1) (h2 : d' 2 = d 2) (h3 : d 3 ≤ d' 3) (hb : ∀ b, b < c 3 → d' (4 + b) = d (4 + b)) (hp : ∀ p, p < c 1 → d' (16 + 10 * p) = d (16 + 10 * p) ∧ d' (19 + 10 * p) = d (19 + 10 * p)) : stepOK f r c d' := by
  obtain ⟨t, t1, t2, t3, t4, t5, t6, t7, t8, t9, t10, t11⟩ := h
  refine ⟨t, t1, t2, ?_, ?_, ?_, ?_, ?_, ?_, ?_, ?_, t11⟩
  · rw [h0, h1, h2]; exact t3
  · rw [h0, h1, h2]; exact t4
  · rw [h0, h1, h2]; exact t5
  · rw [h0, h1, h2]
    intro z
    obtain ⟨z1, z2, z3, p, z4, z5, z6, z7⟩ := t6 z
    exact ⟨z1, z2, z3, p, z4, z5, z6, fun p' hp' hn => by rw [(hp p' hp').2]; exact z7 p' hp' hn⟩
  · intro z p hp'; rw [(hp p hp').2]; exact t7 z p hp'
  · intro p hp'; rw [(hp p hp').1]; exact t8 p hp'
  · omega
  · intro b hb'; rw [hb b hb']; exact t10 b hb'
section GROW
variable {A A' : Nat → Nat}
theorem Inv_blower (h : Inv A) (h6 : A 0 < 6) (e0 : A' 0 = A 0 + 1) (eA : ∀ k, k ≠ 0 → (k < 10 + 5 * A 0 ∨ 15 + 5 * A 0 ≤ k) → A' k = A k) (l1 : 1 ≤ A' (10 + 5 * A 0)) (l2 : A' (10 + 5 * A 0) ≤ 9) (l3 : A' (11 + 5 * A 0) ≤ 3) (l4 : A' (12 + 5 * A 0) ≤ 999) (l5 : A' (13 + 5 * A 0) = 0) (l6 : A' (14 + 5 * A 0) = 0) : Inv A' := by
  obtain ⟨b0, b1, b2, b3, b4, b5, b6, b7, b8, b9⟩ := h.b
  have hn := h.now
  have hlog := h.log
  obtain ⟨g1, g2, g3, g4, g5, g6⟩ := h
  have e1 := eA 1 (by omega) (by omega)
  have e2 := eA 2 (by omega) (by omega)
  have e3 := eA 3 (by omega) (by omega)
  have e4 := eA 4 (by omega) (by omega)
  have e5 := eA 5 (by omega) (by omega)
  have e6 := eA 6 (by omega) (by omega)
  have e7 := eA 7 (by omega) (by omega)
  have e8 := eA 8 (by omega) (by omega)
  have e9 := eA 9 (by omega) (by omega)
  have foe : ∀ i, i < A 0 + 1 → A' (14 + 5 * i) < 2 ^ A 0 := fun i hi => by
    by_cases z : i = A 0
    · rw [z, l6]; exact Nat.two_pow_pos _
    · rw [eA _ (by omega) (by omega)]; exact (g2 i (by omega)).2.2.2.2
  have t0 : ∀ i, i < A 0 + 1 → (A' (14 + 5 * i)).testBit (A 0) = false := fun i hi => Nat.testBit_lt_two_pow (foe i hi)
  have tn : ∀ j, (A' (14 + 5 * A 0)).testBit j = false := fun j => by rw [l6]; exact Nat.zero_testBit j
  have ck : ∀ k, k < A 1 → A (40 + 3 * k) = A' (40 + 3 * k) ∧ A (41 + 3 * k) = A' (41 + 3 * k) := fun k hk => ⟨(eA _ (by omega) (by omega)).symm, (eA _ (by omega) (by omega)).symm⟩
  have cl : ∀ i, i < 4 * A 9 → A (250 + i) = A' (250 + i) := fun i hi => (eA _ (by omega) (by omega)).symm
  have cv : ∀ b, b < A 0 → A (11 + 5 * b) = A' (11 + 5 * b) := fun b hb => (eA _ (by omega) (by omega)).symm
  refine ⟨⟨(by omega), (by omega), (by omega), (by omega), (by omega), (by omega), (by omega)⟩, fun i hi => ?_, fun i j hi hj => ?_, fun k hk => ?_, ⟨fun i hi => ?_, fun i hi => ?_⟩, ?_⟩
  · have hf := foe i (by omega)
    have : 2 ^ A 0 ≤ 2 ^ A' 0 := Nat.pow_le_pow_right (by decide) (by omega)
    by_cases z : i = A 0
    · rw [z] at hf ⊢
      exact ⟨l1, l2, l3, l4, (by omega)⟩
    · have := g2 i (by omega)
      rw [eA (10 + 5 * i) (by omega) (by omega), eA (11 + 5 * i) (by omega) (by omega), eA (12 + 5 * i) (by omega) (by omega)]
      exact ⟨this.1, this.2.1, this.2.2.1, this.2.2.2.1, (by omega)⟩
  · by_cases zi : i = A 0
    · rw [zi, tn, tn, t0 j (by omega)]; exact ⟨rfl, rfl⟩
    · by_cases zj : j = A 0
      · rw [zj, tn, t0 i (by omega), eA _ (by omega) (by omega)]; exact ⟨rfl, (g3 i i (by omega) (by omega)).2⟩
      · rw [eA _ (by omega) (by omega), eA _ (by omega) (by omega)]; exact g3 i j (by omega) (by omega)
  · rw [eA _ (by omega) (by omega), eA _ (by omega) (by omega), eA _ (by omega) (by omega)]; exact g4 k (by omega)
  · rw [eA _ (by omega) (by omega)]; exact g5.1 i (by omega)
  · rw [eA (70 + 4 * i) (by omega) (by omega), eA (71 + 4 * i) (by omega) (by omega), eA (72 + 4 * i) (by omega) (by omega), eA (73 + 4 * i) (by omega) (by omega)]
    have := g5.2 i (by omega)
    exact ⟨(by omega), this.2⟩
  · refine hist_keep g6 e6 (fun k hk => eA k (by omega) (by omega)) (by omega) (by omega) ck cv cl (by omega) ?_
    have hc : Cons A' (live A) := Cons_mono hn (by omega) (by omega) ck cv cl
    obtain ⟨c0, c1, c2, c3, c4, c5, c6, c7⟩ := hc
    have lp : ∀ k, k < 100 → live A' (16 + k) = live A (16 + k) := fun k hk => by rw [live_p, live_p, eA _ (by omega) (by omega)]
    refine ⟨by rw [live_0]; omega, by rw [live_1]; omega, by rw [live_2]; omega, by rw [live_3]; omega, fun i hi => ?_, fun b hb => ?_, fun b hb => ?_, fun p hp => ?_⟩
    · rw [live_2, e9] at hi
      have := hlog i hi
      rw [live_1, live_3, live_0, eA (250 + 4 * i) (by omega) (by omega), eA (251 + 4 * i) (by omega) (by omega), eA (252 + 4 * i) (by omega) (by omega), eA (253 + 4 * i) (by omega) (by omega)]
      omega
    · rw [live_3] at hb
      rw [live_b _ (by omega)]
      by_cases z : b = A 0
      · rw [z]; exact l4
      · rw [eA _ (by omega) (by omega)]; exact (g2 b (by omega)).2.2.2.1
    · rw [live_3] at hb
      rw [live_g _ (by omega), live_2, live_0, e9, e3]
      by_cases z : b = A 0
      · rw [z, l5]
        symm
        exact sumR_zero (fun i hi => by have := hlog i hi; rw [eA _ (by omega) (by omega)]; simp; omega)
      · rw [eA _ (by omega) (by omega)]
        have := c6 b (by rw [live_3]; omega)
        rw [live_g _ (by omega)] at this
        exact this
    · rw [live_1, e2] at hp
      have := c7 p hp
      unfold pieceOK at this ⊢
      rw [live_2, e9, lp _ (by omega), show 17 + 10 * p = 16 + (10 * p + 1) by omega, show 18 + 10 * p = 16 + (10 * p + 2) by omega, show 19 + 10 * p = 16 + (10 * p + 3) by omega, lp _ (by omega), lp _ (by omega), lp _ (by omega)]
      rw [live_2, show 17 + 10 * p = 16 + (10 * p + 1) by omega, show 18 + 10 * p = 16 + (10 * p + 2) by omega, show 19 + 10 * p = 16 + (10 * p + 3) by omega] at this
      refine ⟨this.1, this.2.1, this.2.2.1, this.2.2.2.1, fun b hb => ?_⟩
      have t := this.2.2.2.2 b hb
      rw [show 20 + 10 * p + b = 16 + (10 * p + 4 + b) by omega] at t ⊢
      rw [lp _ (by omega)]; exact t
/-- kinds grow, or quarrels change: the rest stays -/
theorem Inv_same (h : Inv A) (e1 : A 1 ≤ A' 1) (e16 : A' 1 ≤ 6) (eA : ∀ k, k ≠ 1 → (k < 14 ∨ 40 ≤ k ∨ (k - 14) % 5 ≠ 0) → (k < 40 + 3 * A 1 ∨ 58 ≤ k) → A' k = A k) (hk : kindsOK A') (hc : ∀ i, i < A 0 → A' (14 + 5 * i) < 2 ^ A 0) (hf : foesOK A') : Inv A' := by
  obtain ⟨b0, b1, b2, b3, b4, b5, b6, b7, b8, b9⟩ := h.b
  have hn := h.now
  obtain ⟨g1, g2, g3, g4, g5, g6⟩ := h
  have e : ∀ k, k ≠ 1 → k < 10 → A' k = A k := fun k h1 h2 => eA k h1 (by omega) (by omega)
  have e0 := e 0 (by omega) (by omega)
  have eb : ∀ k, 60 ≤ k → A' k = A k := fun k hk => eA k (by omega) (by omega) (by omega)
  have ck : ∀ k, k < A 1 → A (40 + 3 * k) = A' (40 + 3 * k) ∧ A (41 + 3 * k) = A' (41 + 3 * k) := fun k hk => ⟨(eA _ (by omega) (by omega) (by omega)).symm, (eA _ (by omega) (by omega) (by omega)).symm⟩
  have cl : ∀ i, i < 4 * A 9 → A (250 + i) = A' (250 + i) := fun i hi => (eb _ (by omega)).symm
  have cv : ∀ b, b < A 0 → A (11 + 5 * b) = A' (11 + 5 * b) := fun b hb => (eA _ (by omega) (by omega) (by omega)).symm
  refine ⟨⟨by rw [e0]; omega, e16, by rw [e 4 (by omega) (by omega)]; omega, by rw [e 4 (by omega) (by omega), e 5 (by omega) (by omega)]; omega, by rw [e 6 (by omega) (by omega)]; omega, by rw [e 7 (by omega) (by omega)]; omega, by rw [e 8 (by omega) (by omega)]; omega⟩, fun i hi => ?_, hf, hk, ⟨fun i hi => ?_, fun i hi => ?_⟩, ?_⟩
  · rw [e0] at hi ⊢
    have := g2 i hi
    rw [eA (10 + 5 * i) (by omega) (by omega) (by omega), eA (11 + 5 * i) (by omega) (by omega) (by omega), eA (12 + 5 * i) (by omega) (by omega) (by omega)]
    exact ⟨this.1, this.2.1, this.2.2.1, this.2.2.2.1, hc i hi⟩
  · rw [e 7 (by omega) (by omega)] at hi
    rw [eb _ (by omega)]; exact g5.1 i hi
  · rw [e 8 (by omega) (by omega)] at hi
    rw [eb (70 + 4 * i) (by omega), eb (71 + 4 * i) (by omega), eb (72 + 4 * i) (by omega), eb (73 + 4 * i) (by omega), e0]
    exact g5.2 i hi
  · refine hist_keep g6 (e 6 (by omega) (by omega)) (fun k hk => eb k (by omega)) (by omega) (by omega) ck cv cl (by rw [e 9 (by omega) (by omega)]; omega) ?_
    refine Cons_v (v := live A) (Cons_mono hn (by omega) (by omega) ck cv cl) (fun k hk => ?_) (by omega)
    unfold live
    rw [e0, e 2 (by omega) (by omega), e 3 (by omega) (by omega), e 9 (by omega) (by omega)]
    split
    · rfl
    split
    · rfl
    split
    · rfl
    split
    · rfl
    split
    · rw [eA _ (by omega) (by omega) (by omega)]
    split
    · rw [eA _ (by omega) (by omega) (by omega)]
    · rw [eb _ (by omega)]
end GROW
section OP2
variable {TX : TXT} {A B : Nat → Nat} {x : XS} {y : MS}
theorem op_blower {a0 a1 a2 : Int32} (h : RelA TX A B x y) : VC_X11_blower_0 (fun r x' => VC_blower (fun r' y' => r = r' ∧ RelT TX x' y') a0 a1 a2 y) a0 a1 a2 x := by
  obtain ⟨g1, -, g3, -, g5, -⟩ := id h
  obtain ⟨b0, b1, b2, b3, b4, b5, b6, b7, b8, b9⟩ := g1.b
  obtain ⟨h1, h2, h3, h4, h5, h6⟩ := g3
  refine t_blower x y a0 a1 a2 (A 0) b0 h1.1 (by rw [g5, enc_at (by omega)]) _ ⟨rfl, A, B, h⟩ (fun c1 c2 c3 c4 c5 c6 hn => ⟨rfl, ?_⟩)
  obtain ⟨l, l1, l2, rfl⟩ := (isFrom_iff (a := a0) (l := 1) (h := 9) (by omega) (by omega)).mpr ⟨c1, c2⟩
  obtain ⟨v, -, v2, rfl⟩ := (isFrom_iff (a := a1) (l := 0) (h := 3) (by omega) (by omega)).mpr ⟨c3, c4⟩
  obtain ⟨u, -, u2, rfl⟩ := (isFrom_iff (a := a2) (l := 0) (h := 999) (by omega) (by omega)).mpr ⟨c5, c6⟩
  rw [g5, L0, enc_u (by omega), enc_u (by omega), enc_u (by omega), enc_u (by omega), enc_u (by omega), enc_u (by omega)]
  generalize hA : uN (uN (uN (uN (uN (uN A (10 + 5 * A 0 + 0) l) (10 + 5 * A 0 + 1) v) (10 + 5 * A 0 + 2) u) (10 + 5 * A 0 + 3) 0) (10 + 5 * A 0 + 4) 0) 0 (A 0 + 1) = A'
  have e0 : A' 0 = A 0 + 1 := by rw [← hA, uN_s]
  have eA : ∀ k, k ≠ 0 → (k < 10 + 5 * A 0 ∨ 15 + 5 * A 0 ≤ k) → A' k = A k := fun k k0 k1 => by
    rw [← hA, uN_n _ _ _ _ k0, uN_n _ _ _ _ (by omega), uN_n _ _ _ _ (by omega), uN_n _ _ _ _ (by omega), uN_n _ _ _ _ (by omega), uN_n _ _ _ _ (by omega)]
  have q0 : A' (10 + 5 * A 0) = l := by rw [← hA, uN_n _ _ _ _ (by omega), uN_n _ _ _ _ (by omega), uN_n _ _ _ _ (by omega), uN_n _ _ _ _ (by omega), uN_n _ _ _ _ (by omega), Nat.add_zero, uN_s]
  have q1 : A' (11 + 5 * A 0) = v := by rw [← hA, uN_n _ _ _ _ (by omega), uN_n _ _ _ _ (by omega), uN_n _ _ _ _ (by omega), uN_n _ _ _ _ (by omega), show 11 + 5 * A 0 = 10 + 5 * A 0 + 1 by omega, uN_s]
  have q2 : A' (12 + 5 * A 0) = u := by rw [← hA, uN_n _ _ _ _ (by omega), uN_n _ _ _ _ (by omega), uN_n _ _ _ _ (by omega), show 12 + 5 * A 0 = 10 + 5 * A 0 + 2 by omega, uN_s]
  have q3 : A' (13 + 5 * A 0) = 0 := by rw [← hA, uN_n _ _ _ _ (by omega), uN_n _ _ _ _ (by omega), show 13 + 5 * A 0 = 10 + 5 * A 0 + 3 by omega, uN_s]
  have q4 : A' (14 + 5 * A 0) = 0 := by rw [← hA, uN_n _ _ _ _ (by omega), show 14 + 5 * A 0 = 10 + 5 * A 0 + 4 by omega, uN_s]
  clear hA
  have hI' : Inv A' := Inv_blower g1 hn e0 eA (by omega) (by omega) (by omega) (by omega) q3 q4
  generalize hx : xI (xF (xF (xF (xF x 3 (upd (x.2.1 3) (A 0) (nI l))) 4 (upd (x.2.1 4) (A 0) (nI v))) 5 (upd (x.2.1 5) (A 0) (nI u))) 6 (upd (x.2.1 6) (A 0) (nI 0))) 64 (nI (A 0 + 1)) = x'
  have fx : XFr x x' := by rw [← hx]; exact (((((XFr.refl x).F _ _ (by omega)).F _ _ (by omega)).F _ _ (by omega)).F _ _ (by omega)).I _ _ (by omega)
  have eI : ∀ k, k ≠ 64 → x'.1 k = x.1 k := fun k hk => by rw [← hx, xI_n _ _ hk, xF_i, xF_i, xF_i, xF_i]
  have eI6 : x'.1 64 = nI (A 0 + 1) := by rw [← hx, xI_s]
  have eF : ∀ k, (k < 3 ∨ 7 ≤ k) → x'.2.1 k = x.2.1 k := fun k hk => by rw [← hx, xI_f, xF_o _ _ _ _ (by omega), xF_o _ _ _ _ (by omega), xF_o _ _ _ _ (by omega), xF_o _ _ _ _ (by omega)]
  have f3 : x'.2.1 3 = upd (x.2.1 3) (A 0) (nI l) := by rw [← hx, xI_f, xF_o _ _ _ _ (by omega), xF_o _ _ _ _ (by omega), xF_o _ _ _ _ (by omega), xF_s]
  have f4 : x'.2.1 4 = upd (x.2.1 4) (A 0) (nI v) := by rw [← hx, xI_f, xF_o _ _ _ _ (by omega), xF_o _ _ _ _ (by omega), xF_s]
  have f5 : x'.2.1 5 = upd (x.2.1 5) (A 0) (nI u) := by rw [← hx, xI_f, xF_o _ _ _ _ (by omega), xF_s]
  have f6 : x'.2.1 6 = upd (x.2.1 6) (A 0) (nI 0) := by rw [← hx, xI_f, xF_s]
  clear hx
  refine h.step fx ((YFr.refl y).F _ _ (by omega)) hI' ?_ (sF_same _ _ _) (eA 4 (by omega) (by omega))
  refine ⟨⟨by rw [eI6, e0], fun i hi => ?_⟩, rxWares_of h2 b1 (eI 224 (by omega)) (fun k _ _ _ => eF k (by omega)) (fun k hk => eA k (by omega) (by omega)), rxBench_of h3 b2 b9 ⟨eI 352 (by omega), eI 353 (by omega), eI 356 (by omega)⟩ (fun k _ _ _ => eF k (by omega)) (fun k hk => eA k (by omega) (by omega)), ?_, rxTalk_of h5 b7 b8 ⟨eI 544 (by omega), eI 546 (by omega)⟩ (fun k _ _ => eF k (by omega)) (fun k hk => eA k (by omega) (by omega)), rxText_of h6 ⟨eI 38 (by omega), eI 39 (by omega)⟩ ⟨eA 4 (by omega) (by omega), eA 5 (by omega) (by omega)⟩⟩
  · rw [f3, f4, f5, f6]
    by_cases z : i = A 0
    · rw [z, upd_s, upd_s, upd_s, upd_s, q0, q1, q2, q4]; exact ⟨rfl, rfl, rfl, rfl⟩
    · rw [upd_n _ _ z, upd_n _ _ z, upd_n _ _ z, upd_n _ _ z, eA _ (by omega) (by omega), eA _ (by omega) (by omega), eA _ (by omega) (by omega), eA _ (by omega) (by omega)]; exact h1.2 i (by omega)
  · obtain ⟨s1, f, s2, s3, s4⟩ := h4
    have e6 := eA 6 (by omega) (by omega)
    have hc : ∀ j, j < A 6 → ∀ c, core A' j c = core A j c := fun j hj c => by
      unfold core
      rw [if_pos (by omega), if_pos hj, eA _ (by omega) (by omega)]
    refine ⟨by rw [eI 481 (by omega), e6]; exact s1, f, s2, by rw [eI 480 (by omega)]; exact s3, fun j hj => ?_⟩
    rw [e6] at hj
    have hs := s4 j hj
    have hb := g1.c j (by omega)
    rw [eF 16 (by omega)]
    by_cases z : j + 1 < A 6
    · exact step_of hs (fun _ _ => rfl) (fun k _ => hc j hj k) (fun k _ => hc (j + 1) z k) hb.1 hb.2
    · have z2 : j + 1 = A 6 := (by omega)
      have z3 : core A (j + 1) = live A := by rw [z2, core_now]
      have z4 : core A' (j + 1) = live A' := by rw [z2, ← e6, core_now]
      have hs2 := step_of hs (fun _ _ => rfl) (fun k _ => hc j hj k) (fun _ _ => rfl) hb.1 hb.2
      have h3' : core A j 3 ≤ A 0 := (g1.2.2.2.2.2.1 j (by omega)).2.2.2.1
      rw [z3] at hs2
      rw [z4]
      refine step_d hs2 (by rw [live_0, live_0, eA _ (by omega) (by omega)]) (by rw [live_1, live_1, eA _ (by omega) (by omega)]) (by rw [live_2, live_2, eA _ (by omega) (by omega)]) (by rw [live_3, live_3, e0]; omega) (fun b hb' => ?_) (fun p hp => ?_)
      · rw [hc j hj] at hb'
        rw [live_b _ (by omega), live_b _ (by omega), eA _ (by omega) (by omega)]
      · rw [hc j hj] at hp
        rw [live_p, live_p, show 19 + 10 * p = 16 + (10 * p + 3) by omega, live_p, live_p, eA _ (by omega) (by omega), eA _ (by omega) (by omega)]
        exact ⟨rfl, rfl⟩
theorem op_kind {a0 a1 a2 : Int32} (h : RelA TX A B x y) : VC_X11_kind_0 (fun r x' => VC_kind (fun r' y' => r = r' ∧ RelT TX x' y') a0 a1 a2 y) a0 a1 a2 x := by
  obtain ⟨g1, -, g3, -, g5, -⟩ := id h
  obtain ⟨b0, b1, b2, b3, b4, b5, b6, b7, b8, b9⟩ := g1.b
  obtain ⟨h1, h2, h3, h4, h5, h6⟩ := g3
  refine t_kind x y a0 a1 a2 (A 1) b1 h2.1 (by rw [g5, enc_at (by omega)]) _ ⟨rfl, A, B, h⟩ (fun c1 c2 c3 c4 c5 c6 hn => ⟨rfl, ?_⟩)
  obtain ⟨l, l1, l2, rfl⟩ := (isFrom_iff (a := a0) (l := 1) (h := 30) (by omega) (by omega)).mpr ⟨c1, c2⟩
  obtain ⟨v, -, v2, rfl⟩ := (isFrom_iff (a := a1) (l := 0) (h := 15) (by omega) (by omega)).mpr ⟨c3, c4⟩
  obtain ⟨u, -, u2, rfl⟩ := (isFrom_iff (a := a2) (l := 0) (h := 999) (by omega) (by omega)).mpr ⟨c5, c6⟩
  rw [g5, enc_u (by omega), enc_u (by omega), enc_u (by omega), enc_u (by omega)]
  generalize hA : uN (uN (uN (uN A (40 + 3 * A 1) l) (41 + 3 * A 1) v) (42 + 3 * A 1) u) 1 (A 1 + 1) = A'
  have e1 : A' 1 = A 1 + 1 := by rw [← hA, uN_s]
  have eA : ∀ k, k ≠ 1 → (k < 40 + 3 * A 1 ∨ 43 + 3 * A 1 ≤ k) → A' k = A k := fun k k0 k1 => by
    rw [← hA, uN_n _ _ _ _ k0, uN_n _ _ _ _ (by omega), uN_n _ _ _ _ (by omega), uN_n _ _ _ _ (by omega)]
  have q0 : A' (40 + 3 * A 1) = l := by rw [← hA, uN_n _ _ _ _ (by omega), uN_n _ _ _ _ (by omega), uN_n _ _ _ _ (by omega), uN_s]
  have q1 : A' (41 + 3 * A 1) = v := by rw [← hA, uN_n _ _ _ _ (by omega), uN_n _ _ _ _ (by omega), uN_s]
  have q2 : A' (42 + 3 * A 1) = u := by rw [← hA, uN_n _ _ _ _ (by omega), uN_s]
  clear hA
  have hI' : Inv A' := by
    refine Inv_same g1 (by omega) (by omega) (fun k k1 _ k3 => eA k k1 (by omega)) (fun k hk => ?_) (fun i hi => ?_) (fun i j hi hj => ?_)
    · by_cases z : k = A 1
      · rw [z]; omega
      · rw [eA _ (by omega) (by omega), eA _ (by omega) (by omega), eA _ (by omega) (by omega)]; exact g1.2.2.2.1 k (by omega)
    · rw [eA _ (by omega) (by omega)]; exact (g1.2.1 i hi).2.2.2.2
    · rw [eA 0 (by omega) (by omega)] at hi hj
      rw [eA _ (by omega) (by omega), eA _ (by omega) (by omega)]; exact g1.2.2.1 i j hi hj
  generalize hx : xI (xF (xF (xF x 8 (upd (x.2.1 8) (A 1) (nI l))) 9 (upd (x.2.1 9) (A 1) (nI v))) 10 (upd (x.2.1 10) (A 1) (nI u))) 224 (nI (A 1 + 1)) = x'
  have fx : XFr x x' := by rw [← hx]; exact ((((XFr.refl x).F _ _ (by omega)).F _ _ (by omega)).F _ _ (by omega)).I _ _ (by omega)
  have eI : ∀ k, k ≠ 224 → x'.1 k = x.1 k := fun k hk => by rw [← hx, xI_n _ _ hk, xF_i, xF_i, xF_i]
  have eI6 : x'.1 224 = nI (A 1 + 1) := by rw [← hx, xI_s]
  have eF : ∀ k, (k < 8 ∨ 11 ≤ k) → x'.2.1 k = x.2.1 k := fun k hk => by rw [← hx, xI_f, xF_o _ _ _ _ (by omega), xF_o _ _ _ _ (by omega), xF_o _ _ _ _ (by omega)]
  have f3 : x'.2.1 8 = upd (x.2.1 8) (A 1) (nI l) := by rw [← hx, xI_f, xF_o _ _ _ _ (by omega), xF_o _ _ _ _ (by omega), xF_s]
  have f4 : x'.2.1 9 = upd (x.2.1 9) (A 1) (nI v) := by rw [← hx, xI_f, xF_o _ _ _ _ (by omega), xF_s]
  have f5 : x'.2.1 10 = upd (x.2.1 10) (A 1) (nI u) := by rw [← hx, xI_f, xF_s]
  clear hx
  refine h.step fx ((YFr.refl y).F _ _ (by omega)) hI' ?_ (sF_same _ _ _) (eA 4 (by omega) (by omega))
  refine ⟨rxCrew_of h1 b0 (eI 64 (by omega)) (fun k _ _ _ => eF k (by omega)) (fun k hk => eA k (by omega) (by omega)), ⟨by rw [eI6, e1], fun i hi => ?_⟩, rxBench_of h3 b2 b9 ⟨eI 352 (by omega), eI 353 (by omega), eI 356 (by omega)⟩ (fun k _ _ _ => eF k (by omega)) (fun k hk => eA k (by omega) (by omega)), rxSteps_of h4 g1.c ⟨eI 481 (by omega), eI 480 (by omega)⟩ (fun k _ _ => eF k (by omega)) (eA 6 (by omega) (by omega)) (fun j _ k hk => core_of (eA 6 (by omega) (by omega)) (fun k hk => eA k (by omega) (by omega)) j hk), rxTalk_of h5 b7 b8 ⟨eI 544 (by omega), eI 546 (by omega)⟩ (fun k _ _ => eF k (by omega)) (fun k hk => eA k (by omega) (by omega)), rxText_of h6 ⟨eI 38 (by omega), eI 39 (by omega)⟩ ⟨eA 4 (by omega) (by omega), eA 5 (by omega) (by omega)⟩⟩
  rw [f3, f4, f5]
  by_cases z : i = A 1
  · rw [z, upd_s, upd_s, upd_s, q0, q1, q2]; exact ⟨rfl, rfl, rfl⟩
  · rw [upd_n _ _ z, upd_n _ _ z, upd_n _ _ z, eA _ (by omega) (by omega), eA _ (by omega) (by omega), eA _ (by omega) (by omega)]; exact h2.2 i (by omega)
end OP2
