/-! quarrel, tell, feed -/
theorem pow6 {n : Nat} (h : n ≤ 6) : 2 ^ n ≤ 64 := Nat.pow_le_pow_right (n := 2) (by decide) h
section OP4
variable {TX : TXT} {A B : Nat → Nat} {x : XS} {y : MS}
theorem op_quarrel {a0 a1 a2 : Int32} (h : RelA TX A B x y) : VC_X11_quarrel_0 (fun r x' => VC_quarrel (fun r' y' => r = r' ∧ RelT TX x' y') a0 a1 a2 y) a0 a1 a2 x := by
  obtain ⟨g1, -, g3, -, g5, -⟩ := id h
  obtain ⟨b0, b1, b2, b3, b4, b5, b6, b7, b8, b9⟩ := g1.b
  obtain ⟨h1, h2, h3, h4, h5, h6⟩ := g3
  have rbad : ¬ (isOne a0 (A 0) ∧ isOne a1 (A 0) ∧ ¬ a0 = a1) → VC_quarrel (fun r' y' => (0 : Int32) = r' ∧ RelT TX x y') a0 a1 a2 y := fun hb => by
    refine mB g5 (by omega) (fun i1 => ⟨fun z => absurd z (by decide), fun _ => ?_⟩) (fun _ => ⟨fun _ => ⟨rfl, A, B, h⟩, fun z => absurd rfl z⟩)
    exact mB g5 (by omega) (fun i2 => ⟨fun z => absurd z (by decide), fun _ => ⟨fun ne => absurd ⟨i1, i2, ne⟩ hb, fun _ => ⟨rfl, A, B, h⟩⟩⟩) (fun _ => ⟨fun _ => ⟨rfl, A, B, h⟩, fun z => absurd rfl z⟩)
  refine ⟨fun e => rbad (fun z => z.2.2 e), fun ne => ?_⟩
  refine hasB h1.1 (by omega) (fun i1 => ⟨fun z => absurd z (by decide), fun _ => ?_⟩) (fun n1 => ⟨fun _ => rbad (fun z => n1 z.1), fun z => absurd rfl z⟩)
  refine hasB h1.1 (by omega) (fun i2 => ⟨fun _ => ?_, fun z => absurd z (by decide)⟩) (fun n1 => ⟨fun z => absurd rfl z, fun _ => rbad (fun z => n1 z.2.1)⟩)
  obtain ⟨i, hi, rfl⟩ := i1
  obtain ⟨j, hj, rfl⟩ := i2
  have ne' : i ≠ j := fun e => ne (by rw [e])
  have ci := (g1.2.1 i hi).2.2.2.2
  have cj := (g1.2.1 j hj).2.2.2.2
  have p6 : 2 ^ A 0 ≤ 64 := pow6 b0
  have fi := (h1.2 i hi).2.2.2
  have fj := (h1.2 j hj).2.2.2
  have inI : vp_in (nI i) 6 := vp_in_nI (by omega) (by decide)
  have inJ : vp_in (nI j) 6 := vp_in_nI (by omega) (by decide)
  have fin : ∀ (v : Bool) (ni nj : Nat), ni < 2 ^ A 0 → nj < 2 ^ A 0 → (∀ t, ni.testBit t = if t = j then v else (A (14 + 5 * i)).testBit t) → (∀ t, nj.testBit t = if t = i then v else (A (14 + 5 * j)).testBit t) → RelT TX (xF (xF x 6 (upd (x.2.1 6) i (nI ni))) 6 (upd (upd (x.2.1 6) i (nI ni)) j (nI nj))) (sF (sF y 0 (enc (uN A (10 + 5 * i + 4) ni))) 0 (enc (uN (uN A (10 + 5 * i + 4) ni) (10 + 5 * j + 4) nj))) := by
    intro v ni nj hni hnj ti tj
    generalize hA : uN (uN A (10 + 5 * i + 4) ni) (10 + 5 * j + 4) nj = A'
    have eA : ∀ k, k ≠ 14 + 5 * i → k ≠ 14 + 5 * j → A' k = A k := fun k k1 k2 => by rw [← hA, uN_n _ _ _ _ (by omega), uN_n _ _ _ _ (by omega)]
    have qi : A' (14 + 5 * i) = ni := by rw [← hA, uN_n _ _ _ _ (by omega), show 14 + 5 * i = 10 + 5 * i + 4 by omega, uN_s]
    have qj : A' (14 + 5 * j) = nj := by rw [← hA, show 14 + 5 * j = 10 + 5 * j + 4 by omega, uN_s]
    clear hA
    have hI' : Inv A' := by
      refine Inv_same g1 (by rw [eA 1 (by omega) (by omega)]; omega) (by rw [eA 1 (by omega) (by omega)]; omega) (fun k _ k2 _ => eA k (by omega) (by omega)) (fun k hk => ?_) (fun k hk => ?_) (fun a b ha hb => ?_)
      · rw [eA 1 (by omega) (by omega)] at hk
        rw [eA _ (by omega) (by omega), eA _ (by omega) (by omega), eA _ (by omega) (by omega)]; exact g1.2.2.2.1 k hk
      · by_cases zi : k = i
        · rw [zi, qi]; exact hni
        · by_cases zj : k = j
          · rw [zj, qj]; exact hnj
          · rw [eA _ (by omega) (by omega)]; exact (g1.2.1 k hk).2.2.2.2
      · rw [eA 0 (by omega) (by omega)] at ha hb
        have T3 : ∀ k, k ≠ i → k ≠ j → A' (14 + 5 * k) = A (14 + 5 * k) := fun k k1 k2 => eA _ (by omega) (by omega)
        have sy := fun a b (ha : a < A 0) (hb : b < A 0) => (g1.2.2.1 a b ha hb).1
        have ow := fun a (ha : a < A 0) => (g1.2.2.1 a a ha ha).2
        constructor
        · by_cases zai : a = i
          · rw [zai, qi, ti]
            by_cases zbj : b = j
            · rw [zbj, qj, tj, if_pos rfl, if_pos rfl]
            · rw [if_neg zbj]
              by_cases zbi : b = i
              · rw [zbi, qi, ti, if_neg ne']
              · rw [T3 b zbi zbj]; exact sy i b hi hb
          · by_cases zaj : a = j
            · rw [zaj, qj, tj]
              by_cases zbi : b = i
              · rw [zbi, qi, ti, if_pos rfl, if_pos rfl]
              · rw [if_neg zbi]
                by_cases zbj : b = j
                · rw [zbj, qj, tj, if_neg (fun z => ne' z.symm)]
                · rw [T3 b zbi zbj]; exact sy j b hj hb
            · rw [T3 a zai zaj]
              by_cases zbi : b = i
              · rw [zbi, qi, ti, if_neg zaj]; exact sy a i ha hi
              · by_cases zbj : b = j
                · rw [zbj, qj, tj, if_neg zai]; exact sy a j ha hj
                · rw [T3 b zbi zbj]; exact sy a b ha hb
        · by_cases zai : a = i
          · rw [zai, qi, ti, if_neg ne']; exact ow i hi
          · by_cases zaj : a = j
            · rw [zaj, qj, tj, if_neg (fun z => ne' z.symm)]; exact ow j hj
            · rw [T3 a zai zaj]; exact ow a ha
    rw [xF_xF, sF_sF]
    generalize hx : xF x 6 (upd (upd (x.2.1 6) i (nI ni)) j (nI nj)) = x'
    have fx : XFr x x' := by rw [← hx]; exact (XFr.refl x).F _ _ (by omega)
    have eI : ∀ k, x'.1 k = x.1 k := fun k => by rw [← hx, xF_i]
    have eF : ∀ k, k ≠ 6 → x'.2.1 k = x.2.1 k := fun k hk => by rw [← hx, xF_o _ _ _ _ hk]
    have f6 : x'.2.1 6 = upd (upd (x.2.1 6) i (nI ni)) j (nI nj) := by rw [← hx, xF_s]
    clear hx
    refine h.step fx ((YFr.refl y).F _ _ (by omega)) hI' ?_ (sF_same _ _ _) (eA 4 (by omega) (by omega))
    have ec : ∀ j', ∀ c, c < 116 → core A' j' c = core A j' c := fun j' c hc => by
      unfold core
      rw [eA 6 (by omega) (by omega)]
      split
      · rw [eA _ (by omega) (by omega)]
      · unfold live
        rw [eA 0 (by omega) (by omega), eA 2 (by omega) (by omega), eA 3 (by omega) (by omega), eA 9 (by omega) (by omega)]
        split
        · rfl
        split
        · rfl
        split
        · rfl
        split
        · rfl
        split
        · rw [eA _ (by omega) (by omega)]
        split
        · rw [eA _ (by omega) (by omega)]
        · rw [eA _ (by omega) (by omega)]
    refine ⟨⟨by rw [eI, eA 0 (by omega) (by omega)]; exact h1.1, fun k hk => ?_⟩, rxWares_of h2 b1 (eI 224) (fun k _ _ _ => eF k (by omega)) (fun k hk => eA k (by omega) (by omega)), rxBench_of h3 b2 b9 ⟨eI 352, eI 353, eI 356⟩ (fun k _ _ _ => eF k (by omega)) (fun k hk => eA k (by omega) (by omega)), rxSteps_of h4 g1.c ⟨eI 481, eI 480⟩ (fun k _ _ => eF k (by omega)) (eA 6 (by omega) (by omega)) (fun j' _ k hk => ec j' k hk), rxTalk_of h5 b7 b8 ⟨eI 544, eI 546⟩ (fun k _ _ => eF k (by omega)) (fun k hk => eA k (by omega) (by omega)), rxText_of h6 ⟨eI 38, eI 39⟩ ⟨eA 4 (by omega) (by omega), eA 5 (by omega) (by omega)⟩⟩
    rw [eA 0 (by omega) (by omega)] at hk
    obtain ⟨k1, k2, k3, k4⟩ := h1.2 k hk
    rw [eF 3 (by omega), eF 4 (by omega), eF 5 (by omega), f6, eA (10 + 5 * k) (by omega) (by omega), eA (11 + 5 * k) (by omega) (by omega), eA (12 + 5 * k) (by omega) (by omega)]
    refine ⟨k1, k2, k3, ?_⟩
    by_cases zj : k = j
    · rw [zj, upd_s, qj]
    · rw [upd_n _ _ zj]
      by_cases zi : k = i
      · rw [zi, upd_s, qi]
      · rw [upd_n _ _ zi, eA _ (by omega) (by omega)]; exact k4
  intro K hK
  refine hasB h1.1 (by omega) (fun _ => ⟨fun z => absurd z (by decide), fun _ => ?_⟩) (fun z => absurd ⟨i, hi, rfl⟩ z)
  refine hasB h1.1 (by omega) (fun _ => ⟨fun z => absurd z (by decide), fun _ => ?_⟩) (fun z => absurd ⟨j, hj, rfl⟩ z)
  have good : ∀ Q : MS → Prop, (a2 = 0 → Q (sF (sF y 0 (enc (uN A (10 + 5 * i + 4) (clr (A (14 + 5 * i)) j)))) 0 (enc (uN (uN A (10 + 5 * i + 4) (clr (A (14 + 5 * i)) j)) (10 + 5 * j + 4) (clr (A (14 + 5 * j)) i))))) → (¬ a2 = 0 → Q (sF (sF y 0 (enc (uN A (10 + 5 * i + 4) (A (14 + 5 * i) ||| 2 ^ j)))) 0 (enc (uN (uN A (10 + 5 * i + 4) (A (14 + 5 * i) ||| 2 ^ j)) (10 + 5 * j + 4) (A (14 + 5 * j) ||| 2 ^ i))))) → VC_quarrel (fun r' y' => (1 : Int32) = r' ∧ Q y') (nI i) (nI j) a2 y := fun Q q0 q1 => by
    refine mB g5 (by omega) (fun _ => ⟨fun z => absurd z (by decide), fun _ => ?_⟩) (fun z => absurd ⟨i, hi, rfl⟩ z)
    refine mB g5 (by omega) (fun _ => ⟨fun z => absurd z (by decide), fun _ => ⟨fun _ => ?_, fun z => absurd z ne⟩⟩) (fun z => absurd ⟨j, hj, rfl⟩ z)
    have gj : ∀ n : Nat, (uN A (10 + 5 * i + 4) n) (10 + 5 * j + 4) = A (14 + 5 * j) := fun n => by rw [uN_n _ _ _ _ (by omega)]; congr 1; omega
    refine ⟨fun e2 => mget g5 rfl L4 (by omega) (by omega) ?_, fun e2 => mget g5 rfl L4 (by omega) (by omega) ?_⟩
    · rw [show 10 + 5 * i + 4 = 14 + 5 * i by omega, L1, L31, nshl1 (by omega), nclr (by omega)]
      refine mset g5 rfl L4 rfl (by omega) (by omega) ⟨fun _ => mget (sF_same _ _ _) rfl L4 (by omega) (by omega) ?_, fun z => absurd e2 z⟩
      rw [gj, L1, L31, nshl1 (by omega), nclr (by omega)]
      exact mset (sF_same _ _ _) rfl L4 rfl (by omega) (by omega) ⟨rfl, q0 e2⟩
    · rw [show 10 + 5 * i + 4 = 14 + 5 * i by omega, L1, L31, nshl1 (by omega), nor]
      refine mset g5 rfl L4 rfl (by omega) (by omega) ⟨fun z => absurd z e2, fun _ => mget (sF_same _ _ _) rfl L4 (by omega) (by omega) ?_⟩
      rw [gj, L1, L31, nshl1 (by omega), nor]
      exact mset (sF_same _ _ _) rfl L4 rfl (by omega) (by omega) ⟨rfl, q1 e2⟩
  refine ⟨fun e2 => ⟨inI, ?_⟩, fun e2 => ⟨inI, ?_⟩⟩
  · rw [ncl (by omega), fi, L1, L31, nshl1 (by omega), nclr (by omega)]
    refine hK _ _ ⟨inI, fun S5 e5 => ⟨fun _ => ⟨inJ, fun v6 e6 => ⟨inJ, fun S7 e7 => ?_⟩⟩, fun z => absurd e2 z⟩⟩
    rw [ncl (by omega)] at e5
    have f5 : S5.2.1 6 = upd (x.2.1 6) i (nI (clr (A (14 + 5 * i)) j)) := by rw [e5, xF_s]
    rw [f5, ncl (by omega), upd_n _ _ (fun z => ne' z.symm), fj, L1, L31, nshl1 (by omega), nclr (by omega)] at e6
    rw [f5, ncl (by omega), e6, e5] at e7
    rw [e7]
    exact good _ (fun _ => fin false _ _ (clr_lt ci) (clr_lt cj) (fun t => by rw [clr_bit]; by_cases z : t = j <;> simp [z]; intro _ zz; exact absurd zz.symm z) (fun t => by rw [clr_bit]; by_cases z : t = i <;> simp [z]; intro _ zz; exact absurd zz.symm z)) (fun z => absurd e2 z)
  · rw [ncl (by omega), fi, L1, L31, nshl1 (by omega), nor]
    refine hK _ _ ⟨inI, fun S5 e5 => ⟨fun z => absurd z e2, fun _ => ⟨inJ, fun v6 e6 => ⟨inJ, fun S7 e7 => ?_⟩⟩⟩⟩
    rw [ncl (by omega)] at e5
    have f5 : S5.2.1 6 = upd (x.2.1 6) i (nI (A (14 + 5 * i) ||| 2 ^ j)) := by rw [e5, xF_s]
    rw [f5, ncl (by omega), upd_n _ _ (fun z => ne' z.symm), fj, L1, L31, nshl1 (by omega), nor] at e6
    rw [f5, ncl (by omega), e6, e5] at e7
    rw [e7]
    exact good _ (fun z => absurd z e2) (fun _ => fin true _ _ (Nat.or_lt_two_pow ci (Nat.pow_lt_pow_right (by decide) hj)) (Nat.or_lt_two_pow cj (Nat.pow_lt_pow_right (by decide) hi)) (fun t => by rw [Nat.testBit_or, Nat.testBit_two_pow]; by_cases z : t = j <;> simp [z]; intro zz; exact absurd zz.symm z) (fun t => by rw [Nat.testBit_or, Nat.testBit_two_pow]; by_cases z : t = i <;> simp [z]; intro zz; exact absurd zz.symm z))
theorem op_tell {a0 a1 a2 a3 : Int32} (h : RelA TX A B x y) : VC_X11_tell_0 (fun r x' => VC_tell (fun r' y' => r = r' ∧ RelT TX x' y') a0 a1 a2 a3 y) a0 a1 a2 a3 x := by
  obtain ⟨g1, -, g3, -, g5, -⟩ := id h
  obtain ⟨b0, b1, b2, b3, b4, b5, b6, b7, b8, b9⟩ := g1.b
  obtain ⟨h1, h2, h3, h4, h5, h6⟩ := g3
  have i8 : vp_in (8 : Int32) 3890 := litIn 8 (by decide) (by decide)
  have c8 : y.2.2.1 0 (8 : Int32).toNatClampNeg = nI (A 8) := by rw [g5, litC 8 (by decide), enc_at (by omega)]
  have rbad : ¬ (isOne a0 (A 0) ∧ isFrom a1 0 9 ∧ isFrom a2 1 9 ∧ isFrom a3 0 999 ∧ A 8 < 20) → VC_tell (fun r' y' => (-1 : Int32) = r' ∧ RelT TX x y') a0 a1 a2 a3 y := fun hb => by
    refine mB g5 (by omega) (fun i1 => ⟨fun z => absurd z (by decide), fun _ => ?_⟩) (fun _ => ⟨fun _ => ⟨rfl, A, B, h⟩, fun z => absurd rfl z⟩)
    refine mFrom (l := 0) (h := 9) (h1 := fun i2 => ⟨fun z => absurd z (by decide), fun _ => ?_⟩) (h0 := fun _ => ⟨fun _ => ⟨rfl, A, B, h⟩, fun z => absurd rfl z⟩)
    refine mFrom (l := 1) (h := 9) (h1 := fun i3 => ⟨fun z => absurd z (by decide), fun _ => ?_⟩) (h0 := fun _ => ⟨fun _ => ⟨rfl, A, B, h⟩, fun z => absurd rfl z⟩)
    refine mFrom (l := 0) (h := 999) (h1 := fun i4 => ⟨Or.inr rfl, fun z => absurd z (by decide), fun _ => ⟨i8, ?_⟩⟩) (h0 := fun _ => ⟨Or.inl rfl, fun _ => ⟨rfl, A, B, h⟩, fun z => absurd rfl z⟩)
    rw [c8, L20, neq (by omega) (by omega)]
    exact ⟨fun z => absurd ⟨i1, i2, i3, i4, (by omega)⟩ hb, fun _ => ⟨rfl, A, B, h⟩⟩
  refine hasB h1.1 (by omega) (fun i1 => ⟨fun z => absurd z (by decide), fun _ => ?_⟩) (fun n => ⟨fun _ => rbad (fun z => n z.1), fun z => absurd rfl z⟩)
  refine wFrom (l := 0) (h := 9) (h1 := fun i2 => ⟨fun z => absurd z (by decide), fun _ => ?_⟩) (h0 := fun n => ⟨fun _ => rbad (fun z => n z.2.1), fun z => absurd rfl z⟩)
  refine wFrom (l := 1) (h := 9) (h1 := fun i3 => ⟨fun z => absurd z (by decide), fun _ => ?_⟩) (h0 := fun n => ⟨fun _ => rbad (fun z => n z.2.2.1), fun z => absurd rfl z⟩)
  refine wFrom (l := 0) (h := 999) (h1 := fun i4 => ⟨fun _ => ?_, fun z => absurd z (by decide)⟩) (h0 := fun n => ⟨fun z => absurd rfl z, fun _ => rbad (fun z => n z.2.2.2.1)⟩)
  unfold VC_X7_hear_17
  rw [h5.2.1, L20, nlt (by omega) (by omega)]
  refine ⟨fun hlt => ?_, fun hge => rbad (fun z => hge z.2.2.2.2)⟩
  have rgood : ∀ Q : MS → Prop, (∀ b p n t, b < A 0 → p ≤ 9 → 1 ≤ n → n ≤ 9 → t ≤ 999 → a0 = nI b → a1 = nI p → a2 = nI n → a3 = nI t → Q (sF y 0 (enc (uN (uN (uN (uN (uN A (70 + 4 * A 8) b) (71 + 4 * A 8) p) (72 + 4 * A 8) n) (73 + 4 * A 8) t) 8 (A 8 + 1))))) → VC_tell (fun r' y' => nI (A 8 + 1) = r' ∧ Q y') a0 a1 a2 a3 y := fun Q hQ => by
    refine mB g5 (by omega) (fun _ => ⟨fun z => absurd z (by decide), fun _ => ?_⟩) (fun z => absurd i1 z)
    refine mFrom (l := 0) (h := 9) (h1 := fun _ => ⟨fun z => absurd z (by decide), fun _ => ?_⟩) (h0 := fun z => absurd i2 z)
    refine mFrom (l := 1) (h := 9) (h1 := fun _ => ⟨fun z => absurd z (by decide), fun _ => ?_⟩) (h0 := fun z => absurd i3 z)
    refine mFrom (l := 0) (h := 999) (h1 := fun _ => ⟨Or.inr rfl, fun z => absurd z (by decide), fun _ => ⟨i8, ?_⟩⟩) (h0 := fun z => absurd i4 z)
    obtain ⟨b, hb, rfl⟩ := i1
    obtain ⟨p, -, hp, rfl⟩ := i2
    obtain ⟨n, n1, n2, rfl⟩ := i3
    obtain ⟨t, -, ht, rfl⟩ := i4
    rw [c8, L20, neq (by omega) (by omega)]
    refine ⟨fun _ => ⟨i8, fun v6 e6 => ?_⟩, fun z => absurd z (by omega)⟩
    have q0 : v6 = nI (70 + 4 * A 8) := by rw [e6, L70, L4, nmul, nadd]
    have q1 : v6 + 1 = nI (71 + 4 * A 8) := by rw [q0, L1, nadd]; congr 1; omega
    have q2 : v6 + 2 = nI (72 + 4 * A 8) := by rw [q0, L2, nadd]; congr 1; omega
    have q3 : v6 + 3 = nI (73 + 4 * A 8) := by rw [q0, L3, nadd]; congr 1; omega
    rw [q0, q1, q2, q3] at *
    refine ⟨vp_in_nI (by omega) (by decide), fun S7 e7 => ⟨vp_in_nI (by omega) (by decide), fun S8 e8 => ⟨vp_in_nI (by omega) (by decide), fun S9 e9 => ⟨vp_in_nI (by omega) (by decide), fun S10 e10 => ⟨i8, fun v11 e11 => ⟨i8, fun S12 e12 => ⟨i8, ?_⟩⟩⟩⟩⟩⟩⟩
    rw [ncl (by omega), g5, enc_u (by omega)] at e7
    rw [e7, sF_same, sF_sF, ncl (by omega), enc_u (by omega)] at e8
    rw [e8, sF_same, sF_sF, ncl (by omega), enc_u (by omega)] at e9
    rw [e9, sF_same, sF_sF, ncl (by omega), enc_u (by omega)] at e10
    rw [e10, sF_same, litC 8 (by decide), enc_at (by omega), uN_n _ _ _ _ (by omega), uN_n _ _ _ _ (by omega), uN_n _ _ _ _ (by omega), uN_n _ _ _ _ (by omega), L1, nadd] at e11
    rw [e10, e11, sF_same, sF_sF, litC 8 (by decide), enc_u (by omega)] at e12
    rw [e12, sF_same, litC 8 (by decide), enc_at (by omega), uN_s]
    exact ⟨rfl, hQ b p n t hb hp n1 n2 ht rfl rfl rfl rfl⟩
  have k0 : ∀ S : XS, S.1 546 = nI (A 8) → 4 * S.1 546 = nI (4 * A 8) ∧ 4 * S.1 546 + 1 = nI (4 * A 8 + 1) ∧ 4 * S.1 546 + 2 = nI (4 * A 8 + 2) ∧ 4 * S.1 546 + 3 = nI (4 * A 8 + 3) := fun S e => by
    rw [e, L4, nmul, L1, L2, L3, nadd, nadd, nadd]; exact ⟨rfl, rfl, rfl, rfl⟩
  have ex := (k0 x h5.2.1).1
  rw [h5.2.1] at ex
  rw [ex]
  refine ⟨vp_in_nI (by omega) (by decide), fun S1 e1 => ?_⟩
  have s1 : S1.1 546 = nI (A 8) := by rw [e1, xF_i]; exact h5.2.1
  rw [(k0 S1 s1).2.1]
  refine ⟨vp_in_nI (by omega) (by decide), fun S2 e2 => ?_⟩
  have s2 : S2.1 546 = nI (A 8) := by rw [e2, xF_i]; exact s1
  rw [(k0 S2 s2).2.2.1]
  refine ⟨vp_in_nI (by omega) (by decide), fun S3 e3 => ?_⟩
  have s3 : S3.1 546 = nI (A 8) := by rw [e3, xF_i]; exact s2
  rw [(k0 S3 s3).2.2.2]
  refine ⟨vp_in_nI (by omega) (by decide), fun S4 e4 v5 e5 S6 e6 => ?_⟩
  have s4 : S4.1 546 = nI (A 8) := by rw [e4, xF_i]; exact s3
  rw [s4, L1, nadd] at e5
  rw [ncl (by omega)] at e1 e2 e3 e4
  rw [e5] at e6
  have s6 : S6.1 546 = nI (A 8 + 1) := by rw [e6, xI_s]
  rw [s6]
  refine rgood _ (fun b p n t hb hp n1 n2 ht ea0 ea1 ea2 ea3 => ?_)
  have f1 : S1.2.1 19 = upd (x.2.1 19) (4 * A 8) a1 := by rw [e1, xF_s]
  have f2 : S2.2.1 19 = upd (upd (x.2.1 19) (4 * A 8) a1) (4 * A 8 + 1) a0 := by rw [e2, xF_s, f1]
  have f3 : S3.2.1 19 = upd (upd (upd (x.2.1 19) (4 * A 8) a1) (4 * A 8 + 1) a0) (4 * A 8 + 2) a2 := by rw [e3, xF_s, f2]
  have f4 : S4.2.1 19 = upd (upd (upd (upd (x.2.1 19) (4 * A 8) a1) (4 * A 8 + 1) a0) (4 * A 8 + 2) a2) (4 * A 8 + 3) a3 := by rw [e4, xF_s, f3]
  have f6 : S6.2.1 19 = upd (upd (upd (upd (x.2.1 19) (4 * A 8) a1) (4 * A 8 + 1) a0) (4 * A 8 + 2) a2) (4 * A 8 + 3) a3 := by rw [e6, xI_f, f4]
  have fx : XFr x S6 := by rw [e6, e4, e3, e2, e1]; exact (((((XFr.refl x).F _ _ (by omega)).F _ _ (by omega)).F _ _ (by omega)).F _ _ (by omega)).I _ _ (by omega)
  have eI : ∀ k, k ≠ 546 → S6.1 k = x.1 k := fun k hk => by rw [e6, xI_n _ _ hk, e4, xF_i, e3, xF_i, e2, xF_i, e1, xF_i]
  have eF : ∀ k, k ≠ 19 → S6.2.1 k = x.2.1 k := fun k hk => by rw [e6, xI_f, e4, xF_o _ _ _ _ hk, e3, xF_o _ _ _ _ hk, e2, xF_o _ _ _ _ hk, e1, xF_o _ _ _ _ hk]
  generalize hA : uN (uN (uN (uN (uN A (70 + 4 * A 8) b) (71 + 4 * A 8) p) (72 + 4 * A 8) n) (73 + 4 * A 8) t) 8 (A 8 + 1) = A'
  have q8 : A' 8 = A 8 + 1 := by rw [← hA, uN_s]
  have eA : ∀ k, k ≠ 8 → (k < 70 + 4 * A 8 ∨ 74 + 4 * A 8 ≤ k) → A' k = A k := fun k k0 k1 => by rw [← hA, uN_n _ _ _ _ k0, uN_n _ _ _ _ (by omega), uN_n _ _ _ _ (by omega), uN_n _ _ _ _ (by omega), uN_n _ _ _ _ (by omega)]
  have q0 : A' (70 + 4 * A 8) = b := by rw [← hA, uN_n _ _ _ _ (by omega), uN_n _ _ _ _ (by omega), uN_n _ _ _ _ (by omega), uN_n _ _ _ _ (by omega), uN_s]
  have q1 : A' (71 + 4 * A 8) = p := by rw [← hA, uN_n _ _ _ _ (by omega), uN_n _ _ _ _ (by omega), uN_n _ _ _ _ (by omega), uN_s]
  have q2 : A' (72 + 4 * A 8) = n := by rw [← hA, uN_n _ _ _ _ (by omega), uN_n _ _ _ _ (by omega), uN_s]
  have q3 : A' (73 + 4 * A 8) = t := by rw [← hA, uN_n _ _ _ _ (by omega), uN_s]
  clear hA
  have hI' : Inv A' := by
    refine Inv_talk g1 (fun k _ _ _ k8 k60 => eA k k8 (by omega)) (by rw [eA 4 (by omega) (by omega)]; omega) (by rw [eA 4 (by omega) (by omega), eA 5 (by omega) (by omega)]; omega) (by rw [eA 7 (by omega) (by omega)]; omega) (by omega) ⟨fun i hi => ?_, fun i hi => ?_⟩
    · rw [eA 7 (by omega) (by omega)] at hi
      rw [eA _ (by omega) (by omega)]; exact g1.2.2.2.2.1.1 i hi
    · rw [eA 0 (by omega) (by omega)]
      by_cases z : i = A 8
      · rw [z]; omega
      · rw [eA (70 + 4 * i) (by omega) (by omega), eA (71 + 4 * i) (by omega) (by omega), eA (72 + 4 * i) (by omega) (by omega), eA (73 + 4 * i) (by omega) (by omega)]; exact g1.2.2.2.2.1.2 i (by omega)
  refine h.step fx ((YFr.refl y).F _ _ (by omega)) hI' ?_ (sF_same _ _ _) (eA 4 (by omega) (by omega))
  refine ⟨rxCrew_of h1 b0 (eI 64 (by omega)) (fun k _ _ _ => eF k (by omega)) (fun k hk => eA k (by omega) (by omega)), rxWares_of h2 b1 (eI 224 (by omega)) (fun k _ _ _ => eF k (by omega)) (fun k hk => eA k (by omega) (by omega)), rxBench_of h3 b2 b9 ⟨eI 352 (by omega), eI 353 (by omega), eI 356 (by omega)⟩ (fun k _ _ _ => eF k (by omega)) (fun k hk => eA k (by omega) (by omega)), rxSteps_of h4 g1.c ⟨eI 481 (by omega), eI 480 (by omega)⟩ (fun k _ _ => eF k (by omega)) (eA 6 (by omega) (by omega)) (fun j _ k hk => core_of (eA 6 (by omega) (by omega)) (fun k hk => eA k (by omega) (by omega)) j hk), ⟨by rw [eI 544 (by omega), eA 7 (by omega) (by omega)]; exact h5.1, by rw [s6, q8], fun i hi => ?_, fun i hi => ?_⟩, rxText_of h6 ⟨eI 38 (by omega), eI 39 (by omega)⟩ ⟨eA 4 (by omega) (by omega), eA 5 (by omega) (by omega)⟩⟩
  · rw [eA 7 (by omega) (by omega)] at hi
    rw [eF 18 (by omega), eA _ (by omega) (by omega)]; exact h5.2.2.1 i hi
  · rw [f6]
    by_cases z : i = A 8
    · rw [z, q0, q1, q2, q3, upd_s, upd_n _ _ (by omega), upd_n _ _ (by omega), upd_n _ _ (by omega), upd_s, upd_n _ _ (by omega), upd_n _ _ (by omega), upd_s, upd_n _ _ (by omega), upd_s]
      exact ⟨ea1, ea0, ea2, ea3⟩
    · rw [upd_n _ _ (by omega), upd_n _ _ (by omega), upd_n _ _ (by omega), upd_n _ _ (by omega), upd_n _ _ (by omega), upd_n _ _ (by omega), upd_n _ _ (by omega), upd_n _ _ (by omega), upd_n _ _ (by omega), upd_n _ _ (by omega), upd_n _ _ (by omega), upd_n _ _ (by omega), upd_n _ _ (by omega), upd_n _ _ (by omega), upd_n _ _ (by omega), upd_n _ _ (by omega), eA _ (by omega) (by omega), eA _ (by omega) (by omega), eA _ (by omega) (by omega), eA _ (by omega) (by omega)]
      exact h5.2.2.2 i (by omega)
/-! feed -/
/-- all but the tape stays -/
def XFt (x x' : XS) : Prop := (∀ k, k ≠ 1313 → x'.1 k = x.1 k) ∧ (∀ k, k ≠ 42 → x'.2.1 k = x.2.1 k) ∧ x'.2.2 = x.2.2
theorem XFt.refl (x : XS) : XFt x x := ⟨fun _ _ => rfl, fun _ _ => rfl, rfl⟩
theorem XFt.I {x x' : XS} (h : XFt x x') (k : Nat) (v : Int32) (hk : k = 1313) : XFt x (xI x' k v) := ⟨fun j hj => by rw [xI_n _ _ (by omega), h.1 j hj], h.2.1, h.2.2⟩
theorem XFt.F {x x' : XS} (h : XFt x x') (k : Nat) (f : Nat → Int32) (hk : k = 42) : XFt x (xF x' k f) := ⟨h.1, fun j hj => by rw [xF_o _ _ _ _ (by omega), h.2.1 j hj], h.2.2⟩
theorem XFt.trans {x y z : XS} (h : XFt x y) (g : XFt y z) : XFt x z := ⟨fun k hk => (g.1 k hk).trans (h.1 k hk), fun k hk => (g.2.1 k hk).trans (h.2.1 k hk), g.2.2.trans h.2.2⟩
def YFt (y y' : MS) : Prop := (∀ k, k ≠ 4 → y'.1 k = y.1 k) ∧ (∀ k, k ≠ 3 → y'.2.2.1 k = y.2.2.1 k)
theorem YFt.refl (x : MS) : YFt x x := ⟨fun _ _ => rfl, fun _ _ => rfl⟩
theorem YFt.I {x x' : MS} (h : YFt x x') (k : Nat) (v : Int32) (hk : k = 4) : YFt x (sI x' k v) := ⟨fun j hj => by rw [sI_o _ _ _ _ (by omega), h.1 j hj], h.2⟩
theorem YFt.F {x x' : MS} (h : YFt x x') (k : Nat) (f : Nat → Int32) (hk : k = 3) : YFt x (sF x' k f) := ⟨h.1, fun j hj => by rw [sF_o _ _ _ _ (by omega), h.2 j hj]⟩
theorem YFt.trans {x y z : MS} (h : YFt x y) (g : YFt y z) : YFt x z := ⟨fun k hk => (g.1 k hk).trans (h.1 k hk), fun k hk => (g.2 k hk).trans (h.2 k hk)⟩
def by8 (a : Int32) (i : Nat) : Int32 := (a >>> (nI (24 - 8 * i) &&& 31)) &&& 255
theorem by8_le (a : Int32) (i : Nat) : ∃ c : Nat, c ≤ 255 ∧ by8 a i = nI c := by
  refine ⟨(by8 a i).toBitVec.toNat, ?_, ?_⟩
  · unfold by8
    rw [Int32.toBitVec_and, BitVec.toNat_and]
    exact Nat.le_trans Nat.and_le_right (by decide)
  · apply Int32.toBitVec_inj.mp
    rw [nbv]
    simp
theorem c_four {Post : XS → Prop} {S : XS} {m : Nat} {a : Int32} (e : S.1 1313 = nI m) (hm : m + 4 ≤ 300) (h : ∀ S', XFt S S' → S'.1 1313 = nI (m + 4) → (∀ i, i < m → S'.2.1 42 i = S.2.1 42 i) → (∀ i, i < 4 → S'.2.1 42 (m + i) = by8 a i) → Post S') : VC_X8_addFour_41 Post a S := by
  intro K hK
  have st : ∀ (s : Int32) (T : XS) (p : Nat), T.1 1313 = nI p → p < 300 → ¬ s < 0 → K (a, s + -8) (xI (xF T 42 (upd (T.2.1 42) p ((a >>> (s &&& 31)) &&& 255))) 1313 (nI (p + 1))) → K (a, s) T := fun s T p eT hp hs hk => by
    refine hK _ _ ⟨fun z => absurd z hs, fun _ => ⟨fun z => ?_, fun _ v1 e1 => ⟨by rw [eT]; exact vp_in_nI hp (by decide), fun S2 e2 v3 e3 S4 e4 v5 e5 => ?_⟩⟩⟩
    · rw [eT, L300, nle (by omega) (by omega)] at z; omega
    · rw [eT, ncl (by omega), e1] at e2
      rw [e2, xF_i, eT, L1, nadd] at e3
      rw [e4, e3, e2, e5]
      exact hk
  refine st 24 S m e (by omega) (by decide) (st _ _ (m + 1) (xI_s _ _ _) (by omega) (by decide) (st _ _ (m + 1 + 1) (xI_s _ _ _) (by omega) (by decide) (st _ _ (m + 1 + 1 + 1) (xI_s _ _ _) (by omega) (by decide) (hK _ _ ⟨fun _ => h _ ?_ (xI_s _ _ _) (fun i hi => ?_) (fun i hi => ?_), fun z => absurd (by decide) z⟩))))
  · exact ((((((((XFt.refl S).F _ _ rfl).I _ _ rfl).F _ _ rfl).I _ _ rfl).F _ _ rfl).I _ _ rfl).F _ _ rfl).I _ _ rfl
  · simp only [xI_f, xF_s]
    rw [upd_n _ _ (by omega), upd_n _ _ (by omega), upd_n _ _ (by omega), upd_n _ _ (by omega)]
  · simp only [xI_f, xF_s]
    have : i = 0 ∨ i = 1 ∨ i = 2 ∨ i = 3 := (by omega)
    rcases this with h | h | h | h <;> subst h
    · rw [upd_n _ _ (by omega), upd_n _ _ (by omega), upd_n _ _ (by omega), Nat.add_zero, upd_s]; rfl
    · rw [upd_n _ _ (by omega), upd_n _ _ (by omega), upd_s]; rfl
    · rw [upd_n _ _ (by omega), upd_s]; rfl
    · rw [upd_s]; rfl
theorem r_four {Post : MS → Prop} {S : MS} {m : Nat} {a : Int32} (e : S.1 4 = nI m) (hm : m + 4 ≤ 300) (h : ∀ S', YFt S S' → S'.1 4 = nI (m + 4) → (∀ i, i < m → S'.2.2.1 3 i = S.2.2.1 3 i) → (∀ i, i < 4 → S'.2.2.1 3 (m + i) = by8 a i) → Post S') : VC_four Post a S := by
  intro K hK
  have st : ∀ (s : Int32) (T : MS) (p : Nat), T.1 4 = nI p → p < 300 → ¬ s < 0 → K (a, s + -8) (sI (sF T 3 (upd (T.2.2.1 3) p ((a >>> (s &&& 31)) &&& 255))) 4 (nI (p + 1))) → K (a, s) T := fun s T p eT hp hs hk => by
    refine hK _ _ ⟨fun z => absurd z hs, fun _ v1 e1 => ⟨by rw [eT]; exact vp_in_nI hp (by decide), fun S2 e2 v3 e3 S4 e4 v5 e5 => ?_⟩⟩
    rw [eT, ncl (by omega), e1] at e2
    rw [e2, sF_1, eT, L1, nadd] at e3
    rw [e4, e3, e2, e5]
    exact hk
  refine st 24 S m e (by omega) (by decide) (st _ _ (m + 1) (sI_s _ _ _) (by omega) (by decide) (st _ _ (m + 1 + 1) (sI_s _ _ _) (by omega) (by decide) (st _ _ (m + 1 + 1 + 1) (sI_s _ _ _) (by omega) (by decide) (hK _ _ ⟨fun _ => h _ ?_ (sI_s _ _ _) (fun i hi => ?_) (fun i hi => ?_), fun z => absurd (by decide) z⟩))))
  · exact ((((((((YFt.refl S).F _ _ rfl).I _ _ rfl).F _ _ rfl).I _ _ rfl).F _ _ rfl).I _ _ rfl).F _ _ rfl).I _ _ rfl
  · simp only [sI_2, sF_same]
    rw [upd_n _ _ (by omega), upd_n _ _ (by omega), upd_n _ _ (by omega), upd_n _ _ (by omega)]
  · simp only [sI_2, sF_same]
    have : i = 0 ∨ i = 1 ∨ i = 2 ∨ i = 3 := (by omega)
    rcases this with h | h | h | h <;> subst h
    · rw [upd_n _ _ (by omega), upd_n _ _ (by omega), upd_n _ _ (by omega), Nat.add_zero, upd_s]; rfl
    · rw [upd_n _ _ (by omega), upd_n _ _ (by omega), upd_s]; rfl
    · rw [upd_n _ _ (by omega), upd_s]; rfl
    · rw [upd_s]; rfl
theorem op_feed {a0 a1 a2 a3 a4 : Int32} (h : RelA TX A B x y) : VC_X11_feed_0 (fun r x' => VC_feed (fun r' y' => r = r' ∧ RelT TX x' y') a0 a1 a2 a3 a4 y) a0 a1 a2 a3 a4 x := by
  obtain ⟨g1, g2, g3, g4, g5, g6, g7, g8, ⟨m, m1, m2, m3, m4⟩, g10⟩ := id h
  unfold VC_X11_feed_0 VC_feed
  rw [m2, m3, L20, L300, nadd, nle (by omega) (by omega)]
  refine ⟨fun hle => ?_, fun hgt => ⟨fun z => absurd z hgt, fun _ => ⟨rfl, A, B, h⟩⟩⟩
  refine c_four m2 (by omega) (fun x1 f1 p1 q1 r1 => c_four p1 (by omega) (fun x2 f2 p2 q2 r2 => c_four p2 (by omega) (fun x3 f3 p3 q3 r3 => c_four p3 (by omega) (fun x4 f4 p4 q4 r4 => c_four p4 (by omega) (fun x5 f5 p5 q5 r5 => ?_)))))
  refine ⟨fun _ => ?_, fun z => absurd hle z⟩
  refine r_four m3 (by omega) (fun y1 F1 P1 Q1 R1 => r_four P1 (by omega) (fun y2 F2 P2 Q2 R2 => r_four P2 (by omega) (fun y3 F3 P3 Q3 R3 => r_four P3 (by omega) (fun y4 F4 P4 Q4 R4 => r_four P4 (by omega) (fun y5 F5 P5 Q5 R5 => ?_)))))
  have fx := (((f1.trans f2).trans f3).trans f4).trans f5
  have fy := (((F1.trans F2).trans F3).trans F4).trans F5
  refine ⟨p5.trans P5.symm, A, B, g1, g2, RX_frame g1 g3 ⟨fun k hk => fx.1 k (by omega), fun k hk => fx.2.1 k (by omega)⟩, ?_, by rw [fy.2 0 (by omega)]; exact g5, by rw [fy.2 1 (by omega)]; exact g6, g7, by rw [fx.2.2, fy.2 2 (by omega)]; exact g8, ⟨m + 4 + 4 + 4 + 4 + 4, (by omega), p5, P5, fun i hi => ?_⟩, ?_⟩
  · have ek : kI x5 = kI x := by
      funext k
      unfold kI
      split
      · rw [fx.1 _ (by omega)]
      · rfl
    have eF : kF x5 = kF x := by
      funext k
      unfold kF
      split
      · rw [fx.2.1 _ (by omega)]
      · rfl
    rw [ek, eF]; exact g4
  · have ca : ∀ (a : Int32) (p k : Nat), x5.2.1 42 (p + k) = by8 a k → y5.2.2.1 3 (p + k) = by8 a k → i = p + k → ∃ c : Nat, c ≤ 255 ∧ x5.2.1 42 i = nI c ∧ y5.2.2.1 3 i = nI c := fun a p k u v w => by
      obtain ⟨c, c1, c2⟩ := by8_le a k
      exact ⟨c, c1, by rw [w, u, c2], by rw [w, v, c2]⟩
    by_cases i4 : m + 4 + 4 + 4 + 4 ≤ i
    · exact ca a4 (m + 4 + 4 + 4 + 4) (i - (m + 4 + 4 + 4 + 4)) (r5 _ (by omega)) (R5 _ (by omega)) (by omega)
    by_cases i3 : m + 4 + 4 + 4 ≤ i
    · exact ca a3 (m + 4 + 4 + 4) (i - (m + 4 + 4 + 4)) (by rw [q5 _ (by omega)]; exact r4 _ (by omega)) (by rw [Q5 _ (by omega)]; exact R4 _ (by omega)) (by omega)
    by_cases i2 : m + 4 + 4 ≤ i
    · exact ca a2 (m + 4 + 4) (i - (m + 4 + 4)) (by rw [q5 _ (by omega), q4 _ (by omega)]; exact r3 _ (by omega)) (by rw [Q5 _ (by omega), Q4 _ (by omega)]; exact R3 _ (by omega)) (by omega)
    by_cases i1 : m + 4 ≤ i
    · exact ca a1 (m + 4) (i - (m + 4)) (by rw [q5 _ (by omega), q4 _ (by omega), q3 _ (by omega)]; exact r2 _ (by omega)) (by rw [Q5 _ (by omega), Q4 _ (by omega), Q3 _ (by omega)]; exact R2 _ (by omega)) (by omega)
    by_cases i0 : m ≤ i
    · exact ca a0 m (i - m) (by rw [q5 _ (by omega), q4 _ (by omega), q3 _ (by omega), q2 _ (by omega)]; exact r1 _ (by omega)) (by rw [Q5 _ (by omega), Q4 _ (by omega), Q3 _ (by omega), Q2 _ (by omega)]; exact R1 _ (by omega)) (by omega)
    rw [q5 _ (by omega), q4 _ (by omega), q3 _ (by omega), q2 _ (by omega), q1 _ (by omega), Q5 _ (by omega), Q4 _ (by omega), Q3 _ (by omega), Q2 _ (by omega), Q1 _ (by omega)]
    exact m4 i (by omega)
  · unfold faultOK
    rw [fx.1 _ (by omega), fx.1 _ (by omega), fx.1 _ (by omega), fy.1 _ (by omega), fy.1 _ (by omega)]
    exact g10
end OP4
