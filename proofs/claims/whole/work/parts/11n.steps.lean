/-! steps as functions on the numbers; begin, later -/
def keepN (A : Nat → Nat) : Nat → Nat := fun k =>
  if k = 6 then (if A 6 = 30 then 30 else A 6 + 1) else if k < 410 then A k
  else if A 6 = 30 then (if k < 3774 then A (k + 116) else if k < 3890 then live A (k - 3774) else A k)
  else (if k < 410 + 116 * A 6 then A k else if k < 410 + 116 * A 6 + 116 then live A (k - (410 + 116 * A 6)) else A k)
theorem keepN_6 (A : Nat → Nat) : keepN A 6 = if A 6 = 30 then 30 else A 6 + 1 := rfl
theorem keepN_lo (A : Nat → Nat) {k : Nat} (h : k < 410) (h6 : k ≠ 6) : keepN A k = A k := by
  unfold keepN
  rw [if_neg h6, if_pos h]
theorem keepN_kept {A : Nat → Nat} (h6 : A 6 ≤ 30) : ∃ o, Kept A (keepN A) o := by
  by_cases e : A 6 = 30
  · refine ⟨1, Or.inr ⟨e, rfl⟩, by rw [keepN_6, if_pos e]; omega, fun k hk hk6 => keepN_lo A hk hk6, fun j hj c hc => ?_, fun k hk => ?_⟩
    · rw [keepN_6, if_pos e] at hj
      unfold keepN core
      rw [if_neg (by omega), if_neg (by omega), if_pos e]
      by_cases z : j < 29
      · rw [if_pos (by omega), if_pos (by omega)]; congr 1; omega
      · rw [if_neg (by omega), if_pos (by omega), if_neg (by omega), show 410 + 116 * j + c - 3774 = c by omega]
    · rw [keepN_6, if_pos e] at hk
      unfold keepN
      rw [if_neg (by omega), if_neg (by omega), if_pos e, if_neg (by omega), if_neg (by omega)]
  · refine ⟨0, Or.inl ⟨(by omega), rfl⟩, by rw [keepN_6, if_neg e], fun k hk hk6 => keepN_lo A hk hk6, fun j hj c hc => ?_, fun k hk => ?_⟩
    · rw [keepN_6, if_neg e] at hj
      unfold keepN core
      rw [if_neg (by omega), if_neg (by omega), if_neg e]
      by_cases z : j < A 6
      · rw [if_pos (by omega), if_pos (by omega)]; rfl
      · rw [if_neg (by omega), if_pos (by omega), if_neg (by omega)]; congr 1; omega
    · rw [keepN_6, if_neg e] at hk
      unfold keepN
      rw [if_neg (by omega), if_neg (by omega), if_neg e, if_neg (by omega), if_neg (by omega)]
theorem Kept_uniq {A A1 : Nat → Nat} {o : Nat} (h : Kept A A1 o) : A1 = keepN A := by
  obtain ⟨k1, k2, k3, k4, k5⟩ := h
  have h6 : A 6 ≤ 30 := (by omega)
  obtain ⟨o', l1, l2, l3, l4, l5⟩ := keepN_kept h6
  have eo : o' = o := (by omega)
  subst eo
  have e6 : keepN A 6 = A1 6 := (by omega)
  funext k
  by_cases z6 : k = 6
  · rw [z6, e6]
  by_cases z : k < 410
  · rw [k3 k z z6, l3 k z z6]
  by_cases z2 : k < 410 + 116 * A1 6
  · have q := k4 ((k - 410) / 116) (by omega) ((k - 410) % 116) (by omega)
    have q' := l4 ((k - 410) / 116) (by omega) ((k - 410) % 116) (by omega)
    rw [show 410 + 116 * ((k - 410) / 116) + (k - 410) % 116 = k by omega] at q q'
    rw [q, q']
  · rw [k5 k (by omega), l5 k (by omega)]
theorem r_keepN {Post : MS → Prop} {S : MS} {A : Nat → Nat} (h6 : A 6 ≤ 30) (e : S.2.2.1 0 = enc A) (h : Post (sF S 0 (enc (keepN A)))) : VC_keep Post S :=
  r_keep h6 e (fun A1 o hk => by rw [Kept_uniq hk]; exact h)
theorem Cons_live {A : Nat → Nat} (h3 : A 3 ≤ 999) (h2 : A 2 ≤ 10) (h9 : A 9 ≤ 40) (h0 : A 0 ≤ 6) (hl : ∀ i, i < A 9 → A (250 + 4 * i) < A 2 ∧ A (251 + 4 * i) < A 0 ∧ 1 ≤ A (252 + 4 * i) ∧ A (252 + 4 * i) ≤ 9 ∧ A (253 + 4 * i) ≤ A 3) (hb : ∀ b, b < A 0 → A (12 + 5 * b) ≤ 999) (hg : ∀ b, b < A 0 → A (13 + 5 * b) = sumBH A (A 9) b (A 3)) (hp : ∀ p, p < A 2 → A (150 + 10 * p) < A 1 ∧ isSt A (A 9) p (A (150 + 10 * p)) (A (151 + 10 * p)) ∧ A (152 + 10 * p) = sumP A (A 9) p ∧ A (153 + 10 * p) ≤ 1 ∧ ∀ b, b < 6 → A (154 + 10 * p + b) = sumPB A (A 9) p b) : Cons A (live A) := by
  refine ⟨h3, h2, h9, Nat.le_refl _, hl, fun b h => ?_, fun b h => ?_, fun p h => ?_⟩
  · rw [live_3] at h
    rw [live_b _ (by omega)]; exact hb b h
  · rw [live_3] at h
    rw [live_g _ (by omega), live_2, live_0]; exact hg b h
  · rw [live_1] at h
    obtain ⟨d1, d2, d3, d4, d5⟩ := hp p h
    unfold pieceOK
    rw [live_2, live_p, show 17 + 10 * p = 16 + (10 * p + 1) by omega, show 18 + 10 * p = 16 + (10 * p + 2) by omega, show 19 + 10 * p = 16 + (10 * p + 3) by omega, live_p, live_p, live_p]
    rw [show 151 + 10 * p = 150 + (10 * p + 1) by omega] at d2
    rw [show 152 + 10 * p = 150 + (10 * p + 2) by omega] at d3
    rw [show 153 + 10 * p = 150 + (10 * p + 3) by omega] at d4
    refine ⟨d1, d2, d3, d4, fun b hb' => ?_⟩
    have := d5 b hb'
    rw [show 154 + 10 * p + b = 150 + (10 * p + 4 + b) by omega] at this
    rw [show 20 + 10 * p + b = 16 + (10 * p + 4 + b) by omega, live_p]; exact this
theorem isSt_congr {A B : Nat → Nat} {m p k s n : Nat} (hk : A (40 + 3 * k) = B (40 + 3 * k) ∧ A (41 + 3 * k) = B (41 + 3 * k)) (hv : ∀ b, b < n → A (11 + 5 * b) = B (11 + 5 * b)) (hb : ∀ i, i < m → A (251 + 4 * i) < n) (hl : ∀ i, i < 4 * m → A (250 + i) = B (250 + i)) (h : isSt A m p k s) : isSt B m p k s := by
  have hs : sung A m p k ↔ sung B m p k := by
    unfold sung
    rw [hk.2]
    refine forall_congr' (fun t => imp_congr Iff.rfl (exists_congr (fun b => ?_)))
    rw [sumPB_congr (A := A) (B := B) hl]
    by_cases z : b < n
    · rw [hv b z]
    · have z0 : sumPB B m p b = 0 := by rw [← sumPB_congr (A := A) (B := B) hl]; exact sumPB_zero hb (by omega)
      rw [z0]
      simp
  unfold isSt at h ⊢
  rw [← sumP_congr (A := A) (B := B) hl, ← hk.1, ← hs]
  exact h
/-! begin -/
def beginN (A : Nat → Nat) (k : Nat) : Nat → Nat := fun j => if j = 2 then A 2 + 1 else if j = 150 + 10 * A 2 then k else if 150 + 10 * A 2 < j ∧ j < 160 + 10 * A 2 then 0 else keepN A j
theorem beginN_2 (A : Nat → Nat) (k : Nat) : beginN A k 2 = A 2 + 1 := rfl
theorem beginN_o (A : Nat → Nat) (k : Nat) {j : Nat} (h2 : j ≠ 2) (h : j < 150 + 10 * A 2 ∨ 160 + 10 * A 2 ≤ j) : beginN A k j = keepN A j := by
  unfold beginN
  rw [if_neg h2, if_neg (by omega), if_neg (by omega)]
theorem beginN_k (A : Nat → Nat) (k : Nat) : beginN A k (150 + 10 * A 2) = k := by
  unfold beginN
  rw [if_neg (by omega), if_pos rfl]
theorem beginN_z (A : Nat → Nat) (k : Nat) {j : Nat} (h : 150 + 10 * A 2 < j) (h' : j < 160 + 10 * A 2) : beginN A k j = 0 := by
  unfold beginN
  rw [if_neg (by omega), if_neg (by omega), if_pos ⟨h, h'⟩]
theorem Inv_begin {A : Nat → Nat} {k : Nat} (h : Inv A) (hk : k < A 1) (h2 : A 2 < 10) : Inv (beginN A k) := by
  obtain ⟨b0, b1, b2, b3, b4, b5, b6, b7, b8, b9⟩ := h.b
  obtain ⟨o, hK⟩ := keepN_kept b6
  have hlog := h.log
  have eo : ∀ j, j ≠ 2 → j ≠ 6 → j < 150 + 10 * A 2 → beginN A k j = A j := fun j j2 j6 jj => by rw [beginN_o A k j2 (by omega), keepN_lo A (by omega) j6]
  have el : ∀ j, 250 ≤ j → j < 410 → beginN A k j = A j := fun j j2 j6 => by rw [beginN_o A k (by omega) (by omega), keepN_lo A (by omega) (by omega)]
  have ll : ∀ i, i < 4 * A 9 → A (250 + i) = beginN A k (250 + i) := fun i hi => (el _ (by omega) (by omega)).symm
  have e9 := eo 9 (by omega) (by omega) (by omega)
  have e3 := eo 3 (by omega) (by omega) (by omega)
  have e0 := eo 0 (by omega) (by omega) (by omega)
  have e1 := eo 1 (by omega) (by omega) (by omega)
  refine Inv_step h hK (beginN_o A k (by omega) (by omega)) (fun j hj => beginN_o A k (by omega) (by omega)) (fun j hj => eo j (by omega) (by omega) (by omega)) (fun i hi => el _ (by omega) (by omega)) (by omega) (fun b hb => by rw [eo _ (by omega) (by omega) (by omega)]; exact (h.2.1 b hb).2.2.2.1) ?_
  refine Cons_live (by rw [e3]; omega) (by rw [beginN_2]; omega) (by omega) (by omega) (fun i hi => ?_) (fun b hb => ?_) (fun b hb => ?_) (fun p hp => ?_)
  · rw [e9] at hi
    have := hlog i hi
    rw [el (250 + 4 * i) (by omega) (by omega), el (251 + 4 * i) (by omega) (by omega), el (252 + 4 * i) (by omega) (by omega), el (253 + 4 * i) (by omega) (by omega), beginN_2, e0, e3]
    omega
  · rw [e0] at hb
    rw [eo _ (by omega) (by omega) (by omega)]; exact (h.2.1 b hb).2.2.2.1
  · rw [e0] at hb
    have := h.now.2.2.2.2.2.2.1 b hb
    rw [live_g _ (by omega), live_2, live_0] at this
    rw [eo _ (by omega) (by omega) (by omega), e9, e3, this]
    exact sumBH_congr ll
  · rw [beginN_2] at hp
    rw [e9, e1]
    by_cases z : p = A 2
    · rw [z, beginN_k, beginN_z A k (by omega) (by omega), beginN_z A k (by omega) (by omega), beginN_z A k (by omega) (by omega)]
      have z1 : sumP (beginN A k) (A 9) (A 2) = 0 := by
        rw [← sumP_congr ll]
        exact sumR_zero (fun i hi => by have := hlog i hi; simp; omega)
      refine ⟨hk, Or.inl ⟨?_, rfl⟩, z1.symm, (by omega), fun b hb => ?_⟩
      · rw [z1, eo _ (by omega) (by omega) (by omega)]
        have := (h.2.2.2.1 k hk).1
        omega
      · rw [beginN_z A k (by omega) (by omega), ← sumPB_congr ll]
        symm
        exact sumR_zero (fun i hi => by have := hlog i hi; simp; omega)
    · obtain ⟨d1, d2, d3, d4, d5⟩ := h.piece (p := p) (by omega)
      rw [eo (150 + 10 * p) (by omega) (by omega) (by omega), eo (151 + 10 * p) (by omega) (by omega) (by omega), eo (152 + 10 * p) (by omega) (by omega) (by omega), eo (153 + 10 * p) (by omega) (by omega) (by omega)]
      refine ⟨d1, isSt_congr (n := A 0) ⟨(eo _ (by omega) (by omega) (by omega)).symm, (eo _ (by omega) (by omega) (by omega)).symm⟩ (fun b hb => (eo _ (by omega) (by omega) (by omega)).symm) (fun i hi => (hlog i hi).2.1) ll d2, by rw [d3]; exact sumP_congr ll, d4, fun b hb => by rw [eo _ (by omega) (by omega) (by omega), d5 b hb]; exact sumPB_congr ll⟩
section BEG
variable {A : Nat → Nat} {x : XS} {y : MS}
theorem c_begin {Post : Int32 → XS → Prop} {a0 : Int32} (hI : Inv A) (hx : RX x.1 x.2.1 A) (h1 : ∀ k x', k < A 1 → A 2 < 10 → a0 = nI k → XFr x x' → RX x'.1 x'.2.1 (beginN A k) → Post (nI (A 2)) x') (h0 : ¬ (isOne a0 (A 1) ∧ A 2 < 10) → Post (-1) x) : VC_X11_startPiece_0 Post a0 x := by
  obtain ⟨b0, b1, b2, b3, b4, b5, b6, b7, b8, b9⟩ := hI.b
  obtain ⟨r1, r2, r3, ⟨s1, f, s2, s3, s4⟩, r5, r6⟩ := hx
  obtain ⟨o, hK⟩ := keepN_kept b6
  refine hasK r2.1 (by omega) (fun hk => ⟨fun z => absurd z (by decide), fun _ => ?_⟩) (fun hk => ⟨fun _ => h0 (fun z => hk z.1), fun z => absurd rfl z⟩)
  rw [r3.2.1, L10, nlt (by omega) (by omega)]
  refine ⟨fun hlt v3 e3 => ?_, fun hge => h0 (fun z => hge z.2)⟩
  obtain ⟨k, hk, rfl⟩ := hk
  subst e3
  have inp : vp_in (nI (A 2)) 10 := vp_in_nI (by omega) (by decide)
  refine ⟨inp, fun S4 e4 => ⟨inp, fun S5 e5 v6 e6 S7 e7 => ?_⟩⟩
  rw [ncl (by omega)] at e4 e5
  have i5 : S5.1 = x.1 := by rw [e5, xF_i, e4, xF_i]
  rw [i5, r3.2.1, L1, nadd] at e6
  have F7 : ∀ j, j ≠ 12 → j ≠ 13 → S7.2.1 j = x.2.1 j := fun j j1 j2 => by rw [e7, xI_f, e5, xF_o _ _ _ _ j2, e4, xF_o _ _ _ _ j1]
  have F12 : S7.2.1 12 = upd (x.2.1 12) (A 2) (nI k) := by rw [e7, xI_f, e5, xF_o _ _ _ _ (by omega), e4, xF_s]
  have F13 : S7.2.1 13 = upd (x.2.1 13) (A 2) 0 := by rw [e7, xI_f, e5, xF_s, e4, xF_o _ _ _ _ (by omega)]
  have I7 : ∀ j, j ≠ 353 → S7.1 j = x.1 j := fun j hj => by rw [e7, xI_n _ _ hj, i5]
  have fx7 : XFr x S7 := by rw [e7, e5, e4]; exact (((XFr.refl x).F _ _ (by omega)).F _ _ (by omega)).I _ _ (by omega)
  refine c_push (s := A 6) (f := f) b6 s2 (by rw [I7 _ (by omega)]; exact s1) (by rw [I7 _ (by omega)]; exact s3) (fun S' o' n1 r ho' hn1 hr i1 f1 g1 p1 p0 ph pw pp pb => ?_)
  have eo' : o' = o := by have := hK.1; omega
  subst eo'
  have I' : ∀ j, j ≠ 353 → j ≠ 480 → j ≠ 481 → S'.1 j = x.1 j := fun j h1 h2 h3 => by rw [i1 j h2 h3, I7 j h1]
  have F' : ∀ j, j ≠ 12 → j ≠ 13 → j ≠ 16 → S'.2.1 j = x.2.1 j := fun j h1 h2 h3 => by rw [f1 j h3, F7 j h1 h2]
  have fx : XFr x S' := by
    refine fx7.trans ⟨?_, ?_, g1, f1 42 (by omega), i1 _ (by omega) (by omega), i1 _ (by omega) (by omega), i1 _ (by omega) (by omega), i1 _ (by omega) (by omega)⟩
    · funext j; unfold kI; split
      · rw [i1 _ (by omega) (by omega)]
      · rfl
    · funext j; unfold kF; split
      · rw [f1 _ (by omega)]
      · rfl
  have eo : ∀ j, j ≠ 2 → j ≠ 6 → j < 150 + 10 * A 2 → beginN A k j = A j := fun j j2 j6 jj => by rw [beginN_o A k j2 (by omega), keepN_lo A (by omega) j6]
  have el : ∀ j, 250 ≤ j → j < 410 → beginN A k j = A j := fun j j2 j6 => by rw [beginN_o A k (by omega) (by omega), keepN_lo A (by omega) (by omega)]
  refine h1 k S' hk hlt rfl fx ⟨rxCrew_of r1 b0 (I' 64 (by omega) (by omega) (by omega)) (fun j _ _ _ => F' j (by omega) (by omega) (by omega)) (fun j hj => eo j (by omega) (by omega) (by omega)), rxWares_of r2 b1 (I' 224 (by omega) (by omega) (by omega)) (fun j _ _ _ => F' j (by omega) (by omega) (by omega)) (fun j hj => eo j (by omega) (by omega) (by omega)), ⟨?_, ?_, ?_, fun p hp => ?_, fun i hi => ?_⟩, ?_, rxTalk_of r5 b7 b8 ⟨I' 544 (by omega) (by omega) (by omega), I' 546 (by omega) (by omega) (by omega)⟩ (fun j _ _ => F' j (by omega) (by omega) (by omega)) (fun j hj => eo j (by omega) (by omega) (by omega)), rxText_of r6 ⟨I' 38 (by omega) (by omega) (by omega), I' 39 (by omega) (by omega) (by omega)⟩ ⟨eo 4 (by omega) (by omega) (by omega), eo 5 (by omega) (by omega) (by omega)⟩⟩
  · rw [I' 352 (by omega) (by omega) (by omega), eo 3 (by omega) (by omega) (by omega)]; exact r3.1
  · rw [i1 353 (by omega) (by omega), e7, xI_s, e6, beginN_2]
  · rw [I' 356 (by omega) (by omega) (by omega), eo 9 (by omega) (by omega) (by omega)]; exact r3.2.2.1
  · rw [beginN_2] at hp
    rw [f1 12 (by omega), f1 13 (by omega), F12, F13]
    by_cases z : p = A 2
    · rw [z, upd_s, upd_s, beginN_k, beginN_z A k (by omega) (by omega)]; exact ⟨rfl, rfl⟩
    · rw [upd_n _ _ z, upd_n _ _ z, eo _ (by omega) (by omega) (by omega), eo _ (by omega) (by omega) (by omega)]; exact r3.2.2.2.1 p (by omega)
  · rw [eo 9 (by omega) (by omega) (by omega)] at hi
    rw [F' 14 (by omega) (by omega) (by omega), el _ (by omega) (by omega)]; exact r3.2.2.2.2 i hi
  · refine rxSteps_push (I := x.1) (F := x.2.1) hI hK (beginN_o A k (by omega) (by omega)) (fun j hj => beginN_o A k (by omega) (by omega)) s4 hn1 hr p1 p0 (fun i hi => by rw [ph i hi, F7 16 (by omega) (by omega)]) ?_
    refine ⟨0, pw, (by omega), fun _ => ⟨?_, ?_, ?_⟩, fun z => absurd z (by decide), fun z => absurd z (by decide), fun z => absurd z (by decide), fun _ p hp => ?_, fun p hp => ?_, ?_, fun b hb => ?_, fun b hb hb2 => pb b hb2⟩
    · rw [live_1, live_1, beginN_2]
    · rw [live_2, live_2, eo 9 (by omega) (by omega) (by omega)]
    · rw [live_0, live_0, eo 3 (by omega) (by omega) (by omega)]
    · rw [live_1] at hp
      rw [show 19 + 10 * p = 16 + (10 * p + 3) by omega, live_p, live_p, eo _ (by omega) (by omega) (by omega)]
    · rw [live_1] at hp
      rw [live_p, live_p, eo _ (by omega) (by omega) (by omega)]
    · rw [live_3, live_3, eo 0 (by omega) (by omega) (by omega)]; omega
    · rw [live_3] at hb
      rw [pb b (by omega), live_b _ (by omega), live_b _ (by omega), eo _ (by omega) (by omega) (by omega), Int32.sub_self]
theorem r_begin {Post : Int32 → MS → Prop} {a0 : Int32} (hI : Inv A) (hy : y.2.2.1 0 = enc A) (h1 : ∀ k, k < A 1 → A 2 < 10 → a0 = nI k → Post (nI (A 2)) (sF y 0 (enc (beginN A k)))) (h0 : ¬ (isOne a0 (A 1) ∧ A 2 < 10) → Post (-1) y) : VC_begin Post a0 y := by
  obtain ⟨b0, b1, b2, b3, b4, b5, b6, b7, b8, b9⟩ := hI.b
  intro K hK
  have i2 : vp_in (2 : Int32) 3890 := litIn 2 (by decide) (by decide)
  refine mK hy (by omega) (fun hk => ⟨fun z => absurd z (by decide), fun _ => ⟨i2, ?_⟩⟩) (fun hk => ⟨fun _ => h0 (fun z => hk z.1), fun z => absurd rfl z⟩)
  rw [show y.2.2.1 0 (2 : Int32).toNatClampNeg = nI (A 2) from enc_cell (k := 2) hy (by decide) (by decide), L10, neq (by omega) (by omega)]
  refine ⟨fun ne => r_keepN b6 hy ⟨i2, ?_⟩, fun e => h0 (fun z => absurd z.2 (by omega))⟩
  obtain ⟨k, hk, rfl⟩ := hk
  have e1 : (sF y 0 (enc (keepN A))).2.2.1 0 (2 : Int32).toNatClampNeg = nI (A 2) := by rw [show (sF y 0 (enc (keepN A))).2.2.1 0 (2 : Int32).toNatClampNeg = nI (keepN A 2) from enc_cell (k := 2) (sF_same _ _ _) (by decide) (by decide), keepN_lo A (by omega) (by omega)]
  rw [e1]
  show vp_in (150 + 10 * nI (A 2)) 3890 ∧ ∀ S5 : MS, S5 = sF (sF y 0 (enc (keepN A))) 0 (upd ((sF y 0 (enc (keepN A))).2.2.1 0) (150 + 10 * nI (A 2)).toNatClampNeg (nI k)) → K (nI k, 150 + 10 * nI (A 2), 1) S5
  have e2 : 150 + 10 * nI (A 2) = nI (150 + 10 * A 2) := by rw [L150, L10, nmul, nadd]
  rw [e2]
  refine ⟨vp_in_nI (by omega) (by decide), fun S5 e5 => ?_⟩
  rw [sF_same, sF_sF, ncl (by omega), enc_u (by omega)] at e5
  rw [e5]
  have loop : ∀ n i : Nat, ∀ E : Nat → Nat, i + n = 10 → 1 ≤ i → (∀ j, (j ≤ 150 + 10 * A 2 ∨ 150 + 10 * A 2 + i ≤ j) → E j = uN (keepN A) (150 + 10 * A 2) k j) → (∀ j, 150 + 10 * A 2 < j → j < 150 + 10 * A 2 + i → E j = 0) → K (nI k, nI (150 + 10 * A 2), nI i) (sF y 0 (enc E)) := by
    intro n
    induction n with
    | zero =>
      intro i E hi h1i hE hz
      have ei : i = 10 := (by omega)
      subst ei
      refine hK _ _ ⟨fun _ => ⟨i2, fun v6 e6 => ⟨i2, fun S7 e7 => ⟨i2, ?_⟩⟩⟩, fun z => absurd (Int32.le_refl _) z⟩
      rw [show (sF y 0 (enc E)).2.2.1 0 (2 : Int32).toNatClampNeg = nI (E 2) from enc_cell (k := 2) (sF_same _ _ _) (by decide) (by decide), hE 2 (by omega), uN_n _ _ _ _ (by omega), keepN_lo A (by omega) (by omega), L1, nadd] at e6
      rw [e6, sF_same, sF_sF, litC 2 (by decide), enc_u (by omega)] at e7
      rw [e7, sF_same, litC 2 (by decide), enc_at (by omega), uN_s, nI_pred]
      have : uN E 2 (A 2 + 1) = beginN A k := by
        funext j
        unfold beginN
        by_cases z2 : j = 2
        · rw [z2, uN_s, if_pos rfl]
        · rw [uN_n _ _ _ _ z2, if_neg z2]
          by_cases z3 : j = 150 + 10 * A 2
          · rw [if_pos z3, hE j (by omega), z3, uN_s]
          · rw [if_neg z3]
            by_cases z4 : 150 + 10 * A 2 < j ∧ j < 160 + 10 * A 2
            · rw [if_pos z4, hz j z4.1 (by omega)]
            · rw [if_neg z4, hE j (by omega), uN_n _ _ _ _ z3]
      rw [this]
      exact h1 k hk (by omega) rfl
    | succ n ih =>
      intro i E hi h1i hE hz
      have a1 : nI (150 + 10 * A 2) + nI i = nI (150 + 10 * A 2 + i) := nadd _ _
      refine hK _ _ ⟨fun z => absurd z (nI_ge (b := 10) (by omega) (by decide)), fun _ => ⟨by rw [a1]; exact vp_in_nI (by omega) (by decide), fun S8 e8 v9 e9 => ?_⟩⟩
      rw [a1, sF_same, sF_sF, ncl (by omega), L0, enc_u (by omega)] at e8
      rw [e8, e9, nI_1]
      refine ih (i + 1) _ (by omega) (by omega) (fun j hj => by rw [uN_n _ _ _ _ (by omega), hE j (by omega)]) (fun j hj hj2 => ?_)
      by_cases z : j = 150 + 10 * A 2 + i
      · rw [z, uN_s]
      · rw [uN_n _ _ _ _ z, hz j hj (by omega)]
  exact loop 9 1 _ (by omega) (by omega) (fun _ _ => rfl) (fun j hj hj2 => absurd hj2 (by omega))
end BEG
theorem op_begin {TX : TXT} {A B : Nat → Nat} {x : XS} {y : MS} {a0 : Int32} (h : RelA TX A B x y) : VC_X11_begin_0 (fun r x' => VC_begin (fun r' y' => r = r' ∧ RelT TX x' y') a0 y) a0 x := by
  obtain ⟨g1, -, g3, -, g5, -⟩ := id h
  refine c_begin g1 g3 (fun k x' hk h2 e fx hx' => ?_) (fun hn => ?_)
  · refine r_begin g1 g5 (fun k' hk' _ e' => ⟨rfl, ?_⟩) (fun z => absurd ⟨⟨k, hk, e⟩, h2⟩ z)
    have b := g1.b
    have : k' = k := (nI_eq (by omega) (by omega)).mp (e'.symm.trans e)
    subst this
    exact h.step fx ((YFr.refl y).F _ _ (by omega)) (Inv_begin g1 hk h2) hx' (sF_same _ _ _) (by rw [beginN_o A k' (by omega) (by omega), keepN_lo A (by omega) (by omega)])
  · exact r_begin g1 g5 (fun k' hk' h2 e' => absurd ⟨⟨k', hk', e'⟩, h2⟩ hn) (fun _ => ⟨rfl, A, B, h⟩)
