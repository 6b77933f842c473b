/-! the class: loops over the log -/
/-- the sum of rows in array 14 -/
theorem c_sum14 {Post : Int32 → XS → Prop} {S : XS} {m : Nat} {a2 a3 a4 : Int32} {P B N H : Nat → Nat} (hm : m ≤ 40) (hF : ∀ i, i < m → S.2.1 14 (4 * i) = nI (P i) ∧ S.2.1 14 (4 * i + 1) = nI (B i) ∧ S.2.1 14 (4 * i + 2) = nI (N i) ∧ S.2.1 14 (4 * i + 3) = nI (H i)) (q : Nat → Bool)
    (hq : ∀ i, i < m → (q i = true ↔ (a2 = -1 ∨ nI (P i) = a2) ∧ (a3 = -1 ∨ nI (B i) = a3) ∧ (a4 = -1 ∨ nI (H i) = a4))) (h : Post (nI (sumR q N m)) S) : VC_X11_sumOfRows_14 Post (nI m) a2 a3 a4 S := by
  intro K hK
  have key : ∀ k i : Nat, i + k = m → K (.inl (nI m, a2, a3, a4, nI (sumR q N i), nI i)) S := by
    intro k
    induction k with
    | zero =>
      intro i hi
      have : i = m := by omega
      subst this
      exact hK _ _ ⟨fun _ => h, fun hc => absurd (Int32.le_refl _) hc⟩
    | succ k ih =>
      intro i hi
      have hi2 : i < m := by omega
      obtain ⟨f0, f1, f2, f3⟩ := hF i hi2
      have c0 : 4 * nI i = nI (4 * i) := by rw [L4, nmul]
      have c1 : nI (4 * i) + 1 = nI (4 * i + 1) := nI_1 _
      have c2 : nI (4 * i) + 2 = nI (4 * i + 2) := by rw [L2, nadd]
      have c3 : nI (4 * i) + 3 = nI (4 * i + 3) := by rw [L3, nadd]
      have nx := ih (i + 1) (by omega)
      have skip : ¬ ((a2 = -1 ∨ nI (P i) = a2) ∧ (a3 = -1 ∨ nI (B i) = a3) ∧ (a4 = -1 ∨ nI (H i) = a4)) → K (.inl (nI m, a2, a3, a4, nI (sumR q N i), nI i + 1)) S := fun hf => by
        have hf2 : q i = false := by
          cases e : q i
          · rfl
          · exact absurd ((hq i hi2).mp e) hf
        rw [nI_1]
        simpa only [sumR, hf2, Bool.false_eq_true, if_false, Nat.add_zero] using nx
      have take : ((a2 = -1 ∨ nI (P i) = a2) ∧ (a3 = -1 ∨ nI (B i) = a3) ∧ (a4 = -1 ∨ nI (H i) = a4)) → K (.inr (.inr (.inr (nI m, a2, a3, a4, nI (sumR q N i), nI i)))) S := fun ht => by
        have ht2 := (hq i hi2).mpr ht
        refine hK _ _ ⟨by rw [c0, c2]; exact vp_in_nI (by omega) (by decide), fun v4 e4 v5 e5 => ?_⟩
        rw [e4, e5, c0, c2, ncl (by omega), f2, nadd, nI_1]
        simpa only [sumR, ht2, if_true] using nx
      have s3 : (a2 = -1 ∨ nI (P i) = a2) → (a3 = -1 ∨ nI (B i) = a3) → K (.inr (.inr (.inl (nI m, a2, a3, a4, nI (sumR q N i), nI i)))) S := fun h1 h2 => by
        refine hK _ _ ⟨fun h3 => take ⟨h1, h2, Or.inl h3⟩, fun h3 => ⟨by rw [c0, c3]; exact vp_in_nI (by omega) (by decide), ?_⟩⟩
        rw [c0, c3, ncl (by omega), f3]
        exact ⟨fun h4 v e => by rw [e]; exact skip (fun z => z.2.2.elim h3 h4), fun h4 => take ⟨h1, h2, Or.inr h4⟩⟩
      have s2 : (a2 = -1 ∨ nI (P i) = a2) → K (.inr (.inl (nI m, a2, a3, a4, nI (sumR q N i), nI i))) S := fun h1 => by
        refine hK _ _ ⟨fun h3 => s3 h1 (Or.inl h3), fun h3 => ⟨by rw [c0, c1]; exact vp_in_nI (by omega) (by decide), ?_⟩⟩
        rw [c0, c1, ncl (by omega), f1]
        exact ⟨fun h4 v e => by rw [e]; exact skip (fun z => z.2.1.elim h3 h4), fun h4 => s3 h1 (Or.inr h4)⟩
      refine hK _ _ ⟨fun hc => absurd hc (nI_ge hi2 (by omega)), fun _ => ⟨fun hc => absurd hc ?_, fun _ => ⟨fun h3 => s2 (Or.inl h3), fun h3 => ⟨by rw [c0]; exact vp_in_nI (by omega) (by decide), ?_⟩⟩⟩⟩
      · rw [c0, c3, L160, nI_leI (by omega) (by omega)]; omega
      · rw [c0, ncl (by omega), f0]
        exact ⟨fun h4 v e => by rw [e]; exact skip (fun z => z.1.elim h3 h4), fun h4 => s2 (Or.inr h4)⟩
  exact key m 0 (by omega)
/-- the sum of rows in array 19 -/
theorem c_sum19 {Post : Int32 → XS → Prop} {S : XS} {m : Nat} {a2 a3 a4 : Int32} {P B N H : Nat → Nat} (hm : m ≤ 20) (hF : ∀ i, i < m → S.2.1 19 (4 * i) = nI (P i) ∧ S.2.1 19 (4 * i + 1) = nI (B i) ∧ S.2.1 19 (4 * i + 2) = nI (N i) ∧ S.2.1 19 (4 * i + 3) = nI (H i)) (q : Nat → Bool)
    (hq : ∀ i, i < m → (q i = true ↔ (a2 = -1 ∨ nI (P i) = a2) ∧ (a3 = -1 ∨ nI (B i) = a3) ∧ (a4 = -1 ∨ nI (H i) = a4))) (h : Post (nI (sumR q N m)) S) : VC_X11_sumOfRows_19 Post (nI m) a2 a3 a4 S := by
  intro K hK
  have key : ∀ k i : Nat, i + k = m → K (.inl (nI m, a2, a3, a4, nI (sumR q N i), nI i)) S := by
    intro k
    induction k with
    | zero =>
      intro i hi
      have : i = m := by omega
      subst this
      exact hK _ _ ⟨fun _ => h, fun hc => absurd (Int32.le_refl _) hc⟩
    | succ k ih =>
      intro i hi
      have hi2 : i < m := by omega
      obtain ⟨f0, f1, f2, f3⟩ := hF i hi2
      have c0 : 4 * nI i = nI (4 * i) := by rw [L4, nmul]
      have c1 : nI (4 * i) + 1 = nI (4 * i + 1) := nI_1 _
      have c2 : nI (4 * i) + 2 = nI (4 * i + 2) := by rw [L2, nadd]
      have c3 : nI (4 * i) + 3 = nI (4 * i + 3) := by rw [L3, nadd]
      have nx := ih (i + 1) (by omega)
      have skip : ¬ ((a2 = -1 ∨ nI (P i) = a2) ∧ (a3 = -1 ∨ nI (B i) = a3) ∧ (a4 = -1 ∨ nI (H i) = a4)) → K (.inl (nI m, a2, a3, a4, nI (sumR q N i), nI i + 1)) S := fun hf => by
        have hf2 : q i = false := by
          cases e : q i
          · rfl
          · exact absurd ((hq i hi2).mp e) hf
        rw [nI_1]
        simpa only [sumR, hf2, Bool.false_eq_true, if_false, Nat.add_zero] using nx
      have take : ((a2 = -1 ∨ nI (P i) = a2) ∧ (a3 = -1 ∨ nI (B i) = a3) ∧ (a4 = -1 ∨ nI (H i) = a4)) → K (.inr (.inr (.inr (nI m, a2, a3, a4, nI (sumR q N i), nI i)))) S := fun ht => by
        have ht2 := (hq i hi2).mpr ht
        refine hK _ _ ⟨by rw [c0, c2]; exact vp_in_nI (by omega) (by decide), fun v4 e4 v5 e5 => ?_⟩
        rw [e4, e5, c0, c2, ncl (by omega), f2, nadd, nI_1]
        simpa only [sumR, ht2, if_true] using nx
      have s3 : (a2 = -1 ∨ nI (P i) = a2) → (a3 = -1 ∨ nI (B i) = a3) → K (.inr (.inr (.inl (nI m, a2, a3, a4, nI (sumR q N i), nI i)))) S := fun h1 h2 => by
        refine hK _ _ ⟨fun h3 => take ⟨h1, h2, Or.inl h3⟩, fun h3 => ⟨by rw [c0, c3]; exact vp_in_nI (by omega) (by decide), ?_⟩⟩
        rw [c0, c3, ncl (by omega), f3]
        exact ⟨fun h4 v e => by rw [e]; exact skip (fun z => z.2.2.elim h3 h4), fun h4 => take ⟨h1, h2, Or.inr h4⟩⟩
      have s2 : (a2 = -1 ∨ nI (P i) = a2) → K (.inr (.inl (nI m, a2, a3, a4, nI (sumR q N i), nI i))) S := fun h1 => by
        refine hK _ _ ⟨fun h3 => s3 h1 (Or.inl h3), fun h3 => ⟨by rw [c0, c1]; exact vp_in_nI (by omega) (by decide), ?_⟩⟩
        rw [c0, c1, ncl (by omega), f1]
        exact ⟨fun h4 v e => by rw [e]; exact skip (fun z => z.2.1.elim h3 h4), fun h4 => s3 h1 (Or.inr h4)⟩
      refine hK _ _ ⟨fun hc => absurd hc (nI_ge hi2 (by omega)), fun _ => ⟨fun hc => absurd hc ?_, fun _ => ⟨fun h3 => s2 (Or.inl h3), fun h3 => ⟨by rw [c0]; exact vp_in_nI (by omega) (by decide), ?_⟩⟩⟩⟩
      · rw [c0, c3, L80, nI_leI (by omega) (by omega)]; omega
      · rw [c0, ncl (by omega), f0]
        exact ⟨fun h4 v e => by rw [e]; exact skip (fun z => z.1.elim h3 h4), fun h4 => s2 (Or.inr h4)⟩
  exact key m 0 (by omega)
theorem c_givers {Post : Int32 → XS → Prop} {S : XS} {m p : Nat} {P B : Nat → Nat} (e : S.1 356 = nI m) (hm : m ≤ 40) (hF : ∀ i, i < m → S.2.1 14 (4 * i) = nI (P i) ∧ S.2.1 14 (4 * i + 1) = nI (B i)) (hB : ∀ i, i < m → B i < 6 ∧ P i < 2147483648) (hp : p < 2147483648)
    (h : Post (nI (setR (fun i => decide (P i = p)) B m)) S) : VC_X0_givers_11 Post (nI p) S := by
  intro K hK
  have key : ∀ k i : Nat, i + k = m → K (nI p, nI (setR (fun i => decide (P i = p)) B i), nI i) S := by
    intro k
    induction k with
    | zero =>
      intro i hi
      have : i = m := by omega
      subst this
      refine hK _ _ ⟨fun _ => h, fun hc => absurd ?_ hc⟩
      rw [e]; exact Int32.le_refl _
    | succ k ih =>
      intro i hi
      have hi2 : i < m := by omega
      obtain ⟨f0, f1⟩ := hF i hi2
      obtain ⟨b6, b7⟩ := hB i hi2
      have c0 : 4 * nI i = nI (4 * i) := by rw [L4, nmul]
      have c1 : nI (4 * i) + 1 = nI (4 * i + 1) := nI_1 _
      have nx := ih (i + 1) (by omega)
      refine hK _ _ ⟨fun hc => absurd hc (by rw [e]; exact nI_ge hi2 (by omega)), fun _ => ⟨by rw [c0]; exact vp_in_nI (by omega) (by decide), ?_⟩⟩
      rw [c0, ncl (by omega), f0, neq b7 hp]
      refine ⟨fun h4 v ev => ?_, fun h4 => ⟨by rw [c1]; exact vp_in_nI (by omega) (by decide), fun v2 e2 v3 e3 => ?_⟩⟩
      · rw [ev, nI_1]
        simpa only [setR, h4, decide_false, Bool.false_eq_true, if_false] using nx
      · rw [e2, e3, c1, ncl (by omega), f1, L1, L31, nshl1 (by omega), nor, nadd]
        simpa only [setR, h4, decide_true, if_true] using nx
  exact key m 0 (by omega)
theorem c_voices {Post : Int32 → XS → Prop} {S : XS} {n s : Nat} {V : Nat → Nat} (e : S.1 64 = nI n) (hn : n ≤ 6) (hs : s < 64) (hF : ∀ i, i < n → S.2.1 4 i = nI (V i)) (hV : ∀ i, i < n → V i ≤ 3)
    (h : Post (nI (setR (fun i => s.testBit i) V n)) S) : VC_X1_voicesOf_2 Post (nI s) S := by
  intro K hK
  have key : ∀ k i : Nat, i + k = n → K (nI s, nI (setR (fun i => s.testBit i) V i), nI i) S := by
    intro k
    induction k with
    | zero =>
      intro i hi
      have : i = n := by omega
      subst this
      refine hK _ _ ⟨fun _ => h, fun hc => absurd ?_ hc⟩
      rw [e]; exact Int32.le_refl _
    | succ k ih =>
      intro i hi
      have hi2 : i < n := by omega
      have f0 := hF i hi2
      have b6 := hV i hi2
      have nx := ih (i + 1) (by omega)
      refine hK _ _ ⟨fun hc => absurd hc (by rw [e]; exact nI_ge hi2 (by omega)), fun _ => ?_⟩
      rw [L31, L1, L0, nbit0 (by omega) (by omega)]
      refine ⟨fun h4 v ev => ?_, fun h4 => ⟨vp_in_nI (by omega) (by decide), fun v2 e2 v3 e3 => ?_⟩⟩
      · rw [ev, nadd]
        simpa only [setR, h4, Bool.false_eq_true, if_false] using nx
      · have h5 : s.testBit i = true := by cases z : s.testBit i; exact absurd z h4; rfl
        rw [e2, e3, ncl (by omega), f0, nshl1 (by omega), nor, nadd]
        simpa only [setR, h5, if_true] using nx
  exact key n 0 (by omega)
/-- who gave some -/
theorem givers_bit {A v : Nat → Nat} {m p b : Nat} (hm : m = v 2) (hl : logOK A v) : (setR (fun i => decide (A (250 + 4 * i) = p)) (fun i => A (251 + 4 * i)) m).testBit b = true ↔ 0 < sumPB A m p b := by
  rw [setR_bit]
  unfold sumPB
  rw [sumR_pos (fun i hi => (hl i (by omega)).2.2.1)]
  refine exists_congr (fun i => and_congr Iff.rfl ?_)
  simp
theorem live_0 (A : Nat → Nat) : live A 0 = A 3 := rfl
theorem live_1 (A : Nat → Nat) : live A 1 = A 2 := rfl
theorem live_2 (A : Nat → Nat) : live A 2 = A 9 := rfl
theorem live_3 (A : Nat → Nat) : live A 3 = A 0 := rfl
theorem live_b (A : Nat → Nat) {b : Nat} (h : b < 6) : live A (4 + b) = A (12 + 5 * b) := by
  unfold live
  rw [if_neg (by omega), if_neg (by omega), if_neg (by omega), if_neg (by omega), if_pos (by omega)]
  congr 1; omega
theorem live_g (A : Nat → Nat) {b : Nat} (h : b < 6) : live A (10 + b) = A (13 + 5 * b) := by
  unfold live
  rw [if_neg (by omega), if_neg (by omega), if_neg (by omega), if_neg (by omega), if_neg (by omega), if_pos (by omega)]
  congr 1; omega
theorem live_p (A : Nat → Nat) (k : Nat) : live A (16 + k) = A (150 + k) := by
  unfold live
  rw [if_neg (by omega), if_neg (by omega), if_neg (by omega), if_neg (by omega), if_neg (by omega), if_neg (by omega)]
  congr 1; omega
theorem core_now (A : Nat → Nat) : core A (A 6) = live A := by
  funext c
  unfold core
  rw [if_neg (by omega)]
/-- what holds now -/
theorem Inv.now {A : Nat → Nat} (h : Inv A) : Cons A (live A) := by
  have := h.2.2.2.2.2.1 (A 6) (Nat.le_refl _)
  rwa [core_now] at this
theorem Inv.log {A : Nat → Nat} (h : Inv A) : ∀ i, i < A 9 → A (250 + 4 * i) < A 2 ∧ A (251 + 4 * i) < A 0 ∧ 1 ≤ A (252 + 4 * i) ∧ A (252 + 4 * i) ≤ 9 ∧ A (253 + 4 * i) ≤ A 3 := h.now.2.2.2.2.1
theorem Inv.piece {A : Nat → Nat} (h : Inv A) {p : Nat} (hp : p < A 2) : A (150 + 10 * p) < A 1 ∧ isSt A (A 9) p (A (150 + 10 * p)) (A (151 + 10 * p)) ∧ A (152 + 10 * p) = sumP A (A 9) p ∧ A (153 + 10 * p) ≤ 1 ∧ ∀ b, b < 6 → A (154 + 10 * p + b) = sumPB A (A 9) p b := by
  obtain ⟨d1, d2, d3, d4, d5⟩ := h.now.2.2.2.2.2.2.2 p hp
  rw [live_p] at d1 d2
  rw [show 17 + 10 * p = 16 + (10 * p + 1) by omega, live_p] at d2
  rw [show 18 + 10 * p = 16 + (10 * p + 2) by omega, live_p] at d3
  rw [show 19 + 10 * p = 16 + (10 * p + 3) by omega, live_p] at d4
  refine ⟨d1, ?_, ?_, ?_, fun b hb => ?_⟩
  · rw [show 151 + 10 * p = 150 + (10 * p + 1) by omega]; exact d2
  · rw [show 152 + 10 * p = 150 + (10 * p + 2) by omega]; exact d3
  · rw [show 153 + 10 * p = 150 + (10 * p + 3) by omega]; exact d4
  · have := d5 b hb
    rw [show 20 + 10 * p + b = 16 + (10 * p + 4 + b) by omega, live_p] at this
    rw [show 154 + 10 * p + b = 150 + (10 * p + 4 + b) by omega]; exact this
theorem Inv.b {A : Nat → Nat} (h : Inv A) : A 0 ≤ 6 ∧ A 1 ≤ 6 ∧ A 2 ≤ 10 ∧ A 3 ≤ 999 ∧ A 4 ≤ 4 ∧ A 5 ≤ A 4 ∧ A 6 ≤ 30 ∧ A 7 ≤ 8 ∧ A 8 ≤ 20 ∧ A 9 ≤ 40 := by
  have h1 := h.now
  have h2 := h.1
  have a1 : A 3 ≤ 999 := h1.1
  have a2 : A 2 ≤ 10 := h1.2.1
  have a3 : A 9 ≤ 40 := h1.2.2.1
  obtain ⟨b0, b1, b4, b5, b6, b7, b8⟩ := h2
  exact ⟨b0, b1, a2, a1, b4, b5, b6, b7, b8, a3⟩
theorem sumP_le {A : Nat → Nat} (h : Inv A) (p : Nat) : sumP A (A 9) p ≤ 360 := by
  have h1 := sumR_le (q := fun i => decide (A (250 + 4 * i) = p)) (w := fun i => A (252 + 4 * i)) (B := 9) (m := A 9) (fun i hi => (h.log i hi).2.2.2.1)
  have := h.b
  unfold sumP
  omega
theorem rxLog {S : XS} {A : Nat → Nat} (hx : rxBench S.1 S.2.1 A) : ∀ i, i < A 9 → S.2.1 14 (4 * i) = nI (A (250 + 4 * i)) ∧ S.2.1 14 (4 * i + 1) = nI (A (251 + 4 * i)) ∧ S.2.1 14 (4 * i + 2) = nI (A (252 + 4 * i)) ∧ S.2.1 14 (4 * i + 3) = nI (A (253 + 4 * i)) := by
  intro i hi
  have h := hx.2.2.2.2
  refine ⟨h (4 * i) (by omega), ?_, ?_, ?_⟩
  · rw [show 251 + 4 * i = 250 + (4 * i + 1) by omega]; exact h _ (by omega)
  · rw [show 252 + 4 * i = 250 + (4 * i + 2) by omega]; exact h _ (by omega)
  · rw [show 253 + 4 * i = 250 + (4 * i + 3) by omega]; exact h _ (by omega)
/-- the state of a piece, by the class's rule -/
theorem c_stateOf {Post : Int32 → XS → Prop} {S : XS} {A : Nat → Nat} {a : Int32} (hI : Inv A) (hC : rxCrew S.1 S.2.1 A) (hW : rxWares S.1 S.2.1 A) (hB : rxBench S.1 S.2.1 A) (h1 : ∀ p, p < A 2 → a = nI p → Post (nI (A (151 + 10 * p))) S) (h0 : ¬ isOne a (A 2) → Post (-1) S) : VC_X5_stateOf_1 Post a S := by
  intro K hK
  obtain ⟨b0, b1, b2, b3, -, -, -, -, -, b9⟩ := hI.b
  refine hasP hB.2.1 (by omega) (fun hp => ⟨fun z => absurd z (by decide), fun _ => ?_⟩) (fun hp => ⟨fun _ => h0 hp, fun z => absurd rfl z⟩)
  obtain ⟨p, hp, rfl⟩ := hp
  have inp : vp_in (nI p) 10 := vp_in_nI (by omega) (by decide)
  obtain ⟨k1, k2, k3, k4, k5⟩ := hI.piece hp
  have ek : S.2.1 12 (nI p).toNatClampNeg = nI (A (150 + 10 * p)) := by rw [ncl (by omega)]; exact (hB.2.2.2.1 p hp).1
  have hkind := hI.2.2.2.1 _ k1
  obtain ⟨w1, w2, w3⟩ := hW.2 _ k1
  refine ⟨inp, hasK hW.1 (by omega) (fun _ => ⟨fun _ => ⟨inp, fun v5 e5 => ?_⟩, fun z => absurd z (by decide)⟩) (fun hk => absurd ⟨_, k1, ek⟩ hk)⟩
  rw [ek] at e5
  subst e5
  unfold VC_X0_sum_11
  rw [hB.2.2.1]
  have ink : vp_in (nI (A (150 + 10 * p))) 6 := vp_in_nI (by omega) (by decide)
  refine c_sum14 (P := fun i => A (250 + 4 * i)) (B := fun i => A (251 + 4 * i)) (N := fun i => A (252 + 4 * i)) (H := fun i => A (253 + 4 * i)) (by omega) (rxLog hB) (fun i => decide (A (250 + 4 * i) = p)) (fun i hi => ?_) ?_
  · have := hI.log i hi
    simp only [decide_eq_true_eq, true_or, and_true, L1]
    rw [nm1 (by omega), neq (by omega) (by omega)]
    simp
  · show vp_in _ 6 ∧ _
    refine ⟨ink, ?_⟩
    rw [ncl (by omega), w1]
    have hs := sumP_le hI p
    have hs2 : sumR (fun i => decide (A (250 + 4 * i) = p)) (fun i => A (252 + 4 * i)) (A 9) ≤ 360 := hs
    show (nI (A (40 + 3 * A (150 + 10 * p))) ≤ nI (sumP A (A 9) p) → _) ∧ (¬ nI (A (40 + 3 * A (150 + 10 * p))) ≤ nI (sumP A (A 9) p) → _)
    rw [nle (by omega) (by omega)]
    refine ⟨fun hle => ⟨ink, ?_⟩, fun hlt => ?_⟩
    · refine c_givers (P := fun i => A (250 + 4 * i)) (B := fun i => A (251 + 4 * i)) hB.2.2.1 (by omega) (fun i hi => ⟨(rxLog hB i hi).1, (rxLog hB i hi).2.1⟩) (fun i hi => by have := hI.log i hi; omega) (by omega) ?_
      have hset : setR (fun i => decide (A (250 + 4 * i) = p)) (fun i => A (251 + 4 * i)) (A 9) < 2 ^ 6 := setR_lt (fun i hi => by have := (hI.log i hi).2.1; omega)
      refine c_voices (V := fun i => A (11 + 5 * i)) hC.1 b0 (by omega) (fun i hi => (hC.2 i hi).2.1) (fun i hi => (hI.2.1 i hi).2.2.1) ?_
      have hsub : (nI (A (41 + 3 * A (150 + 10 * p))) &&& (nI (setR (fun i => (setR (fun i => decide (A (250 + 4 * i) = p)) (fun i => A (251 + 4 * i)) (A 9)).testBit i) (fun i => A (11 + 5 * i)) (A 0)) ^^^ -nI 1) = nI 0) = sung A (A 9) p (A (150 + 10 * p)) := by
        rw [nsubset (by omega), eq_iff_iff]
        refine forall_congr' (fun t => imp_congr Iff.rfl ?_)
        rw [setR_bit]
        constructor
        · rintro ⟨b, hb, e1, e2⟩
          exact ⟨b, by omega, (givers_bit (v := live A) rfl hI.now.2.2.2.2.1).mp e1, e2⟩
        · rintro ⟨b, hb, e1, e2⟩
          refine ⟨b, ?_, (givers_bit (v := live A) rfl hI.now.2.2.2.2.1).mpr e1, e2⟩
          by_cases hb2 : b < A 0
          · exact hb2
          · rw [sumPB_zero (n := A 0) (fun i hi => (hI.log i hi).2.1) (by omega)] at e1
            omega
      rw [w2, L0, L1, hsub]
      have hpost := h1 p hp rfl
      unfold isSt at k2
      refine ⟨fun hn => hK _ _ ⟨ink, ?_⟩, fun hy => hK _ _ ⟨ink, ?_⟩⟩
      · rw [ncl (by omega), w1, neq (by omega) (by omega)]
        have e2 : A (151 + 10 * p) = 2 := by
          rcases k2 with ⟨z, -⟩ | ⟨-, z, -⟩ | ⟨-, -, z⟩
          · omega
          · exact absurd z hn
          · exact z
        rw [e2] at hpost
        exact ⟨fun _ => hpost, fun _ => ⟨fun _ => hpost, fun z => absurd rfl z⟩⟩
      · rw [ncl (by omega), w1, neq (by omega) (by omega)]
        refine ⟨fun hne => ?_, fun he => ⟨fun z => absurd z (by decide), fun _ => ?_⟩⟩
        · have e2 : A (151 + 10 * p) = 2 := by
            rcases k2 with ⟨z, -⟩ | ⟨z, -, -⟩ | ⟨-, -, z⟩
            · omega
            · exact absurd z hne
            · exact z
          rw [e2] at hpost
          exact hpost
        · have e2 : A (151 + 10 * p) = 1 := by
            rcases k2 with ⟨z, -⟩ | ⟨-, -, z⟩ | ⟨-, z, -⟩
            · omega
            · exact z
            · exact absurd ⟨he, hy⟩ z
          rw [e2] at hpost
          exact hpost
    · have hpost := h1 p hp rfl
      have e2 : A (151 + 10 * p) = 0 := by
        rcases k2 with ⟨-, z⟩ | ⟨z, -, -⟩ | ⟨z, -, -⟩
        · exact z
        · omega
        · omega
      rw [e2] at hpost
      exact hpost
