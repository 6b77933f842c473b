/-! blow -/
noncomputable def stN (A : Nat → Nat) (m p k : Nat) : Nat := if sumP A m p < A (40 + 3 * k) then 0 else @ite Nat (sumP A m p = A (40 + 3 * k) ∧ sung A m p k) (Classical.propDecidable _) 1 2
theorem stN_is (A : Nat → Nat) (m p k : Nat) : isSt A m p k (stN A m p k) := by
  unfold isSt stN
  by_cases z : sumP A m p < A (40 + 3 * k)
  · rw [if_pos z]; exact Or.inl ⟨z, rfl⟩
  · rw [if_neg z]
    by_cases z2 : sumP A m p = A (40 + 3 * k) ∧ sung A m p k
    · rw [if_pos z2]; exact Or.inr (Or.inl ⟨z2.1, z2.2, rfl⟩)
    · rw [if_neg z2]; exact Or.inr (Or.inr ⟨(by omega), z2, rfl⟩)
def blow0 (A : Nat → Nat) (p b n c : Nat) : Nat → Nat := uN (uN (uN (uN (uN (uN (uN (uN (uN (keepN A) (10 + 5 * b + 2) (A (12 + 5 * b) - c)) (10 + 5 * b + 3) (A (13 + 5 * b) + n)) (152 + 10 * p) (A (152 + 10 * p) + n)) (154 + 10 * p + b) (A (154 + 10 * p + b) + n)) (250 + 4 * A 9) p) (251 + 4 * A 9) b) (252 + 4 * A 9) n) (253 + 4 * A 9) (A 3)) 9 (A 9 + 1)
noncomputable def blowN (A : Nat → Nat) (p b n c : Nat) : Nat → Nat := uN (blow0 A p b n c) (151 + 10 * p) (stN (blow0 A p b n c) (A 9 + 1) p (A (150 + 10 * p)))
section BLOWN
variable {A : Nat → Nat} {p b n c : Nat}
theorem bl_o (hp : p < 10) (hb : b < 6) (h9 : A 9 < 40) {j : Nat} (h1 : j ≠ 9) (h2 : j ≠ 12 + 5 * b) (h3 : j ≠ 13 + 5 * b) (h4 : j ≠ 151 + 10 * p) (h5 : j ≠ 152 + 10 * p) (h6 : j ≠ 154 + 10 * p + b) (h7 : j < 250 + 4 * A 9 ∨ 254 + 4 * A 9 ≤ j) : blowN A p b n c j = keepN A j := by
  unfold blowN blow0
  rw [uN_n _ _ _ _ h4, uN_n _ _ _ _ h1, uN_n _ _ _ _ (by omega), uN_n _ _ _ _ (by omega), uN_n _ _ _ _ (by omega), uN_n _ _ _ _ (by omega), uN_n _ _ _ _ h6, uN_n _ _ _ _ h5, uN_n _ _ _ _ (by omega), uN_n _ _ _ _ (by omega)]
theorem bl_9 : blowN A p b n c 9 = A 9 + 1 := by
  unfold blowN blow0
  rw [uN_n _ _ _ _ (by omega), uN_s]
theorem bl_12 (hp : p < 10) (hb : b < 6) (h9 : A 9 < 40) : blowN A p b n c (12 + 5 * b) = A (12 + 5 * b) - c := by
  unfold blowN blow0
  rw [uN_n _ _ _ _ (by omega), uN_n _ _ _ _ (by omega), uN_n _ _ _ _ (by omega), uN_n _ _ _ _ (by omega), uN_n _ _ _ _ (by omega), uN_n _ _ _ _ (by omega), uN_n _ _ _ _ (by omega), uN_n _ _ _ _ (by omega), uN_n _ _ _ _ (by omega), show 12 + 5 * b = 10 + 5 * b + 2 by omega, uN_s]
theorem bl_13 (hp : p < 10) (hb : b < 6) (h9 : A 9 < 40) : blowN A p b n c (13 + 5 * b) = A (13 + 5 * b) + n := by
  unfold blowN blow0
  rw [uN_n _ _ _ _ (by omega), uN_n _ _ _ _ (by omega), uN_n _ _ _ _ (by omega), uN_n _ _ _ _ (by omega), uN_n _ _ _ _ (by omega), uN_n _ _ _ _ (by omega), uN_n _ _ _ _ (by omega), uN_n _ _ _ _ (by omega), show 13 + 5 * b = 10 + 5 * b + 3 by omega, uN_s]
theorem bl_152 (hp : p < 10) (hb : b < 6) (h9 : A 9 < 40) : blowN A p b n c (152 + 10 * p) = A (152 + 10 * p) + n := by
  unfold blowN blow0
  rw [uN_n _ _ _ _ (by omega), uN_n _ _ _ _ (by omega), uN_n _ _ _ _ (by omega), uN_n _ _ _ _ (by omega), uN_n _ _ _ _ (by omega), uN_n _ _ _ _ (by omega), uN_n _ _ _ _ (by omega), uN_s]
theorem bl_154 (hp : p < 10) (hb : b < 6) (h9 : A 9 < 40) : blowN A p b n c (154 + 10 * p + b) = A (154 + 10 * p + b) + n := by
  unfold blowN blow0
  rw [uN_n _ _ _ _ (by omega), uN_n _ _ _ _ (by omega), uN_n _ _ _ _ (by omega), uN_n _ _ _ _ (by omega), uN_n _ _ _ _ (by omega), uN_n _ _ _ _ (by omega), uN_s]
theorem bl_250 (hp : p < 10) : blowN A p b n c (250 + 4 * A 9) = p := by
  unfold blowN blow0
  rw [uN_n _ _ _ _ (by omega), uN_n _ _ _ _ (by omega), uN_n _ _ _ _ (by omega), uN_n _ _ _ _ (by omega), uN_n _ _ _ _ (by omega), uN_s]
theorem bl_251 (hp : p < 10) : blowN A p b n c (251 + 4 * A 9) = b := by
  unfold blowN blow0
  rw [uN_n _ _ _ _ (by omega), uN_n _ _ _ _ (by omega), uN_n _ _ _ _ (by omega), uN_n _ _ _ _ (by omega), uN_s]
theorem bl_252 (hp : p < 10) : blowN A p b n c (252 + 4 * A 9) = n := by
  unfold blowN blow0
  rw [uN_n _ _ _ _ (by omega), uN_n _ _ _ _ (by omega), uN_n _ _ _ _ (by omega), uN_s]
theorem bl_253 (hp : p < 10) : blowN A p b n c (253 + 4 * A 9) = A 3 := by
  unfold blowN blow0
  rw [uN_n _ _ _ _ (by omega), uN_n _ _ _ _ (by omega), uN_s]
theorem bl_151 : blowN A p b n c (151 + 10 * p) = stN (blow0 A p b n c) (A 9 + 1) p (A (150 + 10 * p)) := by
  unfold blowN
  rw [uN_s]
end BLOWN
theorem sumP_s {A C : Nat → Nat} {m q : Nat} (hl : ∀ i, i < 4 * m → A (250 + i) = C (250 + i)) : sumP C (m + 1) q = sumP A m q + if C (250 + 4 * m) = q then C (252 + 4 * m) else 0 := by
  rw [sumP_congr (A := A) (B := C) hl]
  show sumP C m q + (if decide _ = true then _ else 0) = _
  simp only [decide_eq_true_eq]
theorem sumPB_s {A C : Nat → Nat} {m q d : Nat} (hl : ∀ i, i < 4 * m → A (250 + i) = C (250 + i)) : sumPB C (m + 1) q d = sumPB A m q d + if C (250 + 4 * m) = q ∧ C (251 + 4 * m) = d then C (252 + 4 * m) else 0 := by
  rw [sumPB_congr (A := A) (B := C) hl]
  show sumPB C m q d + (if decide _ = true then _ else 0) = _
  simp only [decide_eq_true_eq]
theorem sumBH_s {A C : Nat → Nat} {m d t : Nat} (hl : ∀ i, i < 4 * m → A (250 + i) = C (250 + i)) : sumBH C (m + 1) d t = sumBH A m d t + if C (251 + 4 * m) = d ∧ C (253 + 4 * m) = t then C (252 + 4 * m) else 0 := by
  rw [sumBH_congr (A := A) (B := C) hl]
  show sumBH C m d t + (if decide _ = true then _ else 0) = _
  simp only [decide_eq_true_eq]
theorem isSt_of {A C : Nat → Nat} {m m' q k s : Nat} (h1 : sumP C m' q = sumP A m q) (h2 : ∀ d, sumPB C m' q d = sumPB A m q d) (hk : A (40 + 3 * k) = C (40 + 3 * k) ∧ A (41 + 3 * k) = C (41 + 3 * k)) (hv : ∀ d, d < 6 → 0 < sumPB A m q d → A (11 + 5 * d) = C (11 + 5 * d)) (h : isSt A m q k s) : isSt C m' q k s := by
  have hs : sung A m q k ↔ sung C m' q k := by
    unfold sung
    rw [hk.2]
    refine forall_congr' (fun t => imp_congr Iff.rfl (exists_congr (fun d => ?_)))
    rw [h2]
    constructor
    · rintro ⟨a1, a2, a3⟩; exact ⟨a1, a2, (hv d a1 a2) ▸ a3⟩
    · rintro ⟨a1, a2, a3⟩; exact ⟨a1, a2, (hv d a1 a2).symm ▸ a3⟩
  unfold isSt at h ⊢
  rw [h1, ← hk.1, ← hs]
  exact h
def okB (A : Nat → Nat) (p b n sm co : Nat) : Prop := A (151 + 10 * p) = 0 ∧ A 9 < 40 ∧ A (13 + 5 * b) + n ≤ A (10 + 5 * b) ∧ sumH A (A 9) (A 3) + n ≤ sm ∧ n * co ≤ A (12 + 5 * b)
theorem Inv_blow {A : Nat → Nat} {p b n c : Nat} (h : Inv A) (hp : p < A 2) (hb : b < A 0) (n1 : 1 ≤ n) (n9 : n ≤ 9) (h9 : A 9 < 40) : Inv (blowN A p b n c) := by
  obtain ⟨b0, b1, b2, b3, b4, b5, b6, b7, b8, b9⟩ := h.b
  obtain ⟨o, hK⟩ := keepN_kept b6
  have hlog := h.log
  have hp' : p < 10 := (by omega)
  have hb' : b < 6 := (by omega)
  have eo : ∀ j, j ≠ 6 → j ≠ 9 → j ≠ 12 + 5 * b → j ≠ 13 + 5 * b → (j < 150 ∨ 250 ≤ j) → j < 250 + 4 * A 9 → blowN A p b n c j = A j := fun j j6 j9 j12 j13 jp jl => by rw [bl_o hp' hb' h9 j9 j12 j13 (by omega) (by omega) (by omega) (by omega), keepN_lo A (by omega) j6]
  have ep : ∀ q k, q < 10 → q ≠ p → k < 10 → blowN A p b n c (150 + 10 * q + k) = A (150 + 10 * q + k) := fun q k hq hne hk => by rw [bl_o hp' hb' h9 (by omega) (by omega) (by omega) (by omega) (by omega) (by omega) (by omega), keepN_lo A (by omega) (by omega)]
  have ll : ∀ i, i < 4 * A 9 → A (250 + i) = blowN A p b n c (250 + i) := fun i hi => (eo _ (by omega) (by omega) (by omega) (by omega) (by omega) (by omega)).symm
  have e0 := eo 0 (by omega) (by omega) (by omega) (by omega) (by omega) (by omega)
  have e1 := eo 1 (by omega) (by omega) (by omega) (by omega) (by omega) (by omega)
  have e2 := eo 2 (by omega) (by omega) (by omega) (by omega) (by omega) (by omega)
  have e3 := eo 3 (by omega) (by omega) (by omega) (by omega) (by omega) (by omega)
  have hbead : ∀ d, d < A 0 → blowN A p b n c (12 + 5 * d) ≤ 999 := fun d hd => by
    have := (h.2.1 d hd).2.2.2.1
    by_cases z : d = b
    · rw [z, bl_12 hp' hb' h9]; rw [z] at this; omega
    · rw [eo _ (by omega) (by omega) (by omega) (by omega) (by omega) (by omega)]; exact this
  refine Inv_step h hK (bl_o hp' hb' h9 (by omega) (by omega) (by omega) (by omega) (by omega) (by omega) (by omega)) (fun j hj => bl_o hp' hb' h9 (by omega) (by omega) (by omega) (by omega) (by omega) (by omega) (by omega)) (fun j hj => eo j (by omega) (by omega) (by omega) (by omega) (by omega) (by omega)) (fun i hi => (ll i hi).symm) (by rw [bl_9]; omega) hbead ?_
  have m0 := bl_250 (A := A) (b := b) (n := n) (c := c) hp'
  have m1 := bl_251 (A := A) (b := b) (n := n) (c := c) hp'
  have m2 := bl_252 (A := A) (b := b) (n := n) (c := c) hp'
  have m3 := bl_253 (A := A) (b := b) (n := n) (c := c) hp'
  refine Cons_live (by omega) (by omega) (by rw [bl_9]; omega) (by omega) (fun i hi => ?_) (fun d hd => hbead d (by omega)) (fun d hd => ?_) (fun q hq => ?_)
  · rw [bl_9] at hi
    rw [e0, e2, e3]
    by_cases z : i = A 9
    · rw [z, m0, m1, m2, m3]; omega
    · have := hlog i (by omega)
      rw [eo (250 + 4 * i) (by omega) (by omega) (by omega) (by omega) (by omega) (by omega), eo (251 + 4 * i) (by omega) (by omega) (by omega) (by omega) (by omega) (by omega), eo (252 + 4 * i) (by omega) (by omega) (by omega) (by omega) (by omega) (by omega), eo (253 + 4 * i) (by omega) (by omega) (by omega) (by omega) (by omega) (by omega)]
      exact this
  · rw [e0] at hd
    have := h.now.2.2.2.2.2.2.1 d hd
    rw [live_g _ (by omega), live_2, live_0] at this
    rw [bl_9, e3, sumBH_s ll, m1, m2, m3, ← this]
    by_cases z : d = b
    · rw [z, bl_13 hp' hb' h9, if_pos ⟨rfl, rfl⟩]
    · rw [eo _ (by omega) (by omega) (by omega) (by omega) (by omega) (by omega), if_neg (fun w => z w.1.symm), Nat.add_zero]
  · rw [e2] at hq
    obtain ⟨d1, d2, d3, d4, d5⟩ := h.piece hq
    rw [bl_9, e1]
    by_cases z : q = p
    · subst z
      have ek : blowN A q b n c (150 + 10 * q) = A (150 + 10 * q) := by rw [bl_o hp' hb' h9 (by omega) (by omega) (by omega) (by omega) (by omega) (by omega) (by omega), keepN_lo A (by omega) (by omega)]
      have es : blowN A q b n c (153 + 10 * q) = A (153 + 10 * q) := by rw [bl_o hp' hb' h9 (by omega) (by omega) (by omega) (by omega) (by omega) (by omega) (by omega), keepN_lo A (by omega) (by omega)]
      rw [ek, es, bl_151, bl_152 hp' hb' h9]
      refine ⟨d1, ?_, ?_, d4, fun d hd => ?_⟩
      · have c0 : ∀ j, j ≠ 151 + 10 * q → blow0 A q b n c j = blowN A q b n c j := fun j hj => (uN_n _ _ _ _ hj).symm
        exact isSt_of (sumP_congr (fun i hi => (c0 _ (by omega)).symm)) (fun d => sumPB_congr (fun i hi => (c0 _ (by omega)).symm)) ⟨c0 _ (by omega), c0 _ (by omega)⟩ (fun d hd _ => c0 _ (by omega)) (stN_is _ _ _ _)
      · rw [sumP_s ll, m0, m2, if_pos rfl, d3]
      · rw [sumPB_s ll, m0, m1, m2, ← d5 d hd]
        by_cases z2 : d = b
        · rw [z2, bl_154 hp' hb' h9, if_pos ⟨rfl, rfl⟩]
        · rw [bl_o hp' hb' h9 (by omega) (by omega) (by omega) (by omega) (by omega) (by omega) (by omega), keepN_lo A (by omega) (by omega), if_neg (fun w => z2 w.2.symm), Nat.add_zero]
    · have q0 := ep q 0 (by omega) z (by omega)
      have q1 := ep q 1 (by omega) z (by omega)
      have q2 := ep q 2 (by omega) z (by omega)
      have q3 := ep q 3 (by omega) z (by omega)
      rw [show 151 + 10 * q = 150 + 10 * q + 1 by omega, show 152 + 10 * q = 150 + 10 * q + 2 by omega, show 153 + 10 * q = 150 + 10 * q + 3 by omega, q1, q2, q3]
      rw [show 150 + 10 * q + 0 = 150 + 10 * q by omega] at q0
      rw [q0]
      have sP : sumP (blowN A p b n c) (A 9 + 1) q = sumP A (A 9) q := by rw [sumP_s ll, m0, if_neg (fun w => z w.symm), Nat.add_zero]
      have sB : ∀ d, sumPB (blowN A p b n c) (A 9 + 1) q d = sumPB A (A 9) q d := fun d => by rw [sumPB_s ll, m0, if_neg (fun w => z w.1.symm), Nat.add_zero]
      rw [show 151 + 10 * q = 150 + 10 * q + 1 by omega] at d2
      rw [show 152 + 10 * q = 150 + 10 * q + 2 by omega] at d3
      rw [show 153 + 10 * q = 150 + 10 * q + 3 by omega] at d4
      refine ⟨d1, isSt_of sP sB ⟨(eo _ (by omega) (by omega) (by omega) (by omega) (by omega) (by omega)).symm, (eo _ (by omega) (by omega) (by omega) (by omega) (by omega) (by omega)).symm⟩ (fun d hd _ => (eo _ (by omega) (by omega) (by omega) (by omega) (by omega) (by omega)).symm) d2, by rw [sP]; exact d3, d4, fun d hd => ?_⟩
      have := d5 d hd
      rw [show 154 + 10 * q + d = 150 + 10 * q + (4 + d) by omega] at this ⊢
      rw [ep q (4 + d) (by omega) z (by omega), sB]; exact this
theorem nsubs {a c : Nat} (h : c ≤ a) : nI (a - c) - nI a = -nI c := by
  rw [Int32.sub_eq_iff_eq_add, Int32.add_comm, ← Int32.sub_eq_add_neg, nsub h]
theorem sumH_le {A : Nat → Nat} (h : Inv A) (t : Nat) : sumH A (A 9) t ≤ 360 := by
  have h1 := sumR_le (q := fun i => decide (A (253 + 4 * i) = t)) (w := fun i => A (252 + 4 * i)) (B := 9) (m := A 9) (fun i hi => (h.log i hi).2.2.2.1)
  have := h.b
  unfold sumH
  omega
theorem sumBH_le {A : Nat → Nat} (h : Inv A) (d t : Nat) : sumBH A (A 9) d t ≤ 360 := by
  have h1 := sumR_le (q := fun i => decide (A (251 + 4 * i) = d ∧ A (253 + 4 * i) = t)) (w := fun i => A (252 + 4 * i)) (B := 9) (m := A 9) (fun i hi => (h.log i hi).2.2.2.1)
  have := h.b
  unfold sumBH
  omega
theorem c_log {Post : XS → Prop} {S : XS} {A : Nat → Nat} {p b n : Nat} (hB : rxBench S.1 S.2.1 A) (h9 : A 9 < 40) (h : ∀ S', (∀ k, k ≠ 356 → S'.1 k = S.1 k) → (∀ k, k ≠ 14 → S'.2.1 k = S.2.1 k) → S'.2.2 = S.2.2 → S'.1 356 = nI (A 9 + 1) → (∀ i, i < 4 * A 9 → S'.2.1 14 i = S.2.1 14 i) → S'.2.1 14 (4 * A 9) = nI p → S'.2.1 14 (4 * A 9 + 1) = nI b → S'.2.1 14 (4 * A 9 + 2) = nI n → S'.2.1 14 (4 * A 9 + 3) = nI (A 3) → Post S') : VC_X0_logBubble_11 Post (nI p) (nI b) (nI n) S := by
  have e356 := hB.2.2.1
  unfold VC_X0_logBubble_11
  rw [e356, L40, nle (by omega) (by omega)]
  refine ⟨fun z => absurd z (by omega), fun _ => ?_⟩
  have k0 : ∀ S : XS, S.1 356 = nI (A 9) → 4 * S.1 356 = nI (4 * A 9) ∧ 4 * S.1 356 + 1 = nI (4 * A 9 + 1) ∧ 4 * S.1 356 + 2 = nI (4 * A 9 + 2) ∧ 4 * S.1 356 + 3 = nI (4 * A 9 + 3) := fun S e => by
    rw [e, L4, nmul, L1, L2, L3, nadd, nadd, nadd]; exact ⟨rfl, rfl, rfl, rfl⟩
  have ex := (k0 S e356).1
  rw [e356] at ex
  rw [ex]
  refine ⟨vp_in_nI (by omega) (by decide), fun S1 e1 => ?_⟩
  have s1 : S1.1 = S.1 := by rw [e1, xF_i]
  rw [(k0 S1 (by rw [s1]; exact e356)).2.1]
  refine ⟨vp_in_nI (by omega) (by decide), fun S2 e2 => ?_⟩
  have s2 : S2.1 = S.1 := by rw [e2, xF_i, s1]
  rw [(k0 S2 (by rw [s2]; exact e356)).2.2.1]
  refine ⟨vp_in_nI (by omega) (by decide), fun S3 e3 v4 e4 => ?_⟩
  have s3 : S3.1 = S.1 := by rw [e3, xF_i, s2]
  rw [s3, hB.1] at e4
  rw [(k0 S3 (by rw [s3]; exact e356)).2.2.2]
  refine ⟨vp_in_nI (by omega) (by decide), fun S5 e5 v6 e6 S7 e7 => ?_⟩
  have s5 : S5.1 = S.1 := by rw [e5, xF_i, s3]
  rw [s5, e356, L1, nadd] at e6
  rw [ncl (by omega)] at e1 e2 e3 e5
  have f1 : S1.2.1 14 = upd (S.2.1 14) (4 * A 9) (nI p) := by rw [e1, xF_s]
  have f2 : S2.2.1 14 = upd (upd (S.2.1 14) (4 * A 9) (nI p)) (4 * A 9 + 1) (nI b) := by rw [e2, xF_s, f1]
  have f3 : S3.2.1 14 = upd (upd (upd (S.2.1 14) (4 * A 9) (nI p)) (4 * A 9 + 1) (nI b)) (4 * A 9 + 2) (nI n) := by rw [e3, xF_s, f2]
  have f7 : S7.2.1 14 = upd (upd (upd (upd (S.2.1 14) (4 * A 9) (nI p)) (4 * A 9 + 1) (nI b)) (4 * A 9 + 2) (nI n)) (4 * A 9 + 3) (nI (A 3)) := by rw [e7, xI_f, e5, xF_s, f3, e4]
  refine h S7 (fun k hk => by rw [e7, xI_n _ _ hk, s5]) (fun k hk => by rw [e7, xI_f, e5, xF_o _ _ _ _ hk, e3, xF_o _ _ _ _ hk, e2, xF_o _ _ _ _ hk, e1, xF_o _ _ _ _ hk]) (by rw [e7, xI_f, e5, xF_22, e3, xF_22, e2, xF_22, e1, xF_22]) (by rw [e7, xI_s, e6]) (fun i hi => by rw [f7, upd_n _ _ (by omega), upd_n _ _ (by omega), upd_n _ _ (by omega), upd_n _ _ (by omega)]) (by rw [f7, upd_n _ _ (by omega), upd_n _ _ (by omega), upd_n _ _ (by omega), upd_s]) (by rw [f7, upd_n _ _ (by omega), upd_n _ _ (by omega), upd_s]) (by rw [f7, upd_n _ _ (by omega), upd_s]) (by rw [f7, upd_s])
section BLOW
variable {A : Nat → Nat} {x : XS} {y : MS} {o0 o1 : LAW}
theorem c_blow {Post : Int32 → XS → Prop} {a0 a1 a2 : Int32} (hI : Inv A) (hx : RX x.1 x.2.1 A) (j0 : JTc x.2.2 (x.1 38) (x.1 39) 0 o0) (j1 : JTc x.2.2 (x.1 38) (x.1 39) 1 o1) (l0 : ∀ p, o0 = some p → ∀ v, p v ≤ topL 0) (l1 : ∀ p, o1 = some p → ∀ v, p v ≤ topL 1)
    (h1 : ∀ p b n x', p < A 2 → b < A 0 → 1 ≤ n → n ≤ 9 → a0 = nI p → a1 = nI b → a2 = nI n → okB A p b n (smV o0 (A 3)) (coV o1 A b (A 3)) → XFr x x' → RX x'.1 x'.2.1 (blowN A p b n (n * coV o1 A b (A 3))) → Post (nI (blowN A p b n (n * coV o1 A b (A 3)) (151 + 10 * p))) x')
    (h0 : ∀ x', ¬ (∃ p b n, p < A 2 ∧ b < A 0 ∧ 1 ≤ n ∧ n ≤ 9 ∧ a0 = nI p ∧ a1 = nI b ∧ a2 = nI n ∧ okB A p b n (smV o0 (A 3)) (coV o1 A b (A 3))) → JFr x x' → Post (-1) x') : VC_X11_addBubble_0 Post a0 a1 a2 x := by
  obtain ⟨b0, b1, b2, b3, b4, b5, b6, b7, b8, b9⟩ := hI.b
  obtain ⟨r1, r2, r3, r4, r5, r6⟩ := id hx
  refine c_stateOf hI r1 r2 r3 (fun p hp e0 => ?_) (fun hn => ⟨fun _ => h0 x (fun ⟨p, b, n, z1, z2, z3, z4, z5, _⟩ => hn ⟨p, z1, z5⟩) (JFr.refl x), fun z => absurd z (by decide)⟩)
  subst e0
  have uq : ∀ p', p' < A 2 → nI p = nI p' → p' = p := fun p' hp' e => ((nI_eq (by omega) (by omega)).mp e).symm
  have hst2 : A (151 + 10 * p) ≤ 2 := by
    rcases (hI.piece hp).2.1 with ⟨-, z⟩ | ⟨-, -, z⟩ | ⟨-, -, z⟩ <;> omega
  rw [L0, neq (by omega) (by omega)]
  refine ⟨fun ne => h0 x (fun ⟨p', b, n, z1, z2, z3, z4, z5, z6, z7, z8⟩ => ne (by rw [← uq p' z1 z5]; exact z8.1)) (JFr.refl x), fun st0 => ?_⟩
  refine hasB r1.1 (by omega) (fun i1 => ⟨fun z => absurd z (by decide), fun _ => ?_⟩) (fun hn => ⟨fun _ => h0 x (fun ⟨p', b, n, z1, z2, z3, z4, z5, z6, z7, z8⟩ => hn ⟨b, z2, z6⟩) (JFr.refl x), fun z => absurd rfl z⟩)
  obtain ⟨b, hb, rfl⟩ := i1
  have ub : ∀ b', b' < A 0 → nI b = nI b' → b' = b := fun b' hb' e => ((nI_eq (by omega) (by omega)).mp e).symm
  refine wFrom (l := 1) (h := 9) (h1 := fun i2 => ⟨fun z => absurd z (by decide), fun _ => ?_⟩) (h0 := fun hn => ⟨fun _ => h0 x (fun ⟨p', b', n, z1, z2, z3, z4, z5, z6, z7, z8⟩ => hn ⟨n, z3, z4, z7⟩) (JFr.refl x), fun z => absurd rfl z⟩)
  obtain ⟨n, n1, n9, rfl⟩ := i2
  have un : ∀ n', n' ≤ 9 → nI n = nI n' → n' = n := fun n' hn' e => ((nI_eq (by omega) (by omega)).mp e).symm
  have no : ∀ x', ¬ okB A p b n (smV o0 (A 3)) (coV o1 A b (A 3)) → JFr x x' → Post (-1) x' := fun x' hn fx => h0 x' (fun ⟨p', b', n', z1, z2, z3, z4, z5, z6, z7, z8⟩ => hn (by rw [← uq p' z1 z5, ← un n' z4 z7, ← ub b' z2 z6]; exact z8)) fx
  rw [r3.2.2.1, L40, nlt (by omega) (by omega)]
  refine ⟨fun h40 => ?_, fun h40 => no x (fun z => h40 z.2.1) (JFr.refl x)⟩
  rw [r3.1]
  have co99 := coV_le l1 A b (A 3)
  have sm40 := smV_le l0 (A 3)
  refine c_cost j1 hI r1 hb (by omega) (fun x1 f1 v8 e8 => ?_)
  rw [nmul] at e8
  have hx1 := f1.R hI hx
  have hg := hI.now.2.2.2.2.2.2.1 b hb
  rw [live_g _ (by omega), live_2, live_0] at hg
  have inb : vp_in (nI b) 6 := vp_in_nI (by omega) (by decide)
  have crew := hI.2.1 b hb
  have sH := sumH_le hI (A 3)
  have sB := sumBH_le hI b (A 3)
  have pr : n * coV o1 A b (A 3) ≤ 9 * 99 := Nat.mul_le_mul n9 co99
  refine c_sumBH (b := b) (t := A 3) hI hx1.2.2.1 rfl rfl hx1.2.2.1.1 (by omega) (by omega) ⟨inb, ?_⟩
  rw [ncl (by omega), (hx1.1.2 b hb).1, ← hg, nadd, nlt (by omega) (by omega)]
  refine ⟨fun hlt => no x1 (fun z => absurd z.2.2.1 (by omega)) f1, fun hge => ?_⟩
  refine c_sumH (t := A 3) hI hx1.2.2.1 rfl rfl hx1.2.2.1.1 (by omega) ?_
  rw [hx1.2.2.1.1]
  have j0' : JTc x1.2.2 (x1.1 38) (x1.1 39) 0 o0 := by rw [f1.2.2, f1.1 38 (by decide), f1.1 39 (by decide)]; exact j0
  refine c_smoke j0' (by omega) (fun x2 f2 => ?_)
  have f12 := f1.trans f2
  have hx2 := f12.R hI hx
  rw [nadd, nlt (by omega) (by omega)]
  refine ⟨fun hlt => no x2 (fun z => absurd z.2.2.2.1 (by omega)) f12, fun hge2 => ⟨inb, ?_⟩⟩
  rw [(hx2.1.2 b hb).2.2.1, e8, nle (by omega) (by omega)]
  refine ⟨fun hpr => ?_, fun hpr => no x2 (fun z => hpr z.2.2.2.2) f12⟩
  have ok : okB A p b n (smV o0 (A 3)) (coV o1 A b (A 3)) := ⟨st0, h40, (by omega), (by omega), hpr⟩
  generalize hc : n * coV o1 A b (A 3) = c at *
  have hp' : p < 10 := (by omega)
  have hb' : b < 6 := (by omega)
  have hI2 := Inv_blow (c := c) hI hp hb n1 n9 h40
  obtain ⟨t1, t2, t3, ⟨s1, f, s2, s3, s4⟩, t5, t6⟩ := hx2
  obtain ⟨o, hK⟩ := keepN_kept b6
  refine c_log t3 h40 (fun x3 u1 u2 u3 u4 u5 u6 u7 u8 u9 => ?_)
  refine c_push (s := A 6) (f := f) b6 s2 (by rw [u1 _ (by decide)]; exact s1) (by rw [u1 _ (by decide)]; exact s3) (fun x4 o' k1 r ho' hk1 hr i1 f4 g4 p1 p0 ph pw pp pb => ?_)
  have eo' : o' = o := by have := hK.1; omega
  subst eo'
  have hr2 : r ≤ 232 := (by omega)
  have ar : (nI r + 2) + nI b = nI (r + 2 + b) := by rw [L2, nadd, nadd]
  refine ⟨inb, fun v1 d1 => ⟨inb, fun x5 d5 => ⟨by rw [ar]; exact vp_in_nI (by omega) (by decide), fun x6 d6 => ?_⟩⟩⟩
  rw [ncl (by omega), f4 5 (by decide), u2 5 (by decide), (t1.2 b hb).2.2.1, nneg hpr] at d1
  rw [ncl (by omega), d1, f4 5 (by decide), u2 5 (by decide)] at d5
  have g16 : x5.2.1 16 = x4.2.1 16 := by rw [d5, xF_o _ _ _ _ (by decide)]
  rw [ar, ncl (by omega), g16] at d6
  have I6 : ∀ j, j ≠ 356 → j ≠ 480 → j ≠ 481 → x6.1 j = x2.1 j := fun j z1 z2 z3 => by rw [d6, xF_i, d5, xF_i, i1 j z2 z3, u1 j z1]
  have F6 : ∀ j, j ≠ 5 → j ≠ 14 → j ≠ 16 → x6.2.1 j = x2.2.1 j := fun j z1 z2 z3 => by rw [d6, xF_o _ _ _ _ z3, d5, xF_o _ _ _ _ z1, f4 j z3, u2 j z2]
  have F5 : x6.2.1 5 = upd (x2.2.1 5) b (nI (A (12 + 5 * b) - c)) := by rw [d6, xF_o _ _ _ _ (by decide), d5, xF_s]
  have F14 : x6.2.1 14 = x3.2.1 14 := by rw [d6, xF_o _ _ _ _ (by decide), d5, xF_o _ _ _ _ (by decide), f4 14 (by decide)]
  have F16 : x6.2.1 16 = upd (x4.2.1 16) (r + 2 + b) (-nI c) := by rw [d6, xF_s]
  have G6 : x6.2.2 = x2.2.2 := by rw [d6, xF_22, d5, xF_22, g4, u3]
  have fx : XFr x x6 := by
    refine f12.X.trans ⟨?_, ?_, G6, F6 42 (by decide) (by decide) (by decide), I6 _ (by decide) (by decide) (by decide), I6 _ (by decide) (by decide) (by decide), I6 _ (by decide) (by decide) (by decide), I6 _ (by decide) (by decide) (by decide)⟩
    · funext j; unfold kI; split
      · rw [I6 _ (by omega) (by omega) (by omega)]
      · rfl
    · funext j; unfold kF; split
      · rw [F6 _ (by omega) (by omega) (by omega)]
      · rfl
  have eo : ∀ j, j ≠ 6 → j ≠ 9 → j ≠ 12 + 5 * b → j ≠ 13 + 5 * b → (j < 150 ∨ 250 ≤ j) → j < 250 + 4 * A 9 → blowN A p b n c j = A j := fun j j6 j9 j12 j13 jp jl => by rw [bl_o hp' hb' h40 j9 j12 j13 (by omega) (by omega) (by omega) (by omega), keepN_lo A (by omega) j6]
  have ek : ∀ q, q < 10 → blowN A p b n c (150 + 10 * q) = A (150 + 10 * q) := fun q hq => by rw [bl_o hp' hb' h40 (by omega) (by omega) (by omega) (by omega) (by omega) (by omega) (by omega), keepN_lo A (by omega) (by omega)]
  have es : ∀ q, q < 10 → blowN A p b n c (153 + 10 * q) = A (153 + 10 * q) := fun q hq => by rw [bl_o hp' hb' h40 (by omega) (by omega) (by omega) (by omega) (by omega) (by omega) (by omega), keepN_lo A (by omega) (by omega)]
  have hx6 : RX x6.1 x6.2.1 (blowN A p b n c) := by
    refine ⟨⟨by rw [I6 64 (by decide) (by decide) (by decide), eo 0 (by omega) (by omega) (by omega) (by omega) (by omega) (by omega)]; exact t1.1, fun i hi => ?_⟩, rxWares_of t2 b1 (I6 224 (by decide) (by decide) (by decide)) (fun j _ _ _ => F6 j (by omega) (by omega) (by omega)) (fun j hj => eo j (by omega) (by omega) (by omega) (by omega) (by omega) (by omega)), ⟨by rw [I6 352 (by decide) (by decide) (by decide), eo 3 (by omega) (by omega) (by omega) (by omega) (by omega) (by omega)]; exact t3.1, by rw [I6 353 (by decide) (by decide) (by decide), eo 2 (by omega) (by omega) (by omega) (by omega) (by omega) (by omega)]; exact t3.2.1, ?_, fun q hq => ?_, fun i hi => ?_⟩, ?_, rxTalk_of t5 b7 b8 ⟨I6 544 (by decide) (by decide) (by decide), I6 546 (by decide) (by decide) (by decide)⟩ (fun j _ _ => F6 j (by omega) (by omega) (by omega)) (fun j hj => eo j (by omega) (by omega) (by omega) (by omega) (by omega) (by omega)), rxText_of t6 ⟨I6 38 (by decide) (by decide) (by decide), I6 39 (by decide) (by decide) (by decide)⟩ ⟨eo 4 (by omega) (by omega) (by omega) (by omega) (by omega) (by omega), eo 5 (by omega) (by omega) (by omega) (by omega) (by omega) (by omega)⟩⟩
    · rw [eo 0 (by omega) (by omega) (by omega) (by omega) (by omega) (by omega)] at hi
      obtain ⟨q1, q2, q3, q4⟩ := t1.2 i hi
      rw [F6 3 (by decide) (by decide) (by decide), F6 4 (by decide) (by decide) (by decide), F6 6 (by decide) (by decide) (by decide), F5, eo (10 + 5 * i) (by omega) (by omega) (by omega) (by omega) (by omega) (by omega), eo (11 + 5 * i) (by omega) (by omega) (by omega) (by omega) (by omega) (by omega), eo (14 + 5 * i) (by omega) (by omega) (by omega) (by omega) (by omega) (by omega)]
      refine ⟨q1, q2, ?_, q4⟩
      by_cases z : i = b
      · rw [z, upd_s, bl_12 hp' hb' h40]
      · rw [upd_n _ _ z, eo _ (by omega) (by omega) (by omega) (by omega) (by omega) (by omega)]; exact q3
    · rw [d6, xF_i, d5, xF_i, i1 356 (by decide) (by decide), u4, bl_9]
    · rw [eo 2 (by omega) (by omega) (by omega) (by omega) (by omega) (by omega)] at hq
      rw [F6 12 (by decide) (by decide) (by decide), F6 13 (by decide) (by decide) (by decide), ek q (by omega), es q (by omega)]; exact t3.2.2.2.1 q hq
    · rw [bl_9] at hi
      rw [F14]
      by_cases z : i < 4 * A 9
      · rw [u5 i z, eo _ (by omega) (by omega) (by omega) (by omega) (by omega) (by omega)]; exact t3.2.2.2.2 i z
      · have : i = 4 * A 9 ∨ i = 4 * A 9 + 1 ∨ i = 4 * A 9 + 2 ∨ i = 4 * A 9 + 3 := (by omega)
        rcases this with w | w | w | w <;> subst w
        · rw [u6, bl_250 hp']
        · rw [u7, show 250 + (4 * A 9 + 1) = 251 + 4 * A 9 by omega, bl_251 hp']
        · rw [u8, show 250 + (4 * A 9 + 2) = 252 + 4 * A 9 by omega, bl_252 hp']
        · rw [u9, show 250 + (4 * A 9 + 3) = 253 + 4 * A 9 by omega, bl_253 hp']
    · refine rxSteps_push (I := x2.1) (F := x2.2.1) hI hK (bl_o hp' hb' h40 (by omega) (by omega) (by omega) (by omega) (by omega) (by omega) (by omega)) (fun j hj => bl_o hp' hb' h40 (by omega) (by omega) (by omega) (by omega) (by omega) (by omega) (by omega)) s4 hk1 hr (by rw [d6, xF_i, d5, xF_i, p1]) (by rw [d6, xF_i, d5, xF_i, p0]) (fun i hi => by rw [F16, upd_n _ _ (by omega), ph i hi, u2 16 (by decide)]) ?_
      refine ⟨1, by rw [F16, upd_n _ _ (by omega), pw]; rfl, (by omega), fun z => absurd z (by decide), fun _ => ⟨?_, ?_, ?_⟩, fun z => absurd z (by decide), fun z => absurd z (by decide), fun _ q hq => ?_, fun q hq => ?_, ?_, fun d hd => ?_, fun d hd hd2 => ?_⟩
      · rw [live_1, live_1, eo 2 (by omega) (by omega) (by omega) (by omega) (by omega) (by omega)]
      · rw [live_2, live_2, bl_9]
      · rw [live_0, live_0, eo 3 (by omega) (by omega) (by omega) (by omega) (by omega) (by omega)]
      · rw [live_1] at hq
        rw [show 19 + 10 * q = 16 + (10 * q + 3) by omega, live_p, live_p, show 150 + (10 * q + 3) = 153 + 10 * q by omega, es q (by omega)]
      · rw [live_1] at hq
        rw [live_p, live_p, ek q (by omega)]
      · rw [live_3, live_3, eo 0 (by omega) (by omega) (by omega) (by omega) (by omega) (by omega)]; omega
      · rw [live_3] at hd
        rw [F16, live_b _ (by omega), live_b _ (by omega)]
        by_cases z : d = b
        · rw [z, upd_s, bl_12 hp' hb' h40, nsubs hpr]
        · rw [upd_n _ _ (by omega), pb d (by omega), eo _ (by omega) (by omega) (by omega) (by omega) (by omega) (by omega), Int32.sub_self]
      · rw [live_3] at hd
        rw [F16, upd_n _ _ (by omega), pb d hd2]
  refine c_stateOf hI2 hx6.1 hx6.2.1 hx6.2.2.1 (fun p' hp2 e' => ?_) (fun z => absurd ⟨p, by rw [eo 2 (by omega) (by omega) (by omega) (by omega) (by omega) (by omega)]; exact hp, rfl⟩ z)
  rw [eo 2 (by omega) (by omega) (by omega) (by omega) (by omega) (by omega)] at hp2
  rw [uq p' hp2 e', ← hc]
  exact h1 p b n x6 hp hb n1 n9 rfl rfl rfl (by rw [hc] at *; exact ok) fx (by rw [hc]; exact hx6)
theorem r_all {Post : Int32 → MS → Prop} {S : MS} (h6 : A 0 ≤ 6) (e : S.2.2.1 0 = enc A) (h : Post (nI (sumR (fun _ => true) (fun d => A (13 + 5 * d)) (A 0))) S) : VC_givenByAll Post S := by
  intro K hK
  have c0 : S.2.2.1 0 (0 : Int32).toNatClampNeg = nI (A 0) := enc_cell (k := 0) e (by decide) (by decide)
  have loop : ∀ k i : Nat, i + k = A 0 → K (nI (sumR (fun _ => true) (fun d => A (13 + 5 * d)) i), nI i) S := by
    intro k
    induction k with
    | zero =>
      intro i hi
      have ei : i = A 0 := (by omega)
      exact hK _ _ ⟨litIn 0 (by decide) (by decide), fun _ => by rw [ei]; exact h, fun z => absurd (by rw [c0, ei]; exact Int32.le_refl _) z⟩
    | succ k ih =>
      intro i hi
      refine hK _ _ ⟨litIn 0 (by decide) (by decide), fun z => absurd z (by rw [c0]; exact nI_ge (by omega) (by omega)), fun _ => mget e rfl L3 (by omega) (by omega) (fun v3 e3 v4 e4 => ?_)⟩
      rw [e3, e4, nI_1, nadd, show 10 + 5 * i + 3 = 13 + 5 * i by omega]
      exact ih (i + 1) (by omega)
  exact loop (A 0) 0 (by omega)
theorem r_voices {Post : Int32 → MS → Prop} {S : MS} {p : Nat} (h6 : A 0 ≤ 6) (hp : p < 10) (hv : ∀ d, d < A 0 → A (11 + 5 * d) ≤ 3) (hg : ∀ d, d < A 0 → A (154 + 10 * p + d) < 2147483648) (e : S.2.2.1 0 = enc A) (h : Post (nI (setR (fun d => decide (0 < A (154 + 10 * p + d))) (fun d => A (11 + 5 * d)) (A 0))) S) : VC_voicesOf Post (nI p) S := by
  intro K hK
  have c0 : S.2.2.1 0 (0 : Int32).toNatClampNeg = nI (A 0) := enc_cell (k := 0) e (by decide) (by decide)
  have loop : ∀ k i : Nat, i + k = A 0 → K (nI p, nI (setR (fun d => decide (0 < A (154 + 10 * p + d))) (fun d => A (11 + 5 * d)) i), nI i) S := by
    intro k
    induction k with
    | zero =>
      intro i hi
      have ei : i = A 0 := (by omega)
      exact hK _ _ ⟨litIn 0 (by decide) (by decide), fun _ => by rw [ei]; exact h, fun z => absurd (by rw [c0, ei]; exact Int32.le_refl _) z⟩
    | succ k ih =>
      intro i hi
      have nx := ih (i + 1) (by omega)
      have hgi := hg i (by omega)
      have hvi := hv i (by omega)
      refine hK _ _ ⟨litIn 0 (by decide) (by decide), fun z => absurd z (by rw [c0]; exact nI_ge (by omega) (by omega)), fun _ => mgave e rfl rfl hp (by omega) ?_⟩
      rw [L0, nle hgi (by omega)]
      refine ⟨fun hle v3 e3 v4 e4 => ?_, fun hgt => mget e rfl L1 (by omega) (by omega) (fun v7 e7 v8 e8 => ?_)⟩
      · rw [e3, e4, nI_1, nor, Nat.or_zero]
        have : setR (fun d => decide (0 < A (154 + 10 * p + d))) (fun d => A (11 + 5 * d)) (i + 1) = setR (fun d => decide (0 < A (154 + 10 * p + d))) (fun d => A (11 + 5 * d)) i := by
          show (if _ then _ else _) = _
          rw [if_neg (by simp; omega)]
        rw [this] at nx; exact nx
      · rw [show 10 + 5 * i + 1 = 11 + 5 * i by omega, L31] at e7
        have e7' : v7 = nI (setR (fun d => decide (0 < A (154 + 10 * p + d))) (fun d => A (11 + 5 * d)) i ||| 2 ^ A (11 + 5 * i)) := by
          rw [e7, L1, nshl1 (by omega), nor]
        rw [e7', e8, nI_1]
        have : setR (fun d => decide (0 < A (154 + 10 * p + d))) (fun d => A (11 + 5 * d)) (i + 1) = setR (fun d => decide (0 < A (154 + 10 * p + d))) (fun d => A (11 + 5 * d)) i ||| 2 ^ A (11 + 5 * i) := by
          show (if _ then _ else _) = _
          rw [if_pos (by simp; omega)]
        rw [this] at nx; exact nx
  exact loop (A 0) 0 (by omega)
theorem r_blow {Post : Int32 → MS → Prop} {a0 a1 a2 : Int32} (hI : Inv A) (hy : y.2.2.1 0 = enc A) (j0 : JTr (y.2.2.1 2) (A 5) 0 o0) (j1 : JTr (y.2.2.1 2) (A 5) 1 o1) (l0 : ∀ p, o0 = some p → ∀ v, p v ≤ topL 0) (l1 : ∀ p, o1 = some p → ∀ v, p v ≤ topL 1)
    (h1 : ∀ p b n y', p < A 2 → b < A 0 → 1 ≤ n → n ≤ 9 → a0 = nI p → a1 = nI b → a2 = nI n → okB A p b n (smV o0 (A 3)) (coV o1 A b (A 3)) → KFr y y' → Post (nI (blowN A p b n (n * coV o1 A b (A 3)) (151 + 10 * p))) (sF y' 0 (enc (blowN A p b n (n * coV o1 A b (A 3))))))
    (h0 : ∀ y', ¬ (∃ p b n, p < A 2 ∧ b < A 0 ∧ 1 ≤ n ∧ n ≤ 9 ∧ a0 = nI p ∧ a1 = nI b ∧ a2 = nI n ∧ okB A p b n (smV o0 (A 3)) (coV o1 A b (A 3))) → KFr y y' → Post (-1) y') : VC_blow Post a0 a1 a2 y := by
  obtain ⟨b0, b1, b2, b3, b4, b5, b6, b7, b8, b9⟩ := hI.b
  have l : ∀ k : Nat, k < 3890 → vp_in (nI k) 3890 := fun k hk => vp_in_nI hk (by decide)
  intro K hK
  refine mP hy (by omega) (fun i0 => ⟨fun z => absurd z (by decide), fun _ => ?_⟩) (fun hn => ⟨fun _ => h0 y (fun ⟨p, b, n, z1, z2, z3, z4, z5, _⟩ => hn ⟨p, z1, z5⟩) (KFr.refl y), fun z => absurd rfl z⟩)
  refine mB hy (by omega) (fun i1 => ⟨fun z => absurd z (by decide), fun _ => ?_⟩) (fun hn => ⟨fun _ => h0 y (fun ⟨p', b, n, z1, z2, z3, z4, z5, z6, z7, z8⟩ => hn ⟨b, z2, z6⟩) (KFr.refl y), fun z => absurd rfl z⟩)
  refine mFrom (l := 1) (h := 9) (h1 := fun i2 => ⟨fun z => absurd z (by decide), fun _ => ?_⟩) (h0 := fun hn => ⟨fun _ => h0 y (fun ⟨p', b', n, z1, z2, z3, z4, z5, z6, z7, z8⟩ => hn ⟨n, z3, z4, z7⟩) (KFr.refl y), fun z => absurd rfl z⟩)
  obtain ⟨p, hp, rfl⟩ := i0
  obtain ⟨b, hb, rfl⟩ := i1
  obtain ⟨n, n1, n9, rfl⟩ := i2
  have uq : ∀ p', p' < A 2 → nI p = nI p' → p' = p := fun p' hp' e => ((nI_eq (by omega) (by omega)).mp e).symm
  have ub : ∀ b', b' < A 0 → nI b = nI b' → b' = b := fun b' hb' e => ((nI_eq (by omega) (by omega)).mp e).symm
  have un : ∀ n', n' ≤ 9 → nI n = nI n' → n' = n := fun n' hn' e => ((nI_eq (by omega) (by omega)).mp e).symm
  have no : ∀ y', ¬ okB A p b n (smV o0 (A 3)) (coV o1 A b (A 3)) → KFr y y' → Post (-1) y' := fun y' hn fy => h0 y' (fun ⟨p', b', n', z1, z2, z3, z4, z5, z6, z7, z8⟩ => hn (by rw [← uq p' z1 z5, ← un n' z4 z7, ← ub b' z2 z6]; exact z8)) fy
  have hst2 : A (151 + 10 * p) ≤ 2 := by
    rcases (hI.piece hp).2.1 with ⟨-, z⟩ | ⟨-, -, z⟩ | ⟨-, -, z⟩ <;> omega
  have q0 : 150 + 10 * nI p = nI (150 + 10 * p) := by rw [L150, L10, nmul, nadd]
  have q1 : nI (150 + 10 * p) + 1 = nI (151 + 10 * p) := by rw [L1, nadd]; congr 1; omega
  have q2 : nI (150 + 10 * p) + 2 = nI (152 + 10 * p) := by rw [L2, nadd]; congr 1; omega
  have q4 : (nI (150 + 10 * p) + 4) + nI b = nI (154 + 10 * p + b) := by rw [L4, nadd, nadd]; congr 1; omega
  refine pieceA ?_
  rw [q0, q1]
  refine ⟨l _ (by omega), ?_⟩
  rw [enc_cell hy (by omega) (by omega), L0, neq (by omega) (by omega)]
  refine ⟨fun ne => no y (fun z => ne z.1) (KFr.refl y), fun st0 => ⟨l 9 (by decide), ?_⟩⟩
  rw [show y.2.2.1 0 (9 : Int32).toNatClampNeg = nI (A 9) from enc_cell (k := 9) hy (by decide) (by decide), L40, neq (by omega) (by omega)]
  refine ⟨fun n40 => ?_, fun e40 => no y (fun z => absurd z.2.1 (by omega)) (KFr.refl y)⟩
  have h40 : A 9 < 40 := (by omega)
  have crew := hI.2.1 b hb
  have hg := hI.now.2.2.2.2.2.2.1 b hb
  rw [live_g _ (by omega), live_2, live_0] at hg
  have sH := sumH_le hI (A 3)
  have sB := sumBH_le hI b (A 3)
  have co99 := coV_le l1 A b (A 3)
  have sm40 := smV_le l0 (A 3)
  have pr : n * coV o1 A b (A 3) ≤ 9 * 99 := Nat.mul_le_mul n9 co99
  refine mget hy rfl L3 (by omega) (by omega) (mget hy rfl (k := 0) rfl (by omega) (by omega) ?_)
  rw [show 10 + 5 * b + 3 = 13 + 5 * b by omega, Nat.add_zero, nadd, nlt (by omega) (by omega)]
  refine ⟨fun hlt => no y (fun z => absurd z.2.2.1 (by omega)) (KFr.refl y), fun hge => ?_⟩
  have tot : sumR (fun _ => true) (fun d => A (13 + 5 * d)) (A 0) = sumH A (A 9) (A 3) := by
    rw [sumH_split (n := A 0) (fun i hi => (hI.log i hi).2.1)]
    refine sumR_congr (fun d hd => ⟨rfl, ?_⟩)
    have := hI.now.2.2.2.2.2.2.1 d hd
    rw [live_g _ (by omega), live_2, live_0] at this
    exact this
  refine r_all b0 hy ?_
  rw [tot]
  have c3 : ∀ {S : MS}, S.2.2.1 0 = enc A → S.2.2.1 0 (3 : Int32).toNatClampNeg = nI (A 3) := fun e => enc_cell (k := 3) e (by decide) (by decide)
  refine ⟨l 3 (by decide), ?_⟩
  rw [c3 hy]
  refine r_smoke j0 hy (by omega) (fun y1 f1 => ?_)
  rw [nadd, nle (by omega) (by omega)]
  refine ⟨fun hle => ⟨l 3 (by decide), ?_⟩, fun hgt => no y1 (fun z => hgt z.2.2.2.1) f1⟩
  rw [c3 (f1.e hy)]
  refine r_cost (A := A) (by rw [f1.2 2 (by decide) (by decide)]; exact j1) hI (f1.e hy) hb (by omega) (fun y2 f2 v17 e17 => ?_)
  have f12 := f1.trans f2
  have hy2 := f12.e hy
  rw [nmul] at e17
  refine mget hy2 rfl L2 (by omega) (by omega) ?_
  rw [show 10 + 5 * b + 2 = 12 + 5 * b by omega, e17, nle (by omega) (by omega)]
  refine ⟨fun hpr => ?_, fun hpr => no y2 (fun z => hpr z.2.2.2.2) f12⟩
  have ok : okB A p b n (smV o0 (A 3)) (coV o1 A b (A 3)) := ⟨st0, h40, (by omega), (by omega), hpr⟩
  have post := h1 p b n y2 hp hb n1 n9 rfl rfl rfl ok f12
  generalize hc : n * coV o1 A b (A 3) = c at *
  have hp' : p < 10 := (by omega)
  have hb' : b < 6 := (by omega)
  have hI2 := Inv_blow (c := c) hI hp hb n1 n9 h40
  have kl : ∀ j, j < 410 → j ≠ 6 → keepN A j = A j := fun j h h6 => keepN_lo A h h6
  refine r_keepN b6 hy2 (mget (sF_same _ _ _) rfl L2 (by omega) (by omega) ?_)
  rw [kl _ (by omega) (by omega), show 10 + 5 * b + 2 = 12 + 5 * b by omega, nsub hpr]
  refine mset (b := b) (k := 2) (sF_same _ _ _) rfl L2 rfl (by omega) (by omega) (mget (sF_same _ _ _) rfl L3 (by omega) (by omega) ?_)
  rw [uN_n _ _ _ _ (by omega), kl _ (by omega) (by omega), show 10 + 5 * b + 3 = 13 + 5 * b by omega, nadd, sF_sF]
  refine mset (b := b) (k := 3) (sF_same _ _ _) rfl L3 rfl (by omega) (by omega) (pieceA ?_)
  rw [q0, q2, q4, sF_sF]
  refine ⟨l _ (by omega), fun v28 e28 => ⟨l _ (by omega), fun S29 e29 => ⟨l _ (by omega), fun v30 e30 => ⟨l _ (by omega), fun S31 e31 => ⟨l 9 (by decide), fun v32 e32 => ?_⟩⟩⟩⟩⟩
  rw [enc_cell (sF_same _ _ _) (by omega) (by omega), uN_n _ _ _ _ (by omega), uN_n _ _ _ _ (by omega), kl _ (by omega) (by omega), nadd] at e28
  rw [e28, sF_same, sF_sF, ncl (by omega), enc_u (by omega)] at e29
  rw [e29, enc_cell (sF_same _ _ _) (by omega) (by omega), uN_n _ _ _ _ (by omega), uN_n _ _ _ _ (by omega), uN_n _ _ _ _ (by omega), kl _ (by omega) (by omega), nadd] at e30
  rw [e30, e29, sF_same, sF_sF, ncl (by omega), enc_u (by omega)] at e31
  rw [e31, sF_same, litC 9 (by decide), enc_at (by omega), uN_n _ _ _ _ (by omega), uN_n _ _ _ _ (by omega), uN_n _ _ _ _ (by omega), uN_n _ _ _ _ (by omega), kl _ (by omega) (by omega), L4, L250, nmul, nadd] at e32
  have w1 : nI (250 + 4 * A 9) + 1 = nI (251 + 4 * A 9) := by rw [L1, nadd]; congr 1; omega
  have w2 : nI (250 + 4 * A 9) + 2 = nI (252 + 4 * A 9) := by rw [L2, nadd]; congr 1; omega
  have w3 : nI (250 + 4 * A 9) + 3 = nI (253 + 4 * A 9) := by rw [L3, nadd]; congr 1; omega
  rw [e32, w1, w2, w3]
  refine ⟨l _ (by omega), fun S33 e33 => ⟨l _ (by omega), fun S34 e34 => ⟨l _ (by omega), fun S35 e35 => ⟨l 3 (by decide), fun v36 e36 => ⟨l _ (by omega), fun S37 e37 => ⟨l 9 (by decide), fun v38 e38 => ⟨l 9 (by decide), fun S39 e39 => ?_⟩⟩⟩⟩⟩⟩⟩
  rw [e31, sF_same, sF_sF, ncl (by omega), enc_u (by omega)] at e33
  rw [e33, sF_same, sF_sF, ncl (by omega), enc_u (by omega)] at e34
  rw [e34, sF_same, sF_sF, ncl (by omega), enc_u (by omega)] at e35
  rw [e35, sF_same, litC 3 (by decide), enc_at (by omega), uN_n _ _ _ _ (by omega), uN_n _ _ _ _ (by omega), uN_n _ _ _ _ (by omega), uN_n _ _ _ _ (by omega), uN_n _ _ _ _ (by omega), uN_n _ _ _ _ (by omega), uN_n _ _ _ _ (by omega), kl _ (by omega) (by omega)] at e36
  rw [e36, e35, sF_same, sF_sF, ncl (by omega), enc_u (by omega)] at e37
  rw [e37, sF_same, litC 9 (by decide), enc_at (by omega), uN_n _ _ _ _ (by omega), uN_n _ _ _ _ (by omega), uN_n _ _ _ _ (by omega), uN_n _ _ _ _ (by omega), uN_n _ _ _ _ (by omega), uN_n _ _ _ _ (by omega), uN_n _ _ _ _ (by omega), uN_n _ _ _ _ (by omega), kl _ (by omega) (by omega), L1, nadd] at e38
  rw [e38, e37, sF_same, sF_sF, litC 9 (by decide), enc_u (by omega)] at e39
  have e39' : S39 = sF y2 0 (enc (blow0 A p b n c)) := e39
  clear e39 e37 e35 e34 e33 e31 e29
  have cc : ∀ j, j ≠ 151 + 10 * p → blow0 A p b n c j = blowN A p b n c j := fun j hj => (uN_n _ _ _ _ hj).symm
  have eo : ∀ j, j ≠ 6 → j ≠ 9 → j ≠ 12 + 5 * b → j ≠ 13 + 5 * b → (j < 150 ∨ 250 ≤ j) → j < 250 + 4 * A 9 → blowN A p b n c j = A j := fun j j6 j9 j12 j13 jp jl => by rw [bl_o hp' hb' h40 j9 j12 j13 (by omega) (by omega) (by omega) (by omega), keepN_lo A (by omega) j6]
  have ek : blow0 A p b n c (150 + 10 * p) = A (150 + 10 * p) := by rw [cc _ (by omega), bl_o hp' hb' h40 (by omega) (by omega) (by omega) (by omega) (by omega) (by omega) (by omega), keepN_lo A (by omega) (by omega)]
  have e151 : blow0 A p b n c (151 + 10 * p) = A (151 + 10 * p) := by
    unfold blow0
    rw [uN_n _ _ _ _ (by omega), uN_n _ _ _ _ (by omega), uN_n _ _ _ _ (by omega), uN_n _ _ _ _ (by omega), uN_n _ _ _ _ (by omega), uN_n _ _ _ _ (by omega), uN_n _ _ _ _ (by omega), uN_n _ _ _ _ (by omega), uN_n _ _ _ _ (by omega), kl _ (by omega) (by omega)]
  have hb2 : blowN A p b n c 2 = A 2 := eo 2 (by omega) (by omega) (by omega) (by omega) (by omega) (by omega)
  have hb0 : blowN A p b n c 0 = A 0 := eo 0 (by omega) (by omega) (by omega) (by omega) (by omega) (by omega)
  obtain ⟨d1, d2, d3, d4, d5⟩ := hI2.piece (p := p) (by rw [hb2]; exact hp)
  have ekN : blowN A p b n c (150 + 10 * p) = A (150 + 10 * p) := by rw [← cc _ (by omega)]; exact ek
  have ka := (hI.piece hp).1
  have kk := hI.2.2.2.1 _ ka
  rw [ekN] at d1 d2
  have sP := sumP_le hI2 p
  have g39 : S39.2.2.1 0 = enc (blow0 A p b n c) := by rw [e39', sF_same]
  have ew : blow0 A p b n c (40 + 3 * A (150 + 10 * p)) = A (40 + 3 * A (150 + 10 * p)) := by rw [cc _ (by omega), eo _ (by omega) (by omega) (by omega) (by omega) (by omega) (by omega)]
  have ev : blow0 A p b n c (41 + 3 * A (150 + 10 * p)) = A (41 + 3 * A (150 + 10 * p)) := by rw [cc _ (by omega), eo _ (by omega) (by omega) (by omega) (by omega) (by omega) (by omega)]
  have q5 : nI 40 + 3 * nI (A (150 + 10 * p)) = nI (40 + 3 * A (150 + 10 * p)) := by rw [L3, nmul, nadd]
  have q6 : nI (40 + 3 * A (150 + 10 * p)) + 1 = nI (41 + 3 * A (150 + 10 * p)) := by rw [L1, nadd]; congr 1; omega
  refine ⟨l _ (by omega), ?_⟩
  rw [enc_cell g39 (by omega) (by omega), ek, q5, q6]
  refine ⟨l _ (by omega), fun v40 e40 => ⟨l _ (by omega), l _ (by omega), ?_⟩⟩
  rw [enc_cell g39 (by omega) (by omega), ew] at e40
  have cr2 := hI2.2.1
  have z0 : blow0 A p b n c 0 = A 0 := by rw [cc _ (by omega), hb0]
  refine r_voices (A := blow0 A p b n c) (by rw [z0]; exact b0) hp' (fun d hd => ?_) (fun d hd => ?_) g39 ?_
  · rw [z0] at hd
    rw [cc _ (by omega)]; exact (cr2 d (by rw [hb0]; exact hd)).2.2.1
  · rw [z0] at hd
    rw [cc _ (by omega), d5 d (by omega)]
    have := sumR_le (q := fun i => decide (blowN A p b n c (250 + 4 * i) = p ∧ blowN A p b n c (251 + 4 * i) = d)) (w := fun i => blowN A p b n c (252 + 4 * i)) (B := 9) (m := blowN A p b n c 9) (fun i hi => (hI2.log i hi).2.2.2.1)
    have := hI2.b
    unfold sumPB
    omega
  · have hsub : (nI (A (41 + 3 * A (150 + 10 * p))) &&& (nI (setR (fun d => decide (0 < blow0 A p b n c (154 + 10 * p + d))) (fun d => blow0 A p b n c (11 + 5 * d)) (blow0 A p b n c 0)) ^^^ -nI 1) = nI 0) = sung (blow0 A p b n c) (A 9 + 1) p (A (150 + 10 * p)) := by
      rw [nsubset (by omega), eq_iff_iff]
      unfold sung
      rw [ev]
      refine forall_congr' (fun t => imp_congr Iff.rfl ?_)
      rw [setR_bit]
      have s0 : ∀ d, sumPB (blow0 A p b n c) (A 9 + 1) p d = sumPB (blowN A p b n c) (blowN A p b n c 9) p d := fun d => by rw [bl_9]; exact sumPB_congr (fun i hi => cc _ (by omega))
      constructor
      · rintro ⟨d, hd, w1, w2⟩
        rw [z0] at hd
        rw [decide_eq_true_eq, cc _ (by omega), d5 d (by omega), ← s0] at w1
        exact ⟨d, (by omega), w1, w2⟩
      · rintro ⟨d, hd, w1, w2⟩
        have hd2 : d < A 0 := by
          by_cases z : d < A 0
          · exact z
          · rw [s0, sumPB_zero (n := A 0) (fun i hi => by have := (hI2.log i hi).2.1; rw [hb0] at this; exact this) (by omega)] at w1
            omega
        refine ⟨d, by rw [z0]; exact hd2, ?_, w2⟩
        rw [decide_eq_true_eq, cc _ (by omega), d5 d (by omega), ← s0]; exact w1
    rw [enc_cell g39 (by omega) (by omega), ev, L1, hsub, e40, e39']
    have eP : sumP (blow0 A p b n c) (A 9 + 1) p = blow0 A p b n c (152 + 10 * p) := by
      rw [cc _ (by omega), d3, bl_9]
      exact sumP_congr (fun i hi => cc _ (by omega))
    have le1 : blow0 A p b n c (152 + 10 * p) < 2147483648 := by rw [cc _ (by omega), d3]; omega
    have lst : ∀ t : Int32, ∀ s : Nat, (t = 0 ∨ t = 1) → (blow0 A p b n c (152 + 10 * p) < A (40 + 3 * A (150 + 10 * p)) → s = 0) → (A (40 + 3 * A (150 + 10 * p)) ≤ blow0 A p b n c (152 + 10 * p) → s = if blow0 A p b n c (152 + 10 * p) = A (40 + 3 * A (150 + 10 * p)) ∧ t = 1 then 1 else 2) → s = stN (blow0 A p b n c) (A 9 + 1) p (A (150 + 10 * p)) → K (.inl (nI p, nI b, nI n, nI c, nI (150 + 10 * p), nI (250 + 4 * A 9), nI (A (40 + 3 * A (150 + 10 * p))), t)) (sF y2 0 (enc (blow0 A p b n c))) := by
      intro t s ht s1 s2 s3
      have setp : ∀ u : Nat, u = s → K (.inr (nI p, nI b, nI n, nI c, nI (150 + 10 * p), nI (250 + 4 * A 9), nI (A (40 + 3 * A (150 + 10 * p))), t, nI (151 + 10 * p), nI u)) (sF y2 0 (enc (blow0 A p b n c))) := fun u hu => by
        refine hK _ _ ⟨l _ (by omega), fun S43 e43 => ?_⟩
        rw [sF_same, sF_sF, ncl (by omega), enc_u (by omega), hu, s3] at e43
        have e43' : S43 = sF y2 0 (enc (blowN A p b n c)) := e43
        rw [q1]
        refine ⟨l _ (by omega), ?_⟩
        rw [e43', enc_cell (sF_same _ _ _) (by omega) (by omega)]
        exact post
      refine hK _ _ ?_
      show vp_in (nI (150 + 10 * p) + 2) 3890 ∧ _
      rw [q1, q2, enc_cell (sF_same _ _ _) (by omega) (by omega), enc_cell (sF_same _ _ _) (by omega) (by omega), nlt le1 (by omega), neq le1 (by omega)]
      refine ⟨l _ (by omega), fun hlt => ⟨l _ (by omega), ?_⟩, fun hge => ⟨l _ (by omega), fun ne => ?_, fun e => ⟨fun t0 => ?_, fun t1 => ?_⟩⟩⟩
      · have : blowN A p b n c = blow0 A p b n c := by
          funext j
          by_cases z : j = 151 + 10 * p
          · rw [z, bl_151, ← s3, s1 hlt, e151, st0]
          · rw [cc _ z]
        rw [← this]; exact post
      · exact setp 2 (by rw [s2 (by omega), if_neg (fun w => ne w.1)])
      · exact setp 2 (by rw [s2 (by omega), if_neg (fun w => absurd (t0.symm.trans w.2) (by decide))])
      · exact setp 1 (by rw [s2 (by omega), if_pos ⟨e, ht.resolve_left t1⟩])
    refine ⟨fun hn => lst 0 _ (Or.inl rfl) (fun w => ?_) (fun w => ?_) rfl, fun hs => lst 1 _ (Or.inr rfl) (fun w => ?_) (fun w => ?_) rfl⟩
    · unfold stN; rw [eP, ew, if_pos w]
    · unfold stN; rw [eP, ew, if_neg (by omega), if_neg (fun w => hn w.2), if_neg (fun w => absurd w.2 (by decide))]
    · unfold stN; rw [eP, ew, if_pos w]
    · unfold stN; rw [eP, ew, if_neg (by omega)]
      by_cases z : blow0 A p b n c (152 + 10 * p) = A (40 + 3 * A (150 + 10 * p))
      · rw [if_pos ⟨z, hs⟩, if_pos ⟨z, rfl⟩]
      · rw [if_neg (fun w => z w.1), if_neg (fun w => z w.1)]
theorem bl_4 {p b n c : Nat} (hp : p < 10) (hb : b < 6) (h9 : A 9 < 40) : blowN A p b n c 4 = A 4 ∧ blowN A p b n c 5 = A 5 := ⟨by rw [bl_o hp hb h9 (by omega) (by omega) (by omega) (by omega) (by omega) (by omega) (by omega), keepN_lo A (by omega) (by omega)], by rw [bl_o hp hb h9 (by omega) (by omega) (by omega) (by omega) (by omega) (by omega) (by omega), keepN_lo A (by omega) (by omega)]⟩
theorem op_blow {B : Nat → Nat} {a0 a1 a2 : Int32} (h : RelA TXd A B x y) : VC_X11_blow_0 (fun r x' => VC_blow (fun r' y' => r = r' ∧ RelT TXd x' y') a0 a1 a2 y) a0 a1 a2 x := by
  obtain ⟨g1, -, g3, -, g5, -⟩ := id h
  have bb := g1.b
  obtain ⟨o0, l0, c0, r0⟩ := judge_ex h (l := 0) (by decide)
  obtain ⟨o1, l1, c1, r1⟩ := judge_ex h (l := 1) (by decide)
  refine c_blow g1 g3 c0 c1 l0 l1 (fun p b n x' hp hb n1 n9 e0 e1 e2 ok fx hx' => ?_) (fun x' hn fx => ?_)
  · refine r_blow g1 g5 r0 r1 l0 l1 (fun p' b' n' y' hp' hb' n1' n9' e0' e1' e2' ok' fy => ?_) (fun y' hn _ => absurd ⟨p, b, n, hp, hb, n1, n9, e0, e1, e2, ok⟩ hn)
    have z1 : p' = p := (nI_eq (by omega) (by omega)).mp (e0'.symm.trans e0)
    have z2 : b' = b := (nI_eq (by omega) (by omega)).mp (e1'.symm.trans e1)
    have z3 : n' = n := (nI_eq (by omega) (by omega)).mp (e2'.symm.trans e2)
    subst z1 z2 z3
    exact ⟨rfl, h.step fx (fy.Y.F _ _ (by omega)) (Inv_blow g1 hp hb n1 n9 ok.2.1) hx' (sF_same _ _ _) (bl_4 (by omega) (by omega) ok.2.1).1⟩
  · exact r_blow g1 g5 r0 r1 l0 l1 (fun p' b' n' y' hp' hb' n1' n9' e0' e1' e2' ok' _ => absurd ⟨p', b', n', hp', hb', n1', n9', e0', e1', e2', ok'⟩ hn) (fun y' _ fy => ⟨rfl, h.judge fx fy⟩)
end BLOW
