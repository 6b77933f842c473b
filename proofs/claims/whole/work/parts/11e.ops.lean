/-! calls that only look -/
theorem hist_le {A : Nat → Nat} (h : histOK A) : ∀ k j, j + k = A 6 → core A j 2 ≤ A 9 := by
  intro k
  induction k with
  | zero => intro j hj; rw [show j = A 6 by omega, core_now]; exact Nat.le_refl _
  | succ k ih => intro j hj; exact Nat.le_trans (h.2 j (by omega)) (ih (j + 1) (by omega))
/-- the steps' part of a state stays while nothing of it is written -/
theorem hist_keep {A B : Nat → Nat} (h : histOK A) (h6 : B 6 = A 6) (hs : ∀ k, 410 ≤ k → B k = A k) (h0 : A 0 ≤ B 0) (h1 : A 1 ≤ B 1) (hk : ∀ k, k < A 1 → A (40 + 3 * k) = B (40 + 3 * k) ∧ A (41 + 3 * k) = B (41 + 3 * k)) (hv : ∀ b, b < A 0 → A (11 + 5 * b) = B (11 + 5 * b)) (hl : ∀ i, i < 4 * A 9 → A (250 + i) = B (250 + i)) (h9 : A 9 ≤ B 9) (hn : Cons B (live B)) : histOK B := by
  have hc : ∀ j, j < A 6 → core B j = core A j := by
    intro j hj
    funext c
    unfold core
    rw [if_pos (by omega), if_pos hj, hs _ (by omega)]
  constructor
  · intro j hj
    by_cases h2 : j < A 6
    · have h3 := h.1 j (by omega)
      have h4 := hist_le h (A 6 - j) j (by omega)
      rw [hc j h2]
      exact Cons_mono h3 h0 h1 hk (fun b hb => hv b (by have := h3.2.2.2.1; omega)) (fun i hi => hl i (by omega))
    · rw [show j = B 6 by omega, core_now]
      exact hn
  · intro j hj
    rw [hc j (by omega)]
    have h4 := h.2 j (by omega)
    by_cases h2 : j + 1 < A 6
    · rw [hc (j + 1) h2]; exact h4
    · rw [show j + 1 = B 6 by omega, core_now]
      rw [show j + 1 = A 6 by omega, core_now] at h4
      exact Nat.le_trans h4 h9
theorem mget {Post : Int32 → MS → Prop} {S : MS} {A : Nat → Nat} {b k : Nat} {w kk : Int32} (e : S.2.2.1 0 = enc A) (hw : w = nI b) (hk : kk = nI k) (hb : b < 6) (hk5 : k < 5) (h : Post (nI (A (10 + 5 * b + k))) S) : VC_get Post w kk S := by
  have e1 : (10 + (5 * w)) + kk = nI (10 + 5 * b + k) := by rw [hw, hk, L10, L5, nmul, nadd, nadd]
  refine ⟨by rw [e1]; exact vp_in_nI (by omega) (by decide), ?_⟩
  rw [e1, ncl (by omega), e, enc_at (by omega)]
  exact h
theorem mset {Post : MS → Prop} {S : MS} {A : Nat → Nat} {b k v : Nat} {w kk a : Int32} (e : S.2.2.1 0 = enc A) (hw : w = nI b) (hk : kk = nI k) (ha : a = nI v) (hb : b < 6) (hk5 : k < 5) (h : Post (sF S 0 (enc (uN A (10 + 5 * b + k) v)))) : VC_set Post w kk a S := by
  have e1 : (10 + (5 * w)) + kk = nI (10 + 5 * b + k) := by rw [hw, hk, L10, L5, nmul, nadd, nadd]
  refine ⟨by rw [e1]; exact vp_in_nI (by omega) (by decide), fun S1 e2 => ?_⟩
  rw [e2, e1, ncl (by omega), e, ha, enc_u (by omega)]
  exact h
theorem mgave {Post : Int32 → MS → Prop} {S : MS} {A : Nat → Nat} {p b : Nat} {w a : Int32} (e : S.2.2.1 0 = enc A) (hw : w = nI p) (ha : a = nI b) (hp : p < 10) (hb : b < 6) (h : Post (nI (A (154 + 10 * p + b))) S) : VC_gave Post w a S := by
  have e1 : ((150 + (10 * w)) + 4) + a = nI (154 + 10 * p + b) := by
    rw [hw, ha, L150, L10, L4, nmul, nadd, nadd, nadd]
    congr 1; omega
  refine ⟨?_, ?_⟩
  · rw [e1]; exact vp_in_nI (by omega) (by decide)
  · rw [e1, ncl (by omega), e, enc_at (by omega)]
    exact h
section OPS
variable {A : Nat → Nat} {x : XS} {y : MS} (hI : Inv A) (hx : RX x.1 x.2.1 A) (hy : y.2.2.1 0 = enc A)
/-- of -/
theorem c_of {Post : Int32 → XS → Prop} {a0 a1 : Int32} (hI : Inv A) (hx : RX x.1 x.2.1 A) (h1 : ∀ b k v, b < A 0 → k < 5 → a0 = nI b → a1 = nI k → v = A (10 + 5 * b + k) → Post (nI v) x) (h0 : ¬ (isOne a0 (A 0) ∧ isOne a1 5) → Post (-1) x) : VC_X11_of_0 Post a0 a1 x := by
  obtain ⟨b0, b1, b2, b3, -, -, -, -, -, b9⟩ := hI.b
  refine hasB hx.1.1 (by omega) (fun hb => ⟨fun _ => ?_, fun z => absurd z (by decide)⟩) (fun hb => ⟨fun z => absurd rfl z, fun _ => h0 (fun z => hb z.1)⟩)
  obtain ⟨b, hb, rfl⟩ := hb
  obtain ⟨c1, c2, c3, c4⟩ := hx.1.2 b hb
  have inb : vp_in (nI b) 6 := vp_in_nI (by omega) (by decide)
  have cb : (nI b).toNatClampNeg = b := ncl (by omega)
  rw [cb, c1, c2, c3, c4]
  refine ⟨fun e => ⟨inb, h1 b 0 _ hb (by decide) rfl e rfl⟩, fun e => ⟨inb, h1 b 1 _ hb (by decide) rfl e (by congr 1; omega)⟩, fun e => ⟨inb, h1 b 2 _ hb (by decide) rfl e (by congr 1; omega)⟩, fun e => ?_, fun e => ⟨inb, h1 b 4 _ hb (by decide) rfl e (by congr 1; omega)⟩, fun e0 e1 e2 e3 e4 => h0 ?_⟩
  · unfold VC_X0_sum_11
    rw [hx.2.2.1.2.2.1, hx.2.2.1.1]
    refine c_sum14 (by omega) (rxLog hx.2.2.1) (fun i => decide (A (251 + 4 * i) = b ∧ A (253 + 4 * i) = A 3)) (fun i hi => ?_) ?_
    · have := hI.log i hi
      simp only [decide_eq_true_eq, true_or, true_and, L1]
      rw [nm1 (by omega), neq (by omega) (by omega), nm1 (by omega), neq (by omega) (by omega)]
      simp
    · have h2 := hI.now.2.2.2.2.2.2.1 b hb
      rw [live_g _ (by omega), live_2, live_0] at h2
      exact h1 b 3 _ hb (by decide) rfl e (by rw [show 10 + 5 * b + 3 = 13 + 5 * b by omega, h2]; rfl)
  · rintro ⟨-, k, hk, rfl⟩
    have : k = 0 ∨ k = 1 ∨ k = 2 ∨ k = 3 ∨ k = 4 := by omega
    rcases this with h | h | h | h | h <;> subst h
    · exact e0 rfl
    · exact e1 rfl
    · exact e2 rfl
    · exact e3 rfl
    · exact e4 rfl
theorem isFrom0 {a : Int32} {n : Nat} : isFrom a 0 n ↔ isOne a (n + 1) := by
  constructor
  · rintro ⟨b, -, h2, e⟩; exact ⟨b, by omega, e⟩
  · rintro ⟨b, h2, e⟩; exact ⟨b, by omega, by omega, e⟩
theorem r_of {Post : Int32 → MS → Prop} {a0 a1 : Int32} (hI : Inv A) (hy : y.2.2.1 0 = enc A) (h1 : ∀ b k, b < A 0 → k < 5 → a0 = nI b → a1 = nI k → Post (nI (A (10 + 5 * b + k))) y) (h0 : ¬ (isOne a0 (A 0) ∧ isOne a1 5) → Post (-1) y) : VC_of Post a0 a1 y := by
  obtain ⟨b0, b1, b2, b3, -, -, -, -, -, b9⟩ := hI.b
  refine mB hy (by omega) (fun hb => ⟨fun z => absurd z (by decide), fun _ => ?_⟩) (fun hb => ⟨fun _ => h0 (fun z => hb z.1), fun z => absurd rfl z⟩)
  refine mFrom (l := 0) (h := 4) (h1 := fun hk => ⟨fun z => absurd z (by decide), fun _ => ?_⟩) (h0 := fun hk => ⟨fun _ => h0 (fun z => hk (isFrom0.mpr z.2)), fun z => absurd rfl z⟩)
  obtain ⟨b, hb, rfl⟩ := hb
  obtain ⟨k, hk, rfl⟩ := isFrom0.mp hk
  exact mget hy rfl rfl (by omega) (by omega) (h1 b k hb (by omega) rfl rfl)
end OPS
