/-! the reference's questions to a token -/
section RWORD
variable {T : Nat → Nat} {m q : Nat}
theorem rcL_lt : ∀ i : Fin 17, rcL.getD i.1 0 < 64 := by decide +kernel
theorem rkC_lt (hT : ∀ i, i < m → T i ≤ 255) : rkC T m q < 64 := by
  rcases tk_rk (q := q) hT with ⟨a, h⟩ | ⟨_, h⟩ | ⟨h, _⟩
  · rw [h]; exact rcL_lt ⟨_, a⟩
  · omega
  · omega
theorem rkW_lt : rkW T m q < 9223372036854775808 := by
  unfold rkW
  by_cases z : eF bL T m q - q ≤ 7
  · rw [if_pos z]
    have hp : ∀ j, j < eF bL T m q - q → T (q + j) ≤ 255 := fun j hj => by
      have := enF_in (q := bL) (T := T) (m := m) (n := m - q) (p := q) (j := q + j) (by omega) (show q + j < eF bL T m q by omega)
      have := of_decide_eq_true this.2
      omega
    have h1 := wvN_lt hp
    have h2 : 256 ^ (eF bL T m q - q) ≤ 256 ^ 7 := Nat.pow_le_pow_right (by decide) z
    omega
  · rw [if_neg z]; decide
theorem rw_cmp {y : MS} {i : Nat} {a0 : Int64} (hT : ∀ i, i < m → T i ≤ 255) (h : rTk y T m q) (h2 : rkC T m q = 2) (hi : i < 25) (h23 : i ≠ 23) (ea : a0 = Int64.ofNat (cW i)) : (lg_cmp (y.2.1) a0 = 0) = (tkC T m q = 32 + i) := by
  have u := cW_ok ⟨i, hi⟩ h23
  simp only at u
  rw [eq_iff_iff, lg_cmp_eq, h.2.2.2.2 h2, ea, tk_word hT hi h23]
  have := pk_lEQ (a := rkW T m q) (b := cW i) rkW_lt u.2.2
  exact ⟨fun z => ⟨h2, this.mp z⟩, fun z => this.mpr z.2⟩
theorem tok2 {y : MS} (hT : ∀ i, i < m → T i ≤ 255) (h : rTk y T m q) (k : Nat) (hk : k < 64) : (y.1 9 = nI k) = (rkC T m q = k) := by
  have := rkC_lt (q := q) hT
  rw [h.2.2.1, neq (by omega) (by omega)]
theorem r_isWord {Post : Int32 → MS → Prop} {y : MS} {i : Nat} {a0 : Int64} (hT : ∀ i, i < m → T i ≤ 255) (h : rTk y T m q) (hi : i < 25) (h23 : i ≠ 23) (ea : a0 = Int64.ofNat (cW i)) (k1 : tkC T m q = 32 + i → Post 1 y) (k0 : ¬ tkC T m q = 32 + i → Post 0 y) : VC_isWord Post a0 y := by
  unfold VC_isWord
  rw [show (2 : Int32) = nI 2 from rfl, tok2 hT h 2 (by decide)]
  refine ⟨fun z => k0 (fun w => z ((tk_word hT hi h23).mp w).1), fun z => ?_⟩
  rw [rw_cmp hT h z hi h23 ea]
  exact ⟨k0, k1⟩
theorem wd23 {e : Nat} : isWd T q e 23 ↔ e - q = 8 ∧ T q = 113 ∧ T (q + 1) = 117 ∧ T (q + 2) = 97 ∧ T (q + 3) = 114 ∧ T (q + 4) = 114 ∧ T (q + 5) = 101 ∧ T (q + 6) = 108 ∧ T (q + 7) = 115 := by
  unfold isWd
  rw [mtF_iff]
  have e0 : eWn (121 + 0) = 113 ∧ eWn (121 + 1) = 117 ∧ eWn (121 + 2) = 97 ∧ eWn (121 + 3) = 114 ∧ eWn (121 + 4) = 114 ∧ eWn (121 + 5) = 101 ∧ eWn (121 + 6) = 108 ∧ eWn (121 + 7) = 115 := by decide +kernel
  obtain ⟨a0, a1, a2, a3, a4, a5, a6, a7⟩ := e0
  show (8 = e - q ∧ ∀ j, j < 8 → eWn (121 + j) = T (q + j)) ↔ _
  constructor
  · intro ⟨h, g⟩
    exact ⟨h.symm, by rw [← a0]; exact (g 0 (by decide)).symm, by rw [← g 1 (by decide), a1], by rw [← g 2 (by decide), a2], by rw [← g 3 (by decide), a3], by rw [← g 4 (by decide), a4], by rw [← g 5 (by decide), a5], by rw [← g 6 (by decide), a6], by rw [← g 7 (by decide), a7]⟩
  · intro ⟨h, g0, g1, g2, g3, g4, g5, g6, g7⟩
    refine ⟨h.symm, fun j hj => ?_⟩
    rcases (show j = 0 ∨ j = 1 ∨ j = 2 ∨ j = 3 ∨ j = 4 ∨ j = 5 ∨ j = 6 ∨ j = 7 by omega) with z | z | z | z | z | z | z | z <;> subst z
    · rw [a0]; exact g0.symm
    · rw [a1, g1]
    · rw [a2, g2]
    · rw [a3, g3]
    · rw [a4, g4]
    · rw [a5, g5]
    · rw [a6, g6]
    · rw [a7, g7]
theorem r_quar {Post : Int32 → MS → Prop} {y : MS} (ht : tpM y T m) (h : rTk y T m q) (h2 : rkC T m q = 2) (hq : q ≤ m) (k1 : tkC T m q = 55 → Post 1 y) (k0 : ¬ tkC T m q = 55 → Post 0 y) : VC_isQuarrels Post y := by
  have hT : ∀ i, i < m → T i ≤ 255 := fun i hi => (ht.2.2 i hi).2
  have m3 := ht.2.1
  rcases tk_rk (q := q) hT with ⟨a, b⟩ | ⟨_, b⟩ | ⟨_, b1, b2, b3⟩
  · exact absurd (b.symm.trans h2) (rcL_no ⟨_, a⟩).1
  · omega
  have eE : tkE T m q = eF bL T m q := by
    unfold tkE
    rw [if_neg (by omega), if_pos b2]
  have iff := (wc_iff (T := T) (p := q) (e := eF bL T m q) (i := 23) (by decide)).trans wd23
  rw [← b3] at iff
  have le := tkE_le (T := T) hq
  rw [← eE] at iff
  unfold VC_isQuarrels
  rw [h.1, h.2.1, nsub le.1, show (8 : Int32) = nI 8 from rfl, neq (by omega) (by decide)]
  refine ⟨fun z => k0 (fun w => z (iff.mp w).1), fun len => ?_⟩
  have bt : ∀ j c : Nat, c < 256 → j < 8 → ((nI (T (q + j)) = nI c) = (T (q + j) = c)) := fun j c hc hj => by
    have := hT (q + j) (by omega)
    rw [neq (by omega) (by omega)]
  have st : ∀ {P : Int32 → MS → Prop} (j : Nat), j < 8 → P (nI (T (q + j))) y → VC_byteAt P (nI (q + j)) y := fun j hj hP => r_byte ht (by omega) (fun _ _ => hP) (fun z => absurd z (by omega))
  refine st 0 (by decide) ?_
  rw [show (113 : Int32) = nI 113 from rfl, bt 0 113 (by decide) (by decide)]
  refine ⟨fun z => k0 (fun w => z (iff.mp w).2.1), fun g0 => ?_⟩
  rw [h.2.1, nI_1]
  refine st 1 (by decide) ?_
  rw [show (117 : Int32) = nI 117 from rfl, bt 1 117 (by decide) (by decide)]
  refine ⟨fun z => k0 (fun w => z (iff.mp w).2.2.1), fun g1 => ?_⟩
  rw [h.2.1, show (2 : Int32) = nI 2 from rfl, nadd]
  refine st 2 (by decide) ?_
  rw [show (97 : Int32) = nI 97 from rfl, bt 2 97 (by decide) (by decide)]
  refine ⟨fun z => k0 (fun w => z (iff.mp w).2.2.2.1), fun g2 => ?_⟩
  rw [h.2.1, show (3 : Int32) = nI 3 from rfl, nadd]
  refine st 3 (by decide) ?_
  rw [show (114 : Int32) = nI 114 from rfl, bt 3 114 (by decide) (by decide)]
  refine ⟨fun g3 => ?_, fun z => k0 (fun w => z (iff.mp w).2.2.2.2.1)⟩
  rw [h.2.1, show (4 : Int32) = nI 4 from rfl, nadd]
  refine st 4 (by decide) ?_
  rw [bt 4 114 (by decide) (by decide)]
  refine ⟨fun z => k0 (fun w => z (iff.mp w).2.2.2.2.2.1), fun g4 => ?_⟩
  rw [h.2.1, show (5 : Int32) = nI 5 from rfl, nadd]
  refine st 5 (by decide) ?_
  rw [show (101 : Int32) = nI 101 from rfl, bt 5 101 (by decide) (by decide)]
  refine ⟨fun z => k0 (fun w => z (iff.mp w).2.2.2.2.2.2.1), fun g5 => ?_⟩
  rw [h.2.1, show (6 : Int32) = nI 6 from rfl, nadd]
  refine st 6 (by decide) ?_
  rw [show (108 : Int32) = nI 108 from rfl, bt 6 108 (by decide) (by decide)]
  refine ⟨fun z => k0 (fun w => z (iff.mp w).2.2.2.2.2.2.2.1), fun g6 => ?_⟩
  rw [h.2.1, show (7 : Int32) = nI 7 from rfl, nadd]
  refine st 7 (by decide) ?_
  rw [show (115 : Int32) = nI 115 from rfl, bt 7 115 (by decide) (by decide)]
  exact ⟨fun z => k0 (fun w => z (iff.mp w).2.2.2.2.2.2.2.2), fun g7 => k1 (iff.mpr ⟨len, g0, g1, g2, g3, g4, g5, g6, g7⟩)⟩
end RWORD
