/-! the two readings of one token -/
def wA : List Nat := [0, 6, 11, 19, 25, 31, 36, 41, 44, 49, 52, 56, 59, 63, 67, 72, 79, 85, 91, 97, 102, 107, 113, 121, 130]
def wB : List Nat := [5, 10, 18, 24, 30, 35, 40, 43, 48, 51, 55, 58, 62, 66, 71, 78, 84, 90, 96, 101, 106, 112, 120, 129, 134]
theorem eW_w : ∀ y : Fin 135, (y.1 = 134 ∨ eWn y.1 = 32) → wN y.1 < 25 ∧ wS y.1 = wA.getD (wN y.1) 0 ∧ y.1 = wB.getD (wN y.1) 0 := by decide +kernel
theorem eW_u : ∀ i : Fin 25, wN (wB.getD i.1 0) = i.1 ∧ (wB.getD i.1 0 = 134 ∨ eWn (wB.getD i.1 0) = 32) ∧ wS (wB.getD i.1 0) = wA.getD i.1 0 ∧ wB.getD i.1 0 < 135 ∧ wB.getD i.1 0 - wA.getD i.1 0 ≤ 8 ∧ 1 ≤ wB.getD i.1 0 - wA.getD i.1 0 := by decide +kernel
theorem eW_d : ∀ i j : Fin 25, wB.getD i.1 0 - wA.getD i.1 0 = wB.getD j.1 0 - wA.getD j.1 0 → (∀ k : Fin 8, k.1 < wB.getD i.1 0 - wA.getD i.1 0 → eWn (wA.getD i.1 0 + k.1) = eWn (wA.getD j.1 0 + k.1)) → i = j := by decide +kernel
theorem wcF_A {T : Nat → Nat} {p e : Nat} : ∀ x, wcF T p e x = 17 ∨ ∃ y, y < x ∧ (y = 134 ∨ eWn y = 32) ∧ mtF T p e (wS y) y = true ∧ wcF T p e x = 32 + wN y
  | 0 => Or.inl rfl
  | x + 1 => by
    by_cases z : (x = 134 ∨ eWn x = 32) ∧ mtF T p e (wS x) x = true
    · have e1 : wcF T p e (x + 1) = 32 + wN x := if_pos z
      exact Or.inr ⟨x, (by omega), z.1, z.2, e1⟩
    · have e1 : wcF T p e (x + 1) = wcF T p e x := if_neg z
      rcases wcF_A (T := T) (p := p) (e := e) x with h | ⟨y, h1, h2, h3, h4⟩
      · exact Or.inl (by rw [e1, h])
      · exact Or.inr ⟨y, (by omega), h2, h3, by rw [e1, h4]⟩
theorem wcF_B {T : Nat → Nat} {p e y : Nat} (h2 : y = 134 ∨ eWn y = 32) (h3 : mtF T p e (wS y) y = true) : ∀ x, y < x → wcF T p e x ≠ 17
  | 0, h => absurd h (by omega)
  | x + 1, h => by
    by_cases z : (x = 134 ∨ eWn x = 32) ∧ mtF T p e (wS x) x = true
    · have e1 : wcF T p e (x + 1) = 32 + wN x := if_pos z
      rw [e1]; omega
    · have e1 : wcF T p e (x + 1) = wcF T p e x := if_neg z
      rw [e1]
      by_cases w : y = x
      · subst w; exact absurd ⟨h2, h3⟩ z
      · exact wcF_B h2 h3 x (by omega)
/-- the text from p to e is word i -/
def isWd (T : Nat → Nat) (p e i : Nat) : Prop := mtF T p e (wA.getD i 0) (wB.getD i 0) = true
theorem isWd_one {T : Nat → Nat} {p e i j : Nat} (hi : i < 25) (hj : j < 25) (h : isWd T p e i) (g : isWd T p e j) : i = j := by
  obtain ⟨h1, h2⟩ := mtF_iff.mp h
  obtain ⟨g1, g2⟩ := mtF_iff.mp g
  have := eW_d ⟨i, hi⟩ ⟨j, hj⟩ (by simp only; omega) (fun k hk => by simp only at hk ⊢; rw [h2 k.1 hk, g2 k.1 (by omega)])
  exact congrArg Fin.val this
theorem wc_or {T : Nat → Nat} {p e : Nat} : wcF T p e 135 = 17 ∨ ∃ i, i < 25 ∧ isWd T p e i ∧ wcF T p e 135 = 32 + i := by
  rcases wcF_A (T := T) (p := p) (e := e) 135 with h | ⟨y, h1, h2, h3, h4⟩
  · exact Or.inl h
  · have u := eW_w ⟨y, h1⟩ h2
    simp only at u
    obtain ⟨u1, u2, u3⟩ := u
    refine Or.inr ⟨wN y, u1, ?_, h4⟩
    unfold isWd
    rw [← u2, ← u3]; exact h3
theorem wc_iff {T : Nat → Nat} {p e i : Nat} (hi : i < 25) : wcF T p e 135 = 32 + i ↔ isWd T p e i := by
  have u := eW_u ⟨i, hi⟩
  simp only at u
  obtain ⟨u1, u2, u3, u4, u5, u6⟩ := u
  constructor
  · intro h
    rcases wc_or (T := T) (p := p) (e := e) with g | ⟨j, g1, g2, g3⟩
    · omega
    · have : j = i := (by omega)
      rw [← this]; exact g2
  · intro h
    rcases wc_or (T := T) (p := p) (e := e) with g | ⟨j, g1, g2, g3⟩
    · exact absurd g (wcF_B u2 (by rw [u3]; exact h) 135 u4)
    · rw [g3, isWd_one hi g1 h g2]
theorem wvN_inj {T T' : Nat → Nat} {p p' : Nat} : ∀ {n n' : Nat}, (∀ j, j < n → 1 ≤ T (p + j) ∧ T (p + j) ≤ 255) → (∀ j, j < n' → 1 ≤ T' (p' + j) ∧ T' (p' + j) ≤ 255) → wvN T p n = wvN T' p' n' → n = n' ∧ ∀ j, j < n → T (p + j) = T' (p' + j)
  | 0, 0, _, _, _ => ⟨rfl, fun j hj => absurd hj (by omega)⟩
  | 0, n' + 1, _, h', e => by
    have h1 := h' n' (by omega)
    have e2 : 0 = wvN T' p' n' * 256 + T' (p' + n') := e
    omega
  | n + 1, 0, h, _, e => by
    have h1 := h n (by omega)
    have e2 : wvN T p n * 256 + T (p + n) = 0 := e
    omega
  | n + 1, n' + 1, h, h', e => by
    have h1 := h n (by omega)
    have h2 := h' n' (by omega)
    have e2 : wvN T p n * 256 + T (p + n) = wvN T' p' n' * 256 + T' (p' + n') := e
    have e3 : wvN T p n = wvN T' p' n' := (by omega)
    have e4 : T (p + n) = T' (p' + n') := (by omega)
    obtain ⟨a, b⟩ := wvN_inj (n := n) (n' := n') (fun j hj => h j (by omega)) (fun j hj => h' j (by omega)) e3
    subst a
    refine ⟨rfl, fun j hj => ?_⟩
    by_cases z : j = n
    · rw [z]; exact e4
    · exact b j (by omega)
theorem wvN_ext {T T' : Nat → Nat} {p p' : Nat} : ∀ {n : Nat}, (∀ j, j < n → T (p + j) = T' (p' + j)) → wvN T p n = wvN T' p' n
  | 0, _ => rfl
  | n + 1, h => by
    show wvN T p n * 256 + T (p + n) = wvN T' p' n * 256 + T' (p' + n)
    rw [wvN_ext (n := n) (fun j hj => h j (by omega)), h n (by omega)]
def cW (i : Nat) : Nat := wvN eWn (wA.getD i 0) (wB.getD i 0 - wA.getD i 0)
theorem cW_ok : ∀ i : Fin 25, i.1 ≠ 23 → wB.getD i.1 0 - wA.getD i.1 0 ≤ 7 ∧ cW i.1 ≠ 0 ∧ cW i.1 < 9223372036854775808 := by decide +kernel
theorem eW_p : ∀ i : Fin 25, ∀ j : Fin 8, j.1 < wB.getD i.1 0 - wA.getD i.1 0 → 1 ≤ eWn (wA.getD i.1 0 + j.1) ∧ eWn (wA.getD i.1 0 + j.1) ≤ 255 := by decide +kernel
section TKR
variable {T : Nat → Nat} {m q : Nat}
theorem rkW_iff {i : Nat} (hi : i < 25) (h23 : i ≠ 23) : rkW T m q = cW i ↔ isWd T q (eF bL T m q) i := by
  have u := cW_ok ⟨i, hi⟩ h23
  simp only at u
  obtain ⟨u1, u2, u3⟩ := u
  have hp : ∀ j, j < eF bL T m q - q → 1 ≤ T (q + j) ∧ T (q + j) ≤ 255 := fun j hj => by
    have := enF_in (q := bL) (T := T) (m := m) (n := m - q) (p := q) (j := q + j) (by omega) (show q + j < eF bL T m q by omega)
    have := of_decide_eq_true this.2
    omega
  have hw : ∀ j, j < wB.getD i 0 - wA.getD i 0 → 1 ≤ eWn (wA.getD i 0 + j) ∧ eWn (wA.getD i 0 + j) ≤ 255 := fun j hj => eW_p ⟨i, hi⟩ ⟨j, (by omega)⟩ hj
  unfold rkW isWd
  rw [mtF_iff]
  by_cases z : eF bL T m q - q ≤ 7
  · rw [if_pos z]
    constructor
    · intro h
      obtain ⟨a, b⟩ := wvN_inj hp hw h
      exact ⟨a.symm, fun j hj => (b j (by omega)).symm⟩
    · intro ⟨a, b⟩
      unfold cW
      rw [a]
      exact wvN_ext (fun j hj => (b j (by omega)).symm)
  · rw [if_neg z]
    constructor
    · intro h; exact absurd h.symm u2
    · intro ⟨a, b⟩; omega
theorem tkV_min (hq : q ≤ m) : tkV T m q = (if rkV T m q < 10000 then rkV T m q else 10000) := by
  have gen : ∀ n p a b : Nat, a = (if b < 10000 then b else 10000) → (vcF T m n p a = if rvF T m n p b < 10000 then rvF T m n p b else 10000) := by
    intro n
    induction n with
    | zero => intro p a b h; exact h
    | succ n ih =>
      intro p a b h
      unfold vcF rvF
      by_cases z : p < m ∧ bD (T p) = true
      · have hd2 : 48 ≤ T p ∧ T p ≤ 57 := of_decide_eq_true z.2
        rw [if_pos z, if_pos z]
        refine ih _ _ _ ?_
        split at h <;> split <;> split <;> (try split) <;> omega
      · rw [if_neg z, if_neg z]; exact h
  exact gen (m - q) q 0 0 rfl
def rcL : List Nat := [60, 62, 61, 35, 43, 45, 42, 47, 40, 41, 59, 63, 58, 4, 5, 1, 0]
theorem sg_rs : ∀ c : Fin 256, (sgF c.1 < 13 ∧ rsF c.1 = rcL.getD (sgF c.1) 0 ∧ rsF c.1 = c.1) ∨ (sgF c.1 = 17 ∧ (rsF c.1 = 3 ∨ rsF c.1 = 44)) := by decide +kernel
/-- the class's code, and the reference's -/
theorem tk_rk (hT : ∀ i, i < m → T i ≤ 255) : (tkC T m q < 17 ∧ rkC T m q = rcL.getD (tkC T m q) 0) ∨ (tkC T m q = 17 ∧ (rkC T m q = 3 ∨ rkC T m q = 44)) ∨ (rkC T m q = 2 ∧ q < m ∧ bL (T q) = true ∧ tkC T m q = wcF T q (eF bL T m q) 135) := by
  unfold tkC rkC
  by_cases z : m ≤ q
  · rw [if_pos z, if_pos z]; exact Or.inl ⟨(by decide), rfl⟩
  · rw [if_neg z, if_neg z]
    by_cases l : bL (T q) = true
    · rw [if_pos l, if_pos l]; exact Or.inr (Or.inr ⟨rfl, (by omega), l, rfl⟩)
    · rw [if_neg l, if_neg l]
      by_cases d : bD (T q) = true
      · rw [if_pos d, if_pos d]; exact Or.inl ⟨(by decide), rfl⟩
      · rw [if_neg d, if_neg d]
        unfold sgC rsC
        by_cases w : twF T m q = true
        · rw [if_pos w, if_pos w]
          by_cases s : T q = 60
          · rw [if_pos s, if_pos s]; exact Or.inl ⟨(by decide), rfl⟩
          · rw [if_neg s, if_neg s]; exact Or.inl ⟨(by decide), rfl⟩
        · rw [if_neg w, if_neg w]
          rcases sg_rs ⟨T q, by have := hT q (by omega); omega⟩ with g | g
          · exact Or.inl ⟨by have := g.1; simp only at this; omega, g.2.1⟩
          · exact Or.inr (Or.inl g)
theorem rcL_inj : ∀ i j : Fin 17, rcL.getD i.1 0 = rcL.getD j.1 0 → i.1 = j.1 := by decide +kernel
theorem rcL_no : ∀ i : Fin 17, rcL.getD i.1 0 ≠ 2 ∧ rcL.getD i.1 0 ≠ 3 ∧ rcL.getD i.1 0 ≠ 44 := by decide +kernel
/-- a token below 17 is seen by both -/
theorem tk_iff (hT : ∀ i, i < m → T i ≤ 255) {k : Nat} (hk : k < 17) : tkC T m q = k ↔ rkC T m q = rcL.getD k 0 := by
  have n := rcL_no ⟨k, hk⟩
  simp only at n
  rcases tk_rk (q := q) hT with ⟨a, b⟩ | ⟨a, b⟩ | ⟨a, _, _, b⟩
  · constructor
    · intro h; rw [← h]; exact b
    · intro h; rw [b] at h; exact rcL_inj ⟨_, a⟩ ⟨k, hk⟩ h
  · constructor
    · intro h; omega
    · intro h; rw [h] at b; exact absurd b (by omega)
  · constructor
    · intro h
      rcases wc_or (T := T) (p := q) (e := eF bL T m q) with g | ⟨j, g1, g2, g3⟩ <;> omega
    · intro h; rw [h] at a; exact absurd a n.1
theorem tk_word (hT : ∀ i, i < m → T i ≤ 255) {i : Nat} (hi : i < 25) (h23 : i ≠ 23) : tkC T m q = 32 + i ↔ rkC T m q = 2 ∧ rkW T m q = cW i := by
  rcases tk_rk (q := q) hT with ⟨a, b⟩ | ⟨a, b⟩ | ⟨a, _, _, b⟩
  · have n := rcL_no ⟨_, a⟩
    simp only at n
    constructor
    · intro h; omega
    · intro h; rw [h.1] at b; exact absurd b.symm n.1
  · constructor
    · intro h; omega
    · intro h; omega
  · rw [b, wc_iff hi, rkW_iff hi h23]
    exact ⟨fun h => ⟨a, h⟩, fun h => h.2⟩
end TKR
