/-! what a state is, in numbers: A is the reference's array -/
def sumP (A : Nat → Nat) (m p : Nat) : Nat := sumR (fun i => decide (A (250 + 4 * i) = p)) (fun i => A (252 + 4 * i)) m
def sumPB (A : Nat → Nat) (m p b : Nat) : Nat := sumR (fun i => decide (A (250 + 4 * i) = p ∧ A (251 + 4 * i) = b)) (fun i => A (252 + 4 * i)) m
def sumBH (A : Nat → Nat) (m b h : Nat) : Nat := sumR (fun i => decide (A (251 + 4 * i) = b ∧ A (253 + 4 * i) = h)) (fun i => A (252 + 4 * i)) m
def sumH (A : Nat → Nat) (m h : Nat) : Nat := sumR (fun i => decide (A (253 + 4 * i) = h)) (fun i => A (252 + 4 * i)) m
def sumPBH (A : Nat → Nat) (m p b h : Nat) : Nat := sumR (fun i => decide (A (250 + 4 * i) = p ∧ A (251 + 4 * i) = b ∧ A (253 + 4 * i) = h)) (fun i => A (252 + 4 * i)) m
def sung (A : Nat → Nat) (m p k : Nat) : Prop := ∀ t : Nat, (A (41 + 3 * k)).testBit t = true → ∃ b : Nat, b < 6 ∧ 0 < sumPB A m p b ∧ A (11 + 5 * b) = t
/-- the state of a piece p of kind k with the first m bubbles is s -/
def isSt (A : Nat → Nat) (m p k s : Nat) : Prop := (sumP A m p < A (40 + 3 * k) ∧ s = 0) ∨ (sumP A m p = A (40 + 3 * k) ∧ sung A m p k ∧ s = 1) ∨ (A (40 + 3 * k) ≤ sumP A m p ∧ ¬ (sumP A m p = A (40 + 3 * k) ∧ sung A m p k) ∧ s = 2)
def live (A : Nat → Nat) (c : Nat) : Nat :=
  if c = 0 then A 3 else if c = 1 then A 2 else if c = 2 then A 9 else if c = 3 then A 0
  else if c < 10 then A (12 + 5 * (c - 4)) else if c < 16 then A (13 + 5 * (c - 10)) else A (150 + (c - 16))
/-- what a step back would bring: j = A 6 is now -/
def core (A : Nat → Nat) (j c : Nat) : Nat := if j < A 6 then A (410 + 116 * j + c) else live A c
def logOK (A : Nat → Nat) (v : Nat → Nat) : Prop := ∀ i, i < v 2 → A (250 + 4 * i) < v 1 ∧ A (251 + 4 * i) < v 3 ∧ 1 ≤ A (252 + 4 * i) ∧ A (252 + 4 * i) ≤ 9 ∧ A (253 + 4 * i) ≤ v 0
def pieceOK (A : Nat → Nat) (v : Nat → Nat) (p : Nat) : Prop := v (16 + 10 * p) < A 1 ∧ isSt A (v 2) p (v (16 + 10 * p)) (v (17 + 10 * p)) ∧ v (18 + 10 * p) = sumP A (v 2) p ∧ v (19 + 10 * p) ≤ 1 ∧ ∀ b, b < 6 → v (20 + 10 * p + b) = sumPB A (v 2) p b
/-- a core holds together with the log -/
def Cons (A : Nat → Nat) (v : Nat → Nat) : Prop := v 0 ≤ 999 ∧ v 1 ≤ 10 ∧ v 2 ≤ 40 ∧ v 3 ≤ A 0 ∧ logOK A v ∧ (∀ b, b < v 3 → v (4 + b) ≤ 999) ∧ (∀ b, b < v 3 → v (10 + b) = sumBH A (v 2) b (v 0)) ∧ (∀ p, p < v 1 → pieceOK A v p)
def crewOK (A : Nat → Nat) : Prop := ∀ i, i < A 0 → 1 ≤ A (10 + 5 * i) ∧ A (10 + 5 * i) ≤ 9 ∧ A (11 + 5 * i) ≤ 3 ∧ A (12 + 5 * i) ≤ 999 ∧ A (14 + 5 * i) < 2 ^ A 0
def foesOK (A : Nat → Nat) : Prop := ∀ i j, i < A 0 → j < A 0 → (A (14 + 5 * i)).testBit j = (A (14 + 5 * j)).testBit i ∧ (A (14 + 5 * i)).testBit i = false
def kindsOK (A : Nat → Nat) : Prop := ∀ k, k < A 1 → 1 ≤ A (40 + 3 * k) ∧ A (40 + 3 * k) ≤ 30 ∧ A (41 + 3 * k) ≤ 15 ∧ A (42 + 3 * k) ≤ 999
def talkOK (A : Nat → Nat) : Prop := (∀ i, i < A 7 → A (60 + i) ≤ 40) ∧ ∀ i, i < A 8 → A (70 + 4 * i) < A 0 ∧ A (71 + 4 * i) ≤ 9 ∧ 1 ≤ A (72 + 4 * i) ∧ A (72 + 4 * i) ≤ 9 ∧ A (73 + 4 * i) ≤ 999
def headOK (A : Nat → Nat) : Prop := A 0 ≤ 6 ∧ A 1 ≤ 6 ∧ A 4 ≤ 4 ∧ A 5 ≤ A 4 ∧ A 6 ≤ 30 ∧ A 7 ≤ 8 ∧ A 8 ≤ 20
/-- the first s cores are all consistent, and their bubbles grow -/
def histOK (A : Nat → Nat) : Prop := (∀ j, j ≤ A 6 → Cons A (core A j)) ∧ ∀ j, j < A 6 → core A j 2 ≤ core A (j + 1) 2
def Inv (A : Nat → Nat) : Prop := headOK A ∧ crewOK A ∧ foesOK A ∧ kindsOK A ∧ talkOK A ∧ histOK A
/-! the class's side -/
/-- a row of the steps leads from core c to core d -/
def stepOK (f : Nat → Int32) (r : Nat) (c d : Nat → Nat) : Prop :=
  ∃ t : Nat, f r = nI t ∧ t ≤ 3 ∧ (t = 0 → d 1 = c 1 + 1 ∧ d 2 = c 2 ∧ d 0 = c 0) ∧ (t = 1 → d 1 = c 1 ∧ d 2 = c 2 + 1 ∧ d 0 = c 0) ∧ (t = 2 → d 1 = c 1 ∧ d 2 = c 2 ∧ d 0 = c 0 + 1)
    ∧ (t = 3 → d 1 = c 1 ∧ d 2 = c 2 ∧ d 0 = c 0 ∧ ∃ p, p < c 1 ∧ f (r + 1) = nI p ∧ c (19 + 10 * p) = 0 ∧ ∀ p', p' < c 1 → p' ≠ p → d (19 + 10 * p') = c (19 + 10 * p'))
    ∧ (t ≠ 3 → ∀ p, p < c 1 → d (19 + 10 * p) = c (19 + 10 * p)) ∧ (∀ p, p < c 1 → d (16 + 10 * p) = c (16 + 10 * p))
    ∧ c 3 ≤ d 3 ∧ (∀ b, b < c 3 → f (r + 2 + b) = nI (d (4 + b)) - nI (c (4 + b))) ∧ (∀ b, c 3 ≤ b → b < 6 → f (r + 2 + b) = 0)
def rxCrew (I : Nat → Int32) (F : Nat → Nat → Int32) (A : Nat → Nat) : Prop := I 64 = nI (A 0) ∧ ∀ i, i < A 0 → F 3 i = nI (A (10 + 5 * i)) ∧ F 4 i = nI (A (11 + 5 * i)) ∧ F 5 i = nI (A (12 + 5 * i)) ∧ F 6 i = nI (A (14 + 5 * i))
def rxWares (I : Nat → Int32) (F : Nat → Nat → Int32) (A : Nat → Nat) : Prop := I 224 = nI (A 1) ∧ ∀ k, k < A 1 → F 8 k = nI (A (40 + 3 * k)) ∧ F 9 k = nI (A (41 + 3 * k)) ∧ F 10 k = nI (A (42 + 3 * k))
def rxBench (I : Nat → Int32) (F : Nat → Nat → Int32) (A : Nat → Nat) : Prop := I 352 = nI (A 3) ∧ I 353 = nI (A 2) ∧ I 356 = nI (A 9) ∧ (∀ p, p < A 2 → F 12 p = nI (A (150 + 10 * p)) ∧ F 13 p = nI (A (153 + 10 * p))) ∧ ∀ i, i < 4 * A 9 → F 14 i = nI (A (250 + i))
def rxSteps (I : Nat → Int32) (F : Nat → Nat → Int32) (A : Nat → Nat) : Prop := I 481 = nI (A 6) ∧ ∃ f : Nat, f < 30 ∧ I 480 = nI f ∧ ∀ j, j < A 6 → stepOK (F 16) (8 * ((f + j) % 30)) (core A j) (core A (j + 1))
def rxTalk (I : Nat → Int32) (F : Nat → Nat → Int32) (A : Nat → Nat) : Prop := I 544 = nI (A 7) ∧ I 546 = nI (A 8) ∧ (∀ i, i < A 7 → F 18 i = nI (A (60 + i))) ∧ ∀ i, i < A 8 → F 19 (4 * i) = nI (A (71 + 4 * i)) ∧ F 19 (4 * i + 1) = nI (A (70 + 4 * i)) ∧ F 19 (4 * i + 2) = nI (A (72 + 4 * i)) ∧ F 19 (4 * i + 3) = nI (A (73 + 4 * i))
def rxText (I : Nat → Int32) (A : Nat → Nat) : Prop := I 38 = nI (A 4) ∧ I 39 = nI (A 5) - 1
def RX (I : Nat → Int32) (F : Nat → Nat → Int32) (A : Nat → Nat) : Prop := rxCrew I F A ∧ rxWares I F A ∧ rxBench I F A ∧ rxSteps I F A ∧ rxTalk I F A ∧ rxText I A
/-- the kept one's ints and arrays -/
def kI (x : XS) : Nat → Int32 := fun k => if k < 640 then x.1 (k + 640) else 0
def kF (x : XS) : Nat → Nat → Int32 := fun k => if k < 20 then x.2.1 (k + 20) else fun _ => 0
theorem kI_xI (x : XS) (k : Nat) (v : Int32) (h : k < 640 ∨ 1280 ≤ k) : kI (xI x k v) = kI x := by
  funext j
  unfold kI
  by_cases hj : j < 640
  · rw [if_pos hj, if_pos hj, xI_n _ _ (by omega)]
  · rw [if_neg hj, if_neg hj]
theorem kI_xF (x : XS) (k : Nat) (f : Nat → Int32) : kI (xF x k f) = kI x := rfl
theorem kF_xI (x : XS) (k : Nat) (v : Int32) : kF (xI x k v) = kF x := rfl
theorem kF_xF (x : XS) (k : Nat) (f : Nat → Int32) (h : k < 20 ∨ 40 ≤ k) : kF (xF x k f) = kF x := by
  funext j
  unfold kF
  by_cases hj : j < 20
  · rw [if_pos hj, if_pos hj, xF_o _ _ _ _ (by omega)]
  · rw [if_neg hj, if_neg hj]
/-- what a call leaves as it was: the kept state, the texts, the tape, the fault -/
def XFr (x x' : XS) : Prop := kI x' = kI x ∧ kF x' = kF x ∧ x'.2.2 = x.2.2 ∧ x'.2.1 42 = x.2.1 42 ∧ x'.1 1313 = x.1 1313 ∧ x'.1 1376 = x.1 1376 ∧ x'.1 1377 = x.1 1377 ∧ x'.1 1378 = x.1 1378
theorem XFr.refl (x : XS) : XFr x x := ⟨rfl, rfl, rfl, rfl, rfl, rfl, rfl, rfl⟩
theorem XFr.I {x x' : XS} (h : XFr x x') (k : Nat) (v : Int32) (hk : k < 640 ∨ 1380 ≤ k) : XFr x (xI x' k v) := by
  obtain ⟨h1, h2, h3, h4, h5, h6, h7, h8⟩ := h
  refine ⟨by rw [kI_xI _ _ _ (by omega), h1], by rw [kF_xI, h2], h3, h4, ?_, ?_, ?_, ?_⟩
  · rw [xI_n _ _ (by omega), h5]
  · rw [xI_n _ _ (by omega), h6]
  · rw [xI_n _ _ (by omega), h7]
  · rw [xI_n _ _ (by omega), h8]
theorem XFr.F {x x' : XS} (h : XFr x x') (k : Nat) (f : Nat → Int32) (hk : k < 20 ∨ 43 ≤ k) : XFr x (xF x' k f) := by
  obtain ⟨h1, h2, h3, h4, h5, h6, h7, h8⟩ := h
  exact ⟨by rw [kI_xF, h1], by rw [kF_xF _ _ _ (by omega), h2], h3, by rw [xF_o _ _ _ _ (by omega), h4], h5, h6, h7, h8⟩
theorem XFr.trans {x y z : XS} (h : XFr x y) (g : XFr y z) : XFr x z := by
  obtain ⟨h1, h2, h3, h4, h5, h6, h7, h8⟩ := h
  obtain ⟨g1, g2, g3, g4, g5, g6, g7, g8⟩ := g
  exact ⟨g1.trans h1, g2.trans h2, g3.trans h3, g4.trans h4, g5.trans h5, g6.trans h6, g7.trans h7, g8.trans h8⟩
/-- and its own state -/
def NFr (x x' : XS) : Prop := (∀ k, k < 640 → x'.1 k = x.1 k) ∧ ∀ k, k < 20 → x'.2.1 k = x.2.1 k
theorem NFr.refl (x : XS) : NFr x x := ⟨fun _ _ => rfl, fun _ _ => rfl⟩
theorem NFr.I {x x' : XS} (h : NFr x x') (k : Nat) (v : Int32) (hk : 640 ≤ k) : NFr x (xI x' k v) := ⟨fun j hj => by rw [xI_n _ _ (by omega), h.1 j hj], h.2⟩
theorem NFr.F {x x' : XS} (h : NFr x x') (k : Nat) (f : Nat → Int32) (hk : 20 ≤ k) : NFr x (xF x' k f) := ⟨h.1, fun j hj => by rw [xF_o _ _ _ _ (by omega), h.2 j hj]⟩
theorem NFr.trans {x y z : XS} (h : NFr x y) (g : NFr y z) : NFr x z := ⟨fun k hk => (g.1 k hk).trans (h.1 k hk), fun k hk => (g.2 k hk).trans (h.2 k hk)⟩
/-- the reference: what a call leaves as it was -/
def YFr (y y' : MS) : Prop := y'.2.2.1 1 = y.2.2.1 1 ∧ y'.2.2.1 2 = y.2.2.1 2 ∧ y'.2.2.1 3 = y.2.2.1 3 ∧ y'.1 4 = y.1 4 ∧ y'.1 5 = y.1 5 ∧ y'.1 6 = y.1 6
theorem YFr.refl (y : MS) : YFr y y := ⟨rfl, rfl, rfl, rfl, rfl, rfl⟩
theorem YFr.F {y y' : MS} (h : YFr y y') (k : Nat) (f : Nat → Int32) (hk : k = 0 ∨ 4 ≤ k) : YFr y (sF y' k f) := by
  obtain ⟨h1, h2, h3, h4, h5, h6⟩ := h
  exact ⟨by rw [sF_o _ _ _ _ (by omega), h1], by rw [sF_o _ _ _ _ (by omega), h2], by rw [sF_o _ _ _ _ (by omega), h3], h4, h5, h6⟩
theorem YFr.I {y y' : MS} (h : YFr y y') (k : Nat) (v : Int32) (hk : 7 ≤ k) : YFr y (sI y' k v) := by
  obtain ⟨h1, h2, h3, h4, h5, h6⟩ := h
  exact ⟨h1, h2, h3, by rw [sI_o _ _ _ _ (by omega), h4], by rw [sI_o _ _ _ _ (by omega), h5], by rw [sI_o _ _ _ _ (by omega), h6]⟩
theorem YFr.V {y y' : MS} (h : YFr y y') (f : Nat → Int64) : YFr y (sV y' f) := h
theorem YFr.trans {x y z : MS} (h : YFr x y) (g : YFr y z) : YFr x z := by
  obtain ⟨h1, h2, h3, h4, h5, h6⟩ := h
  obtain ⟨g1, g2, g3, g4, g5, g6⟩ := g
  exact ⟨g1.trans h1, g2.trans h2, g3.trans h3, g4.trans h4, g5.trans h5, g6.trans h6⟩
/-! sums -/
theorem sumR_congr {q q' : Nat → Bool} {w w' : Nat → Nat} : ∀ {m : Nat}, (∀ i, i < m → q i = q' i ∧ w i = w' i) → sumR q w m = sumR q' w' m
  | 0, _ => rfl
  | m + 1, h => by
    have h1 := sumR_congr (m := m) (fun i hi => h i (by omega))
    have h2 := h m (by omega)
    simp only [sumR, h1, h2.1, h2.2]
theorem sumR_le {q : Nat → Bool} {w : Nat → Nat} {B : Nat} : ∀ {m : Nat}, (∀ i, i < m → w i ≤ B) → sumR q w m ≤ m * B
  | 0, _ => by simp [sumR]
  | m + 1, h => by
    have h1 := sumR_le (q := q) (m := m) (fun i hi => h i (by omega))
    have h2 := h m (by omega)
    simp only [sumR, Nat.succ_mul]
    split <;> omega
theorem sumR_zero {q : Nat → Bool} {w : Nat → Nat} : ∀ {m : Nat}, (∀ i, i < m → q i = false) → sumR q w m = 0
  | 0, _ => rfl
  | m + 1, h => by simp only [sumR, sumR_zero (m := m) (fun i hi => h i (by omega)), h m (by omega)]; rfl
theorem sumR_pos {q : Nat → Bool} {w : Nat → Nat} : ∀ {m : Nat}, (∀ i, i < m → 1 ≤ w i) → (0 < sumR q w m ↔ ∃ i, i < m ∧ q i = true)
  | 0, _ => by simp [sumR]
  | m + 1, h => by
    have h1 := sumR_pos (q := q) (m := m) (fun i hi => h i (by omega))
    have h2 := h m (by omega)
    simp only [sumR]
    constructor
    · intro h3
      by_cases h4 : q m = true
      · exact ⟨m, by omega, h4⟩
      · simp only [h4] at h3
        obtain ⟨i, hi, e⟩ := h1.mp (by simpa using h3)
        exact ⟨i, by omega, e⟩
    · rintro ⟨i, hi, e⟩
      by_cases h4 : i = m
      · subst h4
        rw [if_pos e]
        omega
      · have := h1.mpr ⟨i, by omega, e⟩
        omega
/-- a sum over all who can have given -/
theorem sumR_split {q : Nat → Bool} {g w : Nat → Nat} {n : Nat} : ∀ {m : Nat}, (∀ i, i < m → g i < n) → sumR q w m = sumR (fun _ => true) (fun b => sumR (fun i => q i && decide (g i = b)) w m) n
  | 0, _ => by
    have : ∀ n : Nat, sumR (fun _ => true) (fun b => sumR (fun i => q i && decide (g i = b)) w 0) n = 0 := by
      intro n
      induction n with
      | zero => rfl
      | succ n ih => show sumR _ _ n + (if true = true then sumR _ w 0 else 0) = 0; rw [ih]; rfl
    rw [this]; rfl
  | m + 1, h => by
    have h1 := sumR_split (q := q) (g := g) (w := w) (n := n) (m := m) (fun i hi => h i (by omega))
    have key : ∀ n : Nat, sumR (fun _ => true) (fun b => sumR (fun i => q i && decide (g i = b)) w (m + 1)) n = sumR (fun _ => true) (fun b => sumR (fun i => q i && decide (g i = b)) w m) n + if g m < n ∧ q m = true then w m else 0 := by
      intro n
      induction n with
      | zero => simp [sumR]
      | succ n ih =>
        simp only [sumR, if_true] at ih ⊢
        rw [ih]
        by_cases h3 : q m = true
        · by_cases h4 : g m = n
          · have h5 : ¬ g m < n := by omega
            have h6 : g m < n + 1 := by omega
            simp [h3, h4]
            omega
          · by_cases h5 : g m < n
            · have h6 : g m < n + 1 := by omega
              simp [h3, h4, h5, h6]
              omega
            · have h6 : ¬ g m < n + 1 := by omega
              simp [h3, h4, h5, h6]
        · simp [h3]
    rw [key, ← h1]
    simp only [sumR, h m (by omega), true_and]
theorem sumH_split {A : Nat → Nat} {m n h : Nat} (hb : ∀ i, i < m → A (251 + 4 * i) < n) : sumH A m h = sumR (fun _ => true) (fun b => sumBH A m b h) n := by
  unfold sumH sumBH
  rw [sumR_split (g := fun i => A (251 + 4 * i)) hb]
  refine sumR_congr (fun b _ => ⟨rfl, ?_⟩)
  refine sumR_congr (fun i _ => ⟨?_, rfl⟩)
  by_cases h1 : A (253 + 4 * i) = h <;> by_cases h2 : A (251 + 4 * i) = b <;> simp [h1, h2]
/-! what a core's consistency needs of A -/
theorem sumP_congr {A B : Nat → Nat} {m p : Nat} (h : ∀ i, i < 4 * m → A (250 + i) = B (250 + i)) : sumP A m p = sumP B m p :=
  sumR_congr (fun i hi => ⟨by have := h (4 * i) (by omega); rw [this], by have := h (4 * i + 2) (by omega); rw [show 252 + 4 * i = 250 + (4 * i + 2) by omega]; exact this⟩)
theorem sumPB_congr {A B : Nat → Nat} {m p b : Nat} (h : ∀ i, i < 4 * m → A (250 + i) = B (250 + i)) : sumPB A m p b = sumPB B m p b :=
  sumR_congr (fun i hi => ⟨by rw [show 251 + 4 * i = 250 + (4 * i + 1) by omega, h (4 * i) (by omega), h (4 * i + 1) (by omega)], by rw [show 252 + 4 * i = 250 + (4 * i + 2) by omega]; exact h (4 * i + 2) (by omega)⟩)
theorem sumBH_congr {A B : Nat → Nat} {m b t : Nat} (h : ∀ i, i < 4 * m → A (250 + i) = B (250 + i)) : sumBH A m b t = sumBH B m b t :=
  sumR_congr (fun i hi => ⟨by rw [show 251 + 4 * i = 250 + (4 * i + 1) by omega, show 253 + 4 * i = 250 + (4 * i + 3) by omega, h (4 * i + 3) (by omega), h (4 * i + 1) (by omega)], by rw [show 252 + 4 * i = 250 + (4 * i + 2) by omega]; exact h (4 * i + 2) (by omega)⟩)
theorem sumPB_zero {A : Nat → Nat} {m p b n : Nat} (h : ∀ i, i < m → A (251 + 4 * i) < n) (hb : n ≤ b) : sumPB A m p b = 0 :=
  sumR_zero (fun i hi => by have := h i hi; simp; omega)
/-- A may change where core v doesn't look -/
theorem Cons_mono {A B v : Nat → Nat} (hc : Cons A v) (h0 : A 0 ≤ B 0) (h1 : A 1 ≤ B 1) (hk : ∀ k, k < A 1 → A (40 + 3 * k) = B (40 + 3 * k) ∧ A (41 + 3 * k) = B (41 + 3 * k)) (hv : ∀ b, b < v 3 → A (11 + 5 * b) = B (11 + 5 * b)) (hl : ∀ i, i < 4 * v 2 → A (250 + i) = B (250 + i)) : Cons B v := by
  obtain ⟨c0, c1, c2, c3, c4, c5, c6, c7⟩ := hc
  have l0 : ∀ i, i < v 2 → A (250 + 4 * i) = B (250 + 4 * i) := fun i hi => hl (4 * i) (by omega)
  have l1 : ∀ i, i < v 2 → A (251 + 4 * i) = B (251 + 4 * i) := fun i hi => by have := hl (4 * i + 1) (by omega); rwa [show 250 + (4 * i + 1) = 251 + 4 * i by omega] at this
  have l2 : ∀ i, i < v 2 → A (252 + 4 * i) = B (252 + 4 * i) := fun i hi => by have := hl (4 * i + 2) (by omega); rwa [show 250 + (4 * i + 2) = 252 + 4 * i by omega] at this
  have l3 : ∀ i, i < v 2 → A (253 + 4 * i) = B (253 + 4 * i) := fun i hi => by have := hl (4 * i + 3) (by omega); rwa [show 250 + (4 * i + 3) = 253 + 4 * i by omega] at this
  refine ⟨c0, c1, c2, by omega, fun i hi => ?_, c5, fun b hb => ?_, fun p hp => ?_⟩
  · have := c4 i hi
    rw [l0 i hi, l1 i hi, l2 i hi, l3 i hi] at this
    exact this
  · rw [c6 b hb]; exact sumBH_congr hl
  · obtain ⟨d1, d2, d3, d4, d5⟩ := c7 p hp
    have hk' := hk _ d1
    have hs : sung A (v 2) p (v (16 + 10 * p)) ↔ sung B (v 2) p (v (16 + 10 * p)) := by
      unfold sung
      rw [hk'.2]
      refine forall_congr' (fun t => imp_congr Iff.rfl (exists_congr (fun b => ?_)))
      rw [sumPB_congr (A := A) (B := B) hl]
      by_cases hb : b < v 3
      · rw [hv b hb]
      · have z : sumPB B (v 2) p b = 0 := sumPB_zero (n := v 3) (fun i hi => by have := (c4 i hi).2.1; rw [l1 i hi] at this; exact this) (by omega)
        rw [z]
        simp
    refine ⟨by omega, ?_, by rw [d3]; exact sumP_congr hl, d4, fun b hb => by rw [d5 b hb]; exact sumPB_congr hl⟩
    unfold isSt at d2 ⊢
    rw [← sumP_congr (A := A) (B := B) hl, ← hk'.1, ← hs]
    exact d2
