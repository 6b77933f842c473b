/-! what settling leaves -/
theorem stl_stl {r s : Nat} (h : r ≤ s) : ∀ {P : List Nat} {W : List (Nat × Nat)}, stl r (stl s P W).1 (stl s P W).2 = stl r P W
  | [], W => rfl
  | a :: P, W => by
    by_cases z : rkF a < s
    · have e : stl s (a :: P) W = (a :: P, W) := if_pos z
      rw [e]
    · have e : stl s (a :: P) W = stl s P (W ++ [(a, 0)]) := if_neg z
      have e2 : stl r (a :: P) W = stl r P (W ++ [(a, 0)]) := if_neg (by omega)
      rw [e, e2]; exact stl_stl h
/-- the top binds less than r -/
def low (r : Nat) (P : List Nat) : Prop := ∀ a Q, P = a :: Q → rkF a < r
theorem stl_low {r : Nat} {P : List Nat} {W : List (Nat × Nat)} (h : low r P) : stl r P W = (P, W) := by
  cases P with
  | nil => rfl
  | cons a P => exact if_pos (h a P rfl)
theorem low_stl {r : Nat} : ∀ {P : List Nat} {W : List (Nat × Nat)}, low r (stl r P W).1
  | [], W => fun a Q e => absurd e (List.cons_ne_nil _ _).symm
  | a :: P, W => by
    by_cases z : rkF a < r
    · have e : stl r (a :: P) W = (a :: P, W) := if_pos z
      rw [e]
      intro c Q e
      rw [← (List.cons.inj e).1]; exact z
    · have e : stl r (a :: P) W = stl r P (W ++ [(a, 0)]) := if_neg z
      rw [e]; exact low_stl
theorem ic_stl {r : Nat} (h : 5 ≤ r) : ∀ {P : List Nat} {W : List (Nat × Nat)}, icF (stl r P W).1 = icF P
  | [], W => rfl
  | a :: P, W => by
    by_cases z : rkF a < r
    · have e : stl r (a :: P) W = (a :: P, W) := if_pos z
      rw [e]
    · have e : stl r (a :: P) W = stl r P (W ++ [(a, 0)]) := if_neg z
      have e2 : icF (a :: P) = icF P := if_neg (by omega)
      rw [e, e2]; exact ic_stl h
theorem mk_stl {r : Nat} (h : 1 ≤ r) : ∀ {P : List Nat} {W : List (Nat × Nat)}, mkS (stl r P W).1 = mkS P
  | [], W => rfl
  | a :: P, W => by
    by_cases z : rkF a < r
    · have e : stl r (a :: P) W = (a :: P, W) := if_pos z
      rw [e]
    · have a40 := rkF_40 h z
      have e : stl r (a :: P) W = stl r P (W ++ [(a, 0)]) := if_neg z
      have e2 : mkS (a :: P) = mkS P := if_neg (by omega)
      rw [e, e2]; exact mk_stl h
theorem ko_stl {r : Nat} (h : 1 ≤ r) {P : List Nat} {W : List (Nat × Nat)} : koF (stl r P W).1 = koF P := by
  unfold koF; rw [mk_stl h]
/-- two piles alike from r on tell the same -/
theorem alike_ko {r : Nat} (h : 1 ≤ r) {P P' : List Nat} {W W' : List (Nat × Nat)} (e : stl r P' W' = stl r P W) : koF P' = koF P ∧ mkS P' = mkS P := by
  have a := mk_stl h (P := P') (W := W')
  have b := mk_stl h (P := P) (W := W)
  have c : mkS P' = mkS P := by rw [← a, ← b, e]
  exact ⟨by unfold koF; rw [c], c⟩
theorem alike_ic {r : Nat} (h : 5 ≤ r) {P P' : List Nat} {W W' : List (Nat × Nat)} (e : stl r P' W' = stl r P W) : icF P' = icF P := by
  have a := ic_stl h (P := P') (W := W')
  have b := ic_stl h (P := P) (W := W)
  rw [← a, ← b, e]
theorem alike_low {r s : Nat} (h : r ≤ s) {P P' : List Nat} {W W' : List (Nat × Nat)} (e : stl s P' W' = stl s P W) : stl r P' W' = stl r P W := by
  rw [← stl_stl h (P := P'), ← stl_stl h (P := P), e]
