/-! a whole one, and a token that does not fit -/
section RBAD
variable {T : Nat → Nat} {m b l : Nat} {Post : Int32 → MS → Prop} {K : Hd_parsed → MS → Prop}
theorem ko_of {P Q : List Nat} {a : Nat} (e : mkS P = a :: Q) : koF P = a := by
  unfold koF; rw [e]; rfl
theorem run_bad (hK : ∀ h S, B_parsed Post K h S → K h S) {y : MS} {P : List Nat} {W : List (Nat × Nat)} {q : Nat} (h : rs T m b l y P W 1 q) (hP : P.length < 100) (z : bwN P (tkC T m q) = 0) (mk : mkS P ≠ []) (n9 : ¬ (tkC T m q = 9 ∧ koF P = 40)) (n42 : ¬ (tkC T m q = 42 ∧ koF P = 43)) (n11 : ¬ (tkC T m q = 11 ∧ koF P = 41 ∧ icF P = true)) (n12 : ¬ (tkC T m q = 12 ∧ koF P = 42)) (k : Post 1 y) : K (.inl (0, 1)) y := by
  refine run1 hK h (r_beh h hP (fun nz => absurd z nz) (fun _ Q t e => absurd ⟨t, ko_of e⟩ n9) (fun _ Q t e => absurd ⟨t, ko_of e⟩ n42) (fun _ Q a ha e => ?_) (fun _ _ _ _ _ => runE hK h (fun _ => k) (fun e => absurd e mk)))
  have ek := ko_of e
  rcases ha with ⟨t, ea, ic⟩ | ⟨t, ea⟩
  · exact absurd ⟨t, by rw [ek, ea], ic⟩ n11
  · exact absurd ⟨t, by rw [ek, ea]⟩ n12
end RBAD
