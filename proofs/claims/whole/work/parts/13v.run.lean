/-! the reference's run -/
section RUN
variable {T : Nat → Nat} {m b l : Nat} {Post : Int32 → MS → Prop} {K : Hd_parsed → MS → Prop}
theorem run0 (hK : ∀ h S, B_parsed Post K h S → K h S) {y : MS} {P : List Nat} {W : List (Nat × Nat)} {q : Nat} (h : rs T m b l y P W 0 q) (g : VC_beginOne (fun r8 S7 => ((r8 = 0 → K (.inl (0, 1)) S7) ∧ (¬ r8 = 0 → Post r8 S7))) 0 y) : K (.inl (0, 1)) y := by
  refine hK _ _ ?_
  dsimp only [B_parsed]
  exact ⟨fun z => absurd z (by decide), fun _ => ⟨fun _ => g, fun z => absurd h.2.2.2.1.2.2.2.2.1 z⟩⟩
theorem run1 (hK : ∀ h S, B_parsed Post K h S → K h S) {y : MS} {P : List Nat} {W : List (Nat × Nat)} {q : Nat} (h : rs T m b l y P W 1 q) (g : VC_behindOne (fun r10 S9 => K (.inl (0, r10)) S9) 0 y) : K (.inl (0, 1)) y := by
  have h19 := h.2.2.2.1.2.2.2.2.1
  refine hK _ _ ?_
  dsimp only [B_parsed]
  refine ⟨fun z => absurd z (by decide), fun _ => ⟨fun z => ?_, fun _ => g⟩⟩
  rw [h19] at z
  exact absurd z (by decide)
theorem runE (hK : ∀ h S, B_parsed Post K h S → K h S) {y : MS} {P : List Nat} {W : List (Nat × Nat)} {q : Nat} (h : rs T m b l y P W 1 q) (k1 : mkS P ≠ [] → Post 1 y) (k0 : mkS P = [] → ∀ y', rcf y' b l (stl 1 P W).1 (stl 1 P W).2 (cnt (stl 1 P W).1) 1 → RT b y y' → Post 0 y') : K (.inl (0, 0)) y := by
  obtain ⟨h1, h2, h3, h4, h5, h6⟩ := id h
  have m3 := h1.2.1
  have ml := mkS_le (P := P)
  refine hK _ _ ?_
  dsimp only [B_parsed]
  refine ⟨fun _ => r_marker h4 (by omega) ?_, fun z => absurd rfl z⟩
  cases hh : mkS P with
  | nil =>
    refine ⟨fun z => absurd z (by decide), fun _ => ⟨fun _ => hK _ _ ?_, fun z => absurd rfl z⟩⟩
    dsimp only [B_parsed]
    exact r_settle (r := 1) (by decide) h4 (by omega) (by omega) (k0 hh)
  | cons a Q =>
    rw [hh] at ml
    have ml' : Q.length + 1 ≤ P.length := ml
    have ex : nI (a :: Q).length - 1 = nI Q.length := sub1
    rw [ex]
    exact ⟨fun _ => k1 (by rw [hh]; exact List.cons_ne_nil _ _), fun z => absurd (nI_le (a := 0) (Nat.zero_le _) (by omega)) z⟩
end RUN
