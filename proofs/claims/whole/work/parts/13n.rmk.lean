/-! what the reference's pile tells -/
def mkS : List Nat → List Nat
  | [] => []
  | a :: P => if 40 ≤ a then a :: P else mkS P
def icF : List Nat → Bool
  | [] => false
  | a :: P => if rkF a ≤ 4 then decide (rkF a = 4) else icF P
def koF (P : List Nat) : Nat := (mkS P).headD 40
def iaF : List Nat → Bool
  | [] => false
  | a :: P => decide (koF (a :: P) = 41 ∧ (a = 41 ∨ (1 ≤ rkF a ∧ rkF a ≤ 3)))
section RMK
variable {b l : Nat}
theorem pl_mk {f : Nat → Int32} : ∀ {P : List Nat}, pl f P → pl f (mkS P)
  | [], h => h
  | a :: P, h => by
    unfold mkS
    split
    · exact h
    · exact pl_mk h.2.2
theorem mkS_le : ∀ {P : List Nat}, (mkS P).length ≤ P.length
  | [] => Nat.le_refl _
  | a :: P => by
    have := mkS_le (P := P)
    unfold mkS
    split
    · exact Nat.le_refl _
    · show _ ≤ P.length + 1
      omega
theorem less1 (x : Int32) : x + (-1) = x - 1 := (Int32.sub_eq_add_neg x 1).symm
theorem r_marker {Post : Int32 → MS → Prop} {y : MS} {P : List Nat} {W : List (Nat × Nat)} {o w : Nat} (h : rcf y b l P W o w) (hP : P.length ≤ 160) (k : Post (nI (mkS P).length - 1) y) : VC_marker Post y := by
  obtain ⟨_, _, ⟨p1, p2⟩, _⟩ := h
  intro K hK v1 e1
  rw [p1] at e1
  subst e1
  have loop : ∀ Q : List Nat, pl (y.2.2.1 16) Q → Q.length ≤ 160 → mkS Q = mkS P → K (nI Q.length - 1) y := by
    intro Q
    induction Q with
    | nil =>
      intro _ _ e
      refine hK _ _ ⟨fun _ => ?_, fun z => absurd (by decide) z⟩
      rw [← e] at k; exact k
    | cons a Q ih =>
      intro q1 q2 e
      have q2' : Q.length + 1 ≤ 160 := q2
      have ex : nI (a :: Q).length - 1 = nI Q.length := sub1
      rw [ex]
      refine hK _ _ ?_
      dsimp only [B_marker]
      rw [ncl (by omega), q1.1, less1]
      have a64 := q1.2.1
      refine ⟨fun z => absurd z (nI_pos (by omega)), fun _ => ⟨vp_in_nI (by omega) (by decide), fun z => ?_, fun z v2 e2 => ?_⟩⟩
      · rw [show (40 : Int32) = nI 40 from rfl, nle (by decide) (by omega)] at z
        have e1 : mkS (a :: Q) = a :: Q := if_pos z
        rw [← e, e1, ex] at k; exact k
      · rw [show (40 : Int32) = nI 40 from rfl, nle (by decide) (by omega)] at z
        have e1 : mkS (a :: Q) = mkS Q := if_neg z
        rw [e2]
        exact ih q1.2.2 (by omega) (by rw [← e, e1])
  exact loop P p2 hP rfl
theorem r_kind {Post : Int32 → MS → Prop} {y : MS} {P : List Nat} {W : List (Nat × Nat)} {o w : Nat} (h : rcf y b l P W o w) (hP : P.length ≤ 160) (k : Post (nI (koF P)) y) : VC_kindOpen Post 0 y := by
  refine r_marker h hP ?_
  have pm := pl_mk h.2.2.1.2
  have le := mkS_le (P := P)
  unfold koF at k
  cases hh : mkS P with
  | nil =>
    rw [hh] at k
    exact ⟨fun _ => ⟨fun _ => k, fun z => absurd rfl z⟩, fun z => absurd (by decide) z⟩
  | cons a Q =>
    rw [hh] at k pm le
    have le' : Q.length + 1 ≤ P.length := le
    have ex : nI (a :: Q).length - 1 = nI Q.length := sub1
    rw [ex]
    refine ⟨fun z => absurd z (nI_pos (by omega)), fun _ => ⟨vp_in_nI (by omega) (by decide), ?_⟩⟩
    rw [ncl (by omega), pm.1]; exact k
theorem r_isC {Post : Int32 → MS → Prop} {y : MS} {P : List Nat} {W : List (Nat × Nat)} {o w : Nat} (h : rcf y b l P W o w) (hP : P.length ≤ 160) (k1 : icF P = true → Post 1 y) (k0 : icF P = false → Post 0 y) : VC_isCompared Post y := by
  obtain ⟨_, _, ⟨p1, p2⟩, _⟩ := h
  intro K hK v1 e1
  rw [p1] at e1
  subst e1
  have loop : ∀ Q : List Nat, pl (y.2.2.1 16) Q → Q.length ≤ 160 → icF Q = icF P → K (.inl (nI Q.length - 1)) y := by
    intro Q
    induction Q with
    | nil =>
      intro _ _ e
      refine hK _ _ ⟨fun _ => hK _ _ ⟨fun _ => k0 (by rw [← e]; rfl), fun z => absurd (by decide) z⟩, fun z => absurd (by decide) z⟩
    | cons a Q ih =>
      intro q1 q2 e
      have q2' : Q.length + 1 ≤ 160 := q2
      have ex : nI (a :: Q).length - 1 = nI Q.length := sub1
      have a64 := q1.2.1
      have r7 := rkF_7 (a := a)
      rw [ex]
      refine hK _ _ ?_
      dsimp only [B_isCompared]
      rw [ncl (by omega), q1.1, less1]
      refine ⟨fun z => absurd z (nI_pos (by omega)), fun _ => ⟨vp_in_nI (by omega) (by decide), r_rank a64 ?_⟩⟩
      rw [show (4 : Int32) = nI 4 from rfl, nle (by omega) (by decide)]
      refine ⟨fun z => hK _ _ ?_, fun z v3 e3 => ?_⟩
      · dsimp only [B_isCompared]
        rw [ncl (by omega), q1.1]
        refine ⟨fun z => absurd z (nI_pos (by omega)), fun _ => ⟨vp_in_nI (by omega) (by decide), r_rank a64 ?_⟩⟩
        rw [show (4 : Int32) = nI 4 from rfl, neq (by omega) (by decide)]
        have e1 : icF (a :: Q) = decide (rkF a = 4) := if_pos z
        rw [e1] at e
        exact ⟨fun w => k0 (by rw [← e]; exact decide_eq_false w), fun w => k1 (by rw [← e]; exact decide_eq_true w)⟩
      · have e1 : icF (a :: Q) = icF Q := if_neg z
        rw [e3]
        exact ih q1.2.2 (by omega) (by rw [← e, e1])
  exact loop P p2 hP rfl
theorem koF_64 {f : Nat → Int32} {P : List Nat} (h : pl f P) : koF P < 64 := by
  have pm := pl_mk h
  unfold koF
  cases hh : mkS P with
  | nil => show 40 < 64; omega
  | cons a Q => rw [hh] at pm; exact pm.2.1
theorem r_ask {Post : Int32 → MS → Prop} {y : MS} {P : List Nat} {W : List (Nat × Nat)} {o w : Nat} (h : rcf y b l P W o w) (hP : P.length ≤ 160) (k1 : iaF P = true → Post 1 y) (k0 : iaF P = false → Post 0 y) : VC_isAskAhead Post 0 y := by
  refine r_kind h hP ?_
  obtain ⟨_, _, ⟨p1, p2⟩, _⟩ := h
  have k64 := koF_64 p2
  rw [show (41 : Int32) = nI 41 from rfl, neq (by omega) (by decide)]
  cases P with
  | nil =>
    exact ⟨fun _ => k0 rfl, fun z => absurd z (by decide)⟩
  | cons a Q =>
    have q2' : Q.length + 1 ≤ 160 := hP
    have a64 := p2.2.1
    have r7 := rkF_7 (a := a)
    have p1' : y.1 17 = nI (Q.length + 1) := p1
    rw [p1', sub1, ncl (by omega), p2.1, neq (by omega) (by decide)]
    refine ⟨fun z => k0 (decide_eq_false (fun y => z y.1)), fun z => ⟨fun x => ?_, fun _ => ⟨vp_in_nI (by omega) (by decide), fun x => k1 (decide_eq_true ⟨z, Or.inl x⟩), fun x => ⟨vp_in_nI (by omega) (by decide), r_rank a64 ?_⟩⟩⟩⟩
    · rw [show (0 : Int32) = nI 0 from rfl, neq (by omega) (by decide)] at x
      omega
    · refine mFrom (l := 1) (h := 3) (h1 := fun g => ⟨fun z => absurd z (by decide), fun _ => k1 (decide_eq_true ⟨z, Or.inr ?_⟩)⟩) (h0 := fun g => ⟨fun _ => k0 (decide_eq_false (fun y => y.2.elim x (fun y => g ⟨rkF a, y.1, y.2, rfl⟩))), fun z => absurd rfl z⟩)
      obtain ⟨c, c1, c2, c3⟩ := g
      have := (nI_eq (by omega) (by omega)).mp c3
      omega
theorem r_whole {Post : MS → Prop} {y : MS} {P : List Nat} {W : List (Nat × Nat)} {w : Nat} (h : rcf y b l P W (cnt P) w) (hW : W.length + P.length ≤ 300) (hP : P.length ≤ 160) (k : ∀ y', rcf y' b l (stl 7 P W).1 (stl 7 P W).2 (cnt (stl 7 P W).1) 1 → RT b y y' → Post y') : VC_whole Post y := by
  intro S1 e1
  obtain ⟨g12, g14, g17, g18, g19, g20⟩ := h
  have c : rcf S1 b l P W (cnt P) 1 := by
    rw [e1]
    refine ⟨⟨?_, g12.2⟩, ⟨?_, g14.2⟩, ⟨?_, g17.2⟩, ⟨?_, g18.2⟩, ?_, ⟨?_, g20.2⟩⟩
    · rw [sI_o _ _ _ _ (by decide)]; exact g12.1
    · rw [sI_o _ _ _ _ (by decide)]; exact g14.1
    · rw [sI_o _ _ _ _ (by decide)]; exact g17.1
    · rw [sI_o _ _ _ _ (by decide)]; exact g18.1
    · rw [sI_s]; rfl
    · rw [sI_o _ _ _ _ (by decide)]; exact g20.1
  exact r_settle (r := 7) (by decide) c hW hP (fun y' c' q' => k y' c' (RT.trans (by rw [e1]; exact (RT.refl y).I _ _ (by omega)) q'))
end RMK
