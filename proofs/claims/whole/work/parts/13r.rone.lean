/-! one's beginning, whole -/
theorem rvF_le {T : Nat → Nat} {m : Nat} : ∀ {n p v : Nat}, v ≤ 1000000 → rvF T m n p v ≤ 1000000
  | 0, p, v, h => h
  | n + 1, p, v, h => by
    unfold rvF
    by_cases z : p < m ∧ bD (T p) = true
    · have hd2 : 48 ≤ T p ∧ T p ≤ 57 := of_decide_eq_true z.2
      rw [if_pos z]
      refine rvF_le ?_
      split <;> omega
    · rw [if_neg z]; exact h
section RONE
variable {T : Nat → Nat} {m b l : Nat}
theorem r_beg1 {Post : Int32 → MS → Prop} {y : MS} {P : List Nat} {W : List (Nat × Nat)} {q : Nat} (h : rs T m b l y P W 0 q) (hP : P.length < 100)
    (kn : tkC T m q = 15 → rkV T m q ≤ 9999 → ∀ y', rs T m b l y' (stl 7 P (W ++ [(0, rkV T m q)])).1 (stl 7 P (W ++ [(0, rkV T m q)])).2 1 (nx T m q) → RF b y y' → Post 0 y')
    (kb : tkC T m q = 15 → ¬ rkV T m q ≤ 9999 → Post 2 y)
    (km : ∀ n, tkC T m q = 46 + n → n < 11 → nmB l n = true → ∀ y', rs T m b l y' (stl 7 P (W ++ [(1, n)])).1 (stl 7 P (W ++ [(1, n)])).2 1 (nx T m q) → RF b y y' → Post 0 y')
    (kx : ∀ n, tkC T m q = 46 + n → n < 11 → nmB l n = false → Post 5 y)
    (ko : ∀ a, (tkC T m q = 8 ∧ a = 40) ∨ (tkC T m q = 5 ∧ a = 2) ∨ (tkC T m q = 41 ∧ a = 41) ∨ (tkC T m q = 45 ∧ iaF P = true ∧ a = 20) → (cnt P < 8 → ∀ y', rs T m b l y' (a :: P) W 0 (nx T m q) → RF b y y' → Post 0 y') ∧ (¬ cnt P < 8 → Post 3 y))
    (k1 : tkC T m q < 46 → tkC T m q ≠ 15 → tkC T m q ≠ 8 → tkC T m q ≠ 5 → tkC T m q ≠ 41 → ¬ (tkC T m q = 45 ∧ iaF P = true) → Post 1 y) : VC_beginOne Post 0 y := by
  obtain ⟨h1, h2, h3, h4, h5, h6⟩ := id h
  have hT : ∀ i, i < m → T i ≤ 255 := fun i hi => (h1.2.2 i hi).2
  have tl := tkC_lt (q := q) hT
  have e15 := tk_iff (q := q) hT (k := 15) (by decide)
  have e8 := tk_iff (q := q) hT (k := 8) (by decide)
  have e5 := tk_iff (q := q) hT (k := 5) (by decide)
  have e15' : tkC T m q = 15 ↔ rkC T m q = 1 := e15
  have e8' : tkC T m q = 8 ↔ rkC T m q = 40 := e8
  have e5' : tkC T m q = 5 ↔ rkC T m q = 45 := e5
  have p160 : P.length ≤ 160 := (by omega)
  have vb : rkV T m q ≤ 1000000 := rvF_le (by decide)
  have q1 : (y.1 9 = (1 : Int32)) = (tkC T m q = 15) := by rw [show (1 : Int32) = nI 1 from rfl, tok2 hT h3 1 (by decide), eq_iff_iff]; exact e15'.symm
  have q40 : (y.1 9 = (40 : Int32)) = (tkC T m q = 8) := by rw [show (40 : Int32) = nI 40 from rfl, tok2 hT h3 40 (by decide), eq_iff_iff]; exact e8'.symm
  have q45 : (y.1 9 = (45 : Int32)) = (tkC T m q = 5) := by rw [show (45 : Int32) = nI 45 from rfl, tok2 hT h3 45 (by decide), eq_iff_iff]; exact e5'.symm
  have q2 : (y.1 9 = (2 : Int32)) = (rkC T m q = 2) := by rw [show (2 : Int32) = nI 2 from rfl, tok2 hT h3 2 (by decide)]
  intro K hK
  -- what is written
  have putN : tkC T m q = 15 → rkV T m q ≤ 9999 → ∀ r2 : Int32, K (.inr (.inr (.inl (0, r2)))) y := fun t v r2 => by
    refine hK _ _ ?_
    dsimp only [B_beginOne]
    rw [q1]
    refine ⟨fun z => absurd t z, fun _ => hK _ _ ?_⟩
    dsimp only [B_beginOne]
    rw [q1]
    refine ⟨fun z => absurd t z, fun _ => hK _ _ ?_⟩
    dsimp only [B_beginOne]
    rw [h3.2.2.2.1 (e15'.mp t)]
    exact r_put (a := 0) h (by omega) (kn t v)
  have putM : ∀ n, tkC T m q = 46 + n → n < 11 → nmB l n = true → K (.inr (.inr (.inl (0, nI n)))) y := fun n t n11 v => by
    have nt : ¬ tkC T m q = 15 := (by omega)
    refine hK _ _ ?_
    dsimp only [B_beginOne]
    rw [q1]
    refine ⟨fun _ => hK _ _ ?_, fun z => absurd z nt⟩
    dsimp only [B_beginOne]
    rw [q1]
    refine ⟨fun _ => hK _ _ ?_, fun z => absurd z nt⟩
    dsimp only [B_beginOne]
    exact r_put (a := 1) h (by omega) (km n t n11 v)
  -- not a name
  have rest : tkC T m q < 46 → tkC T m q ≠ 15 → tkC T m q ≠ 8 → tkC T m q ≠ 5 → tkC T m q ≠ 41 → ∀ r2 : Int32, K (.inr (.inr (.inr (.inr (.inr (0, r2)))))) y := fun t46 t15 t8 t5 t41 r2 => by
    refine hK _ _ ?_
    dsimp only [B_beginOne, VC_w3]
    refine r_isWord (i := 13) hT h3 (by decide) (by decide) (by decide +kernel) (fun t => ⟨fun z => absurd z (by decide), fun _ => ?_⟩) (fun t => ⟨fun _ => k1 t46 t15 t8 t5 t41 (fun z => t z.1), fun z => absurd rfl z⟩)
    refine r_ask h4 p160 (fun ia => ⟨fun z => absurd z (by decide), fun _ => ?_⟩) (fun ia => ⟨fun _ => k1 t46 t15 t8 t5 t41 (fun z => by rw [ia] at z; exact absurd z.2 (by decide)), fun z => absurd rfl z⟩)
    have kk := ko 20 (Or.inr (Or.inr (Or.inr ⟨t, ia, rfl⟩)))
    exact r_opens (a := 20) (by omega) h hP (by omega) kk.1 kk.2
  have open1 : ∀ r2 : Int32, tkC T m q < 46 → r2 < 0 → (tkC T m q = 15 → rkV T m q ≤ 9999) → K (.inr (.inl (0, r2))) y := fun r2 t46 r0 v => by
    refine hK _ _ ?_
    dsimp only [B_beginOne]
    rw [q1, q40, q45, q2]
    refine ⟨fun t => putN t (v t) r2, fun n15 => ⟨fun _ => ⟨fun n8 => ⟨fun n5 => ⟨fun n2 => ?_, fun z2 => ?_⟩, fun t => ?_⟩, fun t => ?_⟩, fun z => absurd r0 z⟩⟩
    · refine rest t46 n15 n8 n5 (fun t41 => ?_) r2
      exact n2 ((tk_word hT (i := 9) (by decide) (by decide)).mp t41).1
    · refine nstep (i := 9) hT h3 z2 (by decide) (by decide) (by decide +kernel) (fun n41 => rest t46 n15 n8 n5 n41 r2) (fun t => ?_)
      have kk := ko 41 (Or.inr (Or.inr (Or.inl ⟨t, rfl⟩)))
      exact r_opens (a := 41) (by omega) h hP (by omega) kk.1 kk.2
    · have kk := ko 2 (Or.inr (Or.inl ⟨t, rfl⟩))
      exact r_opens (a := 2) (by omega) h hP (by omega) kk.1 kk.2
    · have kk := ko 40 (Or.inl ⟨t, rfl⟩)
      exact r_opens (a := 40) (by omega) h hP (by omega) kk.1 kk.2
  have begin1 : (tkC T m q = 15 → rkV T m q ≤ 9999) → K (.inl 0) y := fun v => by
    refine hK _ _ ?_
    dsimp only [B_beginOne]
    refine r_nameOf h1 h3 h2 (fun n t n11 => ?_) (fun t46 => ⟨fun _ => open1 _ t46 (by decide) v, fun z => absurd (by decide) z⟩)
    have nt : ¬ tkC T m q = 15 := (by omega)
    refine ⟨fun z => absurd z (nI_pos (by omega)), fun _ => r_isOf h4.2.2.2.2.2.1 h4.2.2.2.2.2.2 n11 (fun nm => ⟨fun _ => hK _ _ ?_, fun z => absurd z (by decide)⟩) (fun nm => ⟨fun z => absurd rfl z, fun _ => kx n t n11 nm⟩)⟩
    dsimp only [B_beginOne]
    rw [q1]
    exact ⟨fun z => absurd z nt, fun _ => ⟨fun z => absurd z (nI_pos (by omega)), fun _ => putM n t n11 nm⟩⟩
  rw [q1]
  refine ⟨fun n15 => begin1 (fun t => absurd t n15), fun t => ?_⟩
  rw [h3.2.2.2.1 (e15'.mp t), show (9999 : Int32) = nI 9999 from rfl, nle (by omega) (by decide)]
  exact ⟨fun v => begin1 (fun _ => v), fun v => kb t v⟩
end RONE
