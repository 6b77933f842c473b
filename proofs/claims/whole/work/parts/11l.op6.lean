/-! whose -/
def mxS (A : Nat → Nat) : Nat → Nat
  | 0 => 0
  | k + 1 => if mxS A k < A (60 + k) then A (60 + k) else mxS A k
def wkS (A : Nat → Nat) (s : Nat) : Nat → Nat
  | 0 => 9
  | k + 1 => if s.testBit k = true ∧ A (10 + 5 * k) < wkS A s k then A (10 + 5 * k) else wkS A s k
def alS (A : Nat → Nat) (s k : Nat) : Nat := sumR (fun b => s.testBit b) (fun b => A (10 + 5 * b)) k
def canR (A : Nat → Nat) (s : Nat) : Bool := decide (mxS A (A 7) ≤ alS A s (A 0) ∧ (bitsN s ≤ 1 ∨ alS A s (A 0) < mxS A (A 7) + wkS A s (A 0)))
def canC (A : Nat → Nat) (s : Nat) : Bool := decide (bitsN s ≤ 3 ∧ 0 < A 7) && canR A s
def whF (A : Nat → Nat) (i : Int32) : Nat → Nat → Nat → Int32
  | 0, _, c => if i = -1 then nI c else -1
  | k + 1, s, c => if canC A s then (if nI c = i then nI s else whF A i k (s + 1) (c + 1)) else whF A i k (s + 1) c
theorem nite {a b : Nat} (ha : a < 2147483648) (hb : b < 2147483648) {u v : Int32} : (if nI a < nI b then u else v) = if a < b then u else v := by
  by_cases h : a < b
  · rw [if_pos (nI_lt h hb), if_pos h]
  · rw [if_neg (nI_nlt (by omega) ha), if_neg h]
section WHO
variable {A : Nat → Nat}
theorem mxS_le (h : ∀ i, i < A 7 → A (60 + i) ≤ 40) : ∀ k, k ≤ A 7 → mxS A k ≤ 40
  | 0, _ => by simp [mxS]
  | k + 1, hk => by
    have h1 := mxS_le h k (by omega)
    have h2 := h k (by omega)
    unfold mxS
    split <;> omega
theorem wkS_le {s : Nat} : ∀ k, wkS A s k ≤ 9
  | 0 => by simp [wkS]
  | k + 1 => by
    have h1 := wkS_le (s := s) k
    unfold wkS
    split <;> omega
theorem wkS_min {s : Nat} : ∀ k b, b < k → s.testBit b = true → wkS A s k ≤ A (10 + 5 * b)
  | 0, _, h, _ => by omega
  | k + 1, b, h, hb => by
    unfold wkS
    by_cases e : b = k
    · subst e
      split
      · omega
      · rename_i z
        by_cases z2 : A (10 + 5 * b) < wkS A s b
        · exact absurd ⟨hb, z2⟩ z
        · omega
    · have := wkS_min k b (by omega) hb
      split <;> omega
theorem wkS_ex {s : Nat} (h9 : ∀ b, b < A 0 → A (10 + 5 * b) ≤ 9) : ∀ k, k ≤ A 0 → (∃ b, b < k ∧ s.testBit b = true) → ∃ b, b < k ∧ s.testBit b = true ∧ A (10 + 5 * b) = wkS A s k
  | 0, _, ⟨b, hb, _⟩ => by omega
  | k + 1, hk, ⟨b, hb, h1⟩ => by
    by_cases e : ∃ b, b < k ∧ s.testBit b = true
    · obtain ⟨b', h2, h3, h4⟩ := wkS_ex h9 k (by omega) e
      unfold wkS
      by_cases z : s.testBit k = true ∧ A (10 + 5 * k) < wkS A s k
      · rw [if_pos z]; exact ⟨k, (by omega), z.1, rfl⟩
      · rw [if_neg z]; exact ⟨b', (by omega), h3, h4⟩
    · have eb : b = k := by
        by_cases z : b < k
        · exact absurd ⟨b, z, h1⟩ e
        · omega
      subst eb
      have w9 : ∀ j, j ≤ b → wkS A s j = 9 := by
        intro j
        induction j with
        | zero => intro _; rfl
        | succ j ih =>
          intro hj
          unfold wkS
          rw [if_neg (fun z => e ⟨j, (by omega), z.1⟩), ih (by omega)]
      unfold wkS
      have := h9 b (by omega)
      by_cases z : s.testBit b = true ∧ A (10 + 5 * b) < wkS A s b
      · rw [if_pos z]; exact ⟨b, (by omega), h1, rfl⟩
      · rw [if_neg z]
        refine ⟨b, (by omega), h1, ?_⟩
        rw [w9 b (by omega)] at z ⊢
        by_cases z2 : A (10 + 5 * b) < 9
        · exact absurd ⟨h1, z2⟩ z
        · omega
theorem alS_le {s : Nat} (h9 : ∀ b, b < A 0 → A (10 + 5 * b) ≤ 9) (k : Nat) (hk : k ≤ A 0) : alS A s k ≤ k * 9 := sumR_le (fun i hi => h9 i (by omega))
theorem has_of {Post : Int32 → Prop} {a b : Int32} {s k : Nat} (ea : a = nI s) (eb : b = nI k) (hs : s < 2147483648) (hk : k < 31) (h1 : s.testBit k = true → Post 1) (h0 : s.testBit k = false → Post 0) : VC_has Post a b := by
  subst ea eb
  unfold VC_has
  rw [L31, L1, nbit1 hs hk]
  exact ⟨fun z => h0 (by cases e : s.testBit k; rfl; exact absurd e z), h1⟩
theorem c_can {Post : Int32 → XS → Prop} {S : XS} {s : Nat} (hI : Inv A) (hC : rxCrew S.1 S.2.1 A) (hT : rxTalk S.1 S.2.1 A) (hs : s < 64) (hs1 : 0 < bitsN s) (h1 : canC A s = true → Post 1 S) (h0 : canC A s = false → Post 0 S) : VC_X11_canHaveBlown_0 Post (nI s) S := by
  obtain ⟨b0, b1, b2, b3, b4, b5, b6, b7, b8, b9⟩ := hI.b
  have h9 : ∀ b, b < A 0 → A (10 + 5 * b) ≤ 9 := fun b hb => (hI.2.1 b hb).2.1
  have h40 := hI.2.2.2.2.1.1
  have m40 := mxS_le h40 (A 7) (Nat.le_refl _)
  have al := alS_le (s := s) h9 (A 0) (Nat.le_refl _)
  have wk := wkS_le (A := A) (s := s) (A 0)
  have bl := bitsN_le (s := s)
  intro K hK
  refine bc rfl hs ?_
  rw [L3, nlt (by omega) (by omega)]
  refine ⟨fun hgt => h0 ?_, fun hle => ⟨fun hne => ?_, fun he => h0 ?_⟩⟩
  · unfold canC; rw [decide_eq_false (by omega)]; rfl
  · rw [hT.1, L0, neq (by omega) (by omega)] at hne
    intro K2 hK2
    have k2 : ∀ k i : Nat, i + k = A 7 → K2 (nI (mxS A i), nI i) S := by
      intro k
      induction k with
      | zero =>
        intro i hi
        have ei : i = A 7 := (by omega)
        refine hK2 _ _ ⟨fun _ => ?_, fun z => absurd (by rw [hT.1, ei]; exact Int32.le_refl _) z⟩
        rw [ei]
        have k3 : ∀ k i : Nat, i + k = A 0 → K (nI s, nI (bitsN s), nI (mxS A (A 7)), nI (alS A s i), nI (wkS A s i), nI i) S := by
          intro k
          induction k with
          | zero =>
            intro i hi
            have ei : i = A 0 := (by omega)
            refine hK _ _ ⟨fun _ => ?_, fun z => absurd (by rw [hC.1, ei]; exact Int32.le_refl _) z⟩
            rw [ei, nlt (by omega) (by omega), L1, neq (by omega) (by omega), nsle (by omega) (by omega) (by omega)]
            refine ⟨fun hlt => h0 ?_, fun hge => ⟨fun e1 => h1 ?_, fun ne1 => ⟨fun hle2 => h0 ?_, fun hgt2 => h1 ?_⟩⟩⟩
            · unfold canC canR; rw [decide_eq_false (p := mxS A (A 7) ≤ alS A s (A 0) ∧ _) (fun z => absurd z.1 (by omega)), Bool.and_false]
            · unfold canC canR; rw [decide_eq_true (by omega), decide_eq_true ⟨(by omega), Or.inl (by omega)⟩]; rfl
            · unfold canC canR; rw [decide_eq_false (p := mxS A (A 7) ≤ alS A s (A 0) ∧ _) (fun z => z.2.elim (fun z => absurd z (by omega)) (fun z => absurd z (by omega))), Bool.and_false]
            · unfold canC canR; rw [decide_eq_true (by omega), decide_eq_true ⟨(by omega), Or.inr (by omega)⟩]; rfl
          | succ k ih =>
            intro i hi
            have nx := ih (i + 1) (by omega)
            have f3 := (hC.2 i (by omega)).1
            have li := h9 i (by omega)
            have wi := wkS_le (A := A) (s := s) i
            refine hK _ _ ⟨fun z => absurd z (by rw [hC.1]; exact nI_ge (by omega) (by omega)), fun _ => ?_⟩
            rw [ncl (by omega), f3, L31, L1, L0, nbit0 (by omega) (by omega), nite (by omega) (by omega), nadd]
            have in6 : vp_in (nI i) 6 := vp_in_nI (by omega) (by decide)
            refine ⟨fun hb v4 e4 => ?_, fun hb => ⟨in6, fun v5 e5 => ⟨in6, fun v6 e6 v7 e7 => ?_⟩⟩⟩
            · rw [e4]
              have q1 : alS A s (i + 1) = alS A s i := by
                show _ + (if _ then _ else 0) = _
                rw [if_neg (by show ¬ s.testBit i = true; rw [hb]; decide)]; rfl
              have q2 : wkS A s (i + 1) = wkS A s i := by
                show (if _ then _ else _) = _
                rw [if_neg (by rw [hb]; exact fun z => absurd z.1 (by decide))]
              rw [q1, q2] at nx; exact nx
            · have hb2 : s.testBit i = true := by cases z : s.testBit i; exact absurd z hb; rfl
              rw [e5, e6, e7, nadd]
              have q1 : alS A s (i + 1) = alS A s i + A (10 + 5 * i) := by
                show _ + (if _ then _ else 0) = _
                rw [if_pos hb2]; rfl
              have q2 : nI (wkS A s (i + 1)) = if A (10 + 5 * i) < wkS A s i then nI (A (10 + 5 * i)) else nI (wkS A s i) := by
                show nI (if _ then _ else _) = _
                by_cases z : A (10 + 5 * i) < wkS A s i
                · rw [if_pos ⟨hb2, z⟩, if_pos z]
                · rw [if_neg (fun w => z w.2), if_neg z]
              rw [q1, q2] at nx; exact nx
        exact k3 (A 0) 0 (by omega)
      | succ k ih =>
        intro i hi
        have nx := ih (i + 1) (by omega)
        have f := hT.2.2.1 i (by omega)
        have := h40 i (by omega)
        have := mxS_le h40 i (by omega)
        refine hK2 _ _ ⟨fun z => absurd z (by rw [hT.1]; exact nI_ge (by omega) (by omega)), fun _ => ⟨vp_in_nI (by omega) (by decide), fun v1 e1 v2 e2 => ?_⟩⟩
        rw [ncl (by omega), f, nite (by omega) (by omega)] at e1
        rw [e1, e2, nI_1]
        have q : nI (mxS A (i + 1)) = if mxS A i < A (60 + i) then nI (A (60 + i)) else nI (mxS A i) := by
          show nI (if _ then _ else _) = _
          split <;> rfl
        rw [q] at nx; exact nx
    exact k2 (A 7) 0 (by omega)
  · rw [hT.1, L0, neq (by omega) (by omega)] at he
    unfold canC; rw [decide_eq_false (by omega)]; rfl
theorem r_can {Post : Int32 → MS → Prop} {S : MS} {s : Nat} (hI : Inv A) (e : S.2.2.1 0 = enc A) (hs : s < 2 ^ A 0) (hs1 : 0 < s) (h1 : canR A s = true → Post 1 S) (h0 : canR A s = false → Post 0 S) : VC_canBe Post (nI s) S := by
  obtain ⟨b0, b1, b2, b3, b4, b5, b6, b7, b8, b9⟩ := hI.b
  have h9 : ∀ b, b < A 0 → A (10 + 5 * b) ≤ 9 := fun b hb => (hI.2.1 b hb).2.1
  have h40 := hI.2.2.2.2.1.1
  have m40 := mxS_le h40 (A 7) (Nat.le_refl _)
  have al := alS_le (s := s) h9 (A 0) (Nat.le_refl _)
  have wk := wkS_le (A := A) (s := s) (A 0)
  have bl := bitsN_le (s := s)
  have p6 : 2 ^ A 0 ≤ 64 := pow6 b0
  have c7 : S.2.2.1 0 (7 : Int32).toNatClampNeg = nI (A 7) := by rw [e, litC 7 (by decide), enc_at (by omega)]
  have c0 : S.2.2.1 0 (0 : Int32).toNatClampNeg = nI (A 0) := by rw [e, litC 0 (by decide), enc_at (by omega)]
  have i7 : vp_in (7 : Int32) 3890 := litIn 7 (by decide) (by decide)
  have i0 : vp_in (0 : Int32) 3890 := litIn 0 (by decide) (by decide)
  intro K hK
  have k3 : ∀ k i : Nat, i + k = A 0 → mxS A (A 7) ≤ alS A s (A 0) → (∀ b, b < i → s.testBit b = true → alS A s (A 0) < mxS A (A 7) + A (10 + 5 * b)) → K (.inr (.inr (nI s, nI (mxS A (A 7)), nI (alS A s (A 0)), nI i))) S := by
    intro k
    induction k with
    | zero =>
      intro i hi hm ha
      have ei : i = A 0 := (by omega)
      refine hK _ _ ⟨i0, fun _ => h1 ?_, fun z => absurd (by rw [c0, ei]; exact Int32.le_refl _) z⟩
      unfold canR
      refine decide_eq_true ⟨hm, Or.inr ?_⟩
      have ex : ∃ b, b < A 0 ∧ s.testBit b = true := by
        have : s ≠ 0 := (by omega)
        obtain ⟨b, hb⟩ := Nat.exists_testBit_of_ne_zero this
        refine ⟨b, ?_, hb⟩
        by_cases z : b < A 0
        · exact z
        · rw [Nat.testBit_lt_two_pow (Nat.lt_of_lt_of_le hs (Nat.pow_le_pow_right (by decide) (by omega)))] at hb
          exact absurd hb (by decide)
      obtain ⟨b, q1, q2, q3⟩ := wkS_ex (s := s) h9 (A 0) (Nat.le_refl _) ex
      rw [← q3]
      exact ha b (by omega) q2
    | succ k ih =>
      intro i hi hm ha
      have li := h9 i (by omega)
      refine hK _ _ ⟨i0, fun z => absurd z (by rw [c0]; exact nI_ge (by omega) (by omega)), fun _ => mbits rfl (by omega) ?_⟩
      rw [L1, nle (by omega) (by omega)]
      refine ⟨fun hb1 => h1 ?_, fun hb1 => ?_⟩
      · unfold canR; exact decide_eq_true ⟨hm, Or.inl hb1⟩
      · refine has_of rfl rfl (by omega) (by omega) (fun hb => ⟨fun z => absurd z (by decide), fun _ => mget e rfl L0 (by omega) (by omega) ?_⟩) (fun hb => ⟨fun _ v13 e13 => ?_, fun z => absurd rfl z⟩)
        · rw [Nat.add_zero, nslt (by omega) (by omega) (by omega)]
          refine ⟨fun hlt v16 e16 => ?_, fun hge => h0 ?_⟩
          · rw [e16, nadd]
            refine ih (i + 1) (by omega) hm (fun b hb' hb'' => ?_)
            by_cases z : b = i
            · rw [z]; exact hlt
            · exact ha b (by omega) hb''
          · unfold canR
            have := wkS_min (A := A) (s := s) (A 0) i (by omega) hb
            exact decide_eq_false (fun z => z.2.elim (fun z => hb1 z) (fun z => hge (by omega)))
        · rw [e13, nadd]
          refine ih (i + 1) (by omega) hm (fun b hb' hb'' => ?_)
          by_cases z : b = i
          · rw [z, hb] at hb''; exact absurd hb'' (by decide)
          · exact ha b (by omega) hb''
  have k2 : ∀ k i : Nat, i + k = A 0 → K (.inr (.inl (nI s, nI (mxS A (A 7)), nI (alS A s i), nI i))) S := by
    intro k
    induction k with
    | zero =>
      intro i hi
      have ei : i = A 0 := (by omega)
      refine hK _ _ ⟨i0, fun _ => ?_, fun z => absurd (by rw [c0, ei]; exact Int32.le_refl _) z⟩
      rw [ei, nle (by omega) (by omega)]
      refine ⟨fun hm => k3 (A 0) 0 (by omega) hm (fun b hb => absurd hb (by omega)), fun hm => h0 ?_⟩
      unfold canR; exact decide_eq_false (fun z => hm z.1)
    | succ k ih =>
      intro i hi
      have nx := ih (i + 1) (by omega)
      refine hK _ _ ⟨i0, fun z => absurd z (by rw [c0]; exact nI_ge (by omega) (by omega)), fun _ => ?_⟩
      refine has_of rfl rfl (by omega) (by omega) (fun hb => ⟨fun z => absurd z (by decide), fun _ => mget e rfl L0 (by omega) (by omega) (fun v9 e9 v10 e10 => ?_)⟩) (fun hb => ⟨fun _ v5 e5 v6 e6 => ?_, fun z => absurd rfl z⟩)
      · have q1 : alS A s (i + 1) = alS A s i + A (10 + 5 * i) := by
          show _ + (if _ then _ else 0) = _
          rw [if_pos hb]; rfl
        rw [e9, e10, nI_1, Nat.add_zero, nadd]
        rw [q1] at nx; exact nx
      · have q1 : alS A s (i + 1) = alS A s i := by
          show _ + (if _ then _ else 0) = _
          rw [if_neg (by show ¬ s.testBit i = true; rw [hb]; decide)]; rfl
        rw [e5, e6, nI_1, Int32.add_zero]
        rw [q1] at nx; exact nx
  have k1 : ∀ k i : Nat, i + k = A 7 → K (.inl (nI s, nI (mxS A i), nI i)) S := by
    intro k
    induction k with
    | zero =>
      intro i hi
      have ei : i = A 7 := (by omega)
      refine hK _ _ ⟨i7, fun _ => ?_, fun z => absurd (by rw [c7, ei]; exact Int32.le_refl _) z⟩
      rw [ei]
      exact k2 (A 0) 0 (by omega)
    | succ k ih =>
      intro i hi
      have nx := ih (i + 1) (by omega)
      have := h40 i (by omega)
      have := mxS_le h40 i (by omega)
      have ei : 60 + nI i = nI (60 + i) := by rw [L60, nadd]
      refine hK _ _ ⟨i7, fun z => absurd z (by rw [c7]; exact nI_ge (by omega) (by omega)), fun _ => ?_⟩
      rw [ei, ncl (by omega), e, enc_at (by omega), nle (by omega) (by omega)]
      refine ⟨vp_in_nI (by omega) (by decide), fun hle v1 e1 => ?_, fun hgt => ⟨vp_in_nI (by omega) (by decide), fun v2 e2 v3 e3 => ?_⟩⟩
      · have q : mxS A (i + 1) = mxS A i := by
          show (if _ then _ else _) = _
          rw [if_neg (by omega)]
        rw [e1, nI_1]; rw [q] at nx; exact nx
      · have q : mxS A (i + 1) = A (60 + i) := by
          show (if _ then _ else _) = _
          rw [if_pos (by omega)]
        rw [e2, e3, nI_1]; rw [q] at nx; exact nx
  exact k1 (A 7) 0 (by omega)
end WHO
theorem bitsN_pos : ∀ s : Fin 64, 0 < s.1 → 0 < bitsN s.1 := by decide
theorem whF_neg {A : Nat → Nat} {i : Int32} (h : i < -1) : ∀ k s c, c + k < 1000 → whF A i k s c = -1
  | 0, _, c, _ => if_neg (fun z => by rw [z] at h; exact absurd h (by decide))
  | k + 1, s, c, hc => by
    unfold whF
    have ne : ¬ nI c = i := fun z => by
      rw [← z, L1, nltm (by omega) (by omega)] at h
      exact h
    rw [if_neg ne, whF_neg h k (s + 1) (c + 1) (by omega), whF_neg h k (s + 1) c (by omega)]
    split <;> rfl
theorem whF_no {A : Nat → Nat} {i : Int32} (h : A 7 = 0) : ∀ k s c, whF A i k s c = if i = -1 then nI c else -1
  | 0, _, c => rfl
  | k + 1, s, c => by
    have : canC A s = false := by unfold canC; rw [decide_eq_false (by omega)]; rfl
    unfold whF
    rw [this, if_neg (by decide), whF_no h k]
theorem op_whose {TX : TXT} {A B : Nat → Nat} {x : XS} {y : MS} {a0 : Int32} (h : RelA TX A B x y) : VC_X11_whose_0 (fun r x' => VC_whose (fun r' y' => r = r' ∧ RelT TX x' y') a0 y) a0 x := by
  obtain ⟨g1, -, g3, -, g5, -⟩ := id h
  obtain ⟨b0, b1, b2, b3, b4, b5, b6, b7, b8, b9⟩ := g1.b
  obtain ⟨h1, h2, h3, h4, h5, h6⟩ := g3
  have p6 : 2 ^ A 0 ≤ 64 := pow6 b0
  have p0 : 0 < 2 ^ A 0 := Nat.two_pow_pos _
  have c0 : y.2.2.1 0 (0 : Int32).toNatClampNeg = nI (A 0) := by rw [g5, litC 0 (by decide), enc_at (by omega)]
  have c7 : y.2.2.1 0 (7 : Int32).toNatClampNeg = nI (A 7) := by rw [g5, litC 7 (by decide), enc_at (by omega)]
  have i7 : vp_in (7 : Int32) 3890 := litIn 7 (by decide) (by decide)
  have i0 : vp_in (0 : Int32) 3890 := litIn 0 (by decide) (by decide)
  have sh : (1 : Int32) <<< (nI (A 0) &&& 31) = nI (2 ^ A 0) := by rw [L1, L31, nshl1 (by omega)]
  have ref : VC_whose (fun r' y' => whF A a0 (2 ^ A 0 - 1) 1 0 = r' ∧ RelT TX x y') a0 y := by
    intro K hK
    refine ⟨fun _ => ?_, fun hlt => ⟨whF_neg (by rw [Int32.lt_iff_toInt_lt]; rw [Int32.le_iff_toInt_le] at hlt; omega) _ _ _ (by omega), A, B, h⟩⟩
    have fin : ∀ s c : Nat, whF A a0 (2 ^ A 0 - 1) 1 0 = (if a0 = -1 then nI c else -1) → K (.inr (a0, nI c, nI s)) y := fun s c hc => by
      refine hK _ _ ⟨fun ne => ⟨by rw [hc, if_neg ne], A, B, h⟩, fun e => ⟨by rw [hc, if_pos e], A, B, h⟩⟩
    have key : ∀ k s c : Nat, s + k = 2 ^ A 0 → 0 < s → c < s → whF A a0 (2 ^ A 0 - 1) 1 0 = whF A a0 k s c → K (.inl (a0, nI c, nI s)) y := by
      intro k
      induction k with
      | zero =>
        intro s c hs s0 hcs hw
        refine hK _ _ ⟨i0, fun _ => fin s c hw, fun z => absurd (by rw [c0, sh, show s = 2 ^ A 0 by omega]; exact Int32.le_refl _) z⟩
      | succ k ih =>
        intro s c hs s0 hcs hw
        refine hK _ _ ⟨i0, fun z => absurd z (by rw [c0, sh]; exact nI_ge (by omega) (by omega)), fun _ => ⟨i7, ?_⟩⟩
        rw [c7, L0, nle (by omega) (by omega)]
        refine ⟨fun h7 => fin s c (by rw [hw, whF_no (by omega)]), fun h7 => mbits rfl (by omega) ?_⟩
        have bl := bitsN_le (s := s)
        rw [L3, nlt (by omega) (by omega)]
        have no : canC A s = false → ∀ v : Int32, v = nI s + 1 → K (.inl (a0, nI c, v)) y := fun hc v ev => by
          rw [ev, nI_1]
          refine ih (s + 1) c (by omega) (by omega) (by omega) ?_
          rw [hw]
          conv => lhs; unfold whF
          rw [hc, if_neg (by decide)]
        refine ⟨fun hgt v2 e2 => no (by unfold canC; rw [decide_eq_false (by omega)]; rfl) v2 e2, fun hle => ?_⟩
        have cc : canC A s = canR A s := by unfold canC; rw [decide_eq_true (by omega)]; rfl
        refine r_can g1 g5 (by omega) s0 (fun hc => ⟨fun _ => ⟨fun ne v5 e5 v6 e6 => ?_, fun e => ⟨?_, A, B, h⟩⟩, fun z => absurd z (by decide)⟩) (fun hc => ⟨fun z => absurd rfl z, fun _ v7 e7 => no (cc.trans hc) v7 e7⟩)
        · rw [e5, e6, nI_1, nI_1]
          refine ih (s + 1) (c + 1) (by omega) (by omega) (by omega) ?_
          rw [hw]
          conv => lhs; unfold whF
          rw [cc, hc, if_pos rfl, if_neg ne]
        · rw [hw]
          conv => lhs; unfold whF
          rw [cc, hc, if_pos rfl, if_pos e]
    exact key (2 ^ A 0 - 1) 1 0 (by omega) (by omega) (by omega) rfl
  intro K hK
  have key : ∀ k s c : Nat, s + k = 2 ^ A 0 → 0 < s → c < s → whF A a0 (2 ^ A 0 - 1) 1 0 = whF A a0 k s c → K (a0, nI c, nI s) x := by
    intro k
    induction k with
    | zero =>
      intro s c hs s0 hcs hw
      refine hK _ _ ⟨fun _ => ⟨fun ne => ?_, fun e => ?_⟩, fun z => absurd (by rw [h1.1, sh, show s = 2 ^ A 0 by omega]; exact Int32.le_refl _) z⟩
      · have : whF A a0 0 s c = -1 := if_neg ne
        rw [this] at hw; rw [hw] at ref; exact ref
      · have : whF A a0 0 s c = nI c := if_pos e
        rw [this] at hw; rw [hw] at ref; exact ref
    | succ k ih =>
      intro s c hs s0 hcs hw
      refine hK _ _ ⟨fun z => absurd z (by rw [h1.1, sh]; exact nI_ge (by omega) (by omega)), fun _ => ?_⟩
      refine c_can g1 h1 h5 (by omega) (bitsN_pos ⟨s, (by omega)⟩ s0) (fun hc => ⟨fun z => absurd z (by decide), fun _ => ⟨fun ne v4 e4 v5 e5 => ?_, fun e => ?_⟩⟩) (fun hc => ⟨fun _ v3 e3 => ?_, fun z => absurd rfl z⟩)
      · rw [e4, e5, nI_1, nI_1]
        refine ih (s + 1) (c + 1) (by omega) (by omega) (by omega) ?_
        rw [hw]
        conv => lhs; unfold whF
        rw [hc, if_pos rfl, if_neg ne]
      · have : whF A a0 (k + 1) s c = nI s := by unfold whF; rw [hc, if_pos rfl, if_pos e]
        rw [this] at hw; rw [hw] at ref; exact ref
      · rw [e3, nI_1]
        refine ih (s + 1) c (by omega) (by omega) (by omega) ?_
        rw [hw]
        conv => lhs; unfold whF
        rw [hc, if_neg (by decide)]
  exact key (2 ^ A 0 - 1) 1 0 (by omega) (by omega) (by omega) rfl
