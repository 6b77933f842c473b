/-! undo -/
theorem ssub (a c : Int32) : a - (a - c) = c := by
  rw [Int32.sub_eq_iff_eq_add, Int32.add_comm, Int32.sub_add_cancel]
def undoN (A : Nat → Nat) : Nat → Nat := fun j =>
  if j = 6 then A 6 - 1 else if j = 3 then A (410 + 116 * (A 6 - 1)) else if j = 2 then A (410 + 116 * (A 6 - 1) + 1) else if j = 9 then A (410 + 116 * (A 6 - 1) + 2)
  else if 10 ≤ j ∧ j < 40 ∧ j % 5 = 2 ∧ (j - 12) / 5 < A (410 + 116 * (A 6 - 1) + 3) then A (410 + 116 * (A 6 - 1) + (4 + (j - 12) / 5))
  else if 10 ≤ j ∧ j < 40 ∧ j % 5 = 3 ∧ (j - 13) / 5 < A (410 + 116 * (A 6 - 1) + 3) then A (410 + 116 * (A 6 - 1) + (10 + (j - 13) / 5))
  else if 10 ≤ j ∧ j < 40 ∧ j % 5 = 3 ∧ (j - 13) / 5 < A 0 then 0
  else if 150 ≤ j ∧ j < 250 then A (410 + 116 * (A 6 - 1) + (16 + (j - 150))) else A j
section UNDO
variable {A : Nat → Nat}
theorem undoN_6 : undoN A 6 = A 6 - 1 := rfl
theorem undoN_3 : undoN A 3 = A (410 + 116 * (A 6 - 1)) := rfl
theorem undoN_2 : undoN A 2 = A (410 + 116 * (A 6 - 1) + 1) := rfl
theorem undoN_9 : undoN A 9 = A (410 + 116 * (A 6 - 1) + 2) := rfl
theorem undoN_b {b : Nat} (h : b < 6) : undoN A (12 + 5 * b) = if b < A (410 + 116 * (A 6 - 1) + 3) then A (410 + 116 * (A 6 - 1) + (4 + b)) else A (12 + 5 * b) := by
  unfold undoN
  rw [if_neg (by omega), if_neg (by omega), if_neg (by omega), if_neg (by omega), show (12 + 5 * b - 12) / 5 = b by omega]
  by_cases z : b < A (410 + 116 * (A 6 - 1) + 3)
  · rw [if_pos ⟨(by omega), (by omega), (by omega), z⟩, if_pos z]
  · rw [if_neg (fun w => z w.2.2.2), if_neg (fun w => absurd w.2.2.1 (by omega)), if_neg (fun w => absurd w.2.2.1 (by omega)), if_neg (by omega), if_neg z]
theorem undoN_g {b : Nat} (h : b < 6) : undoN A (13 + 5 * b) = if b < A (410 + 116 * (A 6 - 1) + 3) then A (410 + 116 * (A 6 - 1) + (10 + b)) else if b < A 0 then 0 else A (13 + 5 * b) := by
  unfold undoN
  rw [if_neg (by omega), if_neg (by omega), if_neg (by omega), if_neg (by omega), if_neg (fun w => absurd w.2.2.1 (by omega)), show (13 + 5 * b - 13) / 5 = b by omega]
  by_cases z : b < A (410 + 116 * (A 6 - 1) + 3)
  · rw [if_pos ⟨(by omega), (by omega), (by omega), z⟩, if_pos z]
  · rw [if_neg (fun w => z w.2.2.2), if_neg z]
    by_cases z2 : b < A 0
    · rw [if_pos ⟨(by omega), (by omega), (by omega), z2⟩, if_pos z2]
    · rw [if_neg (fun w => z2 w.2.2.2), if_neg z2, if_neg (by omega)]
theorem undoN_p {k : Nat} (h : k < 100) : undoN A (150 + k) = A (410 + 116 * (A 6 - 1) + (16 + k)) := by
  unfold undoN
  rw [if_neg (by omega), if_neg (by omega), if_neg (by omega), if_neg (by omega), if_neg (by omega), if_neg (by omega), if_neg (by omega), if_pos (by omega), show 150 + k - 150 = k by omega]
theorem undoN_o {j : Nat} (h : (j < 10 ∧ j ≠ 2 ∧ j ≠ 3 ∧ j ≠ 6 ∧ j ≠ 9) ∨ (10 ≤ j ∧ j < 40 ∧ j % 5 ≠ 2 ∧ j % 5 ≠ 3) ∨ (40 ≤ j ∧ j < 150) ∨ 250 ≤ j) : undoN A j = A j := by
  unfold undoN
  rw [if_neg (by omega), if_neg (by omega), if_neg (by omega), if_neg (by omega), if_neg (by omega), if_neg (by omega), if_neg (by omega), if_neg (by omega)]
theorem core_lo {j : Nat} (h : j < A 6) (c : Nat) : core A j c = A (410 + 116 * j + c) := if_pos h
theorem Inv_undo (h : Inv A) (h6 : 0 < A 6) : Inv (undoN A) := by
  obtain ⟨b0, b1, b2, b3, b4, b5, b6, b7, b8, b9⟩ := h.b
  have hc0 := h.2.2.2.2.2.1 (A 6 - 1) (by omega)
  have hmo := h.2.2.2.2.2.2
  have hle := hist_le h.2.2.2.2.2
  obtain ⟨g1, g2, g3, g4, g5, g6⟩ := h
  have cl : ∀ c, core A (A 6 - 1) c = A (410 + 116 * (A 6 - 1) + c) := fun c => core_lo (by omega) c
  obtain ⟨c0, c1, c2, c3, c4, c5, c6, c7⟩ := id hc0
  rw [cl] at c0 c1 c2 c3
  have hc : ∀ j, j < A 6 - 1 → ∀ c, core (undoN A) j c = core A j c := fun j hj c => by
    rw [core_lo (A := A) (j := j) (by omega)]
    unfold core
    rw [undoN_6, if_pos hj, undoN_o (by omega)]
  have ck : ∀ k, k < A 1 → A (40 + 3 * k) = undoN A (40 + 3 * k) ∧ A (41 + 3 * k) = undoN A (41 + 3 * k) := fun k hk => ⟨(undoN_o (by omega)).symm, (undoN_o (by omega)).symm⟩
  have e0 : undoN A 0 = A 0 := undoN_o (by omega)
  have e1 : undoN A 1 = A 1 := undoN_o (by omega)
  have ll : ∀ i, A (250 + i) = undoN A (250 + i) := fun i => (undoN_o (by omega)).symm
  have hb9 : ∀ b, b < A 0 → undoN A (12 + 5 * b) ≤ 999 := fun b hb => by
    rw [undoN_b (by omega)]
    split
    · have := c5 b (by rw [cl]; assumption)
      rw [cl] at this; exact this
    · exact (g2 b hb).2.2.2.1
  refine ⟨⟨(by omega), (by omega), by rw [undoN_o (by omega)]; omega, by rw [undoN_o (j := 4) (by omega), undoN_o (j := 5) (by omega)]; omega, by rw [undoN_6]; omega, by rw [undoN_o (by omega)]; omega, by rw [undoN_o (by omega)]; omega⟩, fun i hi => ?_, fun i j hi hj => ?_, fun k hk => ?_, ⟨fun i hi => ?_, fun i hi => ?_⟩, fun j hj => ?_, fun j hj => ?_⟩
  · rw [e0] at hi ⊢
    have := g2 i hi
    rw [undoN_o (j := 10 + 5 * i) (by omega), undoN_o (j := 11 + 5 * i) (by omega), undoN_o (j := 14 + 5 * i) (by omega)]
    exact ⟨this.1, this.2.1, this.2.2.1, hb9 i hi, this.2.2.2.2⟩
  · rw [e0] at hi hj
    rw [undoN_o (j := 14 + 5 * i) (by omega), undoN_o (j := 14 + 5 * j) (by omega)]; exact g3 i j hi hj
  · rw [e1] at hk
    rw [undoN_o (j := 40 + 3 * k) (by omega), undoN_o (j := 41 + 3 * k) (by omega), undoN_o (j := 42 + 3 * k) (by omega)]; exact g4 k hk
  · rw [undoN_o (by omega)] at hi
    rw [undoN_o (by omega)]; exact g5.1 i hi
  · rw [undoN_o (by omega)] at hi
    rw [undoN_o (j := 70 + 4 * i) (by omega), undoN_o (j := 71 + 4 * i) (by omega), undoN_o (j := 72 + 4 * i) (by omega), undoN_o (j := 73 + 4 * i) (by omega), e0]; exact g5.2 i hi
  · rw [undoN_6] at hj
    by_cases z : j < A 6 - 1
    · have c := g6.1 j (by omega)
      exact Cons_v (Cons_mono c (by omega) (by omega) ck (fun b hb => (undoN_o (by have := c.2.2.2.1; omega)).symm) (fun i hi => ll i)) (fun k hk => hc j z k) (by omega)
    · have ej : j = undoN A 6 := by rw [undoN_6]; omega
      rw [ej, core_now]
      refine Cons_live (by rw [undoN_3]; exact c0) (by rw [undoN_2]; exact c1) (by rw [undoN_9]; exact c2) (by omega) (fun i hi => ?_) (fun b hb => hb9 b (by omega)) (fun b hb => ?_) (fun p hp => ?_)
      · rw [undoN_9] at hi
        have := c4 i (by rw [cl]; exact hi)
        rw [cl, cl, cl] at this
        rw [undoN_o (j := 250 + 4 * i) (by omega), undoN_o (j := 251 + 4 * i) (by omega), undoN_o (j := 252 + 4 * i) (by omega), undoN_o (j := 253 + 4 * i) (by omega), undoN_2, undoN_3, e0]
        exact ⟨this.1, (by omega), this.2.2.1, this.2.2.2.1, this.2.2.2.2⟩
      · rw [e0] at hb
        rw [undoN_g (by omega), undoN_9, undoN_3, ← sumBH_congr (fun i _ => ll i)]
        by_cases z3 : b < A (410 + 116 * (A 6 - 1) + 3)
        · rw [if_pos z3]
          have := c6 b (by rw [cl]; exact z3)
          rw [cl, cl, cl] at this
          exact this
        · rw [if_neg z3, if_pos hb]
          symm
          refine sumR_zero (fun i hi => ?_)
          have := (c4 i (by rw [cl]; exact hi)).2.1
          rw [cl] at this
          simp
          omega
      · rw [undoN_2] at hp
        obtain ⟨d1, d2, d3, d4, d5⟩ := c7 p (by rw [cl]; exact hp)
        rw [cl, cl] at d2 d3
        rw [cl] at d1 d4
        rw [cl] at d2
        rw [e1, undoN_9, show 151 + 10 * p = 150 + (10 * p + 1) by omega, show 152 + 10 * p = 150 + (10 * p + 2) by omega, show 153 + 10 * p = 150 + (10 * p + 3) by omega, undoN_p (by omega), undoN_p (by omega), undoN_p (by omega), undoN_p (by omega), show 16 + (10 * p + 1) = 17 + 10 * p by omega, show 16 + (10 * p + 2) = 18 + 10 * p by omega, show 16 + (10 * p + 3) = 19 + 10 * p by omega]
        refine ⟨d1, isSt_congr (n := A 0) (ck _ d1) (fun b hb => (undoN_o (by omega)).symm) (fun i hi => ?_) (fun i _ => ll i) d2, by rw [d3]; exact sumP_congr (fun i _ => ll i), d4, fun b hb => ?_⟩
        · have := (c4 i (by rw [cl]; exact hi)).2.1
          rw [cl] at this
          omega
        · have := d5 b hb
          rw [cl, cl] at this
          rw [show 154 + 10 * p + b = 150 + (10 * p + 4 + b) by omega, undoN_p (by omega), show 16 + (10 * p + 4 + b) = 20 + 10 * p + b by omega, this]
          exact sumPB_congr (fun i _ => ll i)
  · rw [undoN_6] at hj
    rw [hc j (by omega)]
    have := hmo j (by omega)
    by_cases z : j + 1 < A 6 - 1
    · rw [hc _ z]; exact this
    · rw [show j + 1 = undoN A 6 by rw [undoN_6]; omega, core_now, live_2, undoN_9]
      rw [show j + 1 = A 6 - 1 by omega, cl] at this
      exact this
end UNDO
theorem c_undo {Post : Int32 → XS → Prop} {A : Nat → Nat} {x : XS} (hI : Inv A) (hx : RX x.1 x.2.1 A) (h1 : ∀ x', 0 < A 6 → XFr x x' → RX x'.1 x'.2.1 (undoN A) → Post (nI (A 6 - 1)) x') (h0 : A 6 = 0 → Post (-1) x) : VC_X11_undo_0 Post x := by
  obtain ⟨b0, b1, b2, b3, b4, b5, b6, b7, b8, b9⟩ := hI.b
  obtain ⟨r1, r2, r3, ⟨s1, f, s2, s3, s4⟩, r5, r6⟩ := hx
  unfold VC_X11_undo_0 VC_X6_pop_15
  rw [s1, L0, neq (by omega) (by omega)]
  refine ⟨fun ne v1 e1 S2 e2 => ⟨by decide, ?_⟩, fun e => ⟨fun z => absurd z (by decide), fun _ => h0 e⟩⟩
  rw [L1, nsub (by omega)] at e1
  have I2 : ∀ j, j ≠ 481 → S2.1 j = x.1 j := fun j hj => by rw [e2, xI_n _ _ hj]
  have I481 : S2.1 481 = nI (A 6 - 1) := by rw [e2, xI_s, e1]
  have er : (8 : Int32) * ((S2.1 480 + S2.1 481) - (S2.1 480 + S2.1 481) / 30 * 30) = nI (8 * ((f + (A 6 - 1)) % 30)) := by
    rw [I2 _ (by omega), s3, I481, nadd, L30, pk_rem (by omega) (by decide) (by decide), L8, nmul]
  rw [er]
  have hs := s4 (A 6 - 1) (by omega)
  rw [show A 6 - 1 + 1 = A 6 by omega, core_now] at hs
  generalize hr : 8 * ((f + (A 6 - 1)) % 30) = r at *
  have hr2 : r ≤ 232 := (by omega)
  have cl : ∀ c, core A (A 6 - 1) c = A (410 + 116 * (A 6 - 1) + c) := fun c => core_lo (by omega) c
  have hc0 := hI.2.2.2.2.2.1 (A 6 - 1) (by omega)
  have c1 : A (410 + 116 * (A 6 - 1) + 1) ≤ 10 := by have := hc0.2.1; rwa [cl] at this
  have c3 : A (410 + 116 * (A 6 - 1) + 3) ≤ A 0 := by have := hc0.2.2.2.1; rwa [cl] at this
  have c2 : A (410 + 116 * (A 6 - 1) + 2) ≤ A 9 := by
    have := hI.2.2.2.2.2.2 (A 6 - 1) (by omega)
    rwa [show A 6 - 1 + 1 = A 6 by omega, core_now, cl] at this
  obtain ⟨t, t1, t2, t3, t4, t5, t6, t7, t8, t9, t10, t11⟩ := hs
  simp only [cl, live_0, live_1, live_2, live_3] at t3 t4 t5 t6 t7 t8 t9 t10 t11
  have t6a : t = 3 → A 2 = A (410 + 116 * (A 6 - 1) + 1) := fun z => (t6 z).1
  have t6l : ∀ _ : Unit, t = 3 → _ := fun _ => t6
  clear t6
  refine ⟨fun _ => ?_, fun z => absurd (nI_pos' (by omega)) z⟩
  intro K hK
  -- what must stand behind the loop
  have fin : ∀ S' : XS, (∀ j, j ≠ 352 → j ≠ 353 → j ≠ 356 → S'.1 j = S2.1 j) → (∀ j, j ≠ 5 → j ≠ 13 → S'.2.1 j = x.2.1 j) → S'.2.2 = x.2.2 → (∀ b, b < A 0 → S'.2.1 5 b = nI (undoN A (12 + 5 * b))) → S'.1 352 = nI (undoN A 3) → S'.1 353 = nI (undoN A 2) → S'.1 356 = nI (undoN A 9) → (∀ p, p < undoN A 2 → S'.2.1 13 p = nI (undoN A (153 + 10 * p))) → Post (S'.1 481) S' := by
    intro S' i1 f1 g1 fb i352 i353 i356 f13
    have I' : ∀ j, j ≠ 352 → j ≠ 353 → j ≠ 356 → j ≠ 481 → S'.1 j = x.1 j := fun j z1 z2 z3 z4 => by rw [i1 j z1 z2 z3, I2 j z4]
    rw [i1 481 (by omega) (by omega) (by omega), I481]
    have fx : XFr x S' := by
      refine ⟨?_, ?_, g1, f1 42 (by omega) (by omega), I' _ (by omega) (by omega) (by omega) (by omega), I' _ (by omega) (by omega) (by omega) (by omega), I' _ (by omega) (by omega) (by omega) (by omega), I' _ (by omega) (by omega) (by omega) (by omega)⟩
      · funext j; unfold kI; split
        · rw [I' _ (by omega) (by omega) (by omega) (by omega)]
        · rfl
      · funext j; unfold kF; split
        · rw [f1 _ (by omega) (by omega)]
        · rfl
    refine h1 S' (by omega) fx ⟨⟨by rw [I' 64 (by omega) (by omega) (by omega) (by omega), undoN_o (by omega)]; exact r1.1, fun i hi => ?_⟩, rxWares_of r2 b1 (I' 224 (by omega) (by omega) (by omega) (by omega)) (fun j _ _ _ => f1 j (by omega) (by omega)) (fun j hj => undoN_o (by omega)), ⟨i352, i353, i356, fun p hp => ⟨?_, f13 p hp⟩, fun i hi => ?_⟩, ⟨?_, f, s2, by rw [I' 480 (by omega) (by omega) (by omega) (by omega)]; exact s3, fun j hj => ?_⟩, rxTalk_of r5 b7 b8 ⟨I' 544 (by omega) (by omega) (by omega) (by omega), I' 546 (by omega) (by omega) (by omega) (by omega)⟩ (fun j _ _ => f1 j (by omega) (by omega)) (fun j hj => undoN_o (by omega)), rxText_of r6 ⟨I' 38 (by omega) (by omega) (by omega) (by omega), I' 39 (by omega) (by omega) (by omega) (by omega)⟩ ⟨undoN_o (by omega), undoN_o (by omega)⟩⟩
    · rw [undoN_o (by omega)] at hi
      obtain ⟨q1, q2, q3, q4⟩ := r1.2 i hi
      rw [f1 3 (by omega) (by omega), f1 4 (by omega) (by omega), f1 6 (by omega) (by omega), undoN_o (j := 10 + 5 * i) (by omega), undoN_o (j := 11 + 5 * i) (by omega), undoN_o (j := 14 + 5 * i) (by omega)]
      exact ⟨q1, q2, fb i hi, q4⟩
    · rw [undoN_2] at hp
      have hp2 : p < A 2 := by
        by_cases z0 : t = 0
        · have := t3 z0; omega
        · by_cases z1 : t = 1
          · have := t4 z1; omega
          · by_cases z2 : t = 2
            · have := t5 z2; omega
            · have := t6a (by omega); omega
      rw [f1 12 (by omega) (by omega), (r3.2.2.2.1 p hp2).1, undoN_p (by omega), ← t8 p hp, live_p]
    · rw [undoN_9] at hi
      rw [f1 14 (by omega) (by omega), undoN_o (by omega)]; exact r3.2.2.2.2 i (by omega)
    · rw [i1 481 (by omega) (by omega) (by omega), I481, undoN_6]
    · rw [undoN_6] at hj
      have hco : ∀ j, j < A 6 - 1 → ∀ c, core (undoN A) j c = core A j c := fun j hj c => by
        rw [core_lo (A := A) (j := j) (by omega)]
        unfold core
        rw [undoN_6, if_pos hj, undoN_o (by omega)]
      have sj := s4 j (by omega)
      have hb := hI.c j (by omega)
      rw [f1 16 (by omega) (by omega)]
      by_cases z : j + 1 < A 6 - 1
      · exact step_of sj (fun _ _ => rfl) (fun k _ => hco j hj k) (fun k _ => hco _ z k) hb.1 hb.2
      · have ej : j + 1 = A 6 - 1 := (by omega)
        have cn : core (undoN A) (j + 1) = live (undoN A) := by rw [show j + 1 = undoN A 6 by rw [undoN_6]; exact ej, core_now]
        rw [cn]
        have sj2 := step_of sj (fun _ _ => rfl) (fun k _ => hco j hj k) (fun _ _ => rfl) hb.1 hb.2
        have c33 : core (undoN A) j 3 ≤ core A (A 6 - 1) 3 := by
          obtain ⟨_, _, _, _, _, _, _, _, _, u9, _⟩ := sj2
          rw [ej] at u9; exact u9
        have c11 : core (undoN A) j 1 ≤ 10 := by rw [hco j hj]; exact hb.1
        rw [cl] at c33
        refine step_d sj2 ?_ ?_ ?_ ?_ (fun b hb' => ?_) (fun p hp => ?_)
        · rw [ej, cl, live_0, undoN_3]; rfl
        · rw [ej, cl, live_1, undoN_2]
        · rw [ej, cl, live_2, undoN_9]
        · rw [ej, cl, live_3, undoN_o (by omega)]; exact c3
        · rw [ej, cl, live_b _ (by omega), undoN_b (by omega), if_pos (by omega)]
        · rw [ej, cl, cl, live_p, show 19 + 10 * p = 16 + (10 * p + 3) by omega, live_p, undoN_p (by omega), undoN_p (by omega)]
          exact ⟨rfl, rfl⟩
  have loop : ∀ n i : Nat, ∀ S' : XS, i + n = A 0 → S'.1 = S2.1 → (∀ j, j ≠ 5 → S'.2.1 j = x.2.1 j) → S'.2.2 = x.2.2 → (∀ b, b < i → S'.2.1 5 b = nI (undoN A (12 + 5 * b))) → (∀ b, i ≤ b → S'.2.1 5 b = x.2.1 5 b) → K (nI r, nI i) S' := by
    intro n
    induction n with
    | zero =>
      intro i S' hi i1 f1 g1 lo hi2
      have ei : i = A 0 := (by omega)
      have q1 : nI r + 1 = nI (r + 1) := nI_1 r
      refine hK _ _ ⟨fun _ => ⟨vp_in_nI (by omega) (by decide), ?_⟩, fun z => absurd (by rw [i1, I2 _ (by omega), r1.1, ei]; exact Int32.le_refl _) z⟩
      rw [ncl (by omega), f1 16 (by omega), t1, L0, L1, L2, neq (by omega) (by omega), neq (by omega) (by omega), neq (by omega) (by omega), i1, I2 353 (by omega), I2 356 (by omega), I2 352 (by omega), r3.1, r3.2.1, r3.2.2.1]
      have lo' : ∀ b, b < A 0 → S'.2.1 5 b = nI (undoN A (12 + 5 * b)) := fun b hb => lo b (by omega)
      refine ⟨fun z v1 e1 S3 e3 => ?_, fun z v1 e1 S3 e3 => ?_, fun z v1 e1 S3 e3 => ?_, fun z0 z1 z2 => ?_⟩
      · have tt := t3 z
        rw [nsub (by omega)] at e1
        refine fin S3 (fun j j1 j2 j3 => by rw [e3, xI_n _ _ j2, i1]) (fun j j1 j2 => by rw [e3, xI_f, f1 j j1]) (by rw [e3, xI_f, g1]) (fun b hb => by rw [e3, xI_f]; exact lo' b hb) ?_ ?_ ?_ (fun p hp => ?_)
        · rw [e3, xI_n _ _ (by omega), i1, I2 _ (by omega), r3.1, undoN_3, tt.2.2]; rfl
        · rw [e3, xI_s, e1, undoN_2]; congr 1; omega
        · rw [e3, xI_n _ _ (by omega), i1, I2 _ (by omega), r3.2.2.1, undoN_9, tt.2.1]
        · rw [undoN_2] at hp
          rw [e3, xI_f, f1 13 (by omega), (r3.2.2.2.1 p (by omega)).2, show 153 + 10 * p = 150 + (10 * p + 3) by omega, undoN_p (by omega)]
          have := t7 (by omega) p hp
          rw [show 19 + 10 * p = 16 + (10 * p + 3) by omega, live_p] at this
          rw [this]
      · have tt := t4 z
        rw [nsub (by omega)] at e1
        refine fin S3 (fun j j1 j2 j3 => by rw [e3, xI_n _ _ j3, i1]) (fun j j1 j2 => by rw [e3, xI_f, f1 j j1]) (by rw [e3, xI_f, g1]) (fun b hb => by rw [e3, xI_f]; exact lo' b hb) ?_ ?_ ?_ (fun p hp => ?_)
        · rw [e3, xI_n _ _ (by omega), i1, I2 _ (by omega), r3.1, undoN_3, tt.2.2]; rfl
        · rw [e3, xI_n _ _ (by omega), i1, I2 _ (by omega), r3.2.1, undoN_2, tt.1]
        · rw [e3, xI_s, e1, undoN_9]; congr 1; omega
        · rw [undoN_2] at hp
          rw [e3, xI_f, f1 13 (by omega), (r3.2.2.2.1 p (by omega)).2, show 153 + 10 * p = 150 + (10 * p + 3) by omega, undoN_p (by omega)]
          have := t7 (by omega) p hp
          rw [show 19 + 10 * p = 16 + (10 * p + 3) by omega, live_p] at this
          rw [this]
      · have tt := t5 z
        have t0 : A (410 + 116 * (A 6 - 1) + 0) = A (410 + 116 * (A 6 - 1)) := rfl
        rw [nsub (by omega)] at e1
        refine fin S3 (fun j j1 j2 j3 => by rw [e3, xI_n _ _ j1, i1]) (fun j j1 j2 => by rw [e3, xI_f, f1 j j1]) (by rw [e3, xI_f, g1]) (fun b hb => by rw [e3, xI_f]; exact lo' b hb) ?_ ?_ ?_ (fun p hp => ?_)
        · rw [e3, xI_s, e1, undoN_3]; congr 1; omega
        · rw [e3, xI_n _ _ (by omega), i1, I2 _ (by omega), r3.2.1, undoN_2, tt.1]
        · rw [e3, xI_n _ _ (by omega), i1, I2 _ (by omega), r3.2.2.1, undoN_9, tt.2.1]
        · rw [undoN_2] at hp
          rw [e3, xI_f, f1 13 (by omega), (r3.2.2.2.1 p (by omega)).2, show 153 + 10 * p = 150 + (10 * p + 3) by omega, undoN_p (by omega)]
          have := t7 (by omega) p hp
          rw [show 19 + 10 * p = 16 + (10 * p + 3) by omega, live_p] at this
          rw [this]
      · obtain ⟨u1, u2, u3, p, u4, u5, u6, u7⟩   := t6l () (by omega)
        rw [nadd, ncl (by omega), u5]
        refine ⟨vp_in_nI (by omega) (by decide), hasP (n := A 2) (by rw [i1, I2 _ (by omega)]; exact r3.2.1) (by omega) (fun _ => ⟨fun z => absurd z (by decide), fun _ => ⟨vp_in_nI (by omega) (by decide), ?_⟩⟩) (fun z => absurd ⟨p, (by omega), rfl⟩ z)⟩
        rw [f1 16 (by omega), u5]
        refine ⟨vp_in_nI (by omega) (by decide), fun S9 e9 => ?_⟩
        rw [ncl (by omega)] at e9
        refine fin S9 (fun j j1 j2 j3 => by rw [e9, xF_i, i1]) (fun j j1 j2 => by rw [e9, xF_o _ _ _ _ j2, f1 j j1]) (by rw [e9, xF_22, g1]) (fun b hb => by rw [e9, xF_o _ _ _ _ (by omega)]; exact lo' b hb) ?_ ?_ ?_ (fun p' hp => ?_)
        · rw [e9, xF_i, i1, I2 _ (by omega), r3.1, undoN_3, u3]; rfl
        · rw [e9, xF_i, i1, I2 _ (by omega), r3.2.1, undoN_2, u1]
        · rw [e9, xF_i, i1, I2 _ (by omega), r3.2.2.1, undoN_9, u2]
        · rw [undoN_2] at hp
          rw [e9, xF_s, show 153 + 10 * p' = 150 + (10 * p' + 3) by omega, undoN_p (by omega), show 16 + (10 * p' + 3) = 19 + 10 * p' by omega]
          by_cases z : p' = p
          · rw [z, upd_s, u6]
          · rw [upd_n _ _ z, f1 13 (by omega), (r3.2.2.2.1 p' (by omega)).2]
            have := u7 p' hp z
            rw [show 19 + 10 * p' = 16 + (10 * p' + 3) by omega, live_p] at this
            rw [show 153 + 10 * p' = 150 + (10 * p' + 3) by omega, this, show 16 + (10 * p' + 3) = 19 + 10 * p' by omega]
    | succ n ih =>
      intro i S' hi i1 f1 g1 lo hi2
      have a1 : (nI r + 2) + nI i = nI (r + 2 + i) := by rw [L2, nadd, nadd]
      refine hK _ _ ⟨fun z => absurd z (by rw [i1, I2 _ (by omega), r1.1]; exact nI_ge (by omega) (by omega)), fun _ => ⟨vp_in_nI (by omega) (by decide), by rw [a1]; exact vp_in_nI (by omega) (by decide), fun v10 e10 => ⟨vp_in_nI (by omega) (by decide), fun S11 e11 v12 e12 => ?_⟩⟩⟩
      rw [a1, ncl (by omega), ncl (by omega), f1 16 (by omega), hi2 i (by omega), (r1.2 i (by omega)).2.2.1] at e10
      rw [ncl (by omega)] at e11
      have ev : v10 = nI (undoN A (12 + 5 * i)) := by
        rw [e10, undoN_b (by omega)]
        by_cases z : i < A (410 + 116 * (A 6 - 1) + 3)
        · rw [if_pos z, t10 i z, live_b _ (by omega), ssub]
        · rw [if_neg z, t11 i (by omega) (by omega), Int32.sub_zero]
      rw [e12, nI_1, e11, ev]
      refine ih (i + 1) _ (by omega) (by rw [xF_i, i1]) (fun j hj => by rw [xF_o _ _ _ _ hj, f1 j hj]) (by rw [xF_22, g1]) (fun b hb => ?_) (fun b hb => by rw [xF_s, upd_n _ _ (by omega), hi2 b (by omega)])
      rw [xF_s]
      by_cases z : b = i
      · rw [z, upd_s]
      · rw [upd_n _ _ z, lo b (by omega)]
  exact loop (A 0) 0 S2 (by omega) rfl (fun j _ => by rw [e2, xI_f]) (by rw [e2, xI_f]) (fun b hb => absurd hb (by omega)) (fun b _ => by rw [e2, xI_f])
theorem r_undo {Post : Int32 → MS → Prop} {A : Nat → Nat} {y : MS} (hI : Inv A) (hy : y.2.2.1 0 = enc A) (h1 : 0 < A 6 → Post (nI (A 6 - 1)) (sF y 0 (enc (undoN A)))) (h0 : A 6 = 0 → Post (-1) y) : VC_undo Post y := by
  obtain ⟨b0, b1, b2, b3, b4, b5, b6, b7, b8, b9⟩ := hI.b
  have l : ∀ k : Nat, k < 3890 → vp_in (nI k) 3890 := fun k hk => vp_in_nI hk (by decide)
  intro K hK
  refine ⟨l 6 (by decide), ?_⟩
  rw [show y.2.2.1 0 (6 : Int32).toNatClampNeg = nI (A 6) from enc_cell (k := 6) hy (by decide) (by decide), L0, neq (by omega) (by omega)]
  refine ⟨fun ne => ⟨l 6 (by decide), fun v1 e1 => ⟨l 6 (by decide), fun S2 e2 => ⟨l 6 (by decide), fun v3 e3 => ?_⟩⟩⟩, fun e => h0 e⟩
  have hX : 410 + 116 * (A 6 - 1) ≤ 3774 := (by omega)
  rw [L1, nsub (by omega)] at e1
  rw [e1, hy, litC 6 (by decide), enc_u (by omega)] at e2
  rw [e2, sF_same, litC 6 (by decide), enc_at (by omega), uN_s, L116, L410, nmul, nadd] at e3
  have hc3 := (hI.2.2.2.2.2.1 (A 6 - 1) (by omega)).2.2.2.1
  rw [core_lo (by omega)] at hc3
  have hu : ∀ j, undoN A j = undoN A j := fun _ => rfl
  generalize hXe : 410 + 116 * (A 6 - 1) = X at *
  have a1 : nI X + 1 = nI (X + 1) := nI_1 X
  have a2 : nI X + 2 = nI (X + 2) := by rw [L2, nadd]
  have a3 : nI X + 3 = nI (X + 3) := by rw [L3, nadd]
  rw [e3, a1, a2]
  refine ⟨l _ (by omega), fun v4 e4 => ⟨l 3 (by decide), fun S5 e5 => ⟨l _ (by omega), fun v6 e6 => ⟨l 2 (by decide), fun S7 e7 => ⟨l _ (by omega), fun v8 e8 => ⟨l 9 (by decide), fun S9 e9 => ?_⟩⟩⟩⟩⟩⟩
  rw [e2, sF_same, ncl (by omega), enc_at (by omega), uN_n _ _ _ _ (by omega)] at e4
  rw [e4, e2, sF_same, sF_sF, litC 3 (by decide), enc_u (by omega)] at e5
  rw [e5, sF_same, ncl (by omega), enc_at (by omega), uN_n _ _ _ _ (by omega), uN_n _ _ _ _ (by omega)] at e6
  rw [e6, e5, sF_same, sF_sF, litC 2 (by decide), enc_u (by omega)] at e7
  rw [e7, sF_same, ncl (by omega), enc_at (by omega), uN_n _ _ _ _ (by omega), uN_n _ _ _ _ (by omega), uN_n _ _ _ _ (by omega)] at e8
  rw [e8, e7, sF_same, sF_sF, litC 9 (by decide), enc_u (by omega)] at e9
  rw [e9]
  generalize hD : uN (uN (uN (uN A 6 (A 6 - 1)) 3 (A X)) 2 (A (X + 1))) 9 (A (X + 2)) = D
  have dO : ∀ j, j ≠ 2 → j ≠ 3 → j ≠ 6 → j ≠ 9 → D j = A j := fun j j2 j3 j6 j9 => by rw [← hD, uN_n _ _ _ _ j9, uN_n _ _ _ _ j2, uN_n _ _ _ _ j3, uN_n _ _ _ _ j6]
  have d9 : D 9 = A (X + 2) := by rw [← hD, uN_s]
  have d2 : D 2 = A (X + 1) := by rw [← hD, uN_n _ _ _ _ (by omega), uN_s]
  have d3 : D 3 = A X := by rw [← hD, uN_n _ _ _ _ (by omega), uN_n _ _ _ _ (by omega), uN_s]
  have d6 : D 6 = A 6 - 1 := by rw [← hD, uN_n _ _ _ _ (by omega), uN_n _ _ _ _ (by omega), uN_n _ _ _ _ (by omega), uN_s]
  clear hD e9 e7 e5 e2 S9 S7 S5 S2
  have loop3 : ∀ n i : Nat, ∀ E : Nat → Nat, i + n = 100 → (∀ j, (j < 10 ∨ 40 ≤ j) → (j < 150 ∨ 150 + i ≤ j) → E j = D j) → (∀ j, 10 ≤ j → j < 40 → E j = undoN A j) → (∀ m, m < i → E (150 + m) = A (X + (16 + m))) → K (.inr (.inr (nI X, nI i))) (sF y 0 (enc E)) := by
    intro n
    induction n with
    | zero =>
      intro i E hi hE hb hp
      have ei : i = 100 := (by omega)
      subst ei
      refine hK _ _ ⟨fun _ => ⟨l 6 (by decide), ?_⟩, fun z => absurd (Int32.le_refl _) z⟩
      rw [show (sF y 0 (enc E)).2.2.1 0 (6 : Int32).toNatClampNeg = nI (E 6) from enc_cell (k := 6) (sF_same _ _ _) (by decide) (by decide), hE 6 (by omega) (by omega), d6]
      have : E = undoN A := by
        funext j
        by_cases z1 : 10 ≤ j ∧ j < 40
        · exact hb j z1.1 z1.2
        · by_cases z2 : 150 ≤ j ∧ j < 250
          · have q := hp (j - 150) (by omega)
            have q' := undoN_p (A := A) (k := j - 150) (by omega)
            rw [hXe] at q'
            rw [show 150 + (j - 150) = j by omega] at q q'
            rw [q, q']
          · rw [hE j (by omega) (by omega)]
            by_cases z3 : j = 3
            · rw [z3, d3, undoN_3, hXe]
            by_cases z4 : j = 2
            · rw [z4, d2, undoN_2, hXe]
            by_cases z5 : j = 9
            · rw [z5, d9, undoN_9, hXe]
            by_cases z6 : j = 6
            · rw [z6, d6, undoN_6]
            rw [dO j z4 z3 z6 z5, undoN_o (by omega)]
      rw [this]
      exact h1 (by omega)
    | succ n ih =>
      intro i E hi hE hb hp
      have a4 : (nI X + 16) + nI i = nI (X + (16 + i)) := by rw [L16, nadd, nadd]; congr 1; omega
      have a5 : 150 + nI i = nI (150 + i) := by rw [L150, nadd]
      refine hK _ _ ⟨fun z => absurd z (nI_ge (b := 100) (by omega) (by decide)), fun _ => ?_⟩
      rw [a4, a5]
      refine ⟨l _ (by omega), fun v16 e16 => ⟨l _ (by omega), fun S17 e17 v18 e18 => ?_⟩⟩
      rw [sF_same, ncl (by omega), enc_at (by omega), hE _ (by omega) (by omega), dO _ (by omega) (by omega) (by omega) (by omega)] at e16
      rw [e16, sF_same, sF_sF, ncl (by omega), enc_u (by omega)] at e17
      rw [e17, e18, nI_1]
      refine ih (i + 1) _ (by omega) (fun j j1 j2 => by rw [uN_n _ _ _ _ (by omega), hE j j1 (by omega)]) (fun j j1 j2 => by rw [uN_n _ _ _ _ (by omega), hb j j1 j2]) (fun m hm => ?_)
      by_cases z : m = i
      · rw [z, uN_s]
      · rw [uN_n _ _ _ _ (by omega), hp m (by omega)]
  have cn : ∀ b, b < 6 → (b < A (X + 3) → undoN A (12 + 5 * b) = A (X + (4 + b))) ∧ (A (X + 3) ≤ b → undoN A (12 + 5 * b) = A (12 + 5 * b)) ∧ (b < A (X + 3) → undoN A (13 + 5 * b) = A (X + (10 + b))) ∧ (A (X + 3) ≤ b → b < A 0 → undoN A (13 + 5 * b) = 0) ∧ (A 0 ≤ b → undoN A (13 + 5 * b) = A (13 + 5 * b)) := fun b hb => by
    have q1 := undoN_b (A := A) hb
    have q2 := undoN_g (A := A) hb
    rw [hXe] at q1 q2
    refine ⟨fun z => by rw [q1, if_pos z], fun z => by rw [q1, if_neg (by omega)], fun z => by rw [q2, if_pos z], fun z z2 => by rw [q2, if_neg (by omega), if_pos z2], fun z => by rw [q2, if_neg (by omega), if_neg (by omega)]⟩
  have loop2 : ∀ n i : Nat, ∀ E : Nat → Nat, i + n = A 0 → A (X + 3) ≤ i → (∀ j, (j < 10 ∨ 40 ≤ j) → E j = D j) → (∀ j, 10 ≤ j → j < 40 → (j % 5 ≠ 3 ∨ j < 13 + 5 * i) → E j = undoN A j) → (∀ j, 10 ≤ j → j < 40 → 13 + 5 * i ≤ j → j % 5 = 3 → E j = A j) → K (.inr (.inl (nI X, nI i))) (sF y 0 (enc E)) := by
    intro n
    induction n with
    | zero =>
      intro i E hi hci hE hlo hhi
      have ei : i = A 0 := (by omega)
      have c0 : (sF y 0 (enc E)).2.2.1 0 (0 : Int32).toNatClampNeg = nI (A 0) := by rw [show (sF y 0 (enc E)).2.2.1 0 (0 : Int32).toNatClampNeg = nI (E 0) from enc_cell (k := 0) (sF_same _ _ _) (by decide) (by decide), hE 0 (by omega), dO 0 (by omega) (by omega) (by omega) (by omega)]
      refine hK _ _ ⟨l 0 (by decide), fun _ => loop3 100 0 E (by omega) (fun j j1 _ => hE j j1) (fun j j1 j2 => ?_) (fun m hm => absurd hm (by omega)), fun z => absurd (by rw [c0, ei]; exact Int32.le_refl _) z⟩
      by_cases z : j % 5 ≠ 3 ∨ j < 13 + 5 * i
      · exact hlo j j1 j2 z
      · have q := (cn ((j - 13) / 5) (by omega)).2.2.2.2 (by omega)
        rw [show 13 + 5 * ((j - 13) / 5) = j by omega] at q
        rw [hhi j j1 j2 (by omega) (by omega), q]
    | succ n ih =>
      intro i E hi hci hE hlo hhi
      have c0 : (sF y 0 (enc E)).2.2.1 0 (0 : Int32).toNatClampNeg = nI (A 0) := by rw [show (sF y 0 (enc E)).2.2.1 0 (0 : Int32).toNatClampNeg = nI (E 0) from enc_cell (k := 0) (sF_same _ _ _) (by decide) (by decide), hE 0 (by omega), dO 0 (by omega) (by omega) (by omega) (by omega)]
      refine hK _ _ ⟨l 0 (by decide), fun z => absurd z (by rw [c0]; exact nI_ge (by omega) (by omega)), fun _ => mset (sF_same _ _ _) rfl L3 L0 (by omega) (by omega) (fun v15 e15 => ?_)⟩
      rw [e15, nI_1, sF_sF]
      refine ih (i + 1) _ (by omega) (by omega) (fun j hj => by rw [uN_n _ _ _ _ (by omega), hE j hj]) (fun j j1 j2 j3 => ?_) (fun j j1 j2 j3 j4 => by rw [uN_n _ _ _ _ (by omega), hhi j j1 j2 (by omega) j4])
      by_cases z : j = 10 + 5 * i + 3
      · rw [z, uN_s, show 10 + 5 * i + 3 = 13 + 5 * i by omega, (cn i (by omega)).2.2.2.1 hci (by omega)]
      · rw [uN_n _ _ _ _ z, hlo j j1 j2 (by omega)]
  have loop1 : ∀ n i : Nat, ∀ E : Nat → Nat, i + n = A (X + 3) → (∀ j, (j < 10 ∨ 40 ≤ j) → E j = D j) → (∀ j, 10 ≤ j → j < 40 → j < 12 + 5 * i → E j = undoN A j) → (∀ j, 10 ≤ j → j < 40 → 12 + 5 * i ≤ j → E j = A j) → K (.inl (nI X, nI i)) (sF y 0 (enc E)) := by
    intro n
    induction n with
    | zero =>
      intro i E hi hE hlo hhi
      have ei : i = A (X + 3) := (by omega)
      have c3 : (sF y 0 (enc E)).2.2.1 0 (nI (X + 3)).toNatClampNeg = nI (A (X + 3)) := by rw [enc_cell (sF_same _ _ _) (by omega) (by omega), hE _ (by omega), dO _ (by omega) (by omega) (by omega) (by omega)]
      refine hK _ _ ?_
      show vp_in (nI X + 3) 3890 ∧ _
      rw [a3, c3]
      refine ⟨l _ (by omega), fun _ => ⟨l _ (by omega), fun v10 e10 => ?_⟩, fun z => absurd (by rw [ei]; exact Int32.le_refl _) z⟩
      rw [e10]
      refine loop2 (A 0 - A (X + 3)) (A (X + 3)) E (by omega) (Nat.le_refl _) hE (fun j j1 j2 j3 => ?_) (fun j j1 j2 j3 j4 => hhi j j1 j2 (by omega))
      by_cases z : j < 12 + 5 * i
      · exact hlo j j1 j2 z
      · rw [hhi j j1 j2 (by omega)]
        by_cases z2 : j % 5 = 2
        · have q := (cn ((j - 12) / 5) (by omega)).2.1 (by omega)
          rw [show 12 + 5 * ((j - 12) / 5) = j by omega] at q
          rw [q]
        · rw [undoN_o (by omega)]
    | succ n ih =>
      intro i E hi hE hlo hhi
      have c3 : (sF y 0 (enc E)).2.2.1 0 (nI (X + 3)).toNatClampNeg = nI (A (X + 3)) := by rw [enc_cell (sF_same _ _ _) (by omega) (by omega), hE _ (by omega), dO _ (by omega) (by omega) (by omega) (by omega)]
      have a4 : (nI X + 4) + nI i = nI (X + (4 + i)) := by rw [L4, nadd, nadd]; congr 1; omega
      have a5 : (nI X + 10) + nI i = nI (X + (10 + i)) := by rw [L10, nadd, nadd]; congr 1; omega
      refine hK _ _ ?_
      show vp_in (nI X + 3) 3890 ∧ _
      rw [a3, c3, a4]
      refine ⟨l _ (by omega), fun z => absurd z (nI_ge (by omega) (by omega)), fun _ => ⟨l _ (by omega), mset (v := A (X + (4 + i))) (sF_same _ _ _) rfl L2 (by rw [enc_cell (sF_same _ _ _) (by omega) (by omega), hE _ (by omega), dO _ (by omega) (by omega) (by omega) (by omega)]) (by omega) (by omega) ?_⟩⟩
      rw [a5, sF_sF]
      refine ⟨l _ (by omega), mset (v := A (X + (10 + i))) (sF_same _ _ _) rfl L3 (by rw [enc_cell (sF_same _ _ _) (by omega) (by omega), uN_n _ _ _ _ (by omega), hE _ (by omega), dO _ (by omega) (by omega) (by omega) (by omega)]) (by omega) (by omega) (fun v13 e13 => ?_)⟩
      rw [e13, nI_1, sF_sF]
      refine ih (i + 1) _ (by omega) (fun j hj => by rw [uN_n _ _ _ _ (by omega), uN_n _ _ _ _ (by omega), hE j hj]) (fun j j1 j2 j3 => ?_) (fun j j1 j2 j3 => by rw [uN_n _ _ _ _ (by omega), uN_n _ _ _ _ (by omega), hhi j j1 j2 (by omega)])
      by_cases z : j = 10 + 5 * i + 3
      · rw [z, uN_s, show 10 + 5 * i + 3 = 13 + 5 * i by omega, (cn i (by omega)).2.2.1 (by omega)]
      · rw [uN_n _ _ _ _ z]
        by_cases z2 : j = 10 + 5 * i + 2
        · rw [z2, uN_s, show 10 + 5 * i + 2 = 12 + 5 * i by omega, (cn i (by omega)).1 (by omega)]
        · rw [uN_n _ _ _ _ z2]
          by_cases z3 : j < 12 + 5 * i
          · exact hlo j j1 j2 z3
          · rw [hhi j j1 j2 (by omega), undoN_o (by omega)]
  exact loop1 (A (X + 3)) 0 D (by omega) (fun _ _ => rfl) (fun j j1 j2 j3 => by rw [dO j (by omega) (by omega) (by omega) (by omega), undoN_o (by omega)]) (fun j j1 j2 j3 => dO j (by omega) (by omega) (by omega) (by omega))
theorem op_undo {TX : TXT} {A B : Nat → Nat} {x : XS} {y : MS} (h : RelA TX A B x y) : VC_X11_undo_0 (fun r x' => VC_undo (fun r' y' => r = r' ∧ RelT TX x' y') y) x := by
  obtain ⟨g1, -, g3, -, g5, -⟩ := id h
  refine c_undo g1 g3 (fun x' h6 fx hx' => ?_) (fun h6 => ?_)
  · exact r_undo g1 g5 (fun _ => ⟨rfl, h.step fx ((YFr.refl y).F _ _ (by omega)) (Inv_undo g1 h6) hx' (sF_same _ _ _) (undoN_o (by omega))⟩) (fun z => absurd z (by omega))
  · exact r_undo g1 g5 (fun z => absurd z (by omega)) (fun _ => ⟨rfl, A, B, h⟩)
