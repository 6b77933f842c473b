/-! what the law's start gives -/
section LENV
variable {s : State} {b : Nat}
theorem law_NWX (hts : ∀ w ∈ lw_tbl, w.before #[Value.ref b] s = true) : NWX s := by
  refine ⟨fun w hw => ?_, va_Nw.of (by decide) (hts _ (lVk_in _ (List.mem_of_getElem? (i := 17) rfl))), va_Nw.of (by decide) (hts _ (lVk_in _ (List.mem_of_getElem? (i := 18) rfl)))⟩
  obtain ⟨a, i, x, k, e⟩ := nestX_all w hw
  have h := hts w (nestX_in w hw)
  subst e
  exact va_Nw.of rfl h
theorem law_NWI (hts : ∀ w ∈ lw_tbl, w.before #[Value.ref b] s = true) : NWI s := by
  refine ⟨fun w hw => ?_, va_AO.of (hts _ (lVk_in _ (List.mem_of_getElem? (i := 16) rfl)))⟩
  obtain ⟨a, i, x, k, e⟩ := nestI_all w hw
  have h := hts w (nestI_in w hw)
  subst e
  exact va_Nw.of rfl h
theorem law_ENV (hts : ∀ w ∈ lw_tbl, w.before #[Value.ref b] s = true) (hgv : (Jvm.Cond.and given_1 narrow_1).before #[Value.ref b] s = true) : ∃ en : Nat → Nat, en 0 = s.heap.size ∧ ENV en s s.heap := by
  have hs := flat_of_before _ hgv
  have fl : ∀ (k : Nat) (w : Cond), lFl[k]? = some w → w.before #[Value.ref b] s = true := fun k w h => hs w (lFl_in w (List.mem_of_getElem? h))
  have tb : ∀ (k : Nat) (w : Cond), lVk[k]? = some w → w.before #[Value.ref b] s = true := fun k w h => hts w (lVk_in w (List.mem_of_getElem? h))
  have hA : ∀ a : Nat, a < s.heap.size → ¬ (fun z : Nat => s.heap.size ≤ z) a := fun a h => Nat.not_le.mpr h
  have two : ∀ i : Nat, i < 2 → i = 0 ∨ i = 1 := fun i h => by omega
  obtain ⟨adK, adV, hS, hev⟩ := vk_Sof (args := #[Value.ref b]) (s := s) (N := 2) (tm := lTm) (len := [134, 13]) (byt := [eW, eG]) (A := fun z : Nat => s.heap.size ≤ z)
    (fun i hi => by rcases two i hi with h | h <;> subst h <;> decide)
    (fun i hi => (two i hi).elim (fun h => by subst h; exact fl 0 _ rfl) (fun h => by subst h; exact fl 1 _ rfl))
    (fun i hi => (two i hi).elim (fun h => by subst h; exact fl 2 _ rfl) (fun h => by subst h; exact fl 3 _ rfl))
    (fun i hi => (two i hi).elim (fun h => by subst h; exact fl 4 _ rfl) (fun h => by subst h; exact fl 5 _ rfl))
    (fun i hi => (two i hi).elim (fun h => by subst h; exact fl 6 _ rfl) (fun h => by subst h; exact fl 7 _ rfl))
    (fun i hi j hj => (two i hi).elim (fun h => by subst h; exact hs _ (flW j hj)) (fun h => by subst h; exact hs _ (flG j hj)))
    (fun i j hi hj ne => by
      rcases two i hi with h | h <;> rcases two j hj with h' | h' <;> subst h h'
      · exact absurd rfl ne
      · exact Or.inl (fl 8 _ rfl)
      · exact Or.inr (fl 8 _ rfl)
      · exact absurd rfl ne) hA
  obtain ⟨tN, hN, hT⟩ := va_Tof (args := #[Value.ref b]) (s := s) (tm := .static "BreathOnLoan" "NAMES_OF_LAW" "[I") (ty := .int) (N := 4) (f := fun j => .int (eN.getD j 0)) (A := fun z : Nat => s.heap.size ≤ z) (by decide) (fl 11 _ rfl) (va_eqt (fl 12 _ rfl)) (fun j hj => va_eqt (hs _ (flNm j hj))) hA
  refine ⟨fun k => match k with | 0 => s.heap.size | 1 => adK 0 | 2 => adK 1 | 3 => adV 0 | 4 => adV 1 | _ => tN, rfl, ⟨vk_R.of (tb 19 _ rfl) (hev 0 (by decide)), vk_R.of (tb 20 _ rfl) (hev 1 (by decide))⟩, hS.1 0 (by decide), hS.1 1 (by decide), va_Zof (tb 21 _ rfl) (tb 24 _ rfl) (va_eqt (fl 9 _ rfl)) hA, va_Zof (tb 22 _ rfl) (tb 25 _ rfl) hN hA, hT, va_Zqof (tb 23 _ rfl) (tb 26 _ rfl) (fl 10 _ rfl) hA⟩
theorem law_K (hts : ∀ w ∈ lw_tbl, w.before #[Value.ref b] s = true) : ∃ (dC : Nat → ClassId) (dI : Nat → Nat → Nat) (cI cT cJ cZ : ClassId), va_K (dC, dI) vwCl (tyX cI cT) s ∧ va_K (dC, dI) vwCl (tyM cI cJ cZ) s := by
  have tb : ∀ (k : Nat) (w : Cond), lVk[k]? = some w → w.before #[Value.ref b] s = true := fun k w h => hts w (lVk_in w (List.mem_of_getElem? h))
  obtain ⟨c0, i0, h0⟩ := u_known (C := RX0) (T := TX0) (N := 6) (n := 6) hts (fun w hw => (lW_0 w hw).1) (tb 0 _ rfl)
  obtain ⟨c1, i1, h1⟩ := u_known (C := RX1) (T := TX1) (N := 5) (n := 5) hts (fun w hw => (lW_1 w hw).1) (tb 1 _ rfl)
  obtain ⟨c2, i2, h2⟩ := u_known (C := RX2) (T := TX2) (N := 3) (n := 3) hts (fun w hw => (lW_2 w hw).1) (tb 2 _ rfl)
  obtain ⟨c3, i3, h3⟩ := u_known (C := RX3) (T := TX3) (N := 16) (n := 16) hts (fun w hw => (lW_3 w hw).1) (tb 3 _ rfl)
  obtain ⟨c4, i4, h4⟩ := u_known (C := RX4) (T := TX4) (N := 11) (n := 11) hts (fun w hw => (lW_4 w hw).1) (tb 4 _ rfl)
  obtain ⟨c5, i5, h5⟩ := u_known (C := RX5) (T := TX5) (N := 8) (n := 8) hts (fun w hw => (lW_5 w hw).1) (tb 5 _ rfl)
  obtain ⟨c6, i6, h6⟩ := u_known (C := RX6) (T := TX6) (N := 3) (n := 3) hts (fun w hw => (lW_6 w hw).1) (tb 6 _ rfl)
  obtain ⟨c7, i7, h7⟩ := u_known (C := RX7) (T := TX7) (N := 4) (n := 4) hts (fun w hw => (lW_7 w hw).1) (tb 7 _ rfl)
  obtain ⟨c8, i8, h8⟩ := u_known (C := RX8) (T := TX8) (N := 2) (n := 2) hts (fun w hw => (lW_8 w hw).1) (tb 8 _ rfl)
  obtain ⟨c9, i9, h9⟩ := u_known (C := RX9) (T := TX9) (N := 4) (n := 4) hts (fun w hw => (lW_9 w hw).1) (tb 9 _ rfl)
  obtain ⟨c10, i10, h10⟩ := u_known (C := RX10) (T := TX10) (N := 4) (n := 4) hts (fun w hw => (lW_10 w hw).1) (tb 10 _ rfl)
  obtain ⟨c11, i11, h11⟩ := u_known (C := RX11) (T := TX11) (N := 7) (n := 7) hts (fun w hw => (lW_11 w hw).1) (tb 11 _ rfl)
  obtain ⟨c12, i12, h12⟩ := u_known (C := RX12) (T := TX12) (N := 32) (n := 32) hts (fun w hw => (lW_12 w hw).1) (tb 12 _ rfl)
  obtain ⟨cI, kI', pI, fI, gI, eI⟩ := Cond.arrayClass_spec (type := .int) (tb 13 _ rfl)
  obtain ⟨cJ, kJ', pJ, fJ, gJ, eJ⟩ := Cond.arrayClass_spec (type := .long) (tb 14 _ rfl)
  obtain ⟨cZ, kZ', pZ, fZ, gZ, eZ⟩ := Cond.arrayClass_spec (type := .boolean) (tb 15 _ rfl)
  obtain ⟨pT, cT, kT', fT, _, gT, eT, nT⟩ := Cond.arrayOver_spec (n := "BreathOnLoan$Text") (tb 16 _ rfl)
  have cls : ∃ (dC : Nat → ClassId) (dI : Nat → Nat → Nat), ∀ (k : Nat) (q : vw_C), vwCl[k]? = some q → u_Kn s q.1 q.2.1 q.2.2 (dC k) (dI k) := by
    refine ⟨fun k => match k with | 0 => c0 | 1 => c1 | 2 => c2 | 3 => c3 | 4 => c4 | 5 => c5 | 6 => c6 | 7 => c7 | 8 => c8 | 9 => c9 | 10 => c10 | 11 => c11 | _ => c12, fun k => match k with | 0 => i0 | 1 => i1 | 2 => i2 | 3 => i3 | 4 => i4 | 5 => i5 | 6 => i6 | 7 => i7 | 8 => i8 | 9 => i9 | 10 => i10 | 11 => i11 | _ => i12, ?_⟩
    intro k q hq
    match k, hq with
    | 0, hq => cases hq; exact h0
    | 1, hq => cases hq; exact h1
    | 2, hq => cases hq; exact h2
    | 3, hq => cases hq; exact h3
    | 4, hq => cases hq; exact h4
    | 5, hq => cases hq; exact h5
    | 6, hq => cases hq; exact h6
    | 7, hq => cases hq; exact h7
    | 8, hq => cases hq; exact h8
    | 9, hq => cases hq; exact h9
    | 10, hq => cases hq; exact h10
    | 11, hq => cases hq; exact h11
    | 12, hq => cases hq; exact h12
    | k + 13, hq => simp [vwCl] at hq
  obtain ⟨dC, dI, hK⟩ := cls
  have aI : ArrOfT s cI .int ∧ va_RA s cI .int := ⟨fun n z => ⟨fun k h => (by cases h), kI', gI, pI, eI⟩, fI⟩
  have aJ : ArrOfT s cJ .long ∧ va_RA s cJ .long := ⟨fun n z => ⟨fun k h => (by cases h), kJ', gJ, pJ, eJ⟩, fJ⟩
  have aZ : ArrOfT s cZ .boolean ∧ va_RA s cZ .boolean := ⟨fun n z => ⟨fun k h => (by cases h), kZ', gZ, pZ, eZ⟩, fZ⟩
  have aT : ArrOfT s cT (.object "BreathOnLoan$Text") ∧ va_RA s cT (.object "BreathOnLoan$Text") := ⟨fun n z => ⟨fun k h => (by cases h), kT', gT, pT, eT⟩, ⟨kT', pT, gT, eT, fT, nT⟩⟩
  refine ⟨dC, dI, cI, cT, cJ, cZ, ⟨hK, fun k q hq => ?_⟩, ⟨hK, fun k q hq => ?_⟩⟩
  · match k, hq with
    | 0, hq => cases hq; exact aI
    | 1, hq => cases hq; exact aT
    | k + 2, hq => simp [tyX] at hq
  · match k, hq with
    | 0, hq => cases hq; exact aI
    | 1, hq => cases hq; exact aJ
    | 2, hq => cases hq; exact aZ
    | k + 3, hq => simp [tyM] at hq
end LENV
