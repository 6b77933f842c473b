-- isTeam by_ reckon workOf
def ww_isTeam : List Cond := .code yX12_isTeam cX12_isTeam 2 (some .boolean) :: (WdM ++ wsX120)
theorem q_isTeam : yX12_isTeam.cls = RX12 ∧ yX12_isTeam.cls ≠ "java/lang/invoke/MethodHandle" ∧ yX12_isTeam.cls ≠ "java/lang/invoke/VarHandle" ∧ (parseMethodDescriptor yX12_isTeam.desc).map (fun d => d.parameters.length) = some 1 := by decide +kernel
def VC_isTeam (Post : Int32 → MS → Prop) (a0 : Int32) (S : MS) : Prop := ¬ (10 : Int32) = 0 ∧ ¬ (10 : Int32) = 0 ∧ (((a0 - a0 / 10 * 10) < (a0 / 10) → Post 0 S) ∧ (¬ (a0 - a0 / 10 * 10) < (a0 / 10) → ¬ (10 : Int32) = 0 ∧ vp_in (0 : Int32) 3890 ∧ ((((S.2.2.1 0) (0 : Int32).toNatClampNeg) ≤ (a0 - a0 / 10 * 10) → Post 0 S) ∧ (¬ ((S.2.2.1 0) (0 : Int32).toNatClampNeg) ≤ (a0 - a0 / 10 * 10) → Post 1 S))))
set_option maxHeartbeats 4000000 in
set_option maxRecDepth 100000 in
theorem m_isTeam {l : Launch} {dC : Nat → ClassId} {dI : Nat → Nat → Nat} {q : Nat → Nat} {cI cJ cZ : ClassId} {sz : Nat} {Post : Int32 → MS → Prop} (a0 : Int32) (S : MS) (h : VC_isTeam Post a0 S) : Met l yX12_isTeam ww_isTeam ({ frames := 0, cells := 0, slots := 0, locals := 0 } : Room) (va_Pc [.ref (q 0), .int a0] (preM dC dI q cI cJ cZ S sz)) (va_Qi Post (atM dC dI q cI cJ cZ (va_A (wM q cI cJ cZ S) sz)) (va_A (wM q cI cJ cZ S) sz)) 0 0 (va_A (wM q cI cJ cZ S) sz) := by
  refine oM (cc := cX12_isTeam) (maxL := 2) (ret := (some .boolean)) (Qc := fun A => va_Qi Post (atM dC dI q cI cJ cZ A) A) (by decide) rfl (fun w h => List.mem_cons_of_mem _ (List.mem_append_right _ h)) rfl (Nat.le_of_ble_eq_true rfl) (fun p e s m below meth c A ls X hr hlocks hP hD hS hl => ?_)
  have hx := X.1
  have hb := X.2.1
  have hl : lv_has ls 2 [(0, .ref (q 0)), (1, .int a0)] := hl
  have lk7 := X.2.2.2.2.1 (.fieldLink RX12 7 "BreathOnLoanModel" "a" "[I") (inW 5 rfl)
  dsimp only [VC_isTeam] at h
  refine lv_iload_n hx hb (dk DX12_isTeam 0 rfl) rfl (lv_at hl 1 rfl) ?_
  refine lv_bipush (v := 10) hx hb (dk DX12_isTeam 1 rfl) (by decide) ?_
  obtain ⟨hz, h⟩ := h
  refine lv_idiv hx hb (dk DX12_isTeam 2 rfl) hz ?_
  refine lv_iload_n hx hb (dk DX12_isTeam 3 rfl) rfl (lv_at hl 1 rfl) ?_
  refine lv_bipush (v := 10) hx hb (dk DX12_isTeam 4 rfl) (by decide) ?_
  obtain ⟨hz, h⟩ := h
  refine lv_irem hx hb (dk DX12_isTeam 5 rfl) hz ?_
  refine lv_icmp_gt (tgt := 28) hx hb (dk DX12_isTeam 6 rfl) (by decide) (fun hc => ?_) (fun hc => ?_)
  · have h := h.1 hc
    refine lv_iconst (v := 0) hx hb (dk DX12_isTeam 17 rfl) (by decide) ?_
    exact W.zret (v := 0) hx hb hr (by decide) (fun t ht hW => ⟨⟨_, _, rfl, h, by rw [ht]; exact hP, va_K.moved hW.alike X.2.2.2.2.2.2.1, hD⟩, hS.F ht⟩) hS.2.2 (dk DX12_isTeam 18 rfl)
  · have h := h.2 hc
    refine lv_iload_n hx hb (dk DX12_isTeam 7 rfl) rfl (lv_at hl 1 rfl) ?_
    refine lv_bipush (v := 10) hx hb (dk DX12_isTeam 8 rfl) (by decide) ?_
    obtain ⟨hz, h⟩ := h
    refine lv_irem hx hb (dk DX12_isTeam 9 rfl) hz ?_
    refine lv_aload_n hx hb (dk DX12_isTeam 10 rfl) rfl (lv_at hl 0 rfl) ?_
    refine gM X hP 0 (by decide) rfl lk7 (dk DX12_isTeam 11 rfl) ?_
    refine lv_iconst (v := 0) hx hb (dk DX12_isTeam 12 rfl) (by decide) ?_
    obtain ⟨hin, h⟩ := h
    refine ldM X hP 1 rfl hin (dk DX12_isTeam 13 rfl) ?_
    refine lv_icmp_ge (tgt := 28) hx hb (dk DX12_isTeam 14 rfl) (by decide) (fun hc => ?_) (fun hc => ?_)
    · have h := h.1 hc
      refine lv_iconst (v := 0) hx hb (dk DX12_isTeam 17 rfl) (by decide) ?_
      exact W.zret (v := 0) hx hb hr (by decide) (fun t ht hW => ⟨⟨_, _, rfl, h, by rw [ht]; exact hP, va_K.moved hW.alike X.2.2.2.2.2.2.1, hD⟩, hS.F ht⟩) hS.2.2 (dk DX12_isTeam 18 rfl)
    · have h := h.2 hc
      refine lv_iconst (v := 1) hx hb (dk DX12_isTeam 15 rfl) (by decide) ?_
      refine lv_goto (tgt := 29) hx hb (dk DX12_isTeam 16 rfl) (by decide) ?_
      exact W.zret (v := 1) hx hb hr (by decide) (fun t ht hW => ⟨⟨_, _, rfl, h, by rw [ht]; exact hP, va_K.moved hW.alike X.2.2.2.2.2.2.1, hD⟩, hS.F ht⟩) hS.2.2 (dk DX12_isTeam 18 rfl)

def ww_by_ : List Cond := .code yX12_by_ cX12_by_ 7 (some .int) :: (WdM ++ wsX120)
theorem q_by_ : yX12_by_.cls = RX12 ∧ yX12_by_.cls ≠ "java/lang/invoke/MethodHandle" ∧ yX12_by_.cls ≠ "java/lang/invoke/VarHandle" ∧ (parseMethodDescriptor yX12_by_.desc).map (fun d => d.parameters.length) = some 5 := by decide +kernel
def VC_by_ (Post : Int32 → MS → Prop) (a0 : Int32) (a1 : Int32) (a2 : Int32) (a3 : Int32) (a4 : Int32) (S : MS) : Prop := ¬ (100 : Int32) = 0 ∧ ∀ v1 : Int32, v1 = a2 / 100 → VC_has (fun r2 => ((r2 = 0 → Post (-100000000) S) ∧ (¬ r2 = 0 → ¬ (100 : Int32) = 0 ∧ VC_isTeam (fun r4 S3 => ((r4 = 0 → Post (-100000000) S3) ∧ (¬ r4 = 0 → ¬ (100 : Int32) = 0 ∧ VC_isDone (fun r6 S5 => ((¬ r6 = 0 → vp_in ((26 * (a0 ||| ((1 : Int32) <<< (v1 &&& 31)))) + (S5.1 29)) 1664 ∧ Post ((S5.1 28) + ((S5.2.2.1 26) ((26 * (a0 ||| ((1 : Int32) <<< (v1 &&& 31)))) + (S5.1 29)).toNatClampNeg)) S5) ∧ (r6 = 0 → Post (-100000000) S5))) v1 (a2 - a2 / 100 * 100) a1 a4 S3))) (a2 - a2 / 100 * 100) S))) (a3 &&& (a0 ^^^ (-1))) v1
set_option maxHeartbeats 4000000 in
set_option maxRecDepth 100000 in
theorem m_by_ {l : Launch} {dC : Nat → ClassId} {dI : Nat → Nat → Nat} {q : Nat → Nat} {cI cJ cZ : ClassId} {sz : Nat} {Post : Int32 → MS → Prop} (a0 : Int32) (a1 : Int32) (a2 : Int32) (a3 : Int32) (a4 : Int32) (S : MS) (h : VC_by_ Post a0 a1 a2 a3 a4 S) : Met l yX12_by_ ww_by_ ({ frames := 2, cells := 0, slots := 0, locals := 53 } : Room) (va_Pc [.ref (q 0), .int a0, .int a1, .int a2, .int a3, .int a4] (preM dC dI q cI cJ cZ S sz)) (va_Qi Post (atM dC dI q cI cJ cZ (va_A (wM q cI cJ cZ S) sz)) (va_A (wM q cI cJ cZ S) sz)) 0 0 (va_A (wM q cI cJ cZ S) sz) := by
  refine oM (cc := cX12_by_) (maxL := 7) (ret := (some .int)) (Qc := fun A => va_Qi Post (atM dC dI q cI cJ cZ A) A) (by decide) rfl (fun w h => List.mem_cons_of_mem _ (List.mem_append_right _ h)) rfl (Nat.le_of_ble_eq_true rfl) (fun p e s m below meth c A ls X hr hlocks hP hD hS hl => ?_)
  have hx := X.1
  have hb := X.2.1
  have hl : lv_has ls 7 [(0, .ref (q 0)), (1, .int a0), (2, .int a1), (3, .int a2), (4, .int a3), (5, .int a4)] := hl
  have lk337 := X.2.2.2.2.1 (.fieldLink RX12 337 "BreathOnLoanModel" "gain" "I") (inW 310 rfl)
  have lk46 := X.2.2.2.2.1 (.fieldLink RX12 46 "BreathOnLoanModel" "left" "[I") (inW 18 rfl)
  have lk340 := X.2.2.2.2.1 (.fieldLink RX12 340 "BreathOnLoanModel" "behind" "I") (inW 311 rfl)
  dsimp only [VC_by_] at h
  refine lv_iload_n hx hb (dk DX12_by_ 0 rfl) rfl (lv_at hl 3 rfl) ?_
  refine lv_bipush (v := 100) hx hb (dk DX12_by_ 1 rfl) (by decide) ?_
  obtain ⟨hz, h⟩ := h
  refine lv_idiv hx hb (dk DX12_by_ 2 rfl) hz ?_
  refine lv_topi (fun v1 ev1 => ?_)
  have h := h v1 ev1
  refine lv_istore (lv' := [(6, .int v1), (0, .ref (q 0)), (1, .int a0), (2, .int a1), (3, .int a2), (4, .int a3), (5, .int a4)]) hx hb (dk DX12_by_ 3 rfl) hl (by decide) rfl (fun ls hl => ?_)
  refine lv_iload hx hb (dk DX12_by_ 4 rfl) (lv_at hl 5 rfl) ?_
  refine lv_iload_n hx hb (dk DX12_by_ 5 rfl) rfl (lv_at hl 2 rfl) ?_
  refine lv_iconst (v := (-1)) hx hb (dk DX12_by_ 6 rfl) (by decide) ?_
  refine lv_ixor hx hb (dk DX12_by_ 7 rfl) ?_
  refine lv_iand hx hb (dk DX12_by_ 8 rfl) ?_
  refine lv_iload hx hb (dk DX12_by_ 9 rfl) (lv_at hl 0 rfl) ?_
  refine cSi (As := [.int (a3 &&& (a0 ^^^ (-1))), .int v1]) (rest := []) ⟨X.1, X.2.1, X.2.2.1, X.2.2.2.1, X.2.2.2.2.1⟩ (m_has (l := l) (a3 &&& (a0 ^^^ (-1))) v1 h) (va_cwS 2 X.2.2.2.2.1 (gwS 244 245 24 28 rfl rfl rfl rfl) rfl rfl rfl q_has ⟨Nat.le_of_ble_eq_true rfl, Nat.le_of_ble_eq_true rfl⟩) rfl hl.1 rfl (Nat.le_of_ble_eq_true rfl) (dk DX12_by_ 10 rfl) (fun r2 h => ?_)
  refine lv_if_eq (tgt := 47) hx hb (dk DX12_by_ 11 rfl) (by decide) (fun hc => ?_) (fun hc => ?_)
  · have h := h.1 hc
    refine lv_ldcw (v := (-100000000)) hx hb X.2.2.2.1 (X.2.2.2.2.1 (.constant RX12 350 (-100000000)) (inW 314 rfl)) (dk DX12_by_ 27 rfl) ?_
    exact W.iret (v := (-100000000)) hx hb hr (fun t ht hW => ⟨⟨_, _, rfl, h, by rw [ht]; exact hP, va_K.moved hW.alike X.2.2.2.2.2.2.1, hD⟩, hS.F ht⟩) hS.2.2 (dk DX12_by_ 28 rfl)
  · have h := h.2 hc
    refine lv_aload_n hx hb (dk DX12_by_ 12 rfl) rfl (lv_at hl 1 rfl) ?_
    refine lv_iload_n hx hb (dk DX12_by_ 13 rfl) rfl (lv_at hl 4 rfl) ?_
    refine lv_bipush (v := 100) hx hb (dk DX12_by_ 14 rfl) (by decide) ?_
    obtain ⟨hz, h⟩ := h
    refine lv_irem hx hb (dk DX12_by_ 15 rfl) hz ?_
    refine cMi (As := [.int (a2 - a2 / 100 * 100)]) (rest := []) X (m_isTeam (l := l) (dC := dC) (dI := dI) (q := q) (cI := cI) (cJ := cJ) (cZ := cZ) (sz := _) (a2 - a2 / 100 * 100) S h) (cwV 1 X.2.2.2.2.1 (gwV 315 316 317 24 312 rfl rfl rfl rfl rfl) rfl rfl rfl q_isTeam ⟨Nat.le_of_ble_eq_true rfl, Nat.le_of_ble_eq_true rfl⟩) hP hD hS rfl hl.1 rfl (Nat.le_of_ble_eq_true rfl) (dk DX12_by_ 16 rfl) (fun r4 S3 H locs h hP hD hS => ?_)
    refine lv_if_eq (tgt := 47) hx hb (dk DX12_by_ 17 rfl) (by decide) (fun hc => ?_) (fun hc => ?_)
    · have h := h.1 hc
      refine lv_ldcw (v := (-100000000)) hx hb X.2.2.2.1 (X.2.2.2.2.1 (.constant RX12 350 (-100000000)) (inW 314 rfl)) (dk DX12_by_ 27 rfl) ?_
      exact W.iret (v := (-100000000)) hx hb hr (fun t ht hW => ⟨⟨_, _, rfl, h, by rw [ht]; exact hP, va_K.moved hW.alike X.2.2.2.2.2.2.1, hD⟩, hS.F ht⟩) hS.2.2 (dk DX12_by_ 28 rfl)
    · have h := h.2 hc
      refine lv_aload_n hx hb (dk DX12_by_ 18 rfl) rfl (lv_at hl 1 rfl) ?_
      refine lv_iload hx hb (dk DX12_by_ 19 rfl) (lv_at hl 0 rfl) ?_
      refine lv_iload_n hx hb (dk DX12_by_ 20 rfl) rfl (lv_at hl 4 rfl) ?_
      refine lv_bipush (v := 100) hx hb (dk DX12_by_ 21 rfl) (by decide) ?_
      obtain ⟨hz, h⟩ := h
      refine lv_irem hx hb (dk DX12_by_ 22 rfl) hz ?_
      refine lv_iload_n hx hb (dk DX12_by_ 23 rfl) rfl (lv_at hl 3 rfl) ?_
      refine lv_iload hx hb (dk DX12_by_ 24 rfl) (lv_at hl 6 rfl) ?_
      refine cMi (As := [.int v1, .int (a2 - a2 / 100 * 100), .int a1, .int a4]) (rest := []) X (m_isDone (l := l) (dC := dC) (dI := dI) (q := q) (cI := cI) (cJ := cJ) (cZ := cZ) (sz := _) v1 (a2 - a2 / 100 * 100) a1 a4 S3 h) (cwV 4 X.2.2.2.2.1 (gwV 318 319 320 24 309 rfl rfl rfl rfl rfl) rfl rfl rfl q_isDone ⟨Nat.le_of_ble_eq_true rfl, Nat.le_of_ble_eq_true rfl⟩) hP hD hS rfl hl.1 rfl (Nat.le_of_ble_eq_true rfl) (dk DX12_by_ 25 rfl) (fun r6 S5 H locs h hP hD hS => ?_)
      refine lv_if_ne (tgt := 51) hx hb (dk DX12_by_ 26 rfl) (by decide) (fun hc => ?_) (fun hc => ?_)
      · have h := h.1 hc
        refine lv_aload_n hx hb (dk DX12_by_ 29 rfl) rfl (lv_at hl 1 rfl) ?_
        refine gM X hP 28 (by decide) rfl lk337 (dk DX12_by_ 30 rfl) ?_
        refine lv_aload_n hx hb (dk DX12_by_ 31 rfl) rfl (lv_at hl 1 rfl) ?_
        refine gM X hP 26 (by decide) rfl lk46 (dk DX12_by_ 32 rfl) ?_
        refine lv_bipush (v := 26) hx hb (dk DX12_by_ 33 rfl) (by decide) ?_
        refine lv_iload_n hx hb (dk DX12_by_ 34 rfl) rfl (lv_at hl 2 rfl) ?_
        refine lv_iconst (v := 1) hx hb (dk DX12_by_ 35 rfl) (by decide) ?_
        refine lv_iload hx hb (dk DX12_by_ 36 rfl) (lv_at hl 0 rfl) ?_
        refine lv_ishl hx hb (dk DX12_by_ 37 rfl) ?_
        refine lv_ior hx hb (dk DX12_by_ 38 rfl) ?_
        refine lv_imul hx hb (dk DX12_by_ 39 rfl) ?_
        refine lv_aload_n hx hb (dk DX12_by_ 40 rfl) rfl (lv_at hl 1 rfl) ?_
        refine gM X hP 29 (by decide) rfl lk340 (dk DX12_by_ 41 rfl) ?_
        refine lv_iadd hx hb (dk DX12_by_ 42 rfl) ?_
        obtain ⟨hin, h⟩ := h
        refine ldM X hP 10 rfl hin (dk DX12_by_ 43 rfl) ?_
        refine lv_iadd hx hb (dk DX12_by_ 44 rfl) ?_
        exact W.iret (v := (S5.1 28) + ((S5.2.2.1 26) ((26 * (a0 ||| ((1 : Int32) <<< (v1 &&& 31)))) + (S5.1 29)).toNatClampNeg)) hx hb hr (fun t ht hW => ⟨⟨_, _, rfl, h, by rw [ht]; exact hP, va_K.moved hW.alike X.2.2.2.2.2.2.1, hD⟩, hS.F ht⟩) hS.2.2 (dk DX12_by_ 45 rfl)
      · have h := h.2 hc
        refine lv_ldcw (v := (-100000000)) hx hb X.2.2.2.1 (X.2.2.2.2.1 (.constant RX12 350 (-100000000)) (inW 314 rfl)) (dk DX12_by_ 27 rfl) ?_
        exact W.iret (v := (-100000000)) hx hb hr (fun t ht hW => ⟨⟨_, _, rfl, h, by rw [ht]; exact hP, va_K.moved hW.alike X.2.2.2.2.2.2.1, hD⟩, hS.F ht⟩) hS.2.2 (dk DX12_by_ 28 rfl)

def ww_reckon : List Cond := .code yX12_reckon cX12_reckon 9 none :: (WdM ++ wsX120)
theorem q_reckon : yX12_reckon.cls = RX12 ∧ yX12_reckon.cls ≠ "java/lang/invoke/MethodHandle" ∧ yX12_reckon.cls ≠ "java/lang/invoke/VarHandle" ∧ (parseMethodDescriptor yX12_reckon.desc).map (fun d => d.parameters.length) = some 4 := by decide +kernel
abbrev Hd_reckon : Type := (Int32 × Int32 × Int32 × Int32 × Int32 × Int32) ⊕ (Int32 × Int32 × Int32 × Int32 × Int32 × Int32 × Int32 × Int32)
def B_reckon (Post : MS → Prop) (K : Hd_reckon → MS → Prop) : Hd_reckon → MS → Prop
  | (.inl (x1, x2, x3, x4, x5, x6)), S => ((600 ≤ x6 → Post S) ∧ (¬ 600 ≤ x6 → VC_by_ (fun r5 S4 => ((¬ r5 = (-100000000) → ¬ (100 : Int32) = 0 ∧ vp_in ((26 * (x1 ||| ((1 : Int32) <<< ((x6 / 100) &&& 31)))) + (S4.1 29)) 1664 ∧ ∀ v6 : Int32, v6 = ((S4.2.2.1 27) ((26 * (x1 ||| ((1 : Int32) <<< ((x6 / 100) &&& 31)))) + (S4.1 29)).toNatClampNeg) + 1 → vp_in x5 1664 ∧ ((r5 < ((S4.2.2.1 26) x5.toNatClampNeg) → ∀ v7 : Int32, v7 = x6 + 1 → K (.inl (x1, x2, x3, x4, x5, v7)) S4) ∧ (¬ r5 < ((S4.2.2.1 26) x5.toNatClampNeg) → vp_in x5 1664 ∧ ((¬ r5 = ((S4.2.2.1 26) x5.toNatClampNeg) → K (.inr (x1, x2, x3, x4, x5, x6, r5, v6)) S4) ∧ (r5 = ((S4.2.2.1 26) x5.toNatClampNeg) → vp_in x5 1664 ∧ ((v6 < ((S4.2.2.1 27) x5.toNatClampNeg) → K (.inr (x1, x2, x3, x4, x5, x6, r5, v6)) S4) ∧ (¬ v6 < ((S4.2.2.1 27) x5.toNatClampNeg) → ∀ v8 : Int32, v8 = x6 + 1 → K (.inl (x1, x2, x3, x4, x5, v8)) S4))))))) ∧ (r5 = (-100000000) → ∀ v9 : Int32, v9 = x6 + 1 → K (.inl (x1, x2, x3, x4, x5, v9)) S4))) x1 x2 x6 x3 x4 S))
  | (.inr (x1, x2, x3, x4, x5, x6, x7, x8)), S => vp_in x5 1664 ∧ ∀ S10 : MS, S10 = sF S 26 (upd (S.2.2.1 26) x5.toNatClampNeg x7) → vp_in x5 1664 ∧ ∀ S11 : MS, S11 = sF S10 27 (upd (S10.2.2.1 27) x5.toNatClampNeg x8) → ∀ v12 : Int32, v12 = x6 + 1 → K (.inl (x1, x2, x3, x4, x5, v12)) S11
def VC_reckon (Post : MS → Prop) (a0 : Int32) (a1 : Int32) (a2 : Int32) (a3 : Int32) (S : MS) : Prop := ∀ K : Hd_reckon → MS → Prop, (∀ h S, B_reckon Post K h S → K h S) → ∀ v1 : Int32, v1 = (26 * a0) + a1 → vp_in v1 1664 ∧ ∀ S2 : MS, S2 = sF S 26 (upd (S.2.2.1 26) v1.toNatClampNeg 0) → vp_in v1 1664 ∧ ∀ S3 : MS, S3 = sF S2 27 (upd (S2.2.2.1 27) v1.toNatClampNeg 0) → K (.inl (a0, a1, a2, a3, v1, 0)) S3
set_option maxHeartbeats 4000000 in
set_option maxRecDepth 100000 in
theorem h_reckon_0 {p : Program} {l : Launch} {e : Env} {s : State} {m : MethodId} {below : List Frame} {meth : Method} {c : Code} {dC : Nat → ClassId} {dI : Nat → Nat → Nat} {q : Nat → Nat} {cI cJ cZ : ClassId} {A : Nat → Prop} {args : Array Value} {Post : MS → Prop} {K : Hd_reckon → MS → Prop} (X : XM p s m args c cX12_reckon 9 ww_reckon dC dI cI cJ cZ A) (hr : meth.sig.returnType = none) (hlocks : meth.locks = false) (hK0 : ∀ (x1 : Int32) (x2 : Int32) (x3 : Int32) (x4 : Int32) (x5 : Int32) (x6 : Int32) (S : MS), K (.inl (x1, x2, x3, x4, x5, x6)) S → ∀ (H : Heap) (locs : List Loc), va_P (dC, dI) vwCl (wM q cI cJ cZ S) H → va_D A (wM q cI cJ cZ S) → va_S A s.heap H locs → ∀ ls : Array Slot, lv_has ls 9 [(0, .ref (q 0)), (1, .int x1), (2, .int x2), (3, .int x3), (4, .int x4), (5, .int x5), (6, .int x6)] → W p l e (headSpec ww_reckon ({ frames := 3, cells := 0, slots := 0, locals := 79 } : Room)).room s m args below meth c H locs 0 0 (MQ below (va_Qv Post (atM dC dI q cI cJ cZ A) A) args s 0 0 A) (F0 m 27 ls [])) (hK1 : ∀ (x1 : Int32) (x2 : Int32) (x3 : Int32) (x4 : Int32) (x5 : Int32) (x6 : Int32) (x7 : Int32) (x8 : Int32) (S : MS), K (.inr (x1, x2, x3, x4, x5, x6, x7, x8)) S → ∀ (H : Heap) (locs : List Loc), va_P (dC, dI) vwCl (wM q cI cJ cZ S) H → va_D A (wM q cI cJ cZ S) → va_S A s.heap H locs → ∀ ls : Array Slot, lv_has ls 9 [(0, .ref (q 0)), (1, .int x1), (2, .int x2), (3, .int x3), (4, .int x4), (5, .int x5), (6, .int x6), (7, .int x7), (8, .int x8)] → W p l e (headSpec ww_reckon ({ frames := 3, cells := 0, slots := 0, locals := 79 } : Room)).room s m args below meth c H locs 0 0 (MQ below (va_Qv Post (atM dC dI q cI cJ cZ A) A) args s 0 0 A) (F0 m 124 ls [])) (x1 : Int32) (x2 : Int32) (x3 : Int32) (x4 : Int32) (x5 : Int32) (x6 : Int32) (S : MS) (h : B_reckon Post K (.inl (x1, x2, x3, x4, x5, x6)) S) : ∀ (H : Heap) (locs : List Loc), va_P (dC, dI) vwCl (wM q cI cJ cZ S) H → va_D A (wM q cI cJ cZ S) → va_S A s.heap H locs → ∀ ls : Array Slot, lv_has ls 9 [(0, .ref (q 0)), (1, .int x1), (2, .int x2), (3, .int x3), (4, .int x4), (5, .int x5), (6, .int x6)] → W p l e (headSpec ww_reckon ({ frames := 3, cells := 0, slots := 0, locals := 79 } : Room)).room s m args below meth c H locs 0 0 (MQ below (va_Qv Post (atM dC dI q cI cJ cZ A) A) args s 0 0 A) (F0 m 27 ls []) := by
  have hx := X.1
  have hb := X.2.1
  intro H locs hP hD hS ls hl
  have lk46 := X.2.2.2.2.1 (.fieldLink RX12 46 "BreathOnLoanModel" "left" "[I") (inW 18 rfl)
  have lk49 := X.2.2.2.2.1 (.fieldLink RX12 49 "BreathOnLoanModel" "works" "[I") (inW 19 rfl)
  have lk340 := X.2.2.2.2.1 (.fieldLink RX12 340 "BreathOnLoanModel" "behind" "I") (inW 311 rfl)
  dsimp only [B_reckon] at h
  refine lv_iload hx hb (dk DX12_reckon 18 rfl) (lv_at hl 6 rfl) ?_
  refine lv_sipush (v := 600) hx hb (dk DX12_reckon 19 rfl) (by decide) ?_
  refine lv_icmp_ge (tgt := 148) hx hb (dk DX12_reckon 20 rfl) (by decide) (fun hc => ?_) (fun hc => ?_)
  · have h := h.1 hc
    exact W.vret hx hb hr (fun t ht hW => ⟨⟨_, rfl, h, by rw [ht]; exact hP, va_K.moved hW.alike X.2.2.2.2.2.2.1, hD⟩, hS.F ht⟩) hS.2.2 (dk DX12_reckon 82 rfl)
  · have h := h.2 hc
    refine lv_aload_n hx hb (dk DX12_reckon 21 rfl) rfl (lv_at hl 0 rfl) ?_
    refine lv_iload_n hx hb (dk DX12_reckon 22 rfl) rfl (lv_at hl 1 rfl) ?_
    refine lv_iload_n hx hb (dk DX12_reckon 23 rfl) rfl (lv_at hl 2 rfl) ?_
    refine lv_iload hx hb (dk DX12_reckon 24 rfl) (lv_at hl 6 rfl) ?_
    refine lv_iload_n hx hb (dk DX12_reckon 25 rfl) rfl (lv_at hl 3 rfl) ?_
    refine lv_iload hx hb (dk DX12_reckon 26 rfl) (lv_at hl 4 rfl) ?_
    refine cMi (As := [.int x1, .int x2, .int x6, .int x3, .int x4]) (rest := []) X (m_by_ (l := l) (dC := dC) (dI := dI) (q := q) (cI := cI) (cJ := cJ) (cZ := cZ) (sz := _) x1 x2 x6 x3 x4 S h) (cwV 5 X.2.2.2.2.1 (gwV 321 322 323 24 313 rfl rfl rfl rfl rfl) rfl rfl rfl q_by_ ⟨Nat.le_of_ble_eq_true rfl, Nat.le_of_ble_eq_true rfl⟩) hP hD hS rfl hl.1 rfl (Nat.le_of_ble_eq_true rfl) (dk DX12_reckon 27 rfl) (fun r5 S4 H locs h hP hD hS => ?_)
    refine lv_istore (lv' := [(7, .int r5), (0, .ref (q 0)), (1, .int x1), (2, .int x2), (3, .int x3), (4, .int x4), (5, .int x5), (6, .int x6)]) hx hb (dk DX12_reckon 28 rfl) hl (by decide) rfl (fun ls hl => ?_)
    refine lv_iload hx hb (dk DX12_reckon 29 rfl) (lv_at hl 0 rfl) ?_
    refine lv_ldcw (v := (-100000000)) hx hb X.2.2.2.1 (X.2.2.2.2.1 (.constant RX12 350 (-100000000)) (inW 314 rfl)) (dk DX12_reckon 30 rfl) ?_
    refine lv_icmp_ne (tgt := 59) hx hb (dk DX12_reckon 31 rfl) (by decide) (fun hc => ?_) (fun hc => ?_)
    · have h := h.1 hc
      refine lv_aload_n hx hb (dk DX12_reckon 33 rfl) rfl (lv_at hl 1 rfl) ?_
      refine gM X hP 27 (by decide) rfl lk49 (dk DX12_reckon 34 rfl) ?_
      refine lv_bipush (v := 26) hx hb (dk DX12_reckon 35 rfl) (by decide) ?_
      refine lv_iload_n hx hb (dk DX12_reckon 36 rfl) rfl (lv_at hl 2 rfl) ?_
      refine lv_iconst (v := 1) hx hb (dk DX12_reckon 37 rfl) (by decide) ?_
      refine lv_iload hx hb (dk DX12_reckon 38 rfl) (lv_at hl 7 rfl) ?_
      refine lv_bipush (v := 100) hx hb (dk DX12_reckon 39 rfl) (by decide) ?_
      obtain ⟨hz, h⟩ := h
      refine lv_idiv hx hb (dk DX12_reckon 40 rfl) hz ?_
      refine lv_ishl hx hb (dk DX12_reckon 41 rfl) ?_
      refine lv_ior hx hb (dk DX12_reckon 42 rfl) ?_
      refine lv_imul hx hb (dk DX12_reckon 43 rfl) ?_
      refine lv_aload_n hx hb (dk DX12_reckon 44 rfl) rfl (lv_at hl 1 rfl) ?_
      refine gM X hP 29 (by decide) rfl lk340 (dk DX12_reckon 45 rfl) ?_
      refine lv_iadd hx hb (dk DX12_reckon 46 rfl) ?_
      obtain ⟨hin, h⟩ := h
      refine ldM X hP 11 rfl hin (dk DX12_reckon 47 rfl) ?_
      refine lv_iconst (v := 1) hx hb (dk DX12_reckon 48 rfl) (by decide) ?_
      refine lv_iadd hx hb (dk DX12_reckon 49 rfl) ?_
      refine lv_topi (fun v6 ev6 => ?_)
      have h := h v6 ev6
      refine lv_istore (lv' := [(8, .int v6), (7, .int r5), (0, .ref (q 0)), (1, .int x1), (2, .int x2), (3, .int x3), (4, .int x4), (5, .int x5), (6, .int x6)]) hx hb (dk DX12_reckon 50 rfl) hl (by decide) rfl (fun ls hl => ?_)
      refine lv_iload hx hb (dk DX12_reckon 51 rfl) (lv_at hl 1 rfl) ?_
      refine lv_aload_n hx hb (dk DX12_reckon 52 rfl) rfl (lv_at hl 2 rfl) ?_
      refine gM X hP 26 (by decide) rfl lk46 (dk DX12_reckon 53 rfl) ?_
      refine lv_iload hx hb (dk DX12_reckon 54 rfl) (lv_at hl 7 rfl) ?_
      obtain ⟨hin, h⟩ := h
      refine ldM X hP 10 rfl hin (dk DX12_reckon 55 rfl) ?_
      refine lv_icmp_lt (tgt := 142) hx hb (dk DX12_reckon 56 rfl) (by decide) (fun hc => ?_) (fun hc => ?_)
      · have h := h.1 hc
        obtain ⟨v7, ev7⟩ : ∃ y : Int32, y = x6 + 1 := ⟨_, rfl⟩
        have h := h v7 ev7
        refine lv_iinc (v := v7) (lv' := [(6, .int v7), (8, .int v6), (7, .int r5), (0, .ref (q 0)), (1, .int x1), (2, .int x2), (3, .int x3), (4, .int x4), (5, .int x5)]) hx hb (dk DX12_reckon 80 rfl) hl (k := 8) rfl (by rw [ev7]; rfl) (by decide) rfl (fun ls hl => ?_)
        refine lv_goto (tgt := 27) hx hb (dk DX12_reckon 81 rfl) (by decide) ?_
        exact hK0 x1 x2 x3 x4 x5 v7 S4 h _ _ hP hD hS ls (lv_sub hl [3, 4, 5, 6, 7, 8, 0] rfl)
      · have h := h.2 hc
        refine lv_iload hx hb (dk DX12_reckon 57 rfl) (lv_at hl 1 rfl) ?_
        refine lv_aload_n hx hb (dk DX12_reckon 58 rfl) rfl (lv_at hl 2 rfl) ?_
        refine gM X hP 26 (by decide) rfl lk46 (dk DX12_reckon 59 rfl) ?_
        refine lv_iload hx hb (dk DX12_reckon 60 rfl) (lv_at hl 7 rfl) ?_
        obtain ⟨hin, h⟩ := h
        refine ldM X hP 10 rfl hin (dk DX12_reckon 61 rfl) ?_
        refine lv_icmp_ne (tgt := 124) hx hb (dk DX12_reckon 62 rfl) (by decide) (fun hc => ?_) (fun hc => ?_)
        · have h := h.1 hc
          exact hK1 x1 x2 x3 x4 x5 x6 r5 v6 S4 h _ _ hP hD hS ls (lv_sub hl [2, 3, 4, 5, 6, 7, 8, 1, 0] rfl)
        · have h := h.2 hc
          refine lv_iload hx hb (dk DX12_reckon 63 rfl) (lv_at hl 0 rfl) ?_
          refine lv_aload_n hx hb (dk DX12_reckon 64 rfl) rfl (lv_at hl 2 rfl) ?_
          refine gM X hP 27 (by decide) rfl lk49 (dk DX12_reckon 65 rfl) ?_
          refine lv_iload hx hb (dk DX12_reckon 66 rfl) (lv_at hl 7 rfl) ?_
          obtain ⟨hin, h⟩ := h
          refine ldM X hP 11 rfl hin (dk DX12_reckon 67 rfl) ?_
          refine lv_icmp_lt (tgt := 124) hx hb (dk DX12_reckon 68 rfl) (by decide) (fun hc => ?_) (fun hc => ?_)
          · have h := h.1 hc
            exact hK1 x1 x2 x3 x4 x5 x6 r5 v6 S4 h _ _ hP hD hS ls (lv_sub hl [2, 3, 4, 5, 6, 7, 8, 1, 0] rfl)
          · have h := h.2 hc
            refine lv_goto (tgt := 142) hx hb (dk DX12_reckon 69 rfl) (by decide) ?_
            obtain ⟨v8, ev8⟩ : ∃ y : Int32, y = x6 + 1 := ⟨_, rfl⟩
            have h := h v8 ev8
            refine lv_iinc (v := v8) (lv' := [(6, .int v8), (8, .int v6), (7, .int r5), (0, .ref (q 0)), (1, .int x1), (2, .int x2), (3, .int x3), (4, .int x4), (5, .int x5)]) hx hb (dk DX12_reckon 80 rfl) hl (k := 8) rfl (by rw [ev8]; rfl) (by decide) rfl (fun ls hl => ?_)
            refine lv_goto (tgt := 27) hx hb (dk DX12_reckon 81 rfl) (by decide) ?_
            exact hK0 x1 x2 x3 x4 x5 v8 S4 h _ _ hP hD hS ls (lv_sub hl [3, 4, 5, 6, 7, 8, 0] rfl)
    · have h := h.2 hc
      refine lv_goto (tgt := 142) hx hb (dk DX12_reckon 32 rfl) (by decide) ?_
      obtain ⟨v9, ev9⟩ : ∃ y : Int32, y = x6 + 1 := ⟨_, rfl⟩
      have h := h v9 ev9
      refine lv_iinc (v := v9) (lv' := [(6, .int v9), (7, .int r5), (0, .ref (q 0)), (1, .int x1), (2, .int x2), (3, .int x3), (4, .int x4), (5, .int x5)]) hx hb (dk DX12_reckon 80 rfl) hl (k := 7) rfl (by rw [ev9]; rfl) (by decide) rfl (fun ls hl => ?_)
      refine lv_goto (tgt := 27) hx hb (dk DX12_reckon 81 rfl) (by decide) ?_
      exact hK0 x1 x2 x3 x4 x5 v9 S4 h _ _ hP hD hS ls (lv_sub hl [2, 3, 4, 5, 6, 7, 0] rfl)
set_option maxHeartbeats 4000000 in
set_option maxRecDepth 100000 in
theorem h_reckon_1 {p : Program} {l : Launch} {e : Env} {s : State} {m : MethodId} {below : List Frame} {meth : Method} {c : Code} {dC : Nat → ClassId} {dI : Nat → Nat → Nat} {q : Nat → Nat} {cI cJ cZ : ClassId} {A : Nat → Prop} {args : Array Value} {Post : MS → Prop} {K : Hd_reckon → MS → Prop} (X : XM p s m args c cX12_reckon 9 ww_reckon dC dI cI cJ cZ A) (hr : meth.sig.returnType = none) (hlocks : meth.locks = false) (hK0 : ∀ (x1 : Int32) (x2 : Int32) (x3 : Int32) (x4 : Int32) (x5 : Int32) (x6 : Int32) (S : MS), K (.inl (x1, x2, x3, x4, x5, x6)) S → ∀ (H : Heap) (locs : List Loc), va_P (dC, dI) vwCl (wM q cI cJ cZ S) H → va_D A (wM q cI cJ cZ S) → va_S A s.heap H locs → ∀ ls : Array Slot, lv_has ls 9 [(0, .ref (q 0)), (1, .int x1), (2, .int x2), (3, .int x3), (4, .int x4), (5, .int x5), (6, .int x6)] → W p l e (headSpec ww_reckon ({ frames := 3, cells := 0, slots := 0, locals := 79 } : Room)).room s m args below meth c H locs 0 0 (MQ below (va_Qv Post (atM dC dI q cI cJ cZ A) A) args s 0 0 A) (F0 m 27 ls [])) (hK1 : ∀ (x1 : Int32) (x2 : Int32) (x3 : Int32) (x4 : Int32) (x5 : Int32) (x6 : Int32) (x7 : Int32) (x8 : Int32) (S : MS), K (.inr (x1, x2, x3, x4, x5, x6, x7, x8)) S → ∀ (H : Heap) (locs : List Loc), va_P (dC, dI) vwCl (wM q cI cJ cZ S) H → va_D A (wM q cI cJ cZ S) → va_S A s.heap H locs → ∀ ls : Array Slot, lv_has ls 9 [(0, .ref (q 0)), (1, .int x1), (2, .int x2), (3, .int x3), (4, .int x4), (5, .int x5), (6, .int x6), (7, .int x7), (8, .int x8)] → W p l e (headSpec ww_reckon ({ frames := 3, cells := 0, slots := 0, locals := 79 } : Room)).room s m args below meth c H locs 0 0 (MQ below (va_Qv Post (atM dC dI q cI cJ cZ A) A) args s 0 0 A) (F0 m 124 ls [])) (x1 : Int32) (x2 : Int32) (x3 : Int32) (x4 : Int32) (x5 : Int32) (x6 : Int32) (x7 : Int32) (x8 : Int32) (S : MS) (h : B_reckon Post K (.inr (x1, x2, x3, x4, x5, x6, x7, x8)) S) : ∀ (H : Heap) (locs : List Loc), va_P (dC, dI) vwCl (wM q cI cJ cZ S) H → va_D A (wM q cI cJ cZ S) → va_S A s.heap H locs → ∀ ls : Array Slot, lv_has ls 9 [(0, .ref (q 0)), (1, .int x1), (2, .int x2), (3, .int x3), (4, .int x4), (5, .int x5), (6, .int x6), (7, .int x7), (8, .int x8)] → W p l e (headSpec ww_reckon ({ frames := 3, cells := 0, slots := 0, locals := 79 } : Room)).room s m args below meth c H locs 0 0 (MQ below (va_Qv Post (atM dC dI q cI cJ cZ A) A) args s 0 0 A) (F0 m 124 ls []) := by
  have hx := X.1
  have hb := X.2.1
  intro H locs hP hD hS ls hl
  have lk46 := X.2.2.2.2.1 (.fieldLink RX12 46 "BreathOnLoanModel" "left" "[I") (inW 18 rfl)
  have lk49 := X.2.2.2.2.1 (.fieldLink RX12 49 "BreathOnLoanModel" "works" "[I") (inW 19 rfl)
  have lk340 := X.2.2.2.2.1 (.fieldLink RX12 340 "BreathOnLoanModel" "behind" "I") (inW 311 rfl)
  dsimp only [B_reckon] at h
  refine lv_aload_n hx hb (dk DX12_reckon 70 rfl) rfl (lv_at hl 0 rfl) ?_
  refine gM X hP 26 (by decide) rfl lk46 (dk DX12_reckon 71 rfl) ?_
  refine lv_iload hx hb (dk DX12_reckon 72 rfl) (lv_at hl 5 rfl) ?_
  refine lv_iload hx hb (dk DX12_reckon 73 rfl) (lv_at hl 7 rfl) ?_
  obtain ⟨hin, h⟩ := h
  refine stM_26 X hP hD hS hin (dk DX12_reckon 74 rfl) (fun S10 eS10 H locs hP hD hS => ?_)
  have h := h S10 eS10
  refine lv_aload_n hx hb (dk DX12_reckon 75 rfl) rfl (lv_at hl 0 rfl) ?_
  refine gM X hP 27 (by decide) rfl lk49 (dk DX12_reckon 76 rfl) ?_
  refine lv_iload hx hb (dk DX12_reckon 77 rfl) (lv_at hl 5 rfl) ?_
  refine lv_iload hx hb (dk DX12_reckon 78 rfl) (lv_at hl 8 rfl) ?_
  obtain ⟨hin, h⟩ := h
  refine stM_27 X hP hD hS hin (dk DX12_reckon 79 rfl) (fun S11 eS11 H locs hP hD hS => ?_)
  have h := h S11 eS11
  obtain ⟨v12, ev12⟩ : ∃ y : Int32, y = x6 + 1 := ⟨_, rfl⟩
  have h := h v12 ev12
  refine lv_iinc (v := v12) (lv' := [(6, .int v12), (0, .ref (q 0)), (1, .int x1), (2, .int x2), (3, .int x3), (4, .int x4), (5, .int x5), (7, .int x7), (8, .int x8)]) hx hb (dk DX12_reckon 80 rfl) hl (k := 6) rfl (by rw [ev12]; rfl) (by decide) rfl (fun ls hl => ?_)
  refine lv_goto (tgt := 27) hx hb (dk DX12_reckon 81 rfl) (by decide) ?_
  exact hK0 x1 x2 x3 x4 x5 v12 S11 h _ _ hP hD hS ls (lv_sub hl [1, 2, 3, 4, 5, 6, 0] rfl)
set_option maxHeartbeats 4000000 in
set_option maxRecDepth 100000 in
theorem m_reckon {l : Launch} {dC : Nat → ClassId} {dI : Nat → Nat → Nat} {q : Nat → Nat} {cI cJ cZ : ClassId} {sz : Nat} {Post : MS → Prop} (a0 : Int32) (a1 : Int32) (a2 : Int32) (a3 : Int32) (S : MS) (h : VC_reckon Post a0 a1 a2 a3 S) : Met l yX12_reckon ww_reckon ({ frames := 3, cells := 0, slots := 0, locals := 79 } : Room) (va_Pc [.ref (q 0), .int a0, .int a1, .int a2, .int a3] (preM dC dI q cI cJ cZ S sz)) (va_Qv Post (atM dC dI q cI cJ cZ (va_A (wM q cI cJ cZ S) sz)) (va_A (wM q cI cJ cZ S) sz)) 0 0 (va_A (wM q cI cJ cZ S) sz) := by
  refine oM (cc := cX12_reckon) (maxL := 9) (ret := none) (Qc := fun A => va_Qv Post (atM dC dI q cI cJ cZ A) A) (by decide) rfl (fun w h => List.mem_cons_of_mem _ (List.mem_append_right _ h)) rfl (Nat.le_of_ble_eq_true rfl) (fun p e s m below meth c A ls X hr hlocks hP hD hS hl => ?_)
  have hx := X.1
  have hb := X.2.1
  have hl : lv_has ls 9 [(0, .ref (q 0)), (1, .int a0), (2, .int a1), (3, .int a2), (4, .int a3)] := hl
  have lk46 := X.2.2.2.2.1 (.fieldLink RX12 46 "BreathOnLoanModel" "left" "[I") (inW 18 rfl)
  have lk49 := X.2.2.2.2.1 (.fieldLink RX12 49 "BreathOnLoanModel" "works" "[I") (inW 19 rfl)
  have lk340 := X.2.2.2.2.1 (.fieldLink RX12 340 "BreathOnLoanModel" "behind" "I") (inW 311 rfl)
  generalize hargs : ([.ref (q 0), .int a0, .int a1, .int a2, .int a3] : List Value).toArray = args at X ⊢
  have h := h (fun hd S => match hd with | (.inl (x1, x2, x3, x4, x5, x6)) => ∀ (H : Heap) (locs : List Loc), va_P (dC, dI) vwCl (wM q cI cJ cZ S) H → va_D A (wM q cI cJ cZ S) → va_S A s.heap H locs → ∀ ls : Array Slot, lv_has ls 9 [(0, .ref (q 0)), (1, .int x1), (2, .int x2), (3, .int x3), (4, .int x4), (5, .int x5), (6, .int x6)] → W p l e (headSpec ww_reckon ({ frames := 3, cells := 0, slots := 0, locals := 79 } : Room)).room s m args below meth c H locs 0 0 (MQ below (va_Qv Post (atM dC dI q cI cJ cZ A) A) args s 0 0 A) (F0 m 27 ls []) | (.inr (x1, x2, x3, x4, x5, x6, x7, x8)) => ∀ (H : Heap) (locs : List Loc), va_P (dC, dI) vwCl (wM q cI cJ cZ S) H → va_D A (wM q cI cJ cZ S) → va_S A s.heap H locs → ∀ ls : Array Slot, lv_has ls 9 [(0, .ref (q 0)), (1, .int x1), (2, .int x2), (3, .int x3), (4, .int x4), (5, .int x5), (6, .int x6), (7, .int x7), (8, .int x8)] → W p l e (headSpec ww_reckon ({ frames := 3, cells := 0, slots := 0, locals := 79 } : Room)).room s m args below meth c H locs 0 0 (MQ below (va_Qv Post (atM dC dI q cI cJ cZ A) A) args s 0 0 A) (F0 m 124 ls [])) ?_
  · skip
    refine lv_bipush (v := 26) hx hb (dk DX12_reckon 0 rfl) (by decide) ?_
    refine lv_iload_n hx hb (dk DX12_reckon 1 rfl) rfl (lv_at hl 1 rfl) ?_
    refine lv_imul hx hb (dk DX12_reckon 2 rfl) ?_
    refine lv_iload_n hx hb (dk DX12_reckon 3 rfl) rfl (lv_at hl 2 rfl) ?_
    refine lv_iadd hx hb (dk DX12_reckon 4 rfl) ?_
    refine lv_topi (fun v1 ev1 => ?_)
    have h := h v1 ev1
    refine lv_istore (lv' := [(5, .int v1), (0, .ref (q 0)), (1, .int a0), (2, .int a1), (3, .int a2), (4, .int a3)]) hx hb (dk DX12_reckon 5 rfl) hl (by decide) rfl (fun ls hl => ?_)
    refine lv_aload_n hx hb (dk DX12_reckon 6 rfl) rfl (lv_at hl 1 rfl) ?_
    refine gM X hP 26 (by decide) rfl lk46 (dk DX12_reckon 7 rfl) ?_
    refine lv_iload hx hb (dk DX12_reckon 8 rfl) (lv_at hl 0 rfl) ?_
    refine lv_iconst (v := 0) hx hb (dk DX12_reckon 9 rfl) (by decide) ?_
    obtain ⟨hin, h⟩ := h
    refine stM_26 X hP hD hS hin (dk DX12_reckon 10 rfl) (fun S2 eS2 H locs hP hD hS => ?_)
    have h := h S2 eS2
    refine lv_aload_n hx hb (dk DX12_reckon 11 rfl) rfl (lv_at hl 1 rfl) ?_
    refine gM X hP 27 (by decide) rfl lk49 (dk DX12_reckon 12 rfl) ?_
    refine lv_iload hx hb (dk DX12_reckon 13 rfl) (lv_at hl 0 rfl) ?_
    refine lv_iconst (v := 0) hx hb (dk DX12_reckon 14 rfl) (by decide) ?_
    obtain ⟨hin, h⟩ := h
    refine stM_27 X hP hD hS hin (dk DX12_reckon 15 rfl) (fun S3 eS3 H locs hP hD hS => ?_)
    have h := h S3 eS3
    refine lv_iconst (v := 0) hx hb (dk DX12_reckon 16 rfl) (by decide) ?_
    refine lv_istore (lv' := [(6, .int 0), (5, .int v1), (0, .ref (q 0)), (1, .int a0), (2, .int a1), (3, .int a2), (4, .int a3)]) hx hb (dk DX12_reckon 17 rfl) hl (by decide) rfl (fun ls hl => ?_)
    exact h _ _ hP hD hS ls (lv_sub hl [2, 3, 4, 5, 6, 1, 0] rfl)
  · rintro (⟨x1, x2, x3, x4, x5, x6⟩ | ⟨x1, x2, x3, x4, x5, x6, x7, x8⟩) S hB
    · exact h_reckon_0 X hr hlocks (hK0 := fun _ _ _ _ _ _ _ h => h) (hK1 := fun _ _ _ _ _ _ _ _ _ h => h) x1 x2 x3 x4 x5 x6 S hB
    · exact h_reckon_1 X hr hlocks (hK0 := fun _ _ _ _ _ _ _ h => h) (hK1 := fun _ _ _ _ _ _ _ _ _ h => h) x1 x2 x3 x4 x5 x6 x7 x8 S hB

def ww_workOf : List Cond := .code yX12_workOf cX12_workOf 9 (some .int) :: (WdM ++ wsX120)
theorem q_workOf : yX12_workOf.cls = RX12 ∧ yX12_workOf.cls ≠ "java/lang/invoke/MethodHandle" ∧ yX12_workOf.cls ≠ "java/lang/invoke/VarHandle" ∧ (parseMethodDescriptor yX12_workOf.desc).map (fun d => d.parameters.length) = some 3 := by decide +kernel
abbrev Hd_workOf : Type := (Int32 × Int32 × Int32 × Int32 × Int32 × Int32 × Int32) ⊕ (Int32 × Int32 × Int32 × Int32 × Int32 × Int32 × Int32 × Int32)
def B_workOf (Post : Int32 → MS → Prop) (K : Hd_workOf → MS → Prop) : Hd_workOf → MS → Prop
  | (.inl (x1, x2, x3, x4, x5, x6, x7)), S => ((x3 < x7 → Post x6 S) ∧ (¬ x3 < x7 → ∀ v1 : Int32, v1 = (26 * x4) + x5 → K (.inr (x1, x2, x3, x4, x5, 0, x7, v1)) S))
  | (.inr (x1, x2, x3, x4, x5, x6, x7, x8)), S => VC_by_ (fun r3 S2 => vp_in x8 1664 ∧ ((¬ r3 = ((S2.2.2.1 26) x8.toNatClampNeg) → ∀ v4 : Int32, v4 = x6 + 1 → K (.inr (x1, x2, x3, x4, x5, v4, x7, x8)) S2) ∧ (r3 = ((S2.2.2.1 26) x8.toNatClampNeg) → ¬ (100 : Int32) = 0 ∧ vp_in ((26 * (x4 ||| ((1 : Int32) <<< ((x6 / 100) &&& 31)))) + (S2.1 29)) 1664 ∧ vp_in x8 1664 ∧ (((((S2.2.2.1 27) ((26 * (x4 ||| ((1 : Int32) <<< ((x6 / 100) &&& 31)))) + (S2.1 29)).toNatClampNeg) + 1) = ((S2.2.2.1 27) x8.toNatClampNeg) → ¬ (100 : Int32) = 0 ∧ ∀ v5 : Int32, v5 = x4 ||| ((1 : Int32) <<< ((x6 / 100) &&& 31)) → ∀ v6 : Int32, v6 = (S2.1 29) → ∀ v7 : Int32, v7 = x7 + 1 → K (.inl (x1, x2, x3, v5, v6, x6, v7)) S2) ∧ (¬ (((S2.2.2.1 27) ((26 * (x4 ||| ((1 : Int32) <<< ((x6 / 100) &&& 31)))) + (S2.1 29)).toNatClampNeg) + 1) = ((S2.2.2.1 27) x8.toNatClampNeg) → ∀ v8 : Int32, v8 = x6 + 1 → K (.inr (x1, x2, x3, x4, x5, v8, x7, x8)) S2))))) x4 x5 x6 x1 x2 S
def VC_workOf (Post : Int32 → MS → Prop) (a0 : Int32) (a1 : Int32) (a2 : Int32) (S : MS) : Prop := ∀ K : Hd_workOf → MS → Prop, (∀ h S, B_workOf Post K h S → K h S) → K (.inl (a0, a1, a2, 0, 0, 0, 0)) S
set_option maxHeartbeats 4000000 in
set_option maxRecDepth 100000 in
theorem h_workOf_0 {p : Program} {l : Launch} {e : Env} {s : State} {m : MethodId} {below : List Frame} {meth : Method} {c : Code} {dC : Nat → ClassId} {dI : Nat → Nat → Nat} {q : Nat → Nat} {cI cJ cZ : ClassId} {A : Nat → Prop} {args : Array Value} {Post : Int32 → MS → Prop} {K : Hd_workOf → MS → Prop} (X : XM p s m args c cX12_workOf 9 ww_workOf dC dI cI cJ cZ A) (hr : meth.sig.returnType = (some .int)) (hlocks : meth.locks = false) (hK0 : ∀ (x1 : Int32) (x2 : Int32) (x3 : Int32) (x4 : Int32) (x5 : Int32) (x6 : Int32) (x7 : Int32) (S : MS), K (.inl (x1, x2, x3, x4, x5, x6, x7)) S → ∀ (H : Heap) (locs : List Loc), va_P (dC, dI) vwCl (wM q cI cJ cZ S) H → va_D A (wM q cI cJ cZ S) → va_S A s.heap H locs → ∀ ls : Array Slot, lv_has ls 9 [(0, .ref (q 0)), (1, .int x1), (2, .int x2), (3, .int x3), (4, .int x4), (5, .int x5), (6, .int x6), (7, .int x7)] → W p l e (headSpec ww_workOf ({ frames := 3, cells := 0, slots := 0, locals := 79 } : Room)).room s m args below meth c H locs 0 0 (MQ below (va_Qi Post (atM dC dI q cI cJ cZ A) A) args s 0 0 A) (F0 m 12 ls [])) (hK1 : ∀ (x1 : Int32) (x2 : Int32) (x3 : Int32) (x4 : Int32) (x5 : Int32) (x6 : Int32) (x7 : Int32) (x8 : Int32) (S : MS), K (.inr (x1, x2, x3, x4, x5, x6, x7, x8)) S → ∀ (H : Heap) (locs : List Loc), va_P (dC, dI) vwCl (wM q cI cJ cZ S) H → va_D A (wM q cI cJ cZ S) → va_S A s.heap H locs → ∀ ls : Array Slot, lv_has ls 9 [(0, .ref (q 0)), (1, .int x1), (2, .int x2), (3, .int x3), (4, .int x4), (5, .int x5), (6, .int x6), (7, .int x7), (8, .int x8)] → W p l e (headSpec ww_workOf ({ frames := 3, cells := 0, slots := 0, locals := 79 } : Room)).room s m args below meth c H locs 0 0 (MQ below (va_Qi Post (atM dC dI q cI cJ cZ A) A) args s 0 0 A) (F0 m 31 ls [])) (x1 : Int32) (x2 : Int32) (x3 : Int32) (x4 : Int32) (x5 : Int32) (x6 : Int32) (x7 : Int32) (S : MS) (h : B_workOf Post K (.inl (x1, x2, x3, x4, x5, x6, x7)) S) : ∀ (H : Heap) (locs : List Loc), va_P (dC, dI) vwCl (wM q cI cJ cZ S) H → va_D A (wM q cI cJ cZ S) → va_S A s.heap H locs → ∀ ls : Array Slot, lv_has ls 9 [(0, .ref (q 0)), (1, .int x1), (2, .int x2), (3, .int x3), (4, .int x4), (5, .int x5), (6, .int x6), (7, .int x7)] → W p l e (headSpec ww_workOf ({ frames := 3, cells := 0, slots := 0, locals := 79 } : Room)).room s m args below meth c H locs 0 0 (MQ below (va_Qi Post (atM dC dI q cI cJ cZ A) A) args s 0 0 A) (F0 m 12 ls []) := by
  have hx := X.1
  have hb := X.2.1
  intro H locs hP hD hS ls hl
  have lk46 := X.2.2.2.2.1 (.fieldLink RX12 46 "BreathOnLoanModel" "left" "[I") (inW 18 rfl)
  have lk49 := X.2.2.2.2.1 (.fieldLink RX12 49 "BreathOnLoanModel" "works" "[I") (inW 19 rfl)
  have lk340 := X.2.2.2.2.1 (.fieldLink RX12 340 "BreathOnLoanModel" "behind" "I") (inW 311 rfl)
  dsimp only [B_workOf] at h
  refine lv_iload hx hb (dk DX12_workOf 8 rfl) (lv_at hl 7 rfl) ?_
  refine lv_iload_n hx hb (dk DX12_workOf 9 rfl) rfl (lv_at hl 3 rfl) ?_
  refine lv_icmp_gt (tgt := 118) hx hb (dk DX12_workOf 10 rfl) (by decide) (fun hc => ?_) (fun hc => ?_)
  · have h := h.1 hc
    refine lv_iload hx hb (dk DX12_workOf 68 rfl) (lv_at hl 6 rfl) ?_
    exact W.iret (v := x6) hx hb hr (fun t ht hW => ⟨⟨_, _, rfl, h, by rw [ht]; exact hP, va_K.moved hW.alike X.2.2.2.2.2.2.1, hD⟩, hS.F ht⟩) hS.2.2 (dk DX12_workOf 69 rfl)
  · have h := h.2 hc
    refine lv_bipush (v := 26) hx hb (dk DX12_workOf 11 rfl) (by decide) ?_
    refine lv_iload hx hb (dk DX12_workOf 12 rfl) (lv_at hl 4 rfl) ?_
    refine lv_imul hx hb (dk DX12_workOf 13 rfl) ?_
    refine lv_iload hx hb (dk DX12_workOf 14 rfl) (lv_at hl 5 rfl) ?_
    refine lv_iadd hx hb (dk DX12_workOf 15 rfl) ?_
    refine lv_topi (fun v1 ev1 => ?_)
    have h := h v1 ev1
    refine lv_istore (lv' := [(8, .int v1), (0, .ref (q 0)), (1, .int x1), (2, .int x2), (3, .int x3), (4, .int x4), (5, .int x5), (6, .int x6), (7, .int x7)]) hx hb (dk DX12_workOf 16 rfl) hl (by decide) rfl (fun ls hl => ?_)
    refine lv_iconst (v := 0) hx hb (dk DX12_workOf 17 rfl) (by decide) ?_
    refine lv_istore (lv' := [(6, .int 0), (8, .int v1), (0, .ref (q 0)), (1, .int x1), (2, .int x2), (3, .int x3), (4, .int x4), (5, .int x5), (7, .int x7)]) hx hb (dk DX12_workOf 18 rfl) hl (by decide) rfl (fun ls hl => ?_)
    exact hK1 x1 x2 x3 x4 x5 0 x7 v1 S h _ _ hP hD hS ls (lv_sub hl [2, 3, 4, 5, 6, 7, 0, 8, 1] rfl)
set_option maxHeartbeats 4000000 in
set_option maxRecDepth 100000 in
theorem h_workOf_1 {p : Program} {l : Launch} {e : Env} {s : State} {m : MethodId} {below : List Frame} {meth : Method} {c : Code} {dC : Nat → ClassId} {dI : Nat → Nat → Nat} {q : Nat → Nat} {cI cJ cZ : ClassId} {A : Nat → Prop} {args : Array Value} {Post : Int32 → MS → Prop} {K : Hd_workOf → MS → Prop} (X : XM p s m args c cX12_workOf 9 ww_workOf dC dI cI cJ cZ A) (hr : meth.sig.returnType = (some .int)) (hlocks : meth.locks = false) (hK0 : ∀ (x1 : Int32) (x2 : Int32) (x3 : Int32) (x4 : Int32) (x5 : Int32) (x6 : Int32) (x7 : Int32) (S : MS), K (.inl (x1, x2, x3, x4, x5, x6, x7)) S → ∀ (H : Heap) (locs : List Loc), va_P (dC, dI) vwCl (wM q cI cJ cZ S) H → va_D A (wM q cI cJ cZ S) → va_S A s.heap H locs → ∀ ls : Array Slot, lv_has ls 9 [(0, .ref (q 0)), (1, .int x1), (2, .int x2), (3, .int x3), (4, .int x4), (5, .int x5), (6, .int x6), (7, .int x7)] → W p l e (headSpec ww_workOf ({ frames := 3, cells := 0, slots := 0, locals := 79 } : Room)).room s m args below meth c H locs 0 0 (MQ below (va_Qi Post (atM dC dI q cI cJ cZ A) A) args s 0 0 A) (F0 m 12 ls [])) (hK1 : ∀ (x1 : Int32) (x2 : Int32) (x3 : Int32) (x4 : Int32) (x5 : Int32) (x6 : Int32) (x7 : Int32) (x8 : Int32) (S : MS), K (.inr (x1, x2, x3, x4, x5, x6, x7, x8)) S → ∀ (H : Heap) (locs : List Loc), va_P (dC, dI) vwCl (wM q cI cJ cZ S) H → va_D A (wM q cI cJ cZ S) → va_S A s.heap H locs → ∀ ls : Array Slot, lv_has ls 9 [(0, .ref (q 0)), (1, .int x1), (2, .int x2), (3, .int x3), (4, .int x4), (5, .int x5), (6, .int x6), (7, .int x7), (8, .int x8)] → W p l e (headSpec ww_workOf ({ frames := 3, cells := 0, slots := 0, locals := 79 } : Room)).room s m args below meth c H locs 0 0 (MQ below (va_Qi Post (atM dC dI q cI cJ cZ A) A) args s 0 0 A) (F0 m 31 ls [])) (x1 : Int32) (x2 : Int32) (x3 : Int32) (x4 : Int32) (x5 : Int32) (x6 : Int32) (x7 : Int32) (x8 : Int32) (S : MS) (h : B_workOf Post K (.inr (x1, x2, x3, x4, x5, x6, x7, x8)) S) : ∀ (H : Heap) (locs : List Loc), va_P (dC, dI) vwCl (wM q cI cJ cZ S) H → va_D A (wM q cI cJ cZ S) → va_S A s.heap H locs → ∀ ls : Array Slot, lv_has ls 9 [(0, .ref (q 0)), (1, .int x1), (2, .int x2), (3, .int x3), (4, .int x4), (5, .int x5), (6, .int x6), (7, .int x7), (8, .int x8)] → W p l e (headSpec ww_workOf ({ frames := 3, cells := 0, slots := 0, locals := 79 } : Room)).room s m args below meth c H locs 0 0 (MQ below (va_Qi Post (atM dC dI q cI cJ cZ A) A) args s 0 0 A) (F0 m 31 ls []) := by
  have hx := X.1
  have hb := X.2.1
  intro H locs hP hD hS ls hl
  have lk46 := X.2.2.2.2.1 (.fieldLink RX12 46 "BreathOnLoanModel" "left" "[I") (inW 18 rfl)
  have lk49 := X.2.2.2.2.1 (.fieldLink RX12 49 "BreathOnLoanModel" "works" "[I") (inW 19 rfl)
  have lk340 := X.2.2.2.2.1 (.fieldLink RX12 340 "BreathOnLoanModel" "behind" "I") (inW 311 rfl)
  dsimp only [B_workOf] at h
  refine lv_aload_n hx hb (dk DX12_workOf 19 rfl) rfl (lv_at hl 0 rfl) ?_
  refine lv_iload hx hb (dk DX12_workOf 20 rfl) (lv_at hl 4 rfl) ?_
  refine lv_iload hx hb (dk DX12_workOf 21 rfl) (lv_at hl 5 rfl) ?_
  refine lv_iload hx hb (dk DX12_workOf 22 rfl) (lv_at hl 6 rfl) ?_
  refine lv_iload_n hx hb (dk DX12_workOf 23 rfl) rfl (lv_at hl 1 rfl) ?_
  refine lv_iload_n hx hb (dk DX12_workOf 24 rfl) rfl (lv_at hl 2 rfl) ?_
  refine cMi (As := [.int x4, .int x5, .int x6, .int x1, .int x2]) (rest := []) X (m_by_ (l := l) (dC := dC) (dI := dI) (q := q) (cI := cI) (cJ := cJ) (cZ := cZ) (sz := _) x4 x5 x6 x1 x2 S h) (cwV 5 X.2.2.2.2.1 (gwV 321 322 323 24 313 rfl rfl rfl rfl rfl) rfl rfl rfl q_by_ ⟨Nat.le_of_ble_eq_true rfl, Nat.le_of_ble_eq_true rfl⟩) hP hD hS rfl hl.1 rfl (Nat.le_of_ble_eq_true rfl) (dk DX12_workOf 25 rfl) (fun r3 S2 H locs h hP hD hS => ?_)
  refine lv_aload_n hx hb (dk DX12_workOf 26 rfl) rfl (lv_at hl 0 rfl) ?_
  refine gM X hP 26 (by decide) rfl lk46 (dk DX12_workOf 27 rfl) ?_
  refine lv_iload hx hb (dk DX12_workOf 28 rfl) (lv_at hl 8 rfl) ?_
  obtain ⟨hin, h⟩ := h
  refine ldM X hP 10 rfl hin (dk DX12_workOf 29 rfl) ?_
  refine lv_icmp_ne (tgt := 88) hx hb (dk DX12_workOf 30 rfl) (by decide) (fun hc => ?_) (fun hc => ?_)
  · have h := h.1 hc
    obtain ⟨v4, ev4⟩ : ∃ y : Int32, y = x6 + 1 := ⟨_, rfl⟩
    have h := h v4 ev4
    refine lv_iinc (v := v4) (lv' := [(6, .int v4), (0, .ref (q 0)), (1, .int x1), (2, .int x2), (3, .int x3), (4, .int x4), (5, .int x5), (7, .int x7), (8, .int x8)]) hx hb (dk DX12_workOf 53 rfl) hl (k := 6) rfl (by rw [ev4]; rfl) (by decide) rfl (fun ls hl => ?_)
    refine lv_goto (tgt := 31) hx hb (dk DX12_workOf 54 rfl) (by decide) ?_
    exact hK1 x1 x2 x3 x4 x5 v4 x7 x8 S2 h _ _ hP hD hS ls (lv_sub hl [1, 2, 3, 4, 5, 6, 0, 7, 8] rfl)
  · have h := h.2 hc
    refine lv_aload_n hx hb (dk DX12_workOf 31 rfl) rfl (lv_at hl 0 rfl) ?_
    refine gM X hP 27 (by decide) rfl lk49 (dk DX12_workOf 32 rfl) ?_
    refine lv_bipush (v := 26) hx hb (dk DX12_workOf 33 rfl) (by decide) ?_
    refine lv_iload hx hb (dk DX12_workOf 34 rfl) (lv_at hl 4 rfl) ?_
    refine lv_iconst (v := 1) hx hb (dk DX12_workOf 35 rfl) (by decide) ?_
    refine lv_iload hx hb (dk DX12_workOf 36 rfl) (lv_at hl 6 rfl) ?_
    refine lv_bipush (v := 100) hx hb (dk DX12_workOf 37 rfl) (by decide) ?_
    obtain ⟨hz, h⟩ := h
    refine lv_idiv hx hb (dk DX12_workOf 38 rfl) hz ?_
    refine lv_ishl hx hb (dk DX12_workOf 39 rfl) ?_
    refine lv_ior hx hb (dk DX12_workOf 40 rfl) ?_
    refine lv_imul hx hb (dk DX12_workOf 41 rfl) ?_
    refine lv_aload_n hx hb (dk DX12_workOf 42 rfl) rfl (lv_at hl 0 rfl) ?_
    refine gM X hP 29 (by decide) rfl lk340 (dk DX12_workOf 43 rfl) ?_
    refine lv_iadd hx hb (dk DX12_workOf 44 rfl) ?_
    obtain ⟨hin, h⟩ := h
    refine ldM X hP 11 rfl hin (dk DX12_workOf 45 rfl) ?_
    refine lv_iconst (v := 1) hx hb (dk DX12_workOf 46 rfl) (by decide) ?_
    refine lv_iadd hx hb (dk DX12_workOf 47 rfl) ?_
    refine lv_aload_n hx hb (dk DX12_workOf 48 rfl) rfl (lv_at hl 0 rfl) ?_
    refine gM X hP 27 (by decide) rfl lk49 (dk DX12_workOf 49 rfl) ?_
    refine lv_iload hx hb (dk DX12_workOf 50 rfl) (lv_at hl 8 rfl) ?_
    obtain ⟨hin, h⟩ := h
    refine ldM X hP 11 rfl hin (dk DX12_workOf 51 rfl) ?_
    refine lv_icmp_eq (tgt := 94) hx hb (dk DX12_workOf 52 rfl) (by decide) (fun hc => ?_) (fun hc => ?_)
    · have h := h.1 hc
      refine lv_iload hx hb (dk DX12_workOf 55 rfl) (lv_at hl 4 rfl) ?_
      refine lv_iconst (v := 1) hx hb (dk DX12_workOf 56 rfl) (by decide) ?_
      refine lv_iload hx hb (dk DX12_workOf 57 rfl) (lv_at hl 6 rfl) ?_
      refine lv_bipush (v := 100) hx hb (dk DX12_workOf 58 rfl) (by decide) ?_
      obtain ⟨hz, h⟩ := h
      refine lv_idiv hx hb (dk DX12_workOf 59 rfl) hz ?_
      refine lv_ishl hx hb (dk DX12_workOf 60 rfl) ?_
      refine lv_ior hx hb (dk DX12_workOf 61 rfl) ?_
      refine lv_topi (fun v5 ev5 => ?_)
      have h := h v5 ev5
      refine lv_istore (lv' := [(4, .int v5), (0, .ref (q 0)), (1, .int x1), (2, .int x2), (3, .int x3), (5, .int x5), (6, .int x6), (7, .int x7), (8, .int x8)]) hx hb (dk DX12_workOf 62 rfl) hl (by decide) rfl (fun ls hl => ?_)
      refine lv_aload_n hx hb (dk DX12_workOf 63 rfl) rfl (lv_at hl 1 rfl) ?_
      refine gM X hP 29 (by decide) rfl lk340 (dk DX12_workOf 64 rfl) ?_
      refine lv_topi (fun v6 ev6 => ?_)
      have h := h v6 ev6
      refine lv_istore (lv' := [(5, .int v6), (4, .int v5), (0, .ref (q 0)), (1, .int x1), (2, .int x2), (3, .int x3), (6, .int x6), (7, .int x7), (8, .int x8)]) hx hb (dk DX12_workOf 65 rfl) hl (by decide) rfl (fun ls hl => ?_)
      obtain ⟨v7, ev7⟩ : ∃ y : Int32, y = x7 + 1 := ⟨_, rfl⟩
      have h := h v7 ev7
      refine lv_iinc (v := v7) (lv' := [(7, .int v7), (5, .int v6), (4, .int v5), (0, .ref (q 0)), (1, .int x1), (2, .int x2), (3, .int x3), (6, .int x6), (8, .int x8)]) hx hb (dk DX12_workOf 66 rfl) hl (k := 7) rfl (by rw [ev7]; rfl) (by decide) rfl (fun ls hl => ?_)
      refine lv_goto (tgt := 12) hx hb (dk DX12_workOf 67 rfl) (by decide) ?_
      exact hK0 x1 x2 x3 v5 v6 x6 v7 S2 h _ _ hP hD hS ls (lv_sub hl [3, 4, 5, 6, 2, 1, 7, 0] rfl)
    · have h := h.2 hc
      obtain ⟨v8, ev8⟩ : ∃ y : Int32, y = x6 + 1 := ⟨_, rfl⟩
      have h := h v8 ev8
      refine lv_iinc (v := v8) (lv' := [(6, .int v8), (0, .ref (q 0)), (1, .int x1), (2, .int x2), (3, .int x3), (4, .int x4), (5, .int x5), (7, .int x7), (8, .int x8)]) hx hb (dk DX12_workOf 53 rfl) hl (k := 6) rfl (by rw [ev8]; rfl) (by decide) rfl (fun ls hl => ?_)
      refine lv_goto (tgt := 31) hx hb (dk DX12_workOf 54 rfl) (by decide) ?_
      exact hK1 x1 x2 x3 x4 x5 v8 x7 x8 S2 h _ _ hP hD hS ls (lv_sub hl [1, 2, 3, 4, 5, 6, 0, 7, 8] rfl)
set_option maxHeartbeats 4000000 in
set_option maxRecDepth 100000 in
theorem m_workOf {l : Launch} {dC : Nat → ClassId} {dI : Nat → Nat → Nat} {q : Nat → Nat} {cI cJ cZ : ClassId} {sz : Nat} {Post : Int32 → MS → Prop} (a0 : Int32) (a1 : Int32) (a2 : Int32) (S : MS) (h : VC_workOf Post a0 a1 a2 S) : Met l yX12_workOf ww_workOf ({ frames := 3, cells := 0, slots := 0, locals := 79 } : Room) (va_Pc [.ref (q 0), .int a0, .int a1, .int a2] (preM dC dI q cI cJ cZ S sz)) (va_Qi Post (atM dC dI q cI cJ cZ (va_A (wM q cI cJ cZ S) sz)) (va_A (wM q cI cJ cZ S) sz)) 0 0 (va_A (wM q cI cJ cZ S) sz) := by
  refine oM (cc := cX12_workOf) (maxL := 9) (ret := (some .int)) (Qc := fun A => va_Qi Post (atM dC dI q cI cJ cZ A) A) (by decide) rfl (fun w h => List.mem_cons_of_mem _ (List.mem_append_right _ h)) rfl (Nat.le_of_ble_eq_true rfl) (fun p e s m below meth c A ls X hr hlocks hP hD hS hl => ?_)
  have hx := X.1
  have hb := X.2.1
  have hl : lv_has ls 9 [(0, .ref (q 0)), (1, .int a0), (2, .int a1), (3, .int a2)] := hl
  have lk46 := X.2.2.2.2.1 (.fieldLink RX12 46 "BreathOnLoanModel" "left" "[I") (inW 18 rfl)
  have lk49 := X.2.2.2.2.1 (.fieldLink RX12 49 "BreathOnLoanModel" "works" "[I") (inW 19 rfl)
  have lk340 := X.2.2.2.2.1 (.fieldLink RX12 340 "BreathOnLoanModel" "behind" "I") (inW 311 rfl)
  generalize hargs : ([.ref (q 0), .int a0, .int a1, .int a2] : List Value).toArray = args at X ⊢
  have h := h (fun hd S => match hd with | (.inl (x1, x2, x3, x4, x5, x6, x7)) => ∀ (H : Heap) (locs : List Loc), va_P (dC, dI) vwCl (wM q cI cJ cZ S) H → va_D A (wM q cI cJ cZ S) → va_S A s.heap H locs → ∀ ls : Array Slot, lv_has ls 9 [(0, .ref (q 0)), (1, .int x1), (2, .int x2), (3, .int x3), (4, .int x4), (5, .int x5), (6, .int x6), (7, .int x7)] → W p l e (headSpec ww_workOf ({ frames := 3, cells := 0, slots := 0, locals := 79 } : Room)).room s m args below meth c H locs 0 0 (MQ below (va_Qi Post (atM dC dI q cI cJ cZ A) A) args s 0 0 A) (F0 m 12 ls []) | (.inr (x1, x2, x3, x4, x5, x6, x7, x8)) => ∀ (H : Heap) (locs : List Loc), va_P (dC, dI) vwCl (wM q cI cJ cZ S) H → va_D A (wM q cI cJ cZ S) → va_S A s.heap H locs → ∀ ls : Array Slot, lv_has ls 9 [(0, .ref (q 0)), (1, .int x1), (2, .int x2), (3, .int x3), (4, .int x4), (5, .int x5), (6, .int x6), (7, .int x7), (8, .int x8)] → W p l e (headSpec ww_workOf ({ frames := 3, cells := 0, slots := 0, locals := 79 } : Room)).room s m args below meth c H locs 0 0 (MQ below (va_Qi Post (atM dC dI q cI cJ cZ A) A) args s 0 0 A) (F0 m 31 ls [])) ?_
  · skip
    refine lv_iconst (v := 0) hx hb (dk DX12_workOf 0 rfl) (by decide) ?_
    refine lv_istore (lv' := [(4, .int 0), (0, .ref (q 0)), (1, .int a0), (2, .int a1), (3, .int a2)]) hx hb (dk DX12_workOf 1 rfl) hl (by decide) rfl (fun ls hl => ?_)
    refine lv_iconst (v := 0) hx hb (dk DX12_workOf 2 rfl) (by decide) ?_
    refine lv_istore (lv' := [(5, .int 0), (4, .int 0), (0, .ref (q 0)), (1, .int a0), (2, .int a1), (3, .int a2)]) hx hb (dk DX12_workOf 3 rfl) hl (by decide) rfl (fun ls hl => ?_)
    refine lv_iconst (v := 0) hx hb (dk DX12_workOf 4 rfl) (by decide) ?_
    refine lv_istore (lv' := [(6, .int 0), (5, .int 0), (4, .int 0), (0, .ref (q 0)), (1, .int a0), (2, .int a1), (3, .int a2)]) hx hb (dk DX12_workOf 5 rfl) hl (by decide) rfl (fun ls hl => ?_)
    refine lv_iconst (v := 0) hx hb (dk DX12_workOf 6 rfl) (by decide) ?_
    refine lv_istore (lv' := [(7, .int 0), (6, .int 0), (5, .int 0), (4, .int 0), (0, .ref (q 0)), (1, .int a0), (2, .int a1), (3, .int a2)]) hx hb (dk DX12_workOf 7 rfl) hl (by decide) rfl (fun ls hl => ?_)
    exact h _ _ hP hD hS ls (lv_sub hl [4, 5, 6, 7, 3, 2, 1, 0] rfl)
  · rintro (⟨x1, x2, x3, x4, x5, x6, x7⟩ | ⟨x1, x2, x3, x4, x5, x6, x7, x8⟩) S hB
    · exact h_workOf_0 X hr hlocks (hK0 := fun _ _ _ _ _ _ _ _ h => h) (hK1 := fun _ _ _ _ _ _ _ _ _ h => h) x1 x2 x3 x4 x5 x6 x7 S hB
    · exact h_workOf_1 X hr hlocks (hK0 := fun _ _ _ _ _ _ _ _ h => h) (hK1 := fun _ _ _ _ _ _ _ _ _ h => h) x1 x2 x3 x4 x5 x6 x7 x8 S hB

