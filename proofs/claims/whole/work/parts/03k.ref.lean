-- nameBlower costOf nameKind shareOf brittleOf smoke cost
def ww_nameBlower : List Cond := .code yX12_nameBlower cX12_nameBlower 3 none :: (WdM ++ wsX120)
theorem q_nameBlower : yX12_nameBlower.cls = RX12 ∧ yX12_nameBlower.cls ≠ "java/lang/invoke/MethodHandle" ∧ yX12_nameBlower.cls ≠ "java/lang/invoke/VarHandle" ∧ (parseMethodDescriptor yX12_nameBlower.desc).map (fun d => d.parameters.length) = some 2 := by decide +kernel
def VC_nameBlower (Post : MS → Prop) (a0 : Int32) (a1 : Int32) (S : MS) : Prop := vp_in (0 : Int32) 11 ∧ ∀ S1 : MS, S1 = sF S 22 (upd (S.2.2.1 22) (0 : Int32).toNatClampNeg a1) → vp_in (1 : Int32) 11 ∧ ∀ S2 : MS, S2 = sF S1 22 (upd (S1.2.2.1 22) (1 : Int32).toNatClampNeg a0) → VC_get (fun r4 S3 => vp_in (2 : Int32) 11 ∧ ∀ S5 : MS, S5 = sF S3 22 (upd (S3.2.2.1 22) (2 : Int32).toNatClampNeg r4) → VC_get (fun r7 S6 => vp_in (3 : Int32) 11 ∧ ∀ S8 : MS, S8 = sF S6 22 (upd (S6.2.2.1 22) (3 : Int32).toNatClampNeg r7) → VC_get (fun r10 S9 => vp_in (4 : Int32) 11 ∧ ∀ S11 : MS, S11 = sF S9 22 (upd (S9.2.2.1 22) (4 : Int32).toNatClampNeg r10) → Post S11) a0 2 S8) a0 1 S5) a0 0 S2
set_option maxHeartbeats 4000000 in
set_option maxRecDepth 100000 in
theorem m_nameBlower {l : Launch} {dC : Nat → ClassId} {dI : Nat → Nat → Nat} {q : Nat → Nat} {cI cJ cZ : ClassId} {sz : Nat} {Post : MS → Prop} (a0 : Int32) (a1 : Int32) (S : MS) (h : VC_nameBlower Post a0 a1 S) : Met l yX12_nameBlower ww_nameBlower ({ frames := 1, cells := 0, slots := 0, locals := 22 } : Room) (va_Pc [.ref (q 0), .int a0, .int a1] (preM dC dI q cI cJ cZ S sz)) (va_Qv Post (atM dC dI q cI cJ cZ (va_A (wM q cI cJ cZ S) sz)) (va_A (wM q cI cJ cZ S) sz)) 0 0 (va_A (wM q cI cJ cZ S) sz) := by
  refine oM (cc := cX12_nameBlower) (maxL := 3) (ret := none) (Qc := fun A => va_Qv Post (atM dC dI q cI cJ cZ A) A) (by decide) rfl (fun w h => List.mem_cons_of_mem _ (List.mem_append_right _ h)) rfl (Nat.le_of_ble_eq_true rfl) (fun p e s m below meth c A ls X hr hlocks hP hD hS hl => ?_)
  have hx := X.1
  have hb := X.2.1
  have hl : lv_has ls 3 [(0, .ref (q 0)), (1, .int a0), (2, .int a1)] := hl
  have lk32 := X.2.2.2.2.1 (.fieldLink RX12 32 "BreathOnLoanModel" "named" "[I") (inW 12 rfl)
  dsimp only [VC_nameBlower] at h
  refine lv_aload_n hx hb (dk DX12_nameBlower 0 rfl) rfl (lv_at hl 0 rfl) ?_
  refine gM X hP 22 (by decide) rfl lk32 (dk DX12_nameBlower 1 rfl) ?_
  refine lv_iconst (v := 0) hx hb (dk DX12_nameBlower 2 rfl) (by decide) ?_
  refine lv_iload_n hx hb (dk DX12_nameBlower 3 rfl) rfl (lv_at hl 2 rfl) ?_
  obtain ⟨hin, h⟩ := h
  refine stM_22 X hP hD hS hin (dk DX12_nameBlower 4 rfl) (fun S1 eS1 H locs hP hD hS => ?_)
  have h := h S1 eS1
  refine lv_aload_n hx hb (dk DX12_nameBlower 5 rfl) rfl (lv_at hl 0 rfl) ?_
  refine gM X hP 22 (by decide) rfl lk32 (dk DX12_nameBlower 6 rfl) ?_
  refine lv_iconst (v := 1) hx hb (dk DX12_nameBlower 7 rfl) (by decide) ?_
  refine lv_iload_n hx hb (dk DX12_nameBlower 8 rfl) rfl (lv_at hl 1 rfl) ?_
  obtain ⟨hin, h⟩ := h
  refine stM_22 X hP hD hS hin (dk DX12_nameBlower 9 rfl) (fun S2 eS2 H locs hP hD hS => ?_)
  have h := h S2 eS2
  refine lv_aload_n hx hb (dk DX12_nameBlower 10 rfl) rfl (lv_at hl 0 rfl) ?_
  refine gM X hP 22 (by decide) rfl lk32 (dk DX12_nameBlower 11 rfl) ?_
  refine lv_iconst (v := 2) hx hb (dk DX12_nameBlower 12 rfl) (by decide) ?_
  refine lv_aload_n hx hb (dk DX12_nameBlower 13 rfl) rfl (lv_at hl 0 rfl) ?_
  refine lv_iload_n hx hb (dk DX12_nameBlower 14 rfl) rfl (lv_at hl 1 rfl) ?_
  refine lv_iconst (v := 0) hx hb (dk DX12_nameBlower 15 rfl) (by decide) ?_
  refine cMi (As := [.int a0, .int 0]) (rest := [.int 2, .ref (q 6)]) X (m_get (l := l) (dC := dC) (dI := dI) (q := q) (cI := cI) (cJ := cJ) (cZ := cZ) (sz := _) a0 0 S2 h) (cwV 2 X.2.2.2.2.1 (gwV 47 48 49 24 36 rfl rfl rfl rfl rfl) rfl rfl rfl q_get ⟨Nat.le_of_ble_eq_true rfl, Nat.le_of_ble_eq_true rfl⟩) hP hD hS rfl hl.1 rfl (Nat.le_of_ble_eq_true rfl) (dk DX12_nameBlower 16 rfl) (fun r4 S3 H locs h hP hD hS => ?_)
  obtain ⟨hin, h⟩ := h
  refine stM_22 X hP hD hS hin (dk DX12_nameBlower 17 rfl) (fun S5 eS5 H locs hP hD hS => ?_)
  have h := h S5 eS5
  refine lv_aload_n hx hb (dk DX12_nameBlower 18 rfl) rfl (lv_at hl 0 rfl) ?_
  refine gM X hP 22 (by decide) rfl lk32 (dk DX12_nameBlower 19 rfl) ?_
  refine lv_iconst (v := 3) hx hb (dk DX12_nameBlower 20 rfl) (by decide) ?_
  refine lv_aload_n hx hb (dk DX12_nameBlower 21 rfl) rfl (lv_at hl 0 rfl) ?_
  refine lv_iload_n hx hb (dk DX12_nameBlower 22 rfl) rfl (lv_at hl 1 rfl) ?_
  refine lv_iconst (v := 1) hx hb (dk DX12_nameBlower 23 rfl) (by decide) ?_
  refine cMi (As := [.int a0, .int 1]) (rest := [.int 3, .ref (q 6)]) X (m_get (l := l) (dC := dC) (dI := dI) (q := q) (cI := cI) (cJ := cJ) (cZ := cZ) (sz := _) a0 1 S5 h) (cwV 2 X.2.2.2.2.1 (gwV 47 48 49 24 36 rfl rfl rfl rfl rfl) rfl rfl rfl q_get ⟨Nat.le_of_ble_eq_true rfl, Nat.le_of_ble_eq_true rfl⟩) hP hD hS rfl hl.1 rfl (Nat.le_of_ble_eq_true rfl) (dk DX12_nameBlower 24 rfl) (fun r7 S6 H locs h hP hD hS => ?_)
  obtain ⟨hin, h⟩ := h
  refine stM_22 X hP hD hS hin (dk DX12_nameBlower 25 rfl) (fun S8 eS8 H locs hP hD hS => ?_)
  have h := h S8 eS8
  refine lv_aload_n hx hb (dk DX12_nameBlower 26 rfl) rfl (lv_at hl 0 rfl) ?_
  refine gM X hP 22 (by decide) rfl lk32 (dk DX12_nameBlower 27 rfl) ?_
  refine lv_iconst (v := 4) hx hb (dk DX12_nameBlower 28 rfl) (by decide) ?_
  refine lv_aload_n hx hb (dk DX12_nameBlower 29 rfl) rfl (lv_at hl 0 rfl) ?_
  refine lv_iload_n hx hb (dk DX12_nameBlower 30 rfl) rfl (lv_at hl 1 rfl) ?_
  refine lv_iconst (v := 2) hx hb (dk DX12_nameBlower 31 rfl) (by decide) ?_
  refine cMi (As := [.int a0, .int 2]) (rest := [.int 4, .ref (q 6)]) X (m_get (l := l) (dC := dC) (dI := dI) (q := q) (cI := cI) (cJ := cJ) (cZ := cZ) (sz := _) a0 2 S8 h) (cwV 2 X.2.2.2.2.1 (gwV 47 48 49 24 36 rfl rfl rfl rfl rfl) rfl rfl rfl q_get ⟨Nat.le_of_ble_eq_true rfl, Nat.le_of_ble_eq_true rfl⟩) hP hD hS rfl hl.1 rfl (Nat.le_of_ble_eq_true rfl) (dk DX12_nameBlower 32 rfl) (fun r10 S9 H locs h hP hD hS => ?_)
  obtain ⟨hin, h⟩ := h
  refine stM_22 X hP hD hS hin (dk DX12_nameBlower 33 rfl) (fun S11 eS11 H locs hP hD hS => ?_)
  have h := h S11 eS11
  exact W.vret hx hb hr (fun t ht hW => ⟨⟨_, rfl, h, by rw [ht]; exact hP, va_K.moved hW.alike X.2.2.2.2.2.2.1, hD⟩, hS.F ht⟩) hS.2.2 (dk DX12_nameBlower 34 rfl)

def ww_costOf : List Cond := .code yX12_costOf cX12_costOf 3 (some .int) :: (WdM ++ wsX120)
theorem q_costOf : yX12_costOf.cls = RX12 ∧ yX12_costOf.cls ≠ "java/lang/invoke/MethodHandle" ∧ yX12_costOf.cls ≠ "java/lang/invoke/VarHandle" ∧ (parseMethodDescriptor yX12_costOf.desc).map (fun d => d.parameters.length) = some 2 := by decide +kernel
def VC_costOf (Post : Int32 → MS → Prop) (a0 : Int32) (a1 : Int32) (S : MS) : Prop := VC_nameBlower (fun S1 => VC_sumOf (fun r3 S2 => Post r3 S2) 1 99 1 S1) a0 a1 S
set_option maxHeartbeats 4000000 in
set_option maxRecDepth 100000 in
theorem m_costOf {l : Launch} {dC : Nat → ClassId} {dI : Nat → Nat → Nat} {q : Nat → Nat} {cI cJ cZ : ClassId} {sz : Nat} {Post : Int32 → MS → Prop} (a0 : Int32) (a1 : Int32) (S : MS) (h : VC_costOf Post a0 a1 S) : Met l yX12_costOf ww_costOf ({ frames := 4, cells := 0, slots := 0, locals := 97 } : Room) (va_Pc [.ref (q 0), .int a0, .int a1] (preM dC dI q cI cJ cZ S sz)) (va_Qi Post (atM dC dI q cI cJ cZ (va_A (wM q cI cJ cZ S) sz)) (va_A (wM q cI cJ cZ S) sz)) 0 0 (va_A (wM q cI cJ cZ S) sz) := by
  refine oM (cc := cX12_costOf) (maxL := 3) (ret := (some .int)) (Qc := fun A => va_Qi Post (atM dC dI q cI cJ cZ A) A) (by decide) rfl (fun w h => List.mem_cons_of_mem _ (List.mem_append_right _ h)) rfl (Nat.le_of_ble_eq_true rfl) (fun p e s m below meth c A ls X hr hlocks hP hD hS hl => ?_)
  have hx := X.1
  have hb := X.2.1
  have hl : lv_has ls 3 [(0, .ref (q 0)), (1, .int a0), (2, .int a1)] := hl
  dsimp only [VC_costOf] at h
  refine lv_aload_n hx hb (dk DX12_costOf 0 rfl) rfl (lv_at hl 0 rfl) ?_
  refine lv_iload_n hx hb (dk DX12_costOf 1 rfl) rfl (lv_at hl 1 rfl) ?_
  refine lv_iload_n hx hb (dk DX12_costOf 2 rfl) rfl (lv_at hl 2 rfl) ?_
  refine cMv (As := [.int a0, .int a1]) (rest := []) X (m_nameBlower (l := l) (dC := dC) (dI := dI) (q := q) (cI := cI) (cJ := cJ) (cZ := cZ) (sz := _) a0 a1 S h) (cwV 2 X.2.2.2.2.1 (gwV 232 233 234 24 231 rfl rfl rfl rfl rfl) rfl rfl rfl q_nameBlower ⟨Nat.le_of_ble_eq_true rfl, Nat.le_of_ble_eq_true rfl⟩) hP hD hS rfl hl.1 rfl (Nat.le_of_ble_eq_true rfl) (dk DX12_costOf 3 rfl) (fun S1 H locs h hP hD hS => ?_)
  refine lv_aload_n hx hb (dk DX12_costOf 4 rfl) rfl (lv_at hl 0 rfl) ?_
  refine lv_iconst (v := 1) hx hb (dk DX12_costOf 5 rfl) (by decide) ?_
  refine lv_bipush (v := 99) hx hb (dk DX12_costOf 6 rfl) (by decide) ?_
  refine lv_iconst (v := 1) hx hb (dk DX12_costOf 7 rfl) (by decide) ?_
  refine cMi (As := [.int 1, .int 99, .int 1]) (rest := []) X (m_sumOf (l := l) (dC := dC) (dI := dI) (q := q) (cI := cI) (cJ := cJ) (cZ := cZ) (sz := _) 1 99 1 S1 h) (cwV 3 X.2.2.2.2.1 (gwV 227 228 229 24 221 rfl rfl rfl rfl rfl) rfl rfl rfl q_sumOf ⟨Nat.le_of_ble_eq_true rfl, Nat.le_of_ble_eq_true rfl⟩) hP hD hS rfl hl.1 rfl (Nat.le_of_ble_eq_true rfl) (dk DX12_costOf 8 rfl) (fun r3 S2 H locs h hP hD hS => ?_)
  exact W.iret (v := r3) hx hb hr (fun t ht hW => ⟨⟨_, _, rfl, h, by rw [ht]; exact hP, va_K.moved hW.alike X.2.2.2.2.2.2.1, hD⟩, hS.F ht⟩) hS.2.2 (dk DX12_costOf 9 rfl)

def ww_nameKind : List Cond := .code yX12_nameKind cX12_nameKind 2 none :: (WdM ++ wsX120)
theorem q_nameKind : yX12_nameKind.cls = RX12 ∧ yX12_nameKind.cls ≠ "java/lang/invoke/MethodHandle" ∧ yX12_nameKind.cls ≠ "java/lang/invoke/VarHandle" ∧ (parseMethodDescriptor yX12_nameKind.desc).map (fun d => d.parameters.length) = some 1 := by decide +kernel
def VC_nameKind (Post : MS → Prop) (a0 : Int32) (S : MS) : Prop := vp_in (5 : Int32) 11 ∧ ∀ S1 : MS, S1 = sF S 22 (upd (S.2.2.1 22) (5 : Int32).toNatClampNeg a0) → vp_in (40 + (3 * a0)) 3890 ∧ ∀ v2 : Int32, v2 = (S1.2.2.1 0) (40 + (3 * a0)).toNatClampNeg → vp_in (6 : Int32) 11 ∧ ∀ S3 : MS, S3 = sF S1 22 (upd (S1.2.2.1 22) (6 : Int32).toNatClampNeg v2) → vp_in ((40 + (3 * a0)) + 2) 3890 ∧ ∀ v4 : Int32, v4 = (S3.2.2.1 0) ((40 + (3 * a0)) + 2).toNatClampNeg → vp_in (7 : Int32) 11 ∧ ∀ S5 : MS, S5 = sF S3 22 (upd (S3.2.2.1 22) (7 : Int32).toNatClampNeg v4) → Post S5
set_option maxHeartbeats 4000000 in
set_option maxRecDepth 100000 in
theorem m_nameKind {l : Launch} {dC : Nat → ClassId} {dI : Nat → Nat → Nat} {q : Nat → Nat} {cI cJ cZ : ClassId} {sz : Nat} {Post : MS → Prop} (a0 : Int32) (S : MS) (h : VC_nameKind Post a0 S) : Met l yX12_nameKind ww_nameKind ({ frames := 0, cells := 0, slots := 0, locals := 0 } : Room) (va_Pc [.ref (q 0), .int a0] (preM dC dI q cI cJ cZ S sz)) (va_Qv Post (atM dC dI q cI cJ cZ (va_A (wM q cI cJ cZ S) sz)) (va_A (wM q cI cJ cZ S) sz)) 0 0 (va_A (wM q cI cJ cZ S) sz) := by
  refine oM (cc := cX12_nameKind) (maxL := 2) (ret := none) (Qc := fun A => va_Qv Post (atM dC dI q cI cJ cZ A) A) (by decide) rfl (fun w h => List.mem_cons_of_mem _ (List.mem_append_right _ h)) rfl (Nat.le_of_ble_eq_true rfl) (fun p e s m below meth c A ls X hr hlocks hP hD hS hl => ?_)
  have hx := X.1
  have hb := X.2.1
  have hl : lv_has ls 2 [(0, .ref (q 0)), (1, .int a0)] := hl
  have lk32 := X.2.2.2.2.1 (.fieldLink RX12 32 "BreathOnLoanModel" "named" "[I") (inW 12 rfl)
  have lk7 := X.2.2.2.2.1 (.fieldLink RX12 7 "BreathOnLoanModel" "a" "[I") (inW 5 rfl)
  dsimp only [VC_nameKind] at h
  refine lv_aload_n hx hb (dk DX12_nameKind 0 rfl) rfl (lv_at hl 0 rfl) ?_
  refine gM X hP 22 (by decide) rfl lk32 (dk DX12_nameKind 1 rfl) ?_
  refine lv_iconst (v := 5) hx hb (dk DX12_nameKind 2 rfl) (by decide) ?_
  refine lv_iload_n hx hb (dk DX12_nameKind 3 rfl) rfl (lv_at hl 1 rfl) ?_
  obtain ⟨hin, h⟩ := h
  refine stM_22 X hP hD hS hin (dk DX12_nameKind 4 rfl) (fun S1 eS1 H locs hP hD hS => ?_)
  have h := h S1 eS1
  refine lv_aload_n hx hb (dk DX12_nameKind 5 rfl) rfl (lv_at hl 0 rfl) ?_
  refine gM X hP 22 (by decide) rfl lk32 (dk DX12_nameKind 6 rfl) ?_
  refine lv_bipush (v := 6) hx hb (dk DX12_nameKind 7 rfl) (by decide) ?_
  refine lv_aload_n hx hb (dk DX12_nameKind 8 rfl) rfl (lv_at hl 0 rfl) ?_
  refine gM X hP 0 (by decide) rfl lk7 (dk DX12_nameKind 9 rfl) ?_
  refine lv_bipush (v := 40) hx hb (dk DX12_nameKind 10 rfl) (by decide) ?_
  refine lv_iconst (v := 3) hx hb (dk DX12_nameKind 11 rfl) (by decide) ?_
  refine lv_iload_n hx hb (dk DX12_nameKind 12 rfl) rfl (lv_at hl 1 rfl) ?_
  refine lv_imul hx hb (dk DX12_nameKind 13 rfl) ?_
  refine lv_iadd hx hb (dk DX12_nameKind 14 rfl) ?_
  obtain ⟨hin, h⟩ := h
  refine ldM X hP 1 rfl hin (dk DX12_nameKind 15 rfl) ?_
  refine lv_topi (fun v2 ev2 => ?_)
  have h := h v2 ev2
  obtain ⟨hin, h⟩ := h
  refine stM_22 X hP hD hS hin (dk DX12_nameKind 16 rfl) (fun S3 eS3 H locs hP hD hS => ?_)
  have h := h S3 eS3
  refine lv_aload_n hx hb (dk DX12_nameKind 17 rfl) rfl (lv_at hl 0 rfl) ?_
  refine gM X hP 22 (by decide) rfl lk32 (dk DX12_nameKind 18 rfl) ?_
  refine lv_bipush (v := 7) hx hb (dk DX12_nameKind 19 rfl) (by decide) ?_
  refine lv_aload_n hx hb (dk DX12_nameKind 20 rfl) rfl (lv_at hl 0 rfl) ?_
  refine gM X hP 0 (by decide) rfl lk7 (dk DX12_nameKind 21 rfl) ?_
  refine lv_bipush (v := 40) hx hb (dk DX12_nameKind 22 rfl) (by decide) ?_
  refine lv_iconst (v := 3) hx hb (dk DX12_nameKind 23 rfl) (by decide) ?_
  refine lv_iload_n hx hb (dk DX12_nameKind 24 rfl) rfl (lv_at hl 1 rfl) ?_
  refine lv_imul hx hb (dk DX12_nameKind 25 rfl) ?_
  refine lv_iadd hx hb (dk DX12_nameKind 26 rfl) ?_
  refine lv_iconst (v := 2) hx hb (dk DX12_nameKind 27 rfl) (by decide) ?_
  refine lv_iadd hx hb (dk DX12_nameKind 28 rfl) ?_
  obtain ⟨hin, h⟩ := h
  refine ldM X hP 1 rfl hin (dk DX12_nameKind 29 rfl) ?_
  refine lv_topi (fun v4 ev4 => ?_)
  have h := h v4 ev4
  obtain ⟨hin, h⟩ := h
  refine stM_22 X hP hD hS hin (dk DX12_nameKind 30 rfl) (fun S5 eS5 H locs hP hD hS => ?_)
  have h := h S5 eS5
  exact W.vret hx hb hr (fun t ht hW => ⟨⟨_, rfl, h, by rw [ht]; exact hP, va_K.moved hW.alike X.2.2.2.2.2.2.1, hD⟩, hS.F ht⟩) hS.2.2 (dk DX12_nameKind 31 rfl)

def ww_shareOf : List Cond := .code yX12_shareOf cX12_shareOf 3 (some .int) :: (WdM ++ wsX120)
theorem q_shareOf : yX12_shareOf.cls = RX12 ∧ yX12_shareOf.cls ≠ "java/lang/invoke/MethodHandle" ∧ yX12_shareOf.cls ≠ "java/lang/invoke/VarHandle" ∧ (parseMethodDescriptor yX12_shareOf.desc).map (fun d => d.parameters.length) = some 2 := by decide +kernel
def VC_shareOf (Post : Int32 → MS → Prop) (a0 : Int32) (a1 : Int32) (S : MS) : Prop := vp_in (3 : Int32) 3890 ∧ VC_nameBlower (fun S1 => VC_pieceAt (fun r2 => vp_in r2 3890 ∧ VC_nameKind (fun S3 => VC_gave (fun r5 S4 => vp_in (8 : Int32) 11 ∧ ∀ S6 : MS, S6 = sF S4 22 (upd (S4.2.2.1 22) (8 : Int32).toNatClampNeg r5) → vp_in (8 : Int32) 11 ∧ VC_sumOf (fun r8 S7 => Post r8 S7) 3 99 ((S6.2.2.1 22) (8 : Int32).toNatClampNeg) S6) a0 a1 S3) ((S1.2.2.1 0) r2.toNatClampNeg) S1) a0) a1 ((S.2.2.1 0) (3 : Int32).toNatClampNeg) S
set_option maxHeartbeats 4000000 in
set_option maxRecDepth 100000 in
theorem m_shareOf {l : Launch} {dC : Nat → ClassId} {dI : Nat → Nat → Nat} {q : Nat → Nat} {cI cJ cZ : ClassId} {sz : Nat} {Post : Int32 → MS → Prop} (a0 : Int32) (a1 : Int32) (S : MS) (h : VC_shareOf Post a0 a1 S) : Met l yX12_shareOf ww_shareOf ({ frames := 4, cells := 0, slots := 0, locals := 97 } : Room) (va_Pc [.ref (q 0), .int a0, .int a1] (preM dC dI q cI cJ cZ S sz)) (va_Qi Post (atM dC dI q cI cJ cZ (va_A (wM q cI cJ cZ S) sz)) (va_A (wM q cI cJ cZ S) sz)) 0 0 (va_A (wM q cI cJ cZ S) sz) := by
  refine oM (cc := cX12_shareOf) (maxL := 3) (ret := (some .int)) (Qc := fun A => va_Qi Post (atM dC dI q cI cJ cZ A) A) (by decide) rfl (fun w h => List.mem_cons_of_mem _ (List.mem_append_right _ h)) rfl (Nat.le_of_ble_eq_true rfl) (fun p e s m below meth c A ls X hr hlocks hP hD hS hl => ?_)
  have hx := X.1
  have hb := X.2.1
  have hl : lv_has ls 3 [(0, .ref (q 0)), (1, .int a0), (2, .int a1)] := hl
  have lk7 := X.2.2.2.2.1 (.fieldLink RX12 7 "BreathOnLoanModel" "a" "[I") (inW 5 rfl)
  have lk32 := X.2.2.2.2.1 (.fieldLink RX12 32 "BreathOnLoanModel" "named" "[I") (inW 12 rfl)
  dsimp only [VC_shareOf] at h
  refine lv_aload_n hx hb (dk DX12_shareOf 0 rfl) rfl (lv_at hl 0 rfl) ?_
  refine lv_iload_n hx hb (dk DX12_shareOf 1 rfl) rfl (lv_at hl 2 rfl) ?_
  refine lv_aload_n hx hb (dk DX12_shareOf 2 rfl) rfl (lv_at hl 0 rfl) ?_
  refine gM X hP 0 (by decide) rfl lk7 (dk DX12_shareOf 3 rfl) ?_
  refine lv_iconst (v := 3) hx hb (dk DX12_shareOf 4 rfl) (by decide) ?_
  obtain ⟨hin, h⟩ := h
  refine ldM X hP 1 rfl hin (dk DX12_shareOf 5 rfl) ?_
  refine cMv (As := [.int a1, .int ((S.2.2.1 0) (3 : Int32).toNatClampNeg)]) (rest := []) X (m_nameBlower (l := l) (dC := dC) (dI := dI) (q := q) (cI := cI) (cJ := cJ) (cZ := cZ) (sz := _) a1 ((S.2.2.1 0) (3 : Int32).toNatClampNeg) S h) (cwV 2 X.2.2.2.2.1 (gwV 232 233 234 24 231 rfl rfl rfl rfl rfl) rfl rfl rfl q_nameBlower ⟨Nat.le_of_ble_eq_true rfl, Nat.le_of_ble_eq_true rfl⟩) hP hD hS rfl hl.1 rfl (Nat.le_of_ble_eq_true rfl) (dk DX12_shareOf 6 rfl) (fun S1 H locs h hP hD hS => ?_)
  refine lv_aload_n hx hb (dk DX12_shareOf 7 rfl) rfl (lv_at hl 0 rfl) ?_
  refine lv_aload_n hx hb (dk DX12_shareOf 8 rfl) rfl (lv_at hl 0 rfl) ?_
  refine gM X hP 0 (by decide) rfl lk7 (dk DX12_shareOf 9 rfl) ?_
  refine lv_iload_n hx hb (dk DX12_shareOf 10 rfl) rfl (lv_at hl 1 rfl) ?_
  refine cSi (As := [.int a0]) (rest := [.ref (q 1), .ref (q 0)]) ⟨X.1, X.2.1, X.2.2.1, X.2.2.2.1, X.2.2.2.2.1⟩ (m_pieceAt (l := l) a0 h) (va_cwS 1 X.2.2.2.2.1 (gwS 40 41 24 38 rfl rfl rfl rfl) rfl rfl rfl q_pieceAt ⟨Nat.le_of_ble_eq_true rfl, Nat.le_of_ble_eq_true rfl⟩) rfl hl.1 rfl (Nat.le_of_ble_eq_true rfl) (dk DX12_shareOf 11 rfl) (fun r2 h => ?_)
  obtain ⟨hin, h⟩ := h
  refine ldM X hP 1 rfl hin (dk DX12_shareOf 12 rfl) ?_
  refine cMv (As := [.int ((S1.2.2.1 0) r2.toNatClampNeg)]) (rest := []) X (m_nameKind (l := l) (dC := dC) (dI := dI) (q := q) (cI := cI) (cJ := cJ) (cZ := cZ) (sz := _) ((S1.2.2.1 0) r2.toNatClampNeg) S1 h) (cwV 1 X.2.2.2.2.1 (gwV 237 238 239 24 236 rfl rfl rfl rfl rfl) rfl rfl rfl q_nameKind ⟨Nat.le_of_ble_eq_true rfl, Nat.le_of_ble_eq_true rfl⟩) hP hD hS rfl hl.1 rfl (Nat.le_of_ble_eq_true rfl) (dk DX12_shareOf 13 rfl) (fun S3 H locs h hP hD hS => ?_)
  refine lv_aload_n hx hb (dk DX12_shareOf 14 rfl) rfl (lv_at hl 0 rfl) ?_
  refine gM X hP 22 (by decide) rfl lk32 (dk DX12_shareOf 15 rfl) ?_
  refine lv_bipush (v := 8) hx hb (dk DX12_shareOf 16 rfl) (by decide) ?_
  refine lv_aload_n hx hb (dk DX12_shareOf 17 rfl) rfl (lv_at hl 0 rfl) ?_
  refine lv_iload_n hx hb (dk DX12_shareOf 18 rfl) rfl (lv_at hl 1 rfl) ?_
  refine lv_iload_n hx hb (dk DX12_shareOf 19 rfl) rfl (lv_at hl 2 rfl) ?_
  refine cMi (As := [.int a0, .int a1]) (rest := [.int 8, .ref (q 6)]) X (m_gave (l := l) (dC := dC) (dI := dI) (q := q) (cI := cI) (cJ := cJ) (cZ := cZ) (sz := _) a0 a1 S3 h) (cwV 2 X.2.2.2.2.1 (gwV 240 241 242 24 39 rfl rfl rfl rfl rfl) rfl rfl rfl q_gave ⟨Nat.le_of_ble_eq_true rfl, Nat.le_of_ble_eq_true rfl⟩) hP hD hS rfl hl.1 rfl (Nat.le_of_ble_eq_true rfl) (dk DX12_shareOf 20 rfl) (fun r5 S4 H locs h hP hD hS => ?_)
  obtain ⟨hin, h⟩ := h
  refine stM_22 X hP hD hS hin (dk DX12_shareOf 21 rfl) (fun S6 eS6 H locs hP hD hS => ?_)
  have h := h S6 eS6
  refine lv_aload_n hx hb (dk DX12_shareOf 22 rfl) rfl (lv_at hl 0 rfl) ?_
  refine lv_iconst (v := 3) hx hb (dk DX12_shareOf 23 rfl) (by decide) ?_
  refine lv_bipush (v := 99) hx hb (dk DX12_shareOf 24 rfl) (by decide) ?_
  refine lv_aload_n hx hb (dk DX12_shareOf 25 rfl) rfl (lv_at hl 0 rfl) ?_
  refine gM X hP 22 (by decide) rfl lk32 (dk DX12_shareOf 26 rfl) ?_
  refine lv_bipush (v := 8) hx hb (dk DX12_shareOf 27 rfl) (by decide) ?_
  obtain ⟨hin, h⟩ := h
  refine ldM X hP 6 rfl hin (dk DX12_shareOf 28 rfl) ?_
  refine cMi (As := [.int 3, .int 99, .int ((S6.2.2.1 22) (8 : Int32).toNatClampNeg)]) (rest := []) X (m_sumOf (l := l) (dC := dC) (dI := dI) (q := q) (cI := cI) (cJ := cJ) (cZ := cZ) (sz := _) 3 99 ((S6.2.2.1 22) (8 : Int32).toNatClampNeg) S6 h) (cwV 3 X.2.2.2.2.1 (gwV 227 228 229 24 221 rfl rfl rfl rfl rfl) rfl rfl rfl q_sumOf ⟨Nat.le_of_ble_eq_true rfl, Nat.le_of_ble_eq_true rfl⟩) hP hD hS rfl hl.1 rfl (Nat.le_of_ble_eq_true rfl) (dk DX12_shareOf 29 rfl) (fun r8 S7 H locs h hP hD hS => ?_)
  exact W.iret (v := r8) hx hb hr (fun t ht hW => ⟨⟨_, _, rfl, h, by rw [ht]; exact hP, va_K.moved hW.alike X.2.2.2.2.2.2.1, hD⟩, hS.F ht⟩) hS.2.2 (dk DX12_shareOf 30 rfl)

def ww_brittleOf : List Cond := .code yX12_brittleOf cX12_brittleOf 4 (some .int) :: (WdM ++ wsX120)
theorem q_brittleOf : yX12_brittleOf.cls = RX12 ∧ yX12_brittleOf.cls ≠ "java/lang/invoke/MethodHandle" ∧ yX12_brittleOf.cls ≠ "java/lang/invoke/VarHandle" ∧ (parseMethodDescriptor yX12_brittleOf.desc).map (fun d => d.parameters.length) = some 1 := by decide +kernel
abbrev Hd_brittleOf : Type := (Int32 × Int32) ⊕ (Int32 × Int32 × Int32)
def B_brittleOf (Post : Int32 → MS → Prop) (K : Hd_brittleOf → MS → Prop) : Hd_brittleOf → MS → Prop
  | (.inl (x1, x2)), S => vp_in (0 : Int32) 3890 ∧ ((((S.2.2.1 0) (0 : Int32).toNatClampNeg) ≤ x2 → VC_sumOf (fun r8 S7 => Post r8 S7) 2 10 0 S) ∧ (¬ ((S.2.2.1 0) (0 : Int32).toNatClampNeg) ≤ x2 → VC_gave (fun r10 S9 => ((¬ r10 = 0 → vp_in (10 : Int32) 11 ∧ ∀ v11 : Int32, v11 = ((S9.2.2.1 22) (10 : Int32).toNatClampNeg) + 1 → vp_in (10 : Int32) 11 ∧ ∀ S12 : MS, S12 = sF S9 22 (upd (S9.2.2.1 22) (10 : Int32).toNatClampNeg v11) → K (.inr (x1, x2, 0)) S12) ∧ (r10 = 0 → ∀ v13 : Int32, v13 = x2 + 1 → K (.inl (x1, v13)) S9))) x1 x2 S))
  | (.inr (x1, x2, x3)), S => ((x2 ≤ x3 → ∀ v14 : Int32, v14 = x2 + 1 → K (.inl (x1, v14)) S) ∧ (¬ x2 ≤ x3 → vp_in (9 : Int32) 11 ∧ VC_gave (fun r16 S15 => ((r16 ≤ 0 → ∀ v17 : Int32, v17 = ((S.2.2.1 22) (9 : Int32).toNatClampNeg) + 0 → vp_in (9 : Int32) 11 ∧ ∀ S18 : MS, S18 = sF S15 22 (upd (S15.2.2.1 22) (9 : Int32).toNatClampNeg v17) → ∀ v19 : Int32, v19 = x3 + 1 → K (.inr (x1, x2, v19)) S18) ∧ (¬ r16 ≤ 0 → VC_get (fun r21 S20 => VC_has (fun r22 => ((r22 = 0 → ∀ v23 : Int32, v23 = ((S.2.2.1 22) (9 : Int32).toNatClampNeg) + 0 → vp_in (9 : Int32) 11 ∧ ∀ S24 : MS, S24 = sF S20 22 (upd (S20.2.2.1 22) (9 : Int32).toNatClampNeg v23) → ∀ v25 : Int32, v25 = x3 + 1 → K (.inr (x1, x2, v25)) S24) ∧ (¬ r22 = 0 → ∀ v26 : Int32, v26 = ((S.2.2.1 22) (9 : Int32).toNatClampNeg) + 1 → vp_in (9 : Int32) 11 ∧ ∀ S27 : MS, S27 = sF S20 22 (upd (S20.2.2.1 22) (9 : Int32).toNatClampNeg v26) → ∀ v28 : Int32, v28 = x3 + 1 → K (.inr (x1, x2, v28)) S27))) r21 x3) x2 4 S15))) x1 x3 S))
def VC_brittleOf (Post : Int32 → MS → Prop) (a0 : Int32) (S : MS) : Prop := ∀ K : Hd_brittleOf → MS → Prop, (∀ h S, B_brittleOf Post K h S → K h S) → vp_in (3 : Int32) 3890 ∧ ∀ v1 : Int32, v1 = (S.2.2.1 0) (3 : Int32).toNatClampNeg → vp_in (0 : Int32) 11 ∧ ∀ S2 : MS, S2 = sF S 22 (upd (S.2.2.1 22) (0 : Int32).toNatClampNeg v1) → VC_pieceAt (fun r3 => vp_in r3 3890 ∧ VC_nameKind (fun S4 => vp_in (9 : Int32) 11 ∧ ∀ S5 : MS, S5 = sF S4 22 (upd (S4.2.2.1 22) (9 : Int32).toNatClampNeg 0) → vp_in (10 : Int32) 11 ∧ ∀ S6 : MS, S6 = sF S5 22 (upd (S5.2.2.1 22) (10 : Int32).toNatClampNeg 0) → K (.inl (a0, 0)) S6) ((S2.2.2.1 0) r3.toNatClampNeg) S2) a0
set_option maxHeartbeats 4000000 in
set_option maxRecDepth 100000 in
theorem h_brittleOf_0 {p : Program} {l : Launch} {e : Env} {s : State} {m : MethodId} {below : List Frame} {meth : Method} {c : Code} {dC : Nat → ClassId} {dI : Nat → Nat → Nat} {q : Nat → Nat} {cI cJ cZ : ClassId} {A : Nat → Prop} {args : Array Value} {Post : Int32 → MS → Prop} {K : Hd_brittleOf → MS → Prop} (X : XM p s m args c cX12_brittleOf 4 ww_brittleOf dC dI cI cJ cZ A) (hr : meth.sig.returnType = (some .int)) (hlocks : meth.locks = false) (hK0 : ∀ (x1 : Int32) (x2 : Int32) (S : MS), K (.inl (x1, x2)) S → ∀ (H : Heap) (locs : List Loc), va_P (dC, dI) vwCl (wM q cI cJ cZ S) H → va_D A (wM q cI cJ cZ S) → va_S A s.heap H locs → ∀ ls : Array Slot, lv_has ls 4 [(0, .ref (q 0)), (1, .int x1), (2, .int x2)] → W p l e (headSpec ww_brittleOf ({ frames := 4, cells := 0, slots := 0, locals := 97 } : Room)).room s m args below meth c H locs 0 0 (MQ below (va_Qi Post (atM dC dI q cI cJ cZ A) A) args s 0 0 A) (F0 m 43 ls [])) (hK1 : ∀ (x1 : Int32) (x2 : Int32) (x3 : Int32) (S : MS), K (.inr (x1, x2, x3)) S → ∀ (H : Heap) (locs : List Loc), va_P (dC, dI) vwCl (wM q cI cJ cZ S) H → va_D A (wM q cI cJ cZ S) → va_S A s.heap H locs → ∀ ls : Array Slot, lv_has ls 4 [(0, .ref (q 0)), (1, .int x1), (2, .int x2), (3, .int x3)] → W p l e (headSpec ww_brittleOf ({ frames := 4, cells := 0, slots := 0, locals := 97 } : Room)).room s m args below meth c H locs 0 0 (MQ below (va_Qi Post (atM dC dI q cI cJ cZ A) A) args s 0 0 A) (F0 m 78 ls [])) (x1 : Int32) (x2 : Int32) (S : MS) (h : B_brittleOf Post K (.inl (x1, x2)) S) : ∀ (H : Heap) (locs : List Loc), va_P (dC, dI) vwCl (wM q cI cJ cZ S) H → va_D A (wM q cI cJ cZ S) → va_S A s.heap H locs → ∀ ls : Array Slot, lv_has ls 4 [(0, .ref (q 0)), (1, .int x1), (2, .int x2)] → W p l e (headSpec ww_brittleOf ({ frames := 4, cells := 0, slots := 0, locals := 97 } : Room)).room s m args below meth c H locs 0 0 (MQ below (va_Qi Post (atM dC dI q cI cJ cZ A) A) args s 0 0 A) (F0 m 43 ls []) := by
  have hx := X.1
  have hb := X.2.1
  intro H locs hP hD hS ls hl
  have lk32 := X.2.2.2.2.1 (.fieldLink RX12 32 "BreathOnLoanModel" "named" "[I") (inW 12 rfl)
  have lk7 := X.2.2.2.2.1 (.fieldLink RX12 7 "BreathOnLoanModel" "a" "[I") (inW 5 rfl)
  dsimp only [B_brittleOf] at h
  refine lv_iload_n hx hb (dk DX12_brittleOf 27 rfl) rfl (lv_at hl 2 rfl) ?_
  refine lv_aload_n hx hb (dk DX12_brittleOf 28 rfl) rfl (lv_at hl 0 rfl) ?_
  refine gM X hP 0 (by decide) rfl lk7 (dk DX12_brittleOf 29 rfl) ?_
  refine lv_iconst (v := 0) hx hb (dk DX12_brittleOf 30 rfl) (by decide) ?_
  obtain ⟨hin, h⟩ := h
  refine ldM X hP 1 rfl hin (dk DX12_brittleOf 31 rfl) ?_
  refine lv_icmp_ge (tgt := 132) hx hb (dk DX12_brittleOf 32 rfl) (by decide) (fun hc => ?_) (fun hc => ?_)
  · have h := h.1 hc
    refine lv_aload_n hx hb (dk DX12_brittleOf 78 rfl) rfl (lv_at hl 0 rfl) ?_
    refine lv_iconst (v := 2) hx hb (dk DX12_brittleOf 79 rfl) (by decide) ?_
    refine lv_bipush (v := 10) hx hb (dk DX12_brittleOf 80 rfl) (by decide) ?_
    refine lv_iconst (v := 0) hx hb (dk DX12_brittleOf 81 rfl) (by decide) ?_
    refine cMi (As := [.int 2, .int 10, .int 0]) (rest := []) X (m_sumOf (l := l) (dC := dC) (dI := dI) (q := q) (cI := cI) (cJ := cJ) (cZ := cZ) (sz := _) 2 10 0 S h) (cwV 3 X.2.2.2.2.1 (gwV 227 228 229 24 221 rfl rfl rfl rfl rfl) rfl rfl rfl q_sumOf ⟨Nat.le_of_ble_eq_true rfl, Nat.le_of_ble_eq_true rfl⟩) hP hD hS rfl hl.1 rfl (Nat.le_of_ble_eq_true rfl) (dk DX12_brittleOf 82 rfl) (fun r8 S7 H locs h hP hD hS => ?_)
    exact W.iret (v := r8) hx hb hr (fun t ht hW => ⟨⟨_, _, rfl, h, by rw [ht]; exact hP, va_K.moved hW.alike X.2.2.2.2.2.2.1, hD⟩, hS.F ht⟩) hS.2.2 (dk DX12_brittleOf 83 rfl)
  · have h := h.2 hc
    refine lv_aload_n hx hb (dk DX12_brittleOf 33 rfl) rfl (lv_at hl 0 rfl) ?_
    refine lv_iload_n hx hb (dk DX12_brittleOf 34 rfl) rfl (lv_at hl 1 rfl) ?_
    refine lv_iload_n hx hb (dk DX12_brittleOf 35 rfl) rfl (lv_at hl 2 rfl) ?_
    refine cMi (As := [.int x1, .int x2]) (rest := []) X (m_gave (l := l) (dC := dC) (dI := dI) (q := q) (cI := cI) (cJ := cJ) (cZ := cZ) (sz := _) x1 x2 S h) (cwV 2 X.2.2.2.2.1 (gwV 240 241 242 24 39 rfl rfl rfl rfl rfl) rfl rfl rfl q_gave ⟨Nat.le_of_ble_eq_true rfl, Nat.le_of_ble_eq_true rfl⟩) hP hD hS rfl hl.1 rfl (Nat.le_of_ble_eq_true rfl) (dk DX12_brittleOf 36 rfl) (fun r10 S9 H locs h hP hD hS => ?_)
    refine lv_if_ne (tgt := 65) hx hb (dk DX12_brittleOf 37 rfl) (by decide) (fun hc => ?_) (fun hc => ?_)
    · have h := h.1 hc
      refine lv_aload_n hx hb (dk DX12_brittleOf 39 rfl) rfl (lv_at hl 0 rfl) ?_
      refine gM X hP 22 (by decide) rfl lk32 (dk DX12_brittleOf 40 rfl) ?_
      refine lv_bipush (v := 10) hx hb (dk DX12_brittleOf 41 rfl) (by decide) ?_
      refine lv_dup2_11 hx hb (dk DX12_brittleOf 42 rfl) rfl rfl ?_
      obtain ⟨hin, h⟩ := h
      refine ldM X hP 6 rfl hin (dk DX12_brittleOf 43 rfl) ?_
      refine lv_iconst (v := 1) hx hb (dk DX12_brittleOf 44 rfl) (by decide) ?_
      refine lv_iadd hx hb (dk DX12_brittleOf 45 rfl) ?_
      refine lv_topi (fun v11 ev11 => ?_)
      have h := h v11 ev11
      obtain ⟨hin, h⟩ := h
      refine stM_22 X hP hD hS hin (dk DX12_brittleOf 46 rfl) (fun S12 eS12 H locs hP hD hS => ?_)
      have h := h S12 eS12
      refine lv_iconst (v := 0) hx hb (dk DX12_brittleOf 47 rfl) (by decide) ?_
      refine lv_istore_n (lv' := [(3, .int 0), (0, .ref (q 0)), (1, .int x1), (2, .int x2)]) hx hb (dk DX12_brittleOf 48 rfl) rfl hl (by decide) rfl (fun ls hl => ?_)
      exact hK1 x1 x2 0 S12 h _ _ hP hD hS ls (lv_sub hl [1, 2, 3, 0] rfl)
    · have h := h.2 hc
      refine lv_goto (tgt := 126) hx hb (dk DX12_brittleOf 38 rfl) (by decide) ?_
      obtain ⟨v13, ev13⟩ : ∃ y : Int32, y = x2 + 1 := ⟨_, rfl⟩
      have h := h v13 ev13
      refine lv_iinc (v := v13) (lv' := [(2, .int v13), (0, .ref (q 0)), (1, .int x1)]) hx hb (dk DX12_brittleOf 76 rfl) hl (k := 2) rfl (by rw [ev13]; rfl) (by decide) rfl (fun ls hl => ?_)
      refine lv_goto (tgt := 43) hx hb (dk DX12_brittleOf 77 rfl) (by decide) ?_
      exact hK0 x1 v13 S9 h _ _ hP hD hS ls (lv_sub hl [1, 2, 0] rfl)
set_option maxHeartbeats 4000000 in
set_option maxRecDepth 100000 in
theorem h_brittleOf_1 {p : Program} {l : Launch} {e : Env} {s : State} {m : MethodId} {below : List Frame} {meth : Method} {c : Code} {dC : Nat → ClassId} {dI : Nat → Nat → Nat} {q : Nat → Nat} {cI cJ cZ : ClassId} {A : Nat → Prop} {args : Array Value} {Post : Int32 → MS → Prop} {K : Hd_brittleOf → MS → Prop} (X : XM p s m args c cX12_brittleOf 4 ww_brittleOf dC dI cI cJ cZ A) (hr : meth.sig.returnType = (some .int)) (hlocks : meth.locks = false) (hK0 : ∀ (x1 : Int32) (x2 : Int32) (S : MS), K (.inl (x1, x2)) S → ∀ (H : Heap) (locs : List Loc), va_P (dC, dI) vwCl (wM q cI cJ cZ S) H → va_D A (wM q cI cJ cZ S) → va_S A s.heap H locs → ∀ ls : Array Slot, lv_has ls 4 [(0, .ref (q 0)), (1, .int x1), (2, .int x2)] → W p l e (headSpec ww_brittleOf ({ frames := 4, cells := 0, slots := 0, locals := 97 } : Room)).room s m args below meth c H locs 0 0 (MQ below (va_Qi Post (atM dC dI q cI cJ cZ A) A) args s 0 0 A) (F0 m 43 ls [])) (hK1 : ∀ (x1 : Int32) (x2 : Int32) (x3 : Int32) (S : MS), K (.inr (x1, x2, x3)) S → ∀ (H : Heap) (locs : List Loc), va_P (dC, dI) vwCl (wM q cI cJ cZ S) H → va_D A (wM q cI cJ cZ S) → va_S A s.heap H locs → ∀ ls : Array Slot, lv_has ls 4 [(0, .ref (q 0)), (1, .int x1), (2, .int x2), (3, .int x3)] → W p l e (headSpec ww_brittleOf ({ frames := 4, cells := 0, slots := 0, locals := 97 } : Room)).room s m args below meth c H locs 0 0 (MQ below (va_Qi Post (atM dC dI q cI cJ cZ A) A) args s 0 0 A) (F0 m 78 ls [])) (x1 : Int32) (x2 : Int32) (x3 : Int32) (S : MS) (h : B_brittleOf Post K (.inr (x1, x2, x3)) S) : ∀ (H : Heap) (locs : List Loc), va_P (dC, dI) vwCl (wM q cI cJ cZ S) H → va_D A (wM q cI cJ cZ S) → va_S A s.heap H locs → ∀ ls : Array Slot, lv_has ls 4 [(0, .ref (q 0)), (1, .int x1), (2, .int x2), (3, .int x3)] → W p l e (headSpec ww_brittleOf ({ frames := 4, cells := 0, slots := 0, locals := 97 } : Room)).room s m args below meth c H locs 0 0 (MQ below (va_Qi Post (atM dC dI q cI cJ cZ A) A) args s 0 0 A) (F0 m 78 ls []) := by
  have hx := X.1
  have hb := X.2.1
  intro H locs hP hD hS ls hl
  have lk32 := X.2.2.2.2.1 (.fieldLink RX12 32 "BreathOnLoanModel" "named" "[I") (inW 12 rfl)
  have lk7 := X.2.2.2.2.1 (.fieldLink RX12 7 "BreathOnLoanModel" "a" "[I") (inW 5 rfl)
  dsimp only [B_brittleOf] at h
  refine lv_iload_n hx hb (dk DX12_brittleOf 49 rfl) rfl (lv_at hl 3 rfl) ?_
  refine lv_iload_n hx hb (dk DX12_brittleOf 50 rfl) rfl (lv_at hl 2 rfl) ?_
  refine lv_icmp_ge (tgt := 126) hx hb (dk DX12_brittleOf 51 rfl) (by decide) (fun hc => ?_) (fun hc => ?_)
  · have h := h.1 hc
    obtain ⟨v14, ev14⟩ : ∃ y : Int32, y = x2 + 1 := ⟨_, rfl⟩
    have h := h v14 ev14
    refine lv_iinc (v := v14) (lv' := [(2, .int v14), (0, .ref (q 0)), (1, .int x1), (3, .int x3)]) hx hb (dk DX12_brittleOf 76 rfl) hl (k := 2) rfl (by rw [ev14]; rfl) (by decide) rfl (fun ls hl => ?_)
    refine lv_goto (tgt := 43) hx hb (dk DX12_brittleOf 77 rfl) (by decide) ?_
    exact hK0 x1 v14 S h _ _ hP hD hS ls (lv_sub hl [1, 2, 0] rfl)
  · have h := h.2 hc
    refine lv_aload_n hx hb (dk DX12_brittleOf 52 rfl) rfl (lv_at hl 0 rfl) ?_
    refine gM X hP 22 (by decide) rfl lk32 (dk DX12_brittleOf 53 rfl) ?_
    refine lv_bipush (v := 9) hx hb (dk DX12_brittleOf 54 rfl) (by decide) ?_
    refine lv_dup2_11 hx hb (dk DX12_brittleOf 55 rfl) rfl rfl ?_
    obtain ⟨hin, h⟩ := h
    refine ldM X hP 6 rfl hin (dk DX12_brittleOf 56 rfl) ?_
    refine lv_aload_n hx hb (dk DX12_brittleOf 57 rfl) rfl (lv_at hl 0 rfl) ?_
    refine lv_iload_n hx hb (dk DX12_brittleOf 58 rfl) rfl (lv_at hl 1 rfl) ?_
    refine lv_iload_n hx hb (dk DX12_brittleOf 59 rfl) rfl (lv_at hl 3 rfl) ?_
    refine cMi (As := [.int x1, .int x3]) (rest := [.int ((S.2.2.1 22) (9 : Int32).toNatClampNeg), .int 9, .ref (q 6)]) X (m_gave (l := l) (dC := dC) (dI := dI) (q := q) (cI := cI) (cJ := cJ) (cZ := cZ) (sz := _) x1 x3 S h) (cwV 2 X.2.2.2.2.1 (gwV 240 241 242 24 39 rfl rfl rfl rfl rfl) rfl rfl rfl q_gave ⟨Nat.le_of_ble_eq_true rfl, Nat.le_of_ble_eq_true rfl⟩) hP hD hS rfl hl.1 rfl (Nat.le_of_ble_eq_true rfl) (dk DX12_brittleOf 60 rfl) (fun r16 S15 H locs h hP hD hS => ?_)
    refine lv_if_le (tgt := 117) hx hb (dk DX12_brittleOf 61 rfl) (by decide) (fun hc => ?_) (fun hc => ?_)
    · have h := h.1 hc
      refine lv_iconst (v := 0) hx hb (dk DX12_brittleOf 71 rfl) (by decide) ?_
      refine lv_iadd hx hb (dk DX12_brittleOf 72 rfl) ?_
      refine lv_topi (fun v17 ev17 => ?_)
      have h := h v17 ev17
      obtain ⟨hin, h⟩ := h
      refine stM_22 X hP hD hS hin (dk DX12_brittleOf 73 rfl) (fun S18 eS18 H locs hP hD hS => ?_)
      have h := h S18 eS18
      obtain ⟨v19, ev19⟩ : ∃ y : Int32, y = x3 + 1 := ⟨_, rfl⟩
      have h := h v19 ev19
      refine lv_iinc (v := v19) (lv' := [(3, .int v19), (0, .ref (q 0)), (1, .int x1), (2, .int x2)]) hx hb (dk DX12_brittleOf 74 rfl) hl (k := 3) rfl (by rw [ev19]; rfl) (by decide) rfl (fun ls hl => ?_)
      refine lv_goto (tgt := 78) hx hb (dk DX12_brittleOf 75 rfl) (by decide) ?_
      exact hK1 x1 x2 v19 S18 h _ _ hP hD hS ls (lv_sub hl [1, 2, 3, 0] rfl)
    · have h := h.2 hc
      refine lv_aload_n hx hb (dk DX12_brittleOf 62 rfl) rfl (lv_at hl 0 rfl) ?_
      refine lv_iload_n hx hb (dk DX12_brittleOf 63 rfl) rfl (lv_at hl 2 rfl) ?_
      refine lv_iconst (v := 4) hx hb (dk DX12_brittleOf 64 rfl) (by decide) ?_
      refine cMi (As := [.int x2, .int 4]) (rest := [.int ((S.2.2.1 22) (9 : Int32).toNatClampNeg), .int 9, .ref (q 6)]) X (m_get (l := l) (dC := dC) (dI := dI) (q := q) (cI := cI) (cJ := cJ) (cZ := cZ) (sz := _) x2 4 S15 h) (cwV 2 X.2.2.2.2.1 (gwV 47 48 49 24 36 rfl rfl rfl rfl rfl) rfl rfl rfl q_get ⟨Nat.le_of_ble_eq_true rfl, Nat.le_of_ble_eq_true rfl⟩) hP hD hS rfl hl.1 rfl (Nat.le_of_ble_eq_true rfl) (dk DX12_brittleOf 65 rfl) (fun r21 S20 H locs h hP hD hS => ?_)
      refine lv_iload_n hx hb (dk DX12_brittleOf 66 rfl) rfl (lv_at hl 3 rfl) ?_
      refine cSi (As := [.int r21, .int x3]) (rest := [.int ((S.2.2.1 22) (9 : Int32).toNatClampNeg), .int 9, .ref (q 6)]) ⟨X.1, X.2.1, X.2.2.1, X.2.2.2.1, X.2.2.2.2.1⟩ (m_has (l := l) r21 x3 h) (va_cwS 2 X.2.2.2.2.1 (gwS 244 245 24 28 rfl rfl rfl rfl) rfl rfl rfl q_has ⟨Nat.le_of_ble_eq_true rfl, Nat.le_of_ble_eq_true rfl⟩) rfl hl.1 rfl (Nat.le_of_ble_eq_true rfl) (dk DX12_brittleOf 67 rfl) (fun r22 h => ?_)
      refine lv_if_eq (tgt := 117) hx hb (dk DX12_brittleOf 68 rfl) (by decide) (fun hc => ?_) (fun hc => ?_)
      · have h := h.1 hc
        refine lv_iconst (v := 0) hx hb (dk DX12_brittleOf 71 rfl) (by decide) ?_
        refine lv_iadd hx hb (dk DX12_brittleOf 72 rfl) ?_
        refine lv_topi (fun v23 ev23 => ?_)
        have h := h v23 ev23
        obtain ⟨hin, h⟩ := h
        refine stM_22 X hP hD hS hin (dk DX12_brittleOf 73 rfl) (fun S24 eS24 H locs hP hD hS => ?_)
        have h := h S24 eS24
        obtain ⟨v25, ev25⟩ : ∃ y : Int32, y = x3 + 1 := ⟨_, rfl⟩
        have h := h v25 ev25
        refine lv_iinc (v := v25) (lv' := [(3, .int v25), (0, .ref (q 0)), (1, .int x1), (2, .int x2)]) hx hb (dk DX12_brittleOf 74 rfl) hl (k := 3) rfl (by rw [ev25]; rfl) (by decide) rfl (fun ls hl => ?_)
        refine lv_goto (tgt := 78) hx hb (dk DX12_brittleOf 75 rfl) (by decide) ?_
        exact hK1 x1 x2 v25 S24 h _ _ hP hD hS ls (lv_sub hl [1, 2, 3, 0] rfl)
      · have h := h.2 hc
        refine lv_iconst (v := 1) hx hb (dk DX12_brittleOf 69 rfl) (by decide) ?_
        refine lv_goto (tgt := 118) hx hb (dk DX12_brittleOf 70 rfl) (by decide) ?_
        refine lv_iadd hx hb (dk DX12_brittleOf 72 rfl) ?_
        refine lv_topi (fun v26 ev26 => ?_)
        have h := h v26 ev26
        obtain ⟨hin, h⟩ := h
        refine stM_22 X hP hD hS hin (dk DX12_brittleOf 73 rfl) (fun S27 eS27 H locs hP hD hS => ?_)
        have h := h S27 eS27
        obtain ⟨v28, ev28⟩ : ∃ y : Int32, y = x3 + 1 := ⟨_, rfl⟩
        have h := h v28 ev28
        refine lv_iinc (v := v28) (lv' := [(3, .int v28), (0, .ref (q 0)), (1, .int x1), (2, .int x2)]) hx hb (dk DX12_brittleOf 74 rfl) hl (k := 3) rfl (by rw [ev28]; rfl) (by decide) rfl (fun ls hl => ?_)
        refine lv_goto (tgt := 78) hx hb (dk DX12_brittleOf 75 rfl) (by decide) ?_
        exact hK1 x1 x2 v28 S27 h _ _ hP hD hS ls (lv_sub hl [1, 2, 3, 0] rfl)
set_option maxHeartbeats 4000000 in
set_option maxRecDepth 100000 in
theorem m_brittleOf {l : Launch} {dC : Nat → ClassId} {dI : Nat → Nat → Nat} {q : Nat → Nat} {cI cJ cZ : ClassId} {sz : Nat} {Post : Int32 → MS → Prop} (a0 : Int32) (S : MS) (h : VC_brittleOf Post a0 S) : Met l yX12_brittleOf ww_brittleOf ({ frames := 4, cells := 0, slots := 0, locals := 97 } : Room) (va_Pc [.ref (q 0), .int a0] (preM dC dI q cI cJ cZ S sz)) (va_Qi Post (atM dC dI q cI cJ cZ (va_A (wM q cI cJ cZ S) sz)) (va_A (wM q cI cJ cZ S) sz)) 0 0 (va_A (wM q cI cJ cZ S) sz) := by
  refine oM (cc := cX12_brittleOf) (maxL := 4) (ret := (some .int)) (Qc := fun A => va_Qi Post (atM dC dI q cI cJ cZ A) A) (by decide) rfl (fun w h => List.mem_cons_of_mem _ (List.mem_append_right _ h)) rfl (Nat.le_of_ble_eq_true rfl) (fun p e s m below meth c A ls X hr hlocks hP hD hS hl => ?_)
  have hx := X.1
  have hb := X.2.1
  have hl : lv_has ls 4 [(0, .ref (q 0)), (1, .int a0)] := hl
  have lk32 := X.2.2.2.2.1 (.fieldLink RX12 32 "BreathOnLoanModel" "named" "[I") (inW 12 rfl)
  have lk7 := X.2.2.2.2.1 (.fieldLink RX12 7 "BreathOnLoanModel" "a" "[I") (inW 5 rfl)
  generalize hargs : ([.ref (q 0), .int a0] : List Value).toArray = args at X ⊢
  have h := h (fun hd S => match hd with | (.inl (x1, x2)) => ∀ (H : Heap) (locs : List Loc), va_P (dC, dI) vwCl (wM q cI cJ cZ S) H → va_D A (wM q cI cJ cZ S) → va_S A s.heap H locs → ∀ ls : Array Slot, lv_has ls 4 [(0, .ref (q 0)), (1, .int x1), (2, .int x2)] → W p l e (headSpec ww_brittleOf ({ frames := 4, cells := 0, slots := 0, locals := 97 } : Room)).room s m args below meth c H locs 0 0 (MQ below (va_Qi Post (atM dC dI q cI cJ cZ A) A) args s 0 0 A) (F0 m 43 ls []) | (.inr (x1, x2, x3)) => ∀ (H : Heap) (locs : List Loc), va_P (dC, dI) vwCl (wM q cI cJ cZ S) H → va_D A (wM q cI cJ cZ S) → va_S A s.heap H locs → ∀ ls : Array Slot, lv_has ls 4 [(0, .ref (q 0)), (1, .int x1), (2, .int x2), (3, .int x3)] → W p l e (headSpec ww_brittleOf ({ frames := 4, cells := 0, slots := 0, locals := 97 } : Room)).room s m args below meth c H locs 0 0 (MQ below (va_Qi Post (atM dC dI q cI cJ cZ A) A) args s 0 0 A) (F0 m 78 ls [])) ?_
  · skip
    refine lv_aload_n hx hb (dk DX12_brittleOf 0 rfl) rfl (lv_at hl 0 rfl) ?_
    refine gM X hP 22 (by decide) rfl lk32 (dk DX12_brittleOf 1 rfl) ?_
    refine lv_iconst (v := 0) hx hb (dk DX12_brittleOf 2 rfl) (by decide) ?_
    refine lv_aload_n hx hb (dk DX12_brittleOf 3 rfl) rfl (lv_at hl 0 rfl) ?_
    refine gM X hP 0 (by decide) rfl lk7 (dk DX12_brittleOf 4 rfl) ?_
    refine lv_iconst (v := 3) hx hb (dk DX12_brittleOf 5 rfl) (by decide) ?_
    obtain ⟨hin, h⟩ := h
    refine ldM X hP 1 rfl hin (dk DX12_brittleOf 6 rfl) ?_
    refine lv_topi (fun v1 ev1 => ?_)
    have h := h v1 ev1
    obtain ⟨hin, h⟩ := h
    refine stM_22 X hP hD hS hin (dk DX12_brittleOf 7 rfl) (fun S2 eS2 H locs hP hD hS => ?_)
    have h := h S2 eS2
    refine lv_aload_n hx hb (dk DX12_brittleOf 8 rfl) rfl (lv_at hl 0 rfl) ?_
    refine lv_aload_n hx hb (dk DX12_brittleOf 9 rfl) rfl (lv_at hl 0 rfl) ?_
    refine gM X hP 0 (by decide) rfl lk7 (dk DX12_brittleOf 10 rfl) ?_
    refine lv_iload_n hx hb (dk DX12_brittleOf 11 rfl) rfl (lv_at hl 1 rfl) ?_
    refine cSi (As := [.int a0]) (rest := [.ref (q 1), .ref (q 0)]) ⟨X.1, X.2.1, X.2.2.1, X.2.2.2.1, X.2.2.2.2.1⟩ (m_pieceAt (l := l) a0 h) (va_cwS 1 X.2.2.2.2.1 (gwS 40 41 24 38 rfl rfl rfl rfl) rfl rfl rfl q_pieceAt ⟨Nat.le_of_ble_eq_true rfl, Nat.le_of_ble_eq_true rfl⟩) rfl hl.1 rfl (Nat.le_of_ble_eq_true rfl) (dk DX12_brittleOf 12 rfl) (fun r3 h => ?_)
    obtain ⟨hin, h⟩ := h
    refine ldM X hP 1 rfl hin (dk DX12_brittleOf 13 rfl) ?_
    refine cMv (As := [.int ((S2.2.2.1 0) r3.toNatClampNeg)]) (rest := []) X (m_nameKind (l := l) (dC := dC) (dI := dI) (q := q) (cI := cI) (cJ := cJ) (cZ := cZ) (sz := _) ((S2.2.2.1 0) r3.toNatClampNeg) S2 h) (cwV 1 X.2.2.2.2.1 (gwV 237 238 239 24 236 rfl rfl rfl rfl rfl) rfl rfl rfl q_nameKind ⟨Nat.le_of_ble_eq_true rfl, Nat.le_of_ble_eq_true rfl⟩) hP hD hS rfl hl.1 rfl (Nat.le_of_ble_eq_true rfl) (dk DX12_brittleOf 14 rfl) (fun S4 H locs h hP hD hS => ?_)
    refine lv_aload_n hx hb (dk DX12_brittleOf 15 rfl) rfl (lv_at hl 0 rfl) ?_
    refine gM X hP 22 (by decide) rfl lk32 (dk DX12_brittleOf 16 rfl) ?_
    refine lv_bipush (v := 9) hx hb (dk DX12_brittleOf 17 rfl) (by decide) ?_
    refine lv_iconst (v := 0) hx hb (dk DX12_brittleOf 18 rfl) (by decide) ?_
    obtain ⟨hin, h⟩ := h
    refine stM_22 X hP hD hS hin (dk DX12_brittleOf 19 rfl) (fun S5 eS5 H locs hP hD hS => ?_)
    have h := h S5 eS5
    refine lv_aload_n hx hb (dk DX12_brittleOf 20 rfl) rfl (lv_at hl 0 rfl) ?_
    refine gM X hP 22 (by decide) rfl lk32 (dk DX12_brittleOf 21 rfl) ?_
    refine lv_bipush (v := 10) hx hb (dk DX12_brittleOf 22 rfl) (by decide) ?_
    refine lv_iconst (v := 0) hx hb (dk DX12_brittleOf 23 rfl) (by decide) ?_
    obtain ⟨hin, h⟩ := h
    refine stM_22 X hP hD hS hin (dk DX12_brittleOf 24 rfl) (fun S6 eS6 H locs hP hD hS => ?_)
    have h := h S6 eS6
    refine lv_iconst (v := 0) hx hb (dk DX12_brittleOf 25 rfl) (by decide) ?_
    refine lv_istore_n (lv' := [(2, .int 0), (0, .ref (q 0)), (1, .int a0)]) hx hb (dk DX12_brittleOf 26 rfl) rfl hl (by decide) rfl (fun ls hl => ?_)
    exact h _ _ hP hD hS ls (lv_sub hl [1, 2, 0] rfl)
  · rintro (⟨x1, x2⟩ | ⟨x1, x2, x3⟩) S hB
    · exact h_brittleOf_0 X hr hlocks (hK0 := fun _ _ _ h => h) (hK1 := fun _ _ _ _ h => h) x1 x2 S hB
    · exact h_brittleOf_1 X hr hlocks (hK0 := fun _ _ _ h => h) (hK1 := fun _ _ _ _ h => h) x1 x2 x3 S hB

def ww_smoke : List Cond := .code yX12_smoke cX12_smoke 2 (some .int) :: (WdM ++ wsX120)
theorem q_smoke : yX12_smoke.cls = RX12 ∧ yX12_smoke.cls ≠ "java/lang/invoke/MethodHandle" ∧ yX12_smoke.cls ≠ "java/lang/invoke/VarHandle" ∧ (parseMethodDescriptor yX12_smoke.desc).map (fun d => d.parameters.length) = some 1 := by decide +kernel
def VC_smoke (Post : Int32 → MS → Prop) (a0 : Int32) (S : MS) : Prop := VC_isHour (fun r1 => ((r1 = 0 → Post (-1) S) ∧ (¬ r1 = 0 → VC_smokeIn (fun r3 S2 => Post r3 S2) a0 S))) a0
set_option maxHeartbeats 4000000 in
set_option maxRecDepth 100000 in
theorem m_smoke {l : Launch} {dC : Nat → ClassId} {dI : Nat → Nat → Nat} {q : Nat → Nat} {cI cJ cZ : ClassId} {sz : Nat} {Post : Int32 → MS → Prop} (a0 : Int32) (S : MS) (h : VC_smoke Post a0 S) : Met l yX12_smoke ww_smoke ({ frames := 5, cells := 0, slots := 0, locals := 118 } : Room) (va_Pc [.ref (q 0), .int a0] (preM dC dI q cI cJ cZ S sz)) (va_Qi Post (atM dC dI q cI cJ cZ (va_A (wM q cI cJ cZ S) sz)) (va_A (wM q cI cJ cZ S) sz)) 0 0 (va_A (wM q cI cJ cZ S) sz) := by
  refine oM (cc := cX12_smoke) (maxL := 2) (ret := (some .int)) (Qc := fun A => va_Qi Post (atM dC dI q cI cJ cZ A) A) (by decide) rfl (fun w h => List.mem_cons_of_mem _ (List.mem_append_right _ h)) rfl (Nat.le_of_ble_eq_true rfl) (fun p e s m below meth c A ls X hr hlocks hP hD hS hl => ?_)
  have hx := X.1
  have hb := X.2.1
  have hl : lv_has ls 2 [(0, .ref (q 0)), (1, .int a0)] := hl
  dsimp only [VC_smoke] at h
  refine lv_iload_n hx hb (dk DX12_smoke 0 rfl) rfl (lv_at hl 1 rfl) ?_
  refine cSi (As := [.int a0]) (rest := []) ⟨X.1, X.2.1, X.2.2.1, X.2.2.2.1, X.2.2.2.2.1⟩ (m_isHour (l := l) a0 h) (va_cwS 1 X.2.2.2.2.1 (gwS 247 248 24 35 rfl rfl rfl rfl) rfl rfl rfl q_isHour ⟨Nat.le_of_ble_eq_true rfl, Nat.le_of_ble_eq_true rfl⟩) rfl hl.1 rfl (Nat.le_of_ble_eq_true rfl) (dk DX12_smoke 1 rfl) (fun r1 h => ?_)
  refine lv_if_eq (tgt := 15) hx hb (dk DX12_smoke 2 rfl) (by decide) (fun hc => ?_) (fun hc => ?_)
  · have h := h.1 hc
    refine lv_iconst (v := (-1)) hx hb (dk DX12_smoke 7 rfl) (by decide) ?_
    exact W.iret (v := (-1)) hx hb hr (fun t ht hW => ⟨⟨_, _, rfl, h, by rw [ht]; exact hP, va_K.moved hW.alike X.2.2.2.2.2.2.1, hD⟩, hS.F ht⟩) hS.2.2 (dk DX12_smoke 8 rfl)
  · have h := h.2 hc
    refine lv_aload_n hx hb (dk DX12_smoke 3 rfl) rfl (lv_at hl 0 rfl) ?_
    refine lv_iload_n hx hb (dk DX12_smoke 4 rfl) rfl (lv_at hl 1 rfl) ?_
    refine cMi (As := [.int a0]) (rest := []) X (m_smokeIn (l := l) (dC := dC) (dI := dI) (q := q) (cI := cI) (cJ := cJ) (cZ := cZ) (sz := _) a0 S h) (cwV 1 X.2.2.2.2.1 (gwV 249 250 251 24 230 rfl rfl rfl rfl rfl) rfl rfl rfl q_smokeIn ⟨Nat.le_of_ble_eq_true rfl, Nat.le_of_ble_eq_true rfl⟩) hP hD hS rfl hl.1 rfl (Nat.le_of_ble_eq_true rfl) (dk DX12_smoke 5 rfl) (fun r3 S2 H locs h hP hD hS => ?_)
    refine lv_goto (tgt := 16) hx hb (dk DX12_smoke 6 rfl) (by decide) ?_
    exact W.iret (v := r3) hx hb hr (fun t ht hW => ⟨⟨_, _, rfl, h, by rw [ht]; exact hP, va_K.moved hW.alike X.2.2.2.2.2.2.1, hD⟩, hS.F ht⟩) hS.2.2 (dk DX12_smoke 8 rfl)

def ww_cost : List Cond := .code yX12_cost cX12_cost 3 (some .int) :: (WdM ++ wsX120)
theorem q_cost : yX12_cost.cls = RX12 ∧ yX12_cost.cls ≠ "java/lang/invoke/MethodHandle" ∧ yX12_cost.cls ≠ "java/lang/invoke/VarHandle" ∧ (parseMethodDescriptor yX12_cost.desc).map (fun d => d.parameters.length) = some 2 := by decide +kernel
def VC_cost (Post : Int32 → MS → Prop) (a0 : Int32) (a1 : Int32) (S : MS) : Prop := VC_isBlower (fun r2 S1 => ((r2 = 0 → Post (-1) S1) ∧ (¬ r2 = 0 → VC_isHour (fun r3 => ((r3 = 0 → Post (-1) S1) ∧ (¬ r3 = 0 → VC_costOf (fun r5 S4 => Post r5 S4) a0 a1 S1))) a1))) a0 S
set_option maxHeartbeats 4000000 in
set_option maxRecDepth 100000 in
theorem m_cost {l : Launch} {dC : Nat → ClassId} {dI : Nat → Nat → Nat} {q : Nat → Nat} {cI cJ cZ : ClassId} {sz : Nat} {Post : Int32 → MS → Prop} (a0 : Int32) (a1 : Int32) (S : MS) (h : VC_cost Post a0 a1 S) : Met l yX12_cost ww_cost ({ frames := 5, cells := 0, slots := 0, locals := 119 } : Room) (va_Pc [.ref (q 0), .int a0, .int a1] (preM dC dI q cI cJ cZ S sz)) (va_Qi Post (atM dC dI q cI cJ cZ (va_A (wM q cI cJ cZ S) sz)) (va_A (wM q cI cJ cZ S) sz)) 0 0 (va_A (wM q cI cJ cZ S) sz) := by
  refine oM (cc := cX12_cost) (maxL := 3) (ret := (some .int)) (Qc := fun A => va_Qi Post (atM dC dI q cI cJ cZ A) A) (by decide) rfl (fun w h => List.mem_cons_of_mem _ (List.mem_append_right _ h)) rfl (Nat.le_of_ble_eq_true rfl) (fun p e s m below meth c A ls X hr hlocks hP hD hS hl => ?_)
  have hx := X.1
  have hb := X.2.1
  have hl : lv_has ls 3 [(0, .ref (q 0)), (1, .int a0), (2, .int a1)] := hl
  dsimp only [VC_cost] at h
  refine lv_aload_n hx hb (dk DX12_cost 0 rfl) rfl (lv_at hl 0 rfl) ?_
  refine lv_iload_n hx hb (dk DX12_cost 1 rfl) rfl (lv_at hl 1 rfl) ?_
  refine cMi (As := [.int a0]) (rest := []) X (m_isBlower (l := l) (dC := dC) (dI := dI) (q := q) (cI := cI) (cJ := cJ) (cZ := cZ) (sz := _) a0 S h) (cwV 1 X.2.2.2.2.1 (gwV 51 52 53 24 30 rfl rfl rfl rfl rfl) rfl rfl rfl q_isBlower ⟨Nat.le_of_ble_eq_true rfl, Nat.le_of_ble_eq_true rfl⟩) hP hD hS rfl hl.1 rfl (Nat.le_of_ble_eq_true rfl) (dk DX12_cost 2 rfl) (fun r2 S1 H locs h hP hD hS => ?_)
  refine lv_if_eq (tgt := 24) hx hb (dk DX12_cost 3 rfl) (by decide) (fun hc => ?_) (fun hc => ?_)
  · have h := h.1 hc
    refine lv_iconst (v := (-1)) hx hb (dk DX12_cost 12 rfl) (by decide) ?_
    exact W.iret (v := (-1)) hx hb hr (fun t ht hW => ⟨⟨_, _, rfl, h, by rw [ht]; exact hP, va_K.moved hW.alike X.2.2.2.2.2.2.1, hD⟩, hS.F ht⟩) hS.2.2 (dk DX12_cost 13 rfl)
  · have h := h.2 hc
    refine lv_iload_n hx hb (dk DX12_cost 4 rfl) rfl (lv_at hl 2 rfl) ?_
    refine cSi (As := [.int a1]) (rest := []) ⟨X.1, X.2.1, X.2.2.1, X.2.2.2.1, X.2.2.2.2.1⟩ (m_isHour (l := l) a1 h) (va_cwS 1 X.2.2.2.2.1 (gwS 247 248 24 35 rfl rfl rfl rfl) rfl rfl rfl q_isHour ⟨Nat.le_of_ble_eq_true rfl, Nat.le_of_ble_eq_true rfl⟩) rfl hl.1 rfl (Nat.le_of_ble_eq_true rfl) (dk DX12_cost 5 rfl) (fun r3 h => ?_)
    refine lv_if_eq (tgt := 24) hx hb (dk DX12_cost 6 rfl) (by decide) (fun hc => ?_) (fun hc => ?_)
    · have h := h.1 hc
      refine lv_iconst (v := (-1)) hx hb (dk DX12_cost 12 rfl) (by decide) ?_
      exact W.iret (v := (-1)) hx hb hr (fun t ht hW => ⟨⟨_, _, rfl, h, by rw [ht]; exact hP, va_K.moved hW.alike X.2.2.2.2.2.2.1, hD⟩, hS.F ht⟩) hS.2.2 (dk DX12_cost 13 rfl)
    · have h := h.2 hc
      refine lv_aload_n hx hb (dk DX12_cost 7 rfl) rfl (lv_at hl 0 rfl) ?_
      refine lv_iload_n hx hb (dk DX12_cost 8 rfl) rfl (lv_at hl 1 rfl) ?_
      refine lv_iload_n hx hb (dk DX12_cost 9 rfl) rfl (lv_at hl 2 rfl) ?_
      refine cMi (As := [.int a0, .int a1]) (rest := []) X (m_costOf (l := l) (dC := dC) (dI := dI) (q := q) (cI := cI) (cJ := cJ) (cZ := cZ) (sz := _) a0 a1 S1 h) (cwV 2 X.2.2.2.2.1 (gwV 253 254 255 24 235 rfl rfl rfl rfl rfl) rfl rfl rfl q_costOf ⟨Nat.le_of_ble_eq_true rfl, Nat.le_of_ble_eq_true rfl⟩) hP hD hS rfl hl.1 rfl (Nat.le_of_ble_eq_true rfl) (dk DX12_cost 10 rfl) (fun r5 S4 H locs h hP hD hS => ?_)
      refine lv_goto (tgt := 25) hx hb (dk DX12_cost 11 rfl) (by decide) ?_
      exact W.iret (v := r5) hx hb hr (fun t ht hW => ⟨⟨_, _, rfl, h, by rw [ht]; exact hP, va_K.moved hW.alike X.2.2.2.2.2.2.1, hD⟩, hS.F ht⟩) hS.2.2 (dk DX12_cost 13 rfl)

