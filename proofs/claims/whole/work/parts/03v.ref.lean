-- about
def ww_about : List Cond := .code yX12_about cX12_about 2 (some .int) :: (WdM ++ wsX120)
theorem q_about : yX12_about.cls = RX12 ∧ yX12_about.cls ≠ "java/lang/invoke/MethodHandle" ∧ yX12_about.cls ≠ "java/lang/invoke/VarHandle" ∧ (parseMethodDescriptor yX12_about.desc).map (fun d => d.parameters.length) = some 1 := by decide +kernel
def VC_about (Post : Int32 → MS → Prop) (a0 : Int32) (S : MS) : Prop := vp_in (1 : Int32) 3890 ∧ VC_isIn (fun r1 => ((r1 = 0 → vp_in (1 : Int32) 3890 ∧ VC_isIn (fun r2 => ((r2 = 0 → VC_isIn (fun r3 => ((r3 = 0 → ((¬ a0 = 9 → Post (-2) S) ∧ (a0 = 9 → Post (S.1 4) S))) ∧ (¬ r3 = 0 → vp_in a0 3890 ∧ Post ((S.2.2.1 0) a0.toNatClampNeg) S))) a0 0 8) ∧ (¬ r2 = 0 → vp_in (40 + (3 * (a0 - 20))) 3890 ∧ vp_in ((40 + (3 * (a0 - 20))) + 1) 3890 ∧ Post ((100 * ((S.2.2.1 0) (40 + (3 * (a0 - 20))).toNatClampNeg)) + ((S.2.2.1 0) ((40 + (3 * (a0 - 20))) + 1).toNatClampNeg)) S))) a0 20 (19 + ((S.2.2.1 0) (1 : Int32).toNatClampNeg))) ∧ (¬ r1 = 0 → vp_in ((40 + (3 * (a0 - 10))) + 2) 3890 ∧ Post ((S.2.2.1 0) ((40 + (3 * (a0 - 10))) + 2).toNatClampNeg) S))) a0 10 (9 + ((S.2.2.1 0) (1 : Int32).toNatClampNeg))
set_option maxHeartbeats 4000000 in
set_option maxRecDepth 100000 in
theorem m_about {l : Launch} {dC : Nat → ClassId} {dI : Nat → Nat → Nat} {q : Nat → Nat} {cI cJ cZ : ClassId} {sz : Nat} {Post : Int32 → MS → Prop} (a0 : Int32) (S : MS) (h : VC_about Post a0 S) : Met l yX12_about ww_about ({ frames := 1, cells := 0, slots := 0, locals := 22 } : Room) (va_Pc [.ref (q 0), .int a0] (preM dC dI q cI cJ cZ S sz)) (va_Qi Post (atM dC dI q cI cJ cZ (va_A (wM q cI cJ cZ S) sz)) (va_A (wM q cI cJ cZ S) sz)) 0 0 (va_A (wM q cI cJ cZ S) sz) := by
  refine oM (cc := cX12_about) (maxL := 2) (ret := (some .int)) (Qc := fun A => va_Qi Post (atM dC dI q cI cJ cZ A) A) (by decide) rfl (fun w h => List.mem_cons_of_mem _ (List.mem_append_right _ h)) rfl (Nat.le_of_ble_eq_true rfl) (fun p e s m below meth c A ls X hr hlocks hP hD hS hl => ?_)
  have hx := X.1
  have hb := X.2.1
  have hl : lv_has ls 2 [(0, .ref (q 0)), (1, .int a0)] := hl
  have lk7 := X.2.2.2.2.1 (.fieldLink RX12 7 "BreathOnLoanModel" "a" "[I") (inW 5 rfl)
  have lk86 := X.2.2.2.2.1 (.fieldLink RX12 86 "BreathOnLoanModel" "taped" "I") (inW 59 rfl)
  dsimp only [VC_about] at h
  refine lv_iload_n hx hb (dk DX12_about 0 rfl) rfl (lv_at hl 1 rfl) ?_
  refine lv_bipush (v := 10) hx hb (dk DX12_about 1 rfl) (by decide) ?_
  refine lv_bipush (v := 9) hx hb (dk DX12_about 2 rfl) (by decide) ?_
  refine lv_aload_n hx hb (dk DX12_about 3 rfl) rfl (lv_at hl 0 rfl) ?_
  refine gM X hP 0 (by decide) rfl lk7 (dk DX12_about 4 rfl) ?_
  refine lv_iconst (v := 1) hx hb (dk DX12_about 5 rfl) (by decide) ?_
  obtain ⟨hin, h⟩ := h
  refine ldM X hP 1 rfl hin (dk DX12_about 6 rfl) ?_
  refine lv_iadd hx hb (dk DX12_about 7 rfl) ?_
  refine cSi (As := [.int a0, .int 10, .int (9 + ((S.2.2.1 0) (1 : Int32).toNatClampNeg))]) (rest := []) ⟨X.1, X.2.1, X.2.2.1, X.2.2.2.1, X.2.2.2.2.1⟩ (m_isIn (l := l) a0 10 (9 + ((S.2.2.1 0) (1 : Int32).toNatClampNeg)) h) (va_cwS 3 X.2.2.2.2.1 (gwS 31 32 24 26 rfl rfl rfl rfl) rfl rfl rfl q_isIn ⟨Nat.le_of_ble_eq_true rfl, Nat.le_of_ble_eq_true rfl⟩) rfl hl.1 rfl (Nat.le_of_ble_eq_true rfl) (dk DX12_about 8 rfl) (fun r1 h => ?_)
  refine lv_if_eq (tgt := 35) hx hb (dk DX12_about 9 rfl) (by decide) (fun hc => ?_) (fun hc => ?_)
  · have h := h.1 hc
    refine lv_iload_n hx hb (dk DX12_about 23 rfl) rfl (lv_at hl 1 rfl) ?_
    refine lv_bipush (v := 20) hx hb (dk DX12_about 24 rfl) (by decide) ?_
    refine lv_bipush (v := 19) hx hb (dk DX12_about 25 rfl) (by decide) ?_
    refine lv_aload_n hx hb (dk DX12_about 26 rfl) rfl (lv_at hl 0 rfl) ?_
    refine gM X hP 0 (by decide) rfl lk7 (dk DX12_about 27 rfl) ?_
    refine lv_iconst (v := 1) hx hb (dk DX12_about 28 rfl) (by decide) ?_
    obtain ⟨hin, h⟩ := h
    refine ldM X hP 1 rfl hin (dk DX12_about 29 rfl) ?_
    refine lv_iadd hx hb (dk DX12_about 30 rfl) ?_
    refine cSi (As := [.int a0, .int 20, .int (19 + ((S.2.2.1 0) (1 : Int32).toNatClampNeg))]) (rest := []) ⟨X.1, X.2.1, X.2.2.1, X.2.2.2.1, X.2.2.2.2.1⟩ (m_isIn (l := l) a0 20 (19 + ((S.2.2.1 0) (1 : Int32).toNatClampNeg)) h) (va_cwS 3 X.2.2.2.2.1 (gwS 31 32 24 26 rfl rfl rfl rfl) rfl rfl rfl q_isIn ⟨Nat.le_of_ble_eq_true rfl, Nat.le_of_ble_eq_true rfl⟩) rfl hl.1 rfl (Nat.le_of_ble_eq_true rfl) (dk DX12_about 31 rfl) (fun r2 h => ?_)
    refine lv_if_eq (tgt := 88) hx hb (dk DX12_about 32 rfl) (by decide) (fun hc => ?_) (fun hc => ?_)
    · have h := h.1 hc
      refine lv_iload_n hx hb (dk DX12_about 59 rfl) rfl (lv_at hl 1 rfl) ?_
      refine lv_iconst (v := 0) hx hb (dk DX12_about 60 rfl) (by decide) ?_
      refine lv_bipush (v := 8) hx hb (dk DX12_about 61 rfl) (by decide) ?_
      refine cSi (As := [.int a0, .int 0, .int 8]) (rest := []) ⟨X.1, X.2.1, X.2.2.1, X.2.2.2.1, X.2.2.2.2.1⟩ (m_isIn (l := l) a0 0 8 h) (va_cwS 3 X.2.2.2.2.1 (gwS 31 32 24 26 rfl rfl rfl rfl) rfl rfl rfl q_isIn ⟨Nat.le_of_ble_eq_true rfl, Nat.le_of_ble_eq_true rfl⟩) rfl hl.1 rfl (Nat.le_of_ble_eq_true rfl) (dk DX12_about 62 rfl) (fun r3 h => ?_)
      refine lv_if_eq (tgt := 107) hx hb (dk DX12_about 63 rfl) (by decide) (fun hc => ?_) (fun hc => ?_)
      · have h := h.1 hc
        refine lv_iload_n hx hb (dk DX12_about 69 rfl) rfl (lv_at hl 1 rfl) ?_
        refine lv_bipush (v := 9) hx hb (dk DX12_about 70 rfl) (by decide) ?_
        refine lv_icmp_ne (tgt := 120) hx hb (dk DX12_about 71 rfl) (by decide) (fun hc => ?_) (fun hc => ?_)
        · have h := h.1 hc
          refine lv_bipush (v := (-2)) hx hb (dk DX12_about 75 rfl) (by decide) ?_
          exact W.iret (v := (-2)) hx hb hr (fun t ht hW => ⟨⟨_, _, rfl, h, by rw [ht]; exact hP, va_K.moved hW.alike X.2.2.2.2.2.2.1, hD⟩, hS.F ht⟩) hS.2.2 (dk DX12_about 76 rfl)
        · have h := h.2 hc
          refine lv_aload_n hx hb (dk DX12_about 72 rfl) rfl (lv_at hl 0 rfl) ?_
          refine gM X hP 4 (by decide) rfl lk86 (dk DX12_about 73 rfl) ?_
          refine lv_goto (tgt := 122) hx hb (dk DX12_about 74 rfl) (by decide) ?_
          exact W.iret (v := (S.1 4)) hx hb hr (fun t ht hW => ⟨⟨_, _, rfl, h, by rw [ht]; exact hP, va_K.moved hW.alike X.2.2.2.2.2.2.1, hD⟩, hS.F ht⟩) hS.2.2 (dk DX12_about 76 rfl)
      · have h := h.2 hc
        refine lv_aload_n hx hb (dk DX12_about 64 rfl) rfl (lv_at hl 0 rfl) ?_
        refine gM X hP 0 (by decide) rfl lk7 (dk DX12_about 65 rfl) ?_
        refine lv_iload_n hx hb (dk DX12_about 66 rfl) rfl (lv_at hl 1 rfl) ?_
        obtain ⟨hin, h⟩ := h
        refine ldM X hP 1 rfl hin (dk DX12_about 67 rfl) ?_
        refine lv_goto (tgt := 122) hx hb (dk DX12_about 68 rfl) (by decide) ?_
        exact W.iret (v := (S.2.2.1 0) a0.toNatClampNeg) hx hb hr (fun t ht hW => ⟨⟨_, _, rfl, h, by rw [ht]; exact hP, va_K.moved hW.alike X.2.2.2.2.2.2.1, hD⟩, hS.F ht⟩) hS.2.2 (dk DX12_about 76 rfl)
    · have h := h.2 hc
      refine lv_bipush (v := 100) hx hb (dk DX12_about 33 rfl) (by decide) ?_
      refine lv_aload_n hx hb (dk DX12_about 34 rfl) rfl (lv_at hl 0 rfl) ?_
      refine gM X hP 0 (by decide) rfl lk7 (dk DX12_about 35 rfl) ?_
      refine lv_bipush (v := 40) hx hb (dk DX12_about 36 rfl) (by decide) ?_
      refine lv_iconst (v := 3) hx hb (dk DX12_about 37 rfl) (by decide) ?_
      refine lv_iload_n hx hb (dk DX12_about 38 rfl) rfl (lv_at hl 1 rfl) ?_
      refine lv_bipush (v := 20) hx hb (dk DX12_about 39 rfl) (by decide) ?_
      refine lv_isub hx hb (dk DX12_about 40 rfl) ?_
      refine lv_imul hx hb (dk DX12_about 41 rfl) ?_
      refine lv_iadd hx hb (dk DX12_about 42 rfl) ?_
      obtain ⟨hin, h⟩ := h
      refine ldM X hP 1 rfl hin (dk DX12_about 43 rfl) ?_
      refine lv_imul hx hb (dk DX12_about 44 rfl) ?_
      refine lv_aload_n hx hb (dk DX12_about 45 rfl) rfl (lv_at hl 0 rfl) ?_
      refine gM X hP 0 (by decide) rfl lk7 (dk DX12_about 46 rfl) ?_
      refine lv_bipush (v := 40) hx hb (dk DX12_about 47 rfl) (by decide) ?_
      refine lv_iconst (v := 3) hx hb (dk DX12_about 48 rfl) (by decide) ?_
      refine lv_iload_n hx hb (dk DX12_about 49 rfl) rfl (lv_at hl 1 rfl) ?_
      refine lv_bipush (v := 20) hx hb (dk DX12_about 50 rfl) (by decide) ?_
      refine lv_isub hx hb (dk DX12_about 51 rfl) ?_
      refine lv_imul hx hb (dk DX12_about 52 rfl) ?_
      refine lv_iadd hx hb (dk DX12_about 53 rfl) ?_
      refine lv_iconst (v := 1) hx hb (dk DX12_about 54 rfl) (by decide) ?_
      refine lv_iadd hx hb (dk DX12_about 55 rfl) ?_
      obtain ⟨hin, h⟩ := h
      refine ldM X hP 1 rfl hin (dk DX12_about 56 rfl) ?_
      refine lv_iadd hx hb (dk DX12_about 57 rfl) ?_
      exact W.iret (v := (100 * ((S.2.2.1 0) (40 + (3 * (a0 - 20))).toNatClampNeg)) + ((S.2.2.1 0) ((40 + (3 * (a0 - 20))) + 1).toNatClampNeg)) hx hb hr (fun t ht hW => ⟨⟨_, _, rfl, h, by rw [ht]; exact hP, va_K.moved hW.alike X.2.2.2.2.2.2.1, hD⟩, hS.F ht⟩) hS.2.2 (dk DX12_about 58 rfl)
  · have h := h.2 hc
    refine lv_aload_n hx hb (dk DX12_about 10 rfl) rfl (lv_at hl 0 rfl) ?_
    refine gM X hP 0 (by decide) rfl lk7 (dk DX12_about 11 rfl) ?_
    refine lv_bipush (v := 40) hx hb (dk DX12_about 12 rfl) (by decide) ?_
    refine lv_iconst (v := 3) hx hb (dk DX12_about 13 rfl) (by decide) ?_
    refine lv_iload_n hx hb (dk DX12_about 14 rfl) rfl (lv_at hl 1 rfl) ?_
    refine lv_bipush (v := 10) hx hb (dk DX12_about 15 rfl) (by decide) ?_
    refine lv_isub hx hb (dk DX12_about 16 rfl) ?_
    refine lv_imul hx hb (dk DX12_about 17 rfl) ?_
    refine lv_iadd hx hb (dk DX12_about 18 rfl) ?_
    refine lv_iconst (v := 2) hx hb (dk DX12_about 19 rfl) (by decide) ?_
    refine lv_iadd hx hb (dk DX12_about 20 rfl) ?_
    obtain ⟨hin, h⟩ := h
    refine ldM X hP 1 rfl hin (dk DX12_about 21 rfl) ?_
    exact W.iret (v := (S.2.2.1 0) ((40 + (3 * (a0 - 10))) + 2).toNatClampNeg) hx hb hr (fun t ht hW => ⟨⟨_, _, rfl, h, by rw [ht]; exact hP, va_K.moved hW.alike X.2.2.2.2.2.2.1, hD⟩, hS.F ht⟩) hS.2.2 (dk DX12_about 22 rfl)

