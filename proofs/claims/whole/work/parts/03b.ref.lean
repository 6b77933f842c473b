-- kind four feed end byteAt isLetter isDigit
def ww_kind : List Cond := .code yX12_kind cX12_kind 5 (some .int) :: (WdM ++ wsX120)
theorem q_kind : yX12_kind.cls = RX12 ∧ yX12_kind.cls ≠ "java/lang/invoke/MethodHandle" ∧ yX12_kind.cls ≠ "java/lang/invoke/VarHandle" ∧ (parseMethodDescriptor yX12_kind.desc).map (fun d => d.parameters.length) = some 3 := by decide +kernel
def VC_kind (Post : Int32 → MS → Prop) (a0 : Int32) (a1 : Int32) (a2 : Int32) (S : MS) : Prop := VC_isIn (fun r1 => ((r1 = 0 → Post (-1) S) ∧ (¬ r1 = 0 → VC_isIn (fun r2 => ((r2 = 0 → Post (-1) S) ∧ (¬ r2 = 0 → VC_isIn (fun r3 => ((r3 = 0 → Post (-1) S) ∧ (¬ r3 = 0 → vp_in (1 : Int32) 3890 ∧ ((¬ ((S.2.2.1 0) (1 : Int32).toNatClampNeg) = 6 → vp_in (1 : Int32) 3890 ∧ ∀ v4 : Int32, v4 = 40 + (3 * ((S.2.2.1 0) (1 : Int32).toNatClampNeg)) → vp_in v4 3890 ∧ ∀ S5 : MS, S5 = sF S 0 (upd (S.2.2.1 0) v4.toNatClampNeg a0) → vp_in (v4 + 1) 3890 ∧ ∀ S6 : MS, S6 = sF S5 0 (upd (S5.2.2.1 0) (v4 + 1).toNatClampNeg a1) → vp_in (v4 + 2) 3890 ∧ ∀ S7 : MS, S7 = sF S6 0 (upd (S6.2.2.1 0) (v4 + 2).toNatClampNeg a2) → vp_in (1 : Int32) 3890 ∧ ∀ v8 : Int32, v8 = ((S7.2.2.1 0) (1 : Int32).toNatClampNeg) + 1 → vp_in (1 : Int32) 3890 ∧ ∀ S9 : MS, S9 = sF S7 0 (upd (S7.2.2.1 0) (1 : Int32).toNatClampNeg v8) → vp_in (1 : Int32) 3890 ∧ Post (((S9.2.2.1 0) (1 : Int32).toNatClampNeg) - 1) S9) ∧ (((S.2.2.1 0) (1 : Int32).toNatClampNeg) = 6 → Post (-1) S))))) a2 0 999))) a1 0 15))) a0 1 30
set_option maxHeartbeats 4000000 in
set_option maxRecDepth 100000 in
theorem m_kind {l : Launch} {dC : Nat → ClassId} {dI : Nat → Nat → Nat} {q : Nat → Nat} {cI cJ cZ : ClassId} {sz : Nat} {Post : Int32 → MS → Prop} (a0 : Int32) (a1 : Int32) (a2 : Int32) (S : MS) (h : VC_kind Post a0 a1 a2 S) : Met l yX12_kind ww_kind ({ frames := 1, cells := 0, slots := 0, locals := 22 } : Room) (va_Pc [.ref (q 0), .int a0, .int a1, .int a2] (preM dC dI q cI cJ cZ S sz)) (va_Qi Post (atM dC dI q cI cJ cZ (va_A (wM q cI cJ cZ S) sz)) (va_A (wM q cI cJ cZ S) sz)) 0 0 (va_A (wM q cI cJ cZ S) sz) := by
  refine oM (cc := cX12_kind) (maxL := 5) (ret := (some .int)) (Qc := fun A => va_Qi Post (atM dC dI q cI cJ cZ A) A) (by decide) rfl (fun w h => List.mem_cons_of_mem _ (List.mem_append_right _ h)) rfl (Nat.le_of_ble_eq_true rfl) (fun p e s m below meth c A ls X hr hlocks hP hD hS hl => ?_)
  have hx := X.1
  have hb := X.2.1
  have hl : lv_has ls 5 [(0, .ref (q 0)), (1, .int a0), (2, .int a1), (3, .int a2)] := hl
  have lk7 := X.2.2.2.2.1 (.fieldLink RX12 7 "BreathOnLoanModel" "a" "[I") (inW 5 rfl)
  dsimp only [VC_kind] at h
  refine lv_iload_n hx hb (dk DX12_kind 0 rfl) rfl (lv_at hl 1 rfl) ?_
  refine lv_iconst (v := 1) hx hb (dk DX12_kind 1 rfl) (by decide) ?_
  refine lv_bipush (v := 30) hx hb (dk DX12_kind 2 rfl) (by decide) ?_
  refine cSi (As := [.int a0, .int 1, .int 30]) (rest := []) ⟨X.1, X.2.1, X.2.2.1, X.2.2.2.1, X.2.2.2.2.1⟩ (m_isIn (l := l) a0 1 30 h) (va_cwS 3 X.2.2.2.2.1 (gwS 31 32 24 26 rfl rfl rfl rfl) rfl rfl rfl q_isIn ⟨Nat.le_of_ble_eq_true rfl, Nat.le_of_ble_eq_true rfl⟩) rfl hl.1 rfl (Nat.le_of_ble_eq_true rfl) (dk DX12_kind 3 rfl) (fun r1 h => ?_)
  refine lv_if_eq (tgt := 42) hx hb (dk DX12_kind 4 rfl) (by decide) (fun hc => ?_) (fun hc => ?_)
  · have h := h.1 hc
    refine lv_iconst (v := (-1)) hx hb (dk DX12_kind 21 rfl) (by decide) ?_
    exact W.iret (v := (-1)) hx hb hr (fun t ht hW => ⟨⟨_, _, rfl, h, by rw [ht]; exact hP, va_K.moved hW.alike X.2.2.2.2.2.2.1, hD⟩, hS.F ht⟩) hS.2.2 (dk DX12_kind 22 rfl)
  · have h := h.2 hc
    refine lv_iload_n hx hb (dk DX12_kind 5 rfl) rfl (lv_at hl 2 rfl) ?_
    refine lv_iconst (v := 0) hx hb (dk DX12_kind 6 rfl) (by decide) ?_
    refine lv_bipush (v := 15) hx hb (dk DX12_kind 7 rfl) (by decide) ?_
    refine cSi (As := [.int a1, .int 0, .int 15]) (rest := []) ⟨X.1, X.2.1, X.2.2.1, X.2.2.2.1, X.2.2.2.2.1⟩ (m_isIn (l := l) a1 0 15 h) (va_cwS 3 X.2.2.2.2.1 (gwS 31 32 24 26 rfl rfl rfl rfl) rfl rfl rfl q_isIn ⟨Nat.le_of_ble_eq_true rfl, Nat.le_of_ble_eq_true rfl⟩) rfl hl.1 rfl (Nat.le_of_ble_eq_true rfl) (dk DX12_kind 8 rfl) (fun r2 h => ?_)
    refine lv_if_eq (tgt := 42) hx hb (dk DX12_kind 9 rfl) (by decide) (fun hc => ?_) (fun hc => ?_)
    · have h := h.1 hc
      refine lv_iconst (v := (-1)) hx hb (dk DX12_kind 21 rfl) (by decide) ?_
      exact W.iret (v := (-1)) hx hb hr (fun t ht hW => ⟨⟨_, _, rfl, h, by rw [ht]; exact hP, va_K.moved hW.alike X.2.2.2.2.2.2.1, hD⟩, hS.F ht⟩) hS.2.2 (dk DX12_kind 22 rfl)
    · have h := h.2 hc
      refine lv_iload_n hx hb (dk DX12_kind 10 rfl) rfl (lv_at hl 3 rfl) ?_
      refine lv_iconst (v := 0) hx hb (dk DX12_kind 11 rfl) (by decide) ?_
      refine lv_sipush (v := 999) hx hb (dk DX12_kind 12 rfl) (by decide) ?_
      refine cSi (As := [.int a2, .int 0, .int 999]) (rest := []) ⟨X.1, X.2.1, X.2.2.1, X.2.2.2.1, X.2.2.2.2.1⟩ (m_isIn (l := l) a2 0 999 h) (va_cwS 3 X.2.2.2.2.1 (gwS 31 32 24 26 rfl rfl rfl rfl) rfl rfl rfl q_isIn ⟨Nat.le_of_ble_eq_true rfl, Nat.le_of_ble_eq_true rfl⟩) rfl hl.1 rfl (Nat.le_of_ble_eq_true rfl) (dk DX12_kind 13 rfl) (fun r3 h => ?_)
      refine lv_if_eq (tgt := 42) hx hb (dk DX12_kind 14 rfl) (by decide) (fun hc => ?_) (fun hc => ?_)
      · have h := h.1 hc
        refine lv_iconst (v := (-1)) hx hb (dk DX12_kind 21 rfl) (by decide) ?_
        exact W.iret (v := (-1)) hx hb hr (fun t ht hW => ⟨⟨_, _, rfl, h, by rw [ht]; exact hP, va_K.moved hW.alike X.2.2.2.2.2.2.1, hD⟩, hS.F ht⟩) hS.2.2 (dk DX12_kind 22 rfl)
      · have h := h.2 hc
        refine lv_aload_n hx hb (dk DX12_kind 15 rfl) rfl (lv_at hl 0 rfl) ?_
        refine gM X hP 0 (by decide) rfl lk7 (dk DX12_kind 16 rfl) ?_
        refine lv_iconst (v := 1) hx hb (dk DX12_kind 17 rfl) (by decide) ?_
        obtain ⟨hin, h⟩ := h
        refine ldM X hP 1 rfl hin (dk DX12_kind 18 rfl) ?_
        refine lv_bipush (v := 6) hx hb (dk DX12_kind 19 rfl) (by decide) ?_
        refine lv_icmp_ne (tgt := 44) hx hb (dk DX12_kind 20 rfl) (by decide) (fun hc => ?_) (fun hc => ?_)
        · have h := h.1 hc
          refine lv_bipush (v := 40) hx hb (dk DX12_kind 23 rfl) (by decide) ?_
          refine lv_iconst (v := 3) hx hb (dk DX12_kind 24 rfl) (by decide) ?_
          refine lv_aload_n hx hb (dk DX12_kind 25 rfl) rfl (lv_at hl 0 rfl) ?_
          refine gM X hP 0 (by decide) rfl lk7 (dk DX12_kind 26 rfl) ?_
          refine lv_iconst (v := 1) hx hb (dk DX12_kind 27 rfl) (by decide) ?_
          obtain ⟨hin, h⟩ := h
          refine ldM X hP 1 rfl hin (dk DX12_kind 28 rfl) ?_
          refine lv_imul hx hb (dk DX12_kind 29 rfl) ?_
          refine lv_iadd hx hb (dk DX12_kind 30 rfl) ?_
          refine lv_topi (fun v4 ev4 => ?_)
          have h := h v4 ev4
          refine lv_istore (lv' := [(4, .int v4), (0, .ref (q 0)), (1, .int a0), (2, .int a1), (3, .int a2)]) hx hb (dk DX12_kind 31 rfl) hl (by decide) rfl (fun ls hl => ?_)
          refine lv_aload_n hx hb (dk DX12_kind 32 rfl) rfl (lv_at hl 1 rfl) ?_
          refine gM X hP 0 (by decide) rfl lk7 (dk DX12_kind 33 rfl) ?_
          refine lv_iload hx hb (dk DX12_kind 34 rfl) (lv_at hl 0 rfl) ?_
          refine lv_iload_n hx hb (dk DX12_kind 35 rfl) rfl (lv_at hl 2 rfl) ?_
          obtain ⟨hin, h⟩ := h
          refine stM_0 X hP hD hS hin (dk DX12_kind 36 rfl) (fun S5 eS5 H locs hP hD hS => ?_)
          have h := h S5 eS5
          refine lv_aload_n hx hb (dk DX12_kind 37 rfl) rfl (lv_at hl 1 rfl) ?_
          refine gM X hP 0 (by decide) rfl lk7 (dk DX12_kind 38 rfl) ?_
          refine lv_iload hx hb (dk DX12_kind 39 rfl) (lv_at hl 0 rfl) ?_
          refine lv_iconst (v := 1) hx hb (dk DX12_kind 40 rfl) (by decide) ?_
          refine lv_iadd hx hb (dk DX12_kind 41 rfl) ?_
          refine lv_iload_n hx hb (dk DX12_kind 42 rfl) rfl (lv_at hl 3 rfl) ?_
          obtain ⟨hin, h⟩ := h
          refine stM_0 X hP hD hS hin (dk DX12_kind 43 rfl) (fun S6 eS6 H locs hP hD hS => ?_)
          have h := h S6 eS6
          refine lv_aload_n hx hb (dk DX12_kind 44 rfl) rfl (lv_at hl 1 rfl) ?_
          refine gM X hP 0 (by decide) rfl lk7 (dk DX12_kind 45 rfl) ?_
          refine lv_iload hx hb (dk DX12_kind 46 rfl) (lv_at hl 0 rfl) ?_
          refine lv_iconst (v := 2) hx hb (dk DX12_kind 47 rfl) (by decide) ?_
          refine lv_iadd hx hb (dk DX12_kind 48 rfl) ?_
          refine lv_iload_n hx hb (dk DX12_kind 49 rfl) rfl (lv_at hl 4 rfl) ?_
          obtain ⟨hin, h⟩ := h
          refine stM_0 X hP hD hS hin (dk DX12_kind 50 rfl) (fun S7 eS7 H locs hP hD hS => ?_)
          have h := h S7 eS7
          refine lv_aload_n hx hb (dk DX12_kind 51 rfl) rfl (lv_at hl 1 rfl) ?_
          refine gM X hP 0 (by decide) rfl lk7 (dk DX12_kind 52 rfl) ?_
          refine lv_iconst (v := 1) hx hb (dk DX12_kind 53 rfl) (by decide) ?_
          refine lv_dup2_11 hx hb (dk DX12_kind 54 rfl) rfl rfl ?_
          obtain ⟨hin, h⟩ := h
          refine ldM X hP 1 rfl hin (dk DX12_kind 55 rfl) ?_
          refine lv_iconst (v := 1) hx hb (dk DX12_kind 56 rfl) (by decide) ?_
          refine lv_iadd hx hb (dk DX12_kind 57 rfl) ?_
          refine lv_topi (fun v8 ev8 => ?_)
          have h := h v8 ev8
          obtain ⟨hin, h⟩ := h
          refine stM_0 X hP hD hS hin (dk DX12_kind 58 rfl) (fun S9 eS9 H locs hP hD hS => ?_)
          have h := h S9 eS9
          refine lv_aload_n hx hb (dk DX12_kind 59 rfl) rfl (lv_at hl 1 rfl) ?_
          refine gM X hP 0 (by decide) rfl lk7 (dk DX12_kind 60 rfl) ?_
          refine lv_iconst (v := 1) hx hb (dk DX12_kind 61 rfl) (by decide) ?_
          obtain ⟨hin, h⟩ := h
          refine ldM X hP 1 rfl hin (dk DX12_kind 62 rfl) ?_
          refine lv_iconst (v := 1) hx hb (dk DX12_kind 63 rfl) (by decide) ?_
          refine lv_isub hx hb (dk DX12_kind 64 rfl) ?_
          exact W.iret (v := ((S9.2.2.1 0) (1 : Int32).toNatClampNeg) - 1) hx hb hr (fun t ht hW => ⟨⟨_, _, rfl, h, by rw [ht]; exact hP, va_K.moved hW.alike X.2.2.2.2.2.2.1, hD⟩, hS.F ht⟩) hS.2.2 (dk DX12_kind 65 rfl)
        · have h := h.2 hc
          refine lv_iconst (v := (-1)) hx hb (dk DX12_kind 21 rfl) (by decide) ?_
          exact W.iret (v := (-1)) hx hb hr (fun t ht hW => ⟨⟨_, _, rfl, h, by rw [ht]; exact hP, va_K.moved hW.alike X.2.2.2.2.2.2.1, hD⟩, hS.F ht⟩) hS.2.2 (dk DX12_kind 22 rfl)

def ww_four : List Cond := .code yX12_four cX12_four 3 none :: (WdM ++ wsX120)
theorem q_four : yX12_four.cls = RX12 ∧ yX12_four.cls ≠ "java/lang/invoke/MethodHandle" ∧ yX12_four.cls ≠ "java/lang/invoke/VarHandle" ∧ (parseMethodDescriptor yX12_four.desc).map (fun d => d.parameters.length) = some 1 := by decide +kernel
abbrev Hd_four : Type := (Int32 × Int32)
def B_four (Post : MS → Prop) (K : Hd_four → MS → Prop) : Hd_four → MS → Prop
  | (x1, x2), S => ((x2 < 0 → Post S) ∧ (¬ x2 < 0 → ∀ v1 : Int32, v1 = (x1 >>> (x2 &&& 31)) &&& 255 → vp_in (S.1 4) 300 ∧ ∀ S2 : MS, S2 = sF S 3 (upd (S.2.2.1 3) (S.1 4).toNatClampNeg v1) → ∀ v3 : Int32, v3 = (S2.1 4) + 1 → ∀ S4 : MS, S4 = sI S2 4 v3 → ∀ v5 : Int32, v5 = x2 + (-8) → K (x1, v5) S4))
def VC_four (Post : MS → Prop) (a0 : Int32) (S : MS) : Prop := ∀ K : Hd_four → MS → Prop, (∀ h S, B_four Post K h S → K h S) → K (a0, 24) S
set_option maxHeartbeats 4000000 in
set_option maxRecDepth 100000 in
theorem h_four_0 {p : Program} {l : Launch} {e : Env} {s : State} {m : MethodId} {below : List Frame} {meth : Method} {c : Code} {dC : Nat → ClassId} {dI : Nat → Nat → Nat} {q : Nat → Nat} {cI cJ cZ : ClassId} {A : Nat → Prop} {args : Array Value} {Post : MS → Prop} {K : Hd_four → MS → Prop} (X : XM p s m args c cX12_four 3 ww_four dC dI cI cJ cZ A) (hr : meth.sig.returnType = none) (hlocks : meth.locks = false) (hK0 : ∀ (x1 : Int32) (x2 : Int32) (S : MS), K (x1, x2) S → ∀ (H : Heap) (locs : List Loc), va_P (dC, dI) vwCl (wM q cI cJ cZ S) H → va_D A (wM q cI cJ cZ S) → va_S A s.heap H locs → ∀ ls : Array Slot, lv_has ls 3 [(0, .ref (q 0)), (1, .int x1), (2, .int x2)] → W p l e (headSpec ww_four ({ frames := 0, cells := 0, slots := 0, locals := 0 } : Room)).room s m args below meth c H locs 0 0 (MQ below (va_Qv Post (atM dC dI q cI cJ cZ A) A) args s 0 0 A) (F0 m 3 ls [])) (x1 : Int32) (x2 : Int32) (S : MS) (h : B_four Post K (x1, x2) S) : ∀ (H : Heap) (locs : List Loc), va_P (dC, dI) vwCl (wM q cI cJ cZ S) H → va_D A (wM q cI cJ cZ S) → va_S A s.heap H locs → ∀ ls : Array Slot, lv_has ls 3 [(0, .ref (q 0)), (1, .int x1), (2, .int x2)] → W p l e (headSpec ww_four ({ frames := 0, cells := 0, slots := 0, locals := 0 } : Room)).room s m args below meth c H locs 0 0 (MQ below (va_Qv Post (atM dC dI q cI cJ cZ A) A) args s 0 0 A) (F0 m 3 ls []) := by
  have hx := X.1
  have hb := X.2.1
  intro H locs hP hD hS ls hl
  have lk19 := X.2.2.2.2.1 (.fieldLink RX12 19 "BreathOnLoanModel" "tape" "[I") (inW 8 rfl)
  have lk86 := X.2.2.2.2.1 (.fieldLink RX12 86 "BreathOnLoanModel" "taped" "I") (inW 59 rfl)
  dsimp only [B_four] at h
  refine lv_iload_n hx hb (dk DX12_four 2 rfl) rfl (lv_at hl 2 rfl) ?_
  refine lv_if_lt (tgt := 39) hx hb (dk DX12_four 3 rfl) (by decide) (fun hc => ?_) (fun hc => ?_)
  · have h := h.1 hc
    exact W.vret hx hb hr (fun t ht hW => ⟨⟨_, rfl, h, by rw [ht]; exact hP, va_K.moved hW.alike X.2.2.2.2.2.2.1, hD⟩, hS.F ht⟩) hS.2.2 (dk DX12_four 22 rfl)
  · have h := h.2 hc
    refine lv_aload_n hx hb (dk DX12_four 4 rfl) rfl (lv_at hl 0 rfl) ?_
    refine gM X hP 3 (by decide) rfl lk19 (dk DX12_four 5 rfl) ?_
    refine lv_aload_n hx hb (dk DX12_four 6 rfl) rfl (lv_at hl 0 rfl) ?_
    refine gM X hP 4 (by decide) rfl lk86 (dk DX12_four 7 rfl) ?_
    refine lv_iload_n hx hb (dk DX12_four 8 rfl) rfl (lv_at hl 1 rfl) ?_
    refine lv_iload_n hx hb (dk DX12_four 9 rfl) rfl (lv_at hl 2 rfl) ?_
    refine lv_ishr hx hb (dk DX12_four 10 rfl) ?_
    refine lv_sipush (v := 255) hx hb (dk DX12_four 11 rfl) (by decide) ?_
    refine lv_iand hx hb (dk DX12_four 12 rfl) ?_
    refine lv_topi (fun v1 ev1 => ?_)
    have h := h v1 ev1
    obtain ⟨hin, h⟩ := h
    refine stM_3 X hP hD hS hin (dk DX12_four 13 rfl) (fun S2 eS2 H locs hP hD hS => ?_)
    have h := h S2 eS2
    refine lv_aload_n hx hb (dk DX12_four 14 rfl) rfl (lv_at hl 0 rfl) ?_
    refine lv_dup hx hb (dk DX12_four 15 rfl) rfl ?_
    refine gM X hP 4 (by decide) rfl lk86 (dk DX12_four 16 rfl) ?_
    refine lv_iconst (v := 1) hx hb (dk DX12_four 17 rfl) (by decide) ?_
    refine lv_iadd hx hb (dk DX12_four 18 rfl) ?_
    refine lv_topi (fun v3 ev3 => ?_)
    have h := h v3 ev3
    refine pM_4 X hP hD hS lk86 (dk DX12_four 19 rfl) (fun S4 eS4 H locs hP hD hS => ?_)
    have h := h S4 eS4
    obtain ⟨v5, ev5⟩ : ∃ y : Int32, y = x2 + (-8) := ⟨_, rfl⟩
    have h := h v5 ev5
    refine lv_iinc (v := v5) (lv' := [(2, .int v5), (0, .ref (q 0)), (1, .int x1)]) hx hb (dk DX12_four 20 rfl) hl (k := 2) rfl (by rw [ev5]; rfl) (by decide) rfl (fun ls hl => ?_)
    refine lv_goto (tgt := 3) hx hb (dk DX12_four 21 rfl) (by decide) ?_
    exact hK0 x1 v5 S4 h _ _ hP hD hS ls (lv_sub hl [1, 2, 0] rfl)
set_option maxHeartbeats 4000000 in
set_option maxRecDepth 100000 in
theorem m_four {l : Launch} {dC : Nat → ClassId} {dI : Nat → Nat → Nat} {q : Nat → Nat} {cI cJ cZ : ClassId} {sz : Nat} {Post : MS → Prop} (a0 : Int32) (S : MS) (h : VC_four Post a0 S) : Met l yX12_four ww_four ({ frames := 0, cells := 0, slots := 0, locals := 0 } : Room) (va_Pc [.ref (q 0), .int a0] (preM dC dI q cI cJ cZ S sz)) (va_Qv Post (atM dC dI q cI cJ cZ (va_A (wM q cI cJ cZ S) sz)) (va_A (wM q cI cJ cZ S) sz)) 0 0 (va_A (wM q cI cJ cZ S) sz) := by
  refine oM (cc := cX12_four) (maxL := 3) (ret := none) (Qc := fun A => va_Qv Post (atM dC dI q cI cJ cZ A) A) (by decide) rfl (fun w h => List.mem_cons_of_mem _ (List.mem_append_right _ h)) rfl (Nat.le_of_ble_eq_true rfl) (fun p e s m below meth c A ls X hr hlocks hP hD hS hl => ?_)
  have hx := X.1
  have hb := X.2.1
  have hl : lv_has ls 3 [(0, .ref (q 0)), (1, .int a0)] := hl
  have lk19 := X.2.2.2.2.1 (.fieldLink RX12 19 "BreathOnLoanModel" "tape" "[I") (inW 8 rfl)
  have lk86 := X.2.2.2.2.1 (.fieldLink RX12 86 "BreathOnLoanModel" "taped" "I") (inW 59 rfl)
  generalize hargs : ([.ref (q 0), .int a0] : List Value).toArray = args at X ⊢
  have h := h (fun hd S => match hd with | (x1, x2) => ∀ (H : Heap) (locs : List Loc), va_P (dC, dI) vwCl (wM q cI cJ cZ S) H → va_D A (wM q cI cJ cZ S) → va_S A s.heap H locs → ∀ ls : Array Slot, lv_has ls 3 [(0, .ref (q 0)), (1, .int x1), (2, .int x2)] → W p l e (headSpec ww_four ({ frames := 0, cells := 0, slots := 0, locals := 0 } : Room)).room s m args below meth c H locs 0 0 (MQ below (va_Qv Post (atM dC dI q cI cJ cZ A) A) args s 0 0 A) (F0 m 3 ls [])) ?_
  · skip
    refine lv_bipush (v := 24) hx hb (dk DX12_four 0 rfl) (by decide) ?_
    refine lv_istore_n (lv' := [(2, .int 24), (0, .ref (q 0)), (1, .int a0)]) hx hb (dk DX12_four 1 rfl) rfl hl (by decide) rfl (fun ls hl => ?_)
    exact h _ _ hP hD hS ls (lv_sub hl [1, 2, 0] rfl)
  · rintro ⟨x1, x2⟩ S hB
    exact h_four_0 X hr hlocks (hK0 := fun _ _ _ h => h) x1 x2 S hB

def ww_feed : List Cond := .code yX12_feed cX12_feed 6 (some .int) :: (WdM ++ wsX120)
theorem q_feed : yX12_feed.cls = RX12 ∧ yX12_feed.cls ≠ "java/lang/invoke/MethodHandle" ∧ yX12_feed.cls ≠ "java/lang/invoke/VarHandle" ∧ (parseMethodDescriptor yX12_feed.desc).map (fun d => d.parameters.length) = some 5 := by decide +kernel
def VC_feed (Post : Int32 → MS → Prop) (a0 : Int32) (a1 : Int32) (a2 : Int32) (a3 : Int32) (a4 : Int32) (S : MS) : Prop := ((((S.1 4) + 20) ≤ 300 → VC_four (fun S1 => VC_four (fun S2 => VC_four (fun S3 => VC_four (fun S4 => VC_four (fun S5 => Post (S5.1 4) S5) a4 S4) a3 S3) a2 S2) a1 S1) a0 S) ∧ (¬ ((S.1 4) + 20) ≤ 300 → Post (-1) S))
set_option maxHeartbeats 4000000 in
set_option maxRecDepth 100000 in
theorem m_feed {l : Launch} {dC : Nat → ClassId} {dI : Nat → Nat → Nat} {q : Nat → Nat} {cI cJ cZ : ClassId} {sz : Nat} {Post : Int32 → MS → Prop} (a0 : Int32) (a1 : Int32) (a2 : Int32) (a3 : Int32) (a4 : Int32) (S : MS) (h : VC_feed Post a0 a1 a2 a3 a4 S) : Met l yX12_feed ww_feed ({ frames := 1, cells := 0, slots := 0, locals := 22 } : Room) (va_Pc [.ref (q 0), .int a0, .int a1, .int a2, .int a3, .int a4] (preM dC dI q cI cJ cZ S sz)) (va_Qi Post (atM dC dI q cI cJ cZ (va_A (wM q cI cJ cZ S) sz)) (va_A (wM q cI cJ cZ S) sz)) 0 0 (va_A (wM q cI cJ cZ S) sz) := by
  refine oM (cc := cX12_feed) (maxL := 6) (ret := (some .int)) (Qc := fun A => va_Qi Post (atM dC dI q cI cJ cZ A) A) (by decide) rfl (fun w h => List.mem_cons_of_mem _ (List.mem_append_right _ h)) rfl (Nat.le_of_ble_eq_true rfl) (fun p e s m below meth c A ls X hr hlocks hP hD hS hl => ?_)
  have hx := X.1
  have hb := X.2.1
  have hl : lv_has ls 6 [(0, .ref (q 0)), (1, .int a0), (2, .int a1), (3, .int a2), (4, .int a3), (5, .int a4)] := hl
  have lk86 := X.2.2.2.2.1 (.fieldLink RX12 86 "BreathOnLoanModel" "taped" "I") (inW 59 rfl)
  dsimp only [VC_feed] at h
  refine lv_aload_n hx hb (dk DX12_feed 0 rfl) rfl (lv_at hl 0 rfl) ?_
  refine gM X hP 4 (by decide) rfl lk86 (dk DX12_feed 1 rfl) ?_
  refine lv_bipush (v := 20) hx hb (dk DX12_feed 2 rfl) (by decide) ?_
  refine lv_iadd hx hb (dk DX12_feed 3 rfl) ?_
  refine lv_sipush (v := 300) hx hb (dk DX12_feed 4 rfl) (by decide) ?_
  refine lv_icmp_le (tgt := 15) hx hb (dk DX12_feed 5 rfl) (by decide) (fun hc => ?_) (fun hc => ?_)
  · have h := h.1 hc
    refine lv_aload_n hx hb (dk DX12_feed 8 rfl) rfl (lv_at hl 0 rfl) ?_
    refine lv_iload_n hx hb (dk DX12_feed 9 rfl) rfl (lv_at hl 1 rfl) ?_
    refine cMv (As := [.int a0]) (rest := []) X (m_four (l := l) (dC := dC) (dI := dI) (q := q) (cI := cI) (cJ := cJ) (cZ := cZ) (sz := _) a0 S h) (cwV 1 X.2.2.2.2.1 (gwV 61 62 63 24 58 rfl rfl rfl rfl rfl) rfl rfl rfl q_four ⟨Nat.le_of_ble_eq_true rfl, Nat.le_of_ble_eq_true rfl⟩) hP hD hS rfl hl.1 rfl (Nat.le_of_ble_eq_true rfl) (dk DX12_feed 10 rfl) (fun S1 H locs h hP hD hS => ?_)
    refine lv_aload_n hx hb (dk DX12_feed 11 rfl) rfl (lv_at hl 0 rfl) ?_
    refine lv_iload_n hx hb (dk DX12_feed 12 rfl) rfl (lv_at hl 2 rfl) ?_
    refine cMv (As := [.int a1]) (rest := []) X (m_four (l := l) (dC := dC) (dI := dI) (q := q) (cI := cI) (cJ := cJ) (cZ := cZ) (sz := _) a1 S1 h) (cwV 1 X.2.2.2.2.1 (gwV 61 62 63 24 58 rfl rfl rfl rfl rfl) rfl rfl rfl q_four ⟨Nat.le_of_ble_eq_true rfl, Nat.le_of_ble_eq_true rfl⟩) hP hD hS rfl hl.1 rfl (Nat.le_of_ble_eq_true rfl) (dk DX12_feed 13 rfl) (fun S2 H locs h hP hD hS => ?_)
    refine lv_aload_n hx hb (dk DX12_feed 14 rfl) rfl (lv_at hl 0 rfl) ?_
    refine lv_iload_n hx hb (dk DX12_feed 15 rfl) rfl (lv_at hl 3 rfl) ?_
    refine cMv (As := [.int a2]) (rest := []) X (m_four (l := l) (dC := dC) (dI := dI) (q := q) (cI := cI) (cJ := cJ) (cZ := cZ) (sz := _) a2 S2 h) (cwV 1 X.2.2.2.2.1 (gwV 61 62 63 24 58 rfl rfl rfl rfl rfl) rfl rfl rfl q_four ⟨Nat.le_of_ble_eq_true rfl, Nat.le_of_ble_eq_true rfl⟩) hP hD hS rfl hl.1 rfl (Nat.le_of_ble_eq_true rfl) (dk DX12_feed 16 rfl) (fun S3 H locs h hP hD hS => ?_)
    refine lv_aload_n hx hb (dk DX12_feed 17 rfl) rfl (lv_at hl 0 rfl) ?_
    refine lv_iload hx hb (dk DX12_feed 18 rfl) (lv_at hl 4 rfl) ?_
    refine cMv (As := [.int a3]) (rest := []) X (m_four (l := l) (dC := dC) (dI := dI) (q := q) (cI := cI) (cJ := cJ) (cZ := cZ) (sz := _) a3 S3 h) (cwV 1 X.2.2.2.2.1 (gwV 61 62 63 24 58 rfl rfl rfl rfl rfl) rfl rfl rfl q_four ⟨Nat.le_of_ble_eq_true rfl, Nat.le_of_ble_eq_true rfl⟩) hP hD hS rfl hl.1 rfl (Nat.le_of_ble_eq_true rfl) (dk DX12_feed 19 rfl) (fun S4 H locs h hP hD hS => ?_)
    refine lv_aload_n hx hb (dk DX12_feed 20 rfl) rfl (lv_at hl 0 rfl) ?_
    refine lv_iload hx hb (dk DX12_feed 21 rfl) (lv_at hl 5 rfl) ?_
    refine cMv (As := [.int a4]) (rest := []) X (m_four (l := l) (dC := dC) (dI := dI) (q := q) (cI := cI) (cJ := cJ) (cZ := cZ) (sz := _) a4 S4 h) (cwV 1 X.2.2.2.2.1 (gwV 61 62 63 24 58 rfl rfl rfl rfl rfl) rfl rfl rfl q_four ⟨Nat.le_of_ble_eq_true rfl, Nat.le_of_ble_eq_true rfl⟩) hP hD hS rfl hl.1 rfl (Nat.le_of_ble_eq_true rfl) (dk DX12_feed 22 rfl) (fun S5 H locs h hP hD hS => ?_)
    refine lv_aload_n hx hb (dk DX12_feed 23 rfl) rfl (lv_at hl 0 rfl) ?_
    refine gM X hP 4 (by decide) rfl lk86 (dk DX12_feed 24 rfl) ?_
    exact W.iret (v := (S5.1 4)) hx hb hr (fun t ht hW => ⟨⟨_, _, rfl, h, by rw [ht]; exact hP, va_K.moved hW.alike X.2.2.2.2.2.2.1, hD⟩, hS.F ht⟩) hS.2.2 (dk DX12_feed 25 rfl)
  · have h := h.2 hc
    refine lv_iconst (v := (-1)) hx hb (dk DX12_feed 6 rfl) (by decide) ?_
    exact W.iret (v := (-1)) hx hb hr (fun t ht hW => ⟨⟨_, _, rfl, h, by rw [ht]; exact hP, va_K.moved hW.alike X.2.2.2.2.2.2.1, hD⟩, hS.F ht⟩) hS.2.2 (dk DX12_feed 7 rfl)

def ww_end : List Cond := .code yX12_end cX12_end 2 (some .int) :: (WdM ++ wsX120)
theorem q_end : yX12_end.cls = RX12 ∧ yX12_end.cls ≠ "java/lang/invoke/MethodHandle" ∧ yX12_end.cls ≠ "java/lang/invoke/VarHandle" ∧ (parseMethodDescriptor yX12_end.desc).map (fun d => d.parameters.length) = some 1 := by decide +kernel
def VC_end (Post : Int32 → MS → Prop) (a0 : Int32) (S : MS) : Prop := VC_isIn (fun r1 => ((¬ r1 = 0 → ∀ S2 : MS, S2 = sI S 4 a0 → Post a0 S2) ∧ (r1 = 0 → Post (-1) S))) a0 0 (S.1 4)
set_option maxHeartbeats 4000000 in
set_option maxRecDepth 100000 in
theorem m_end {l : Launch} {dC : Nat → ClassId} {dI : Nat → Nat → Nat} {q : Nat → Nat} {cI cJ cZ : ClassId} {sz : Nat} {Post : Int32 → MS → Prop} (a0 : Int32) (S : MS) (h : VC_end Post a0 S) : Met l yX12_end ww_end ({ frames := 1, cells := 0, slots := 0, locals := 22 } : Room) (va_Pc [.ref (q 0), .int a0] (preM dC dI q cI cJ cZ S sz)) (va_Qi Post (atM dC dI q cI cJ cZ (va_A (wM q cI cJ cZ S) sz)) (va_A (wM q cI cJ cZ S) sz)) 0 0 (va_A (wM q cI cJ cZ S) sz) := by
  refine oM (cc := cX12_end) (maxL := 2) (ret := (some .int)) (Qc := fun A => va_Qi Post (atM dC dI q cI cJ cZ A) A) (by decide) rfl (fun w h => List.mem_cons_of_mem _ (List.mem_append_right _ h)) rfl (Nat.le_of_ble_eq_true rfl) (fun p e s m below meth c A ls X hr hlocks hP hD hS hl => ?_)
  have hx := X.1
  have hb := X.2.1
  have hl : lv_has ls 2 [(0, .ref (q 0)), (1, .int a0)] := hl
  have lk86 := X.2.2.2.2.1 (.fieldLink RX12 86 "BreathOnLoanModel" "taped" "I") (inW 59 rfl)
  dsimp only [VC_end] at h
  refine lv_iload_n hx hb (dk DX12_end 0 rfl) rfl (lv_at hl 1 rfl) ?_
  refine lv_iconst (v := 0) hx hb (dk DX12_end 1 rfl) (by decide) ?_
  refine lv_aload_n hx hb (dk DX12_end 2 rfl) rfl (lv_at hl 0 rfl) ?_
  refine gM X hP 4 (by decide) rfl lk86 (dk DX12_end 3 rfl) ?_
  refine cSi (As := [.int a0, .int 0, .int (S.1 4)]) (rest := []) ⟨X.1, X.2.1, X.2.2.1, X.2.2.2.1, X.2.2.2.2.1⟩ (m_isIn (l := l) a0 0 (S.1 4) h) (va_cwS 3 X.2.2.2.2.1 (gwS 31 32 24 26 rfl rfl rfl rfl) rfl rfl rfl q_isIn ⟨Nat.le_of_ble_eq_true rfl, Nat.le_of_ble_eq_true rfl⟩) rfl hl.1 rfl (Nat.le_of_ble_eq_true rfl) (dk DX12_end 4 rfl) (fun r1 h => ?_)
  refine lv_if_ne (tgt := 14) hx hb (dk DX12_end 5 rfl) (by decide) (fun hc => ?_) (fun hc => ?_)
  · have h := h.1 hc
    refine lv_aload_n hx hb (dk DX12_end 8 rfl) rfl (lv_at hl 0 rfl) ?_
    refine lv_iload_n hx hb (dk DX12_end 9 rfl) rfl (lv_at hl 1 rfl) ?_
    refine pM_4 X hP hD hS lk86 (dk DX12_end 10 rfl) (fun S2 eS2 H locs hP hD hS => ?_)
    have h := h S2 eS2
    refine lv_iload_n hx hb (dk DX12_end 11 rfl) rfl (lv_at hl 1 rfl) ?_
    exact W.iret (v := a0) hx hb hr (fun t ht hW => ⟨⟨_, _, rfl, h, by rw [ht]; exact hP, va_K.moved hW.alike X.2.2.2.2.2.2.1, hD⟩, hS.F ht⟩) hS.2.2 (dk DX12_end 12 rfl)
  · have h := h.2 hc
    refine lv_iconst (v := (-1)) hx hb (dk DX12_end 6 rfl) (by decide) ?_
    exact W.iret (v := (-1)) hx hb hr (fun t ht hW => ⟨⟨_, _, rfl, h, by rw [ht]; exact hP, va_K.moved hW.alike X.2.2.2.2.2.2.1, hD⟩, hS.F ht⟩) hS.2.2 (dk DX12_end 7 rfl)

def ww_byteAt : List Cond := .code yX12_byteAt cX12_byteAt 2 (some .int) :: (WdM ++ wsX120)
theorem q_byteAt : yX12_byteAt.cls = RX12 ∧ yX12_byteAt.cls ≠ "java/lang/invoke/MethodHandle" ∧ yX12_byteAt.cls ≠ "java/lang/invoke/VarHandle" ∧ (parseMethodDescriptor yX12_byteAt.desc).map (fun d => d.parameters.length) = some 1 := by decide +kernel
def VC_byteAt (Post : Int32 → MS → Prop) (a0 : Int32) (S : MS) : Prop := (((S.1 4) ≤ a0 → Post (-1) S) ∧ (¬ (S.1 4) ≤ a0 → vp_in a0 300 ∧ Post ((S.2.2.1 3) a0.toNatClampNeg) S))
set_option maxHeartbeats 4000000 in
set_option maxRecDepth 100000 in
theorem m_byteAt {l : Launch} {dC : Nat → ClassId} {dI : Nat → Nat → Nat} {q : Nat → Nat} {cI cJ cZ : ClassId} {sz : Nat} {Post : Int32 → MS → Prop} (a0 : Int32) (S : MS) (h : VC_byteAt Post a0 S) : Met l yX12_byteAt ww_byteAt ({ frames := 0, cells := 0, slots := 0, locals := 0 } : Room) (va_Pc [.ref (q 0), .int a0] (preM dC dI q cI cJ cZ S sz)) (va_Qi Post (atM dC dI q cI cJ cZ (va_A (wM q cI cJ cZ S) sz)) (va_A (wM q cI cJ cZ S) sz)) 0 0 (va_A (wM q cI cJ cZ S) sz) := by
  refine oM (cc := cX12_byteAt) (maxL := 2) (ret := (some .int)) (Qc := fun A => va_Qi Post (atM dC dI q cI cJ cZ A) A) (by decide) rfl (fun w h => List.mem_cons_of_mem _ (List.mem_append_right _ h)) rfl (Nat.le_of_ble_eq_true rfl) (fun p e s m below meth c A ls X hr hlocks hP hD hS hl => ?_)
  have hx := X.1
  have hb := X.2.1
  have hl : lv_has ls 2 [(0, .ref (q 0)), (1, .int a0)] := hl
  have lk86 := X.2.2.2.2.1 (.fieldLink RX12 86 "BreathOnLoanModel" "taped" "I") (inW 59 rfl)
  have lk19 := X.2.2.2.2.1 (.fieldLink RX12 19 "BreathOnLoanModel" "tape" "[I") (inW 8 rfl)
  dsimp only [VC_byteAt] at h
  refine lv_iload_n hx hb (dk DX12_byteAt 0 rfl) rfl (lv_at hl 1 rfl) ?_
  refine lv_aload_n hx hb (dk DX12_byteAt 1 rfl) rfl (lv_at hl 0 rfl) ?_
  refine gM X hP 4 (by decide) rfl lk86 (dk DX12_byteAt 2 rfl) ?_
  refine lv_icmp_ge (tgt := 17) hx hb (dk DX12_byteAt 3 rfl) (by decide) (fun hc => ?_) (fun hc => ?_)
  · have h := h.1 hc
    refine lv_iconst (v := (-1)) hx hb (dk DX12_byteAt 9 rfl) (by decide) ?_
    exact W.iret (v := (-1)) hx hb hr (fun t ht hW => ⟨⟨_, _, rfl, h, by rw [ht]; exact hP, va_K.moved hW.alike X.2.2.2.2.2.2.1, hD⟩, hS.F ht⟩) hS.2.2 (dk DX12_byteAt 10 rfl)
  · have h := h.2 hc
    refine lv_aload_n hx hb (dk DX12_byteAt 4 rfl) rfl (lv_at hl 0 rfl) ?_
    refine gM X hP 3 (by decide) rfl lk19 (dk DX12_byteAt 5 rfl) ?_
    refine lv_iload_n hx hb (dk DX12_byteAt 6 rfl) rfl (lv_at hl 1 rfl) ?_
    obtain ⟨hin, h⟩ := h
    refine ldM X hP 4 rfl hin (dk DX12_byteAt 7 rfl) ?_
    refine lv_goto (tgt := 18) hx hb (dk DX12_byteAt 8 rfl) (by decide) ?_
    exact W.iret (v := (S.2.2.1 3) a0.toNatClampNeg) hx hb hr (fun t ht hW => ⟨⟨_, _, rfl, h, by rw [ht]; exact hP, va_K.moved hW.alike X.2.2.2.2.2.2.1, hD⟩, hS.F ht⟩) hS.2.2 (dk DX12_byteAt 10 rfl)

def ww_isLetter : List Cond := .code yX12_isLetter cX12_isLetter 1 (some .boolean) :: (WdM ++ wsX120)
theorem q_isLetter : yX12_isLetter.cls ≠ "java/lang/invoke/MethodHandle" ∧ yX12_isLetter.cls ≠ "java/lang/invoke/VarHandle" ∧ (parseMethodDescriptor yX12_isLetter.desc).map (fun d => d.parameters.length) = some 1 := by decide +kernel
def VC_isLetter (Post : Int32 → Prop) (a0 : Int32) : Prop := VC_isIn (fun r1 => ((¬ r1 = 0 → Post 1) ∧ (r1 = 0 → VC_isIn (fun r2 => ((r2 = 0 → Post 0) ∧ (¬ r2 = 0 → Post 1))) a0 65 90))) a0 97 122
set_option maxHeartbeats 4000000 in
set_option maxRecDepth 100000 in
theorem m_isLetter {l : Launch} {Post : Int32 → Prop} (a0 : Int32) (h : VC_isLetter Post a0) : Met l yX12_isLetter ww_isLetter ({ frames := 1, cells := 0, slots := 0, locals := 22 } : Room) (va_Pc [.int a0] (fun _ => True)) (vp_Si Post) 0 0 (fun _ => False) := by
  refine oS (cc := cX12_isLetter) (maxL := 1) (ret := (some .boolean)) (Qc := vp_Si Post) (by decide) rfl (Nat.le_of_ble_eq_true rfl) (fun p e s m below meth c ls X hr hlocks hl => ?_)
  have hx := X.1
  have hb := X.2.1
  have hl : lv_has ls 1 [(0, .int a0)] := hl
  dsimp only [VC_isLetter] at h
  refine lv_iload_n hx hb (dk DX12_isLetter 0 rfl) rfl (lv_at hl 0 rfl) ?_
  refine lv_bipush (v := 97) hx hb (dk DX12_isLetter 1 rfl) (by decide) ?_
  refine lv_bipush (v := 122) hx hb (dk DX12_isLetter 2 rfl) (by decide) ?_
  refine cSi (As := [.int a0, .int 97, .int 122]) (rest := []) X (m_isIn (l := l) a0 97 122 h) (va_cwS 3 X.2.2.2.2 (gwS 31 32 24 26 rfl rfl rfl rfl) rfl rfl rfl q_isIn ⟨Nat.le_of_ble_eq_true rfl, Nat.le_of_ble_eq_true rfl⟩) rfl hl.1 rfl (Nat.le_of_ble_eq_true rfl) (dk DX12_isLetter 3 rfl) (fun r1 h => ?_)
  refine lv_if_ne (tgt := 22) hx hb (dk DX12_isLetter 4 rfl) (by decide) (fun hc => ?_) (fun hc => ?_)
  · have h := h.1 hc
    refine lv_iconst (v := 1) hx hb (dk DX12_isLetter 10 rfl) (by decide) ?_
    refine lv_goto (tgt := 27) hx hb (dk DX12_isLetter 11 rfl) (by decide) ?_
    exact W.zret (v := 1) hx hb hr (by decide) (fun t ht hW => ⟨_, rfl, h, ht⟩) (fun _ h => by cases h) (dk DX12_isLetter 13 rfl)
  · have h := h.2 hc
    refine lv_iload_n hx hb (dk DX12_isLetter 5 rfl) rfl (lv_at hl 0 rfl) ?_
    refine lv_bipush (v := 65) hx hb (dk DX12_isLetter 6 rfl) (by decide) ?_
    refine lv_bipush (v := 90) hx hb (dk DX12_isLetter 7 rfl) (by decide) ?_
    refine cSi (As := [.int a0, .int 65, .int 90]) (rest := []) X (m_isIn (l := l) a0 65 90 h) (va_cwS 3 X.2.2.2.2 (gwS 31 32 24 26 rfl rfl rfl rfl) rfl rfl rfl q_isIn ⟨Nat.le_of_ble_eq_true rfl, Nat.le_of_ble_eq_true rfl⟩) rfl hl.1 rfl (Nat.le_of_ble_eq_true rfl) (dk DX12_isLetter 8 rfl) (fun r2 h => ?_)
    refine lv_if_eq (tgt := 26) hx hb (dk DX12_isLetter 9 rfl) (by decide) (fun hc => ?_) (fun hc => ?_)
    · have h := h.1 hc
      refine lv_iconst (v := 0) hx hb (dk DX12_isLetter 12 rfl) (by decide) ?_
      exact W.zret (v := 0) hx hb hr (by decide) (fun t ht hW => ⟨_, rfl, h, ht⟩) (fun _ h => by cases h) (dk DX12_isLetter 13 rfl)
    · have h := h.2 hc
      refine lv_iconst (v := 1) hx hb (dk DX12_isLetter 10 rfl) (by decide) ?_
      refine lv_goto (tgt := 27) hx hb (dk DX12_isLetter 11 rfl) (by decide) ?_
      exact W.zret (v := 1) hx hb hr (by decide) (fun t ht hW => ⟨_, rfl, h, ht⟩) (fun _ h => by cases h) (dk DX12_isLetter 13 rfl)

def ww_isDigit : List Cond := .code yX12_isDigit cX12_isDigit 1 (some .boolean) :: (WdM ++ wsX120)
theorem q_isDigit : yX12_isDigit.cls ≠ "java/lang/invoke/MethodHandle" ∧ yX12_isDigit.cls ≠ "java/lang/invoke/VarHandle" ∧ (parseMethodDescriptor yX12_isDigit.desc).map (fun d => d.parameters.length) = some 1 := by decide +kernel
def VC_isDigit (Post : Int32 → Prop) (a0 : Int32) : Prop := VC_isIn (fun r1 => (r1 = 0 ∨ r1 = 1) ∧ Post r1) a0 48 57
set_option maxHeartbeats 4000000 in
set_option maxRecDepth 100000 in
theorem m_isDigit {l : Launch} {Post : Int32 → Prop} (a0 : Int32) (h : VC_isDigit Post a0) : Met l yX12_isDigit ww_isDigit ({ frames := 1, cells := 0, slots := 0, locals := 22 } : Room) (va_Pc [.int a0] (fun _ => True)) (vp_Si Post) 0 0 (fun _ => False) := by
  refine oS (cc := cX12_isDigit) (maxL := 1) (ret := (some .boolean)) (Qc := vp_Si Post) (by decide) rfl (Nat.le_of_ble_eq_true rfl) (fun p e s m below meth c ls X hr hlocks hl => ?_)
  have hx := X.1
  have hb := X.2.1
  have hl : lv_has ls 1 [(0, .int a0)] := hl
  dsimp only [VC_isDigit] at h
  refine lv_iload_n hx hb (dk DX12_isDigit 0 rfl) rfl (lv_at hl 0 rfl) ?_
  refine lv_bipush (v := 48) hx hb (dk DX12_isDigit 1 rfl) (by decide) ?_
  refine lv_bipush (v := 57) hx hb (dk DX12_isDigit 2 rfl) (by decide) ?_
  refine cSi (As := [.int a0, .int 48, .int 57]) (rest := []) X (m_isIn (l := l) a0 48 57 h) (va_cwS 3 X.2.2.2.2 (gwS 31 32 24 26 rfl rfl rfl rfl) rfl rfl rfl q_isIn ⟨Nat.le_of_ble_eq_true rfl, Nat.le_of_ble_eq_true rfl⟩) rfl hl.1 rfl (Nat.le_of_ble_eq_true rfl) (dk DX12_isDigit 3 rfl) (fun r1 h => ?_)
  obtain ⟨hz, h⟩ := h
  exact W.zret (v := r1) hx hb hr (by rcases hz with z | z <;> rw [z] <;> decide) (fun t ht hW => ⟨_, rfl, h, ht⟩) (fun _ h => by cases h) (dk DX12_isDigit 4 rfl)

