-- copy isIn held has bits isBlower isKind isPiece isHour get set pieceAt gave blower part quarrel
def ww_copy_1_2 : List Cond := .code yX12_copy cX12_copy 3 none :: (WdM ++ wsX120)
theorem q_copy_1_2 : yX12_copy.cls ≠ "java/lang/invoke/MethodHandle" ∧ yX12_copy.cls ≠ "java/lang/invoke/VarHandle" ∧ (parseMethodDescriptor yX12_copy.desc).map (fun d => d.parameters.length) = some 2 := by decide +kernel
abbrev Hd_copy_1_2 : Type := (Int32)
def B_copy_1_2 (Post : MS → Prop) (K : Hd_copy_1_2 → MS → Prop) : Hd_copy_1_2 → MS → Prop
  | x2, S => ((3890 ≤ x2 → Post S) ∧ (¬ 3890 ≤ x2 → vp_in x2 3890 ∧ ∀ v1 : Int32, v1 = (S.2.2.1 0) x2.toNatClampNeg → vp_in x2 3890 ∧ ∀ S2 : MS, S2 = sF S 1 (upd (S.2.2.1 1) x2.toNatClampNeg v1) → ∀ v3 : Int32, v3 = x2 + 1 → K v3 S2))
def VC_copy_1_2 (Post : MS → Prop) (S : MS) : Prop := ∀ K : Hd_copy_1_2 → MS → Prop, (∀ h S, B_copy_1_2 Post K h S → K h S) → K 0 S
set_option maxHeartbeats 4000000 in
set_option maxRecDepth 100000 in
theorem h_copy_1_2_0 {p : Program} {l : Launch} {e : Env} {s : State} {m : MethodId} {below : List Frame} {meth : Method} {c : Code} {dC : Nat → ClassId} {dI : Nat → Nat → Nat} {q : Nat → Nat} {cI cJ cZ : ClassId} {A : Nat → Prop} {args : Array Value} {Post : MS → Prop} {K : Hd_copy_1_2 → MS → Prop} (X : XM p s m args c cX12_copy 3 ww_copy_1_2 dC dI cI cJ cZ A) (hr : meth.sig.returnType = none) (hlocks : meth.locks = false) (hK0 : ∀ (x2 : Int32) (S : MS), K x2 S → ∀ (H : Heap) (locs : List Loc), va_P (dC, dI) vwCl (wM q cI cJ cZ S) H → va_D A (wM q cI cJ cZ S) → va_S A s.heap H locs → ∀ ls : Array Slot, lv_has ls 3 [(0, .ref (q 1)), (1, .ref (q 2)), (2, .int x2)] → W p l e (headSpec ww_copy_1_2 ({ frames := 0, cells := 0, slots := 0, locals := 0 } : Room)).room s m args below meth c H locs 0 0 (MQ below (va_Qv Post (atM dC dI q cI cJ cZ A) A) args s 0 0 A) (F0 m 2 ls [])) (x2 : Int32) (S : MS) (h : B_copy_1_2 Post K x2 S) : ∀ (H : Heap) (locs : List Loc), va_P (dC, dI) vwCl (wM q cI cJ cZ S) H → va_D A (wM q cI cJ cZ S) → va_S A s.heap H locs → ∀ ls : Array Slot, lv_has ls 3 [(0, .ref (q 1)), (1, .ref (q 2)), (2, .int x2)] → W p l e (headSpec ww_copy_1_2 ({ frames := 0, cells := 0, slots := 0, locals := 0 } : Room)).room s m args below meth c H locs 0 0 (MQ below (va_Qv Post (atM dC dI q cI cJ cZ A) A) args s 0 0 A) (F0 m 2 ls []) := by
  have hx := X.1
  have hb := X.2.1
  intro H locs hP hD hS ls hl
  dsimp only [B_copy_1_2] at h
  refine lv_iload_n hx hb (dk DX12_copy 2 rfl) rfl (lv_at hl 2 rfl) ?_
  refine lv_sipush (v := 3890) hx hb (dk DX12_copy 3 rfl) (by decide) ?_
  refine lv_icmp_ge (tgt := 21) hx hb (dk DX12_copy 4 rfl) (by decide) (fun hc => ?_) (fun hc => ?_)
  · have h := h.1 hc
    exact W.vret hx hb hr (fun t ht hW => ⟨⟨_, rfl, h, by rw [ht]; exact hP, va_K.moved hW.alike X.2.2.2.2.2.2.1, hD⟩, hS.F ht⟩) hS.2.2 (dk DX12_copy 13 rfl)
  · have h := h.2 hc
    refine lv_aload_n hx hb (dk DX12_copy 5 rfl) rfl (lv_at hl 1 rfl) ?_
    refine lv_iload_n hx hb (dk DX12_copy 6 rfl) rfl (lv_at hl 2 rfl) ?_
    refine lv_aload_n hx hb (dk DX12_copy 7 rfl) rfl (lv_at hl 0 rfl) ?_
    refine lv_iload_n hx hb (dk DX12_copy 8 rfl) rfl (lv_at hl 2 rfl) ?_
    obtain ⟨hin, h⟩ := h
    refine ldM X hP 1 rfl hin (dk DX12_copy 9 rfl) ?_
    refine lv_topi (fun v1 ev1 => ?_)
    have h := h v1 ev1
    obtain ⟨hin, h⟩ := h
    refine stM_1 X hP hD hS hin (dk DX12_copy 10 rfl) (fun S2 eS2 H locs hP hD hS => ?_)
    have h := h S2 eS2
    obtain ⟨v3, ev3⟩ : ∃ y : Int32, y = x2 + 1 := ⟨_, rfl⟩
    have h := h v3 ev3
    refine lv_iinc (v := v3) (lv' := [(2, .int v3), (0, .ref (q 1)), (1, .ref (q 2))]) hx hb (dk DX12_copy 11 rfl) hl (k := 2) rfl (by rw [ev3]; rfl) (by decide) rfl (fun ls hl => ?_)
    refine lv_goto (tgt := 2) hx hb (dk DX12_copy 12 rfl) (by decide) ?_
    exact hK0 v3 S2 h _ _ hP hD hS ls (lv_sub hl [1, 2, 0] rfl)
set_option maxHeartbeats 4000000 in
set_option maxRecDepth 100000 in
theorem m_copy_1_2 {l : Launch} {dC : Nat → ClassId} {dI : Nat → Nat → Nat} {q : Nat → Nat} {cI cJ cZ : ClassId} {sz : Nat} {Post : MS → Prop} (S : MS) (h : VC_copy_1_2 Post S) : Met l yX12_copy ww_copy_1_2 ({ frames := 0, cells := 0, slots := 0, locals := 0 } : Room) (va_Pc [.ref (q 1), .ref (q 2)] (preM dC dI q cI cJ cZ S sz)) (va_Qv Post (atM dC dI q cI cJ cZ (va_A (wM q cI cJ cZ S) sz)) (va_A (wM q cI cJ cZ S) sz)) 0 0 (va_A (wM q cI cJ cZ S) sz) := by
  refine oM (cc := cX12_copy) (maxL := 3) (ret := none) (Qc := fun A => va_Qv Post (atM dC dI q cI cJ cZ A) A) (by decide) rfl (fun w h => List.mem_cons_of_mem _ (List.mem_append_right _ h)) rfl (Nat.le_of_ble_eq_true rfl) (fun p e s m below meth c A ls X hr hlocks hP hD hS hl => ?_)
  have hx := X.1
  have hb := X.2.1
  have hl : lv_has ls 3 [(0, .ref (q 1)), (1, .ref (q 2))] := hl
  generalize hargs : ([.ref (q 1), .ref (q 2)] : List Value).toArray = args at X ⊢
  have h := h (fun hd S => match hd with | x2 => ∀ (H : Heap) (locs : List Loc), va_P (dC, dI) vwCl (wM q cI cJ cZ S) H → va_D A (wM q cI cJ cZ S) → va_S A s.heap H locs → ∀ ls : Array Slot, lv_has ls 3 [(0, .ref (q 1)), (1, .ref (q 2)), (2, .int x2)] → W p l e (headSpec ww_copy_1_2 ({ frames := 0, cells := 0, slots := 0, locals := 0 } : Room)).room s m args below meth c H locs 0 0 (MQ below (va_Qv Post (atM dC dI q cI cJ cZ A) A) args s 0 0 A) (F0 m 2 ls [])) ?_
  · skip
    refine lv_iconst (v := 0) hx hb (dk DX12_copy 0 rfl) (by decide) ?_
    refine lv_istore_n (lv' := [(2, .int 0), (0, .ref (q 1)), (1, .ref (q 2))]) hx hb (dk DX12_copy 1 rfl) rfl hl (by decide) rfl (fun ls hl => ?_)
    exact h _ _ hP hD hS ls (lv_sub hl [1, 2, 0] rfl)
  · rintro x2 S hB
    exact h_copy_1_2_0 X hr hlocks (hK0 := fun _ _ h => h) x2 S hB

def ww_copy_2_1 : List Cond := .code yX12_copy cX12_copy 3 none :: (WdM ++ wsX120)
theorem q_copy_2_1 : yX12_copy.cls ≠ "java/lang/invoke/MethodHandle" ∧ yX12_copy.cls ≠ "java/lang/invoke/VarHandle" ∧ (parseMethodDescriptor yX12_copy.desc).map (fun d => d.parameters.length) = some 2 := by decide +kernel
abbrev Hd_copy_2_1 : Type := (Int32)
def B_copy_2_1 (Post : MS → Prop) (K : Hd_copy_2_1 → MS → Prop) : Hd_copy_2_1 → MS → Prop
  | x2, S => ((3890 ≤ x2 → Post S) ∧ (¬ 3890 ≤ x2 → vp_in x2 3890 ∧ ∀ v1 : Int32, v1 = (S.2.2.1 1) x2.toNatClampNeg → vp_in x2 3890 ∧ ∀ S2 : MS, S2 = sF S 0 (upd (S.2.2.1 0) x2.toNatClampNeg v1) → ∀ v3 : Int32, v3 = x2 + 1 → K v3 S2))
def VC_copy_2_1 (Post : MS → Prop) (S : MS) : Prop := ∀ K : Hd_copy_2_1 → MS → Prop, (∀ h S, B_copy_2_1 Post K h S → K h S) → K 0 S
set_option maxHeartbeats 4000000 in
set_option maxRecDepth 100000 in
theorem h_copy_2_1_0 {p : Program} {l : Launch} {e : Env} {s : State} {m : MethodId} {below : List Frame} {meth : Method} {c : Code} {dC : Nat → ClassId} {dI : Nat → Nat → Nat} {q : Nat → Nat} {cI cJ cZ : ClassId} {A : Nat → Prop} {args : Array Value} {Post : MS → Prop} {K : Hd_copy_2_1 → MS → Prop} (X : XM p s m args c cX12_copy 3 ww_copy_2_1 dC dI cI cJ cZ A) (hr : meth.sig.returnType = none) (hlocks : meth.locks = false) (hK0 : ∀ (x2 : Int32) (S : MS), K x2 S → ∀ (H : Heap) (locs : List Loc), va_P (dC, dI) vwCl (wM q cI cJ cZ S) H → va_D A (wM q cI cJ cZ S) → va_S A s.heap H locs → ∀ ls : Array Slot, lv_has ls 3 [(0, .ref (q 2)), (1, .ref (q 1)), (2, .int x2)] → W p l e (headSpec ww_copy_2_1 ({ frames := 0, cells := 0, slots := 0, locals := 0 } : Room)).room s m args below meth c H locs 0 0 (MQ below (va_Qv Post (atM dC dI q cI cJ cZ A) A) args s 0 0 A) (F0 m 2 ls [])) (x2 : Int32) (S : MS) (h : B_copy_2_1 Post K x2 S) : ∀ (H : Heap) (locs : List Loc), va_P (dC, dI) vwCl (wM q cI cJ cZ S) H → va_D A (wM q cI cJ cZ S) → va_S A s.heap H locs → ∀ ls : Array Slot, lv_has ls 3 [(0, .ref (q 2)), (1, .ref (q 1)), (2, .int x2)] → W p l e (headSpec ww_copy_2_1 ({ frames := 0, cells := 0, slots := 0, locals := 0 } : Room)).room s m args below meth c H locs 0 0 (MQ below (va_Qv Post (atM dC dI q cI cJ cZ A) A) args s 0 0 A) (F0 m 2 ls []) := by
  have hx := X.1
  have hb := X.2.1
  intro H locs hP hD hS ls hl
  dsimp only [B_copy_2_1] at h
  refine lv_iload_n hx hb (dk DX12_copy 2 rfl) rfl (lv_at hl 2 rfl) ?_
  refine lv_sipush (v := 3890) hx hb (dk DX12_copy 3 rfl) (by decide) ?_
  refine lv_icmp_ge (tgt := 21) hx hb (dk DX12_copy 4 rfl) (by decide) (fun hc => ?_) (fun hc => ?_)
  · have h := h.1 hc
    exact W.vret hx hb hr (fun t ht hW => ⟨⟨_, rfl, h, by rw [ht]; exact hP, va_K.moved hW.alike X.2.2.2.2.2.2.1, hD⟩, hS.F ht⟩) hS.2.2 (dk DX12_copy 13 rfl)
  · have h := h.2 hc
    refine lv_aload_n hx hb (dk DX12_copy 5 rfl) rfl (lv_at hl 1 rfl) ?_
    refine lv_iload_n hx hb (dk DX12_copy 6 rfl) rfl (lv_at hl 2 rfl) ?_
    refine lv_aload_n hx hb (dk DX12_copy 7 rfl) rfl (lv_at hl 0 rfl) ?_
    refine lv_iload_n hx hb (dk DX12_copy 8 rfl) rfl (lv_at hl 2 rfl) ?_
    obtain ⟨hin, h⟩ := h
    refine ldM X hP 2 rfl hin (dk DX12_copy 9 rfl) ?_
    refine lv_topi (fun v1 ev1 => ?_)
    have h := h v1 ev1
    obtain ⟨hin, h⟩ := h
    refine stM_0 X hP hD hS hin (dk DX12_copy 10 rfl) (fun S2 eS2 H locs hP hD hS => ?_)
    have h := h S2 eS2
    obtain ⟨v3, ev3⟩ : ∃ y : Int32, y = x2 + 1 := ⟨_, rfl⟩
    have h := h v3 ev3
    refine lv_iinc (v := v3) (lv' := [(2, .int v3), (0, .ref (q 2)), (1, .ref (q 1))]) hx hb (dk DX12_copy 11 rfl) hl (k := 2) rfl (by rw [ev3]; rfl) (by decide) rfl (fun ls hl => ?_)
    refine lv_goto (tgt := 2) hx hb (dk DX12_copy 12 rfl) (by decide) ?_
    exact hK0 v3 S2 h _ _ hP hD hS ls (lv_sub hl [1, 2, 0] rfl)
set_option maxHeartbeats 4000000 in
set_option maxRecDepth 100000 in
theorem m_copy_2_1 {l : Launch} {dC : Nat → ClassId} {dI : Nat → Nat → Nat} {q : Nat → Nat} {cI cJ cZ : ClassId} {sz : Nat} {Post : MS → Prop} (S : MS) (h : VC_copy_2_1 Post S) : Met l yX12_copy ww_copy_2_1 ({ frames := 0, cells := 0, slots := 0, locals := 0 } : Room) (va_Pc [.ref (q 2), .ref (q 1)] (preM dC dI q cI cJ cZ S sz)) (va_Qv Post (atM dC dI q cI cJ cZ (va_A (wM q cI cJ cZ S) sz)) (va_A (wM q cI cJ cZ S) sz)) 0 0 (va_A (wM q cI cJ cZ S) sz) := by
  refine oM (cc := cX12_copy) (maxL := 3) (ret := none) (Qc := fun A => va_Qv Post (atM dC dI q cI cJ cZ A) A) (by decide) rfl (fun w h => List.mem_cons_of_mem _ (List.mem_append_right _ h)) rfl (Nat.le_of_ble_eq_true rfl) (fun p e s m below meth c A ls X hr hlocks hP hD hS hl => ?_)
  have hx := X.1
  have hb := X.2.1
  have hl : lv_has ls 3 [(0, .ref (q 2)), (1, .ref (q 1))] := hl
  generalize hargs : ([.ref (q 2), .ref (q 1)] : List Value).toArray = args at X ⊢
  have h := h (fun hd S => match hd with | x2 => ∀ (H : Heap) (locs : List Loc), va_P (dC, dI) vwCl (wM q cI cJ cZ S) H → va_D A (wM q cI cJ cZ S) → va_S A s.heap H locs → ∀ ls : Array Slot, lv_has ls 3 [(0, .ref (q 2)), (1, .ref (q 1)), (2, .int x2)] → W p l e (headSpec ww_copy_2_1 ({ frames := 0, cells := 0, slots := 0, locals := 0 } : Room)).room s m args below meth c H locs 0 0 (MQ below (va_Qv Post (atM dC dI q cI cJ cZ A) A) args s 0 0 A) (F0 m 2 ls [])) ?_
  · skip
    refine lv_iconst (v := 0) hx hb (dk DX12_copy 0 rfl) (by decide) ?_
    refine lv_istore_n (lv' := [(2, .int 0), (0, .ref (q 2)), (1, .ref (q 1))]) hx hb (dk DX12_copy 1 rfl) rfl hl (by decide) rfl (fun ls hl => ?_)
    exact h _ _ hP hD hS ls (lv_sub hl [1, 2, 0] rfl)
  · rintro x2 S hB
    exact h_copy_2_1_0 X hr hlocks (hK0 := fun _ _ h => h) x2 S hB

def ww_isIn : List Cond := .code yX12_isIn cX12_isIn 3 (some .boolean) :: (WdM ++ wsX120)
theorem q_isIn : yX12_isIn.cls ≠ "java/lang/invoke/MethodHandle" ∧ yX12_isIn.cls ≠ "java/lang/invoke/VarHandle" ∧ (parseMethodDescriptor yX12_isIn.desc).map (fun d => d.parameters.length) = some 3 := by decide +kernel
def VC_isIn (Post : Int32 → Prop) (a0 : Int32) (a1 : Int32) (a2 : Int32) : Prop := ((a0 < a1 → Post 0) ∧ (¬ a0 < a1 → ((a2 < a0 → Post 0) ∧ (¬ a2 < a0 → Post 1))))
set_option maxHeartbeats 4000000 in
set_option maxRecDepth 100000 in
theorem m_isIn {l : Launch} {Post : Int32 → Prop} (a0 : Int32) (a1 : Int32) (a2 : Int32) (h : VC_isIn Post a0 a1 a2) : Met l yX12_isIn ww_isIn ({ frames := 0, cells := 0, slots := 0, locals := 0 } : Room) (va_Pc [.int a0, .int a1, .int a2] (fun _ => True)) (vp_Si Post) 0 0 (fun _ => False) := by
  refine oS (cc := cX12_isIn) (maxL := 3) (ret := (some .boolean)) (Qc := vp_Si Post) (by decide) rfl (Nat.le_of_ble_eq_true rfl) (fun p e s m below meth c ls X hr hlocks hl => ?_)
  have hx := X.1
  have hb := X.2.1
  have hl : lv_has ls 3 [(0, .int a0), (1, .int a1), (2, .int a2)] := hl
  dsimp only [VC_isIn] at h
  refine lv_iload_n hx hb (dk DX12_isIn 0 rfl) rfl (lv_at hl 0 rfl) ?_
  refine lv_iload_n hx hb (dk DX12_isIn 1 rfl) rfl (lv_at hl 1 rfl) ?_
  refine lv_icmp_lt (tgt := 14) hx hb (dk DX12_isIn 2 rfl) (by decide) (fun hc => ?_) (fun hc => ?_)
  · have h := h.1 hc
    refine lv_iconst (v := 0) hx hb (dk DX12_isIn 8 rfl) (by decide) ?_
    exact W.zret (v := 0) hx hb hr (by decide) (fun t ht hW => ⟨_, rfl, h, ht⟩) (fun _ h => by cases h) (dk DX12_isIn 9 rfl)
  · have h := h.2 hc
    refine lv_iload_n hx hb (dk DX12_isIn 3 rfl) rfl (lv_at hl 0 rfl) ?_
    refine lv_iload_n hx hb (dk DX12_isIn 4 rfl) rfl (lv_at hl 2 rfl) ?_
    refine lv_icmp_gt (tgt := 14) hx hb (dk DX12_isIn 5 rfl) (by decide) (fun hc => ?_) (fun hc => ?_)
    · have h := h.1 hc
      refine lv_iconst (v := 0) hx hb (dk DX12_isIn 8 rfl) (by decide) ?_
      exact W.zret (v := 0) hx hb hr (by decide) (fun t ht hW => ⟨_, rfl, h, ht⟩) (fun _ h => by cases h) (dk DX12_isIn 9 rfl)
    · have h := h.2 hc
      refine lv_iconst (v := 1) hx hb (dk DX12_isIn 6 rfl) (by decide) ?_
      refine lv_goto (tgt := 15) hx hb (dk DX12_isIn 7 rfl) (by decide) ?_
      exact W.zret (v := 1) hx hb hr (by decide) (fun t ht hW => ⟨_, rfl, h, ht⟩) (fun _ h => by cases h) (dk DX12_isIn 9 rfl)

def ww_held : List Cond := .code yX12_held cX12_held 4 (some .int) :: (WdM ++ wsX120)
theorem q_held : yX12_held.cls ≠ "java/lang/invoke/MethodHandle" ∧ yX12_held.cls ≠ "java/lang/invoke/VarHandle" ∧ (parseMethodDescriptor yX12_held.desc).map (fun d => d.parameters.length) = some 3 := by decide +kernel
def VC_held (Post : Int32 → Prop) (a0 : Int64) (a1 : Int32) (a2 : Int32) : Prop := ((0 ≤ (lg_cmp a0 (a1.toInt64)) → (((lg_cmp a0 (a2.toInt64)) ≤ 0 → Post (a0.toInt32)) ∧ (¬ (lg_cmp a0 (a2.toInt64)) ≤ 0 → Post a2))) ∧ (¬ 0 ≤ (lg_cmp a0 (a1.toInt64)) → Post a1))
set_option maxHeartbeats 4000000 in
set_option maxRecDepth 100000 in
theorem m_held {l : Launch} {Post : Int32 → Prop} (a0 : Int64) (a1 : Int32) (a2 : Int32) (h : VC_held Post a0 a1 a2) : Met l yX12_held ww_held ({ frames := 0, cells := 0, slots := 0, locals := 0 } : Room) (va_Pc [.long a0, .int a1, .int a2] (fun _ => True)) (vp_Si Post) 0 0 (fun _ => False) := by
  refine oS (cc := cX12_held) (maxL := 4) (ret := (some .int)) (Qc := vp_Si Post) (by decide) rfl (Nat.le_of_ble_eq_true rfl) (fun p e s m below meth c ls X hr hlocks hl => ?_)
  have hx := X.1
  have hb := X.2.1
  have hl : lv_has ls 4 [(0, .long a0), (2, .int a1), (3, .int a2)] := hl
  dsimp only [VC_held] at h
  refine lv_lload_n hx hb (dk DX12_held 0 rfl) rfl (lv_at hl 0 rfl) ?_
  refine lv_iload_n hx hb (dk DX12_held 1 rfl) rfl (lv_at hl 1 rfl) ?_
  refine lv_i2l hx hb (dk DX12_held 2 rfl) rfl ?_
  refine W.lcmp hx hb (dk DX12_held 3 rfl) ?_
  refine lv_if_ge (tgt := 11) hx hb (dk DX12_held 4 rfl) (by decide) (fun hc => ?_) (fun hc => ?_)
  · have h := h.1 hc
    refine lv_lload_n hx hb (dk DX12_held 7 rfl) rfl (lv_at hl 0 rfl) ?_
    refine lv_iload_n hx hb (dk DX12_held 8 rfl) rfl (lv_at hl 2 rfl) ?_
    refine lv_i2l hx hb (dk DX12_held 9 rfl) rfl ?_
    refine W.lcmp hx hb (dk DX12_held 10 rfl) ?_
    refine lv_if_le (tgt := 22) hx hb (dk DX12_held 11 rfl) (by decide) (fun hc => ?_) (fun hc => ?_)
    · have h := h.1 hc
      refine lv_lload_n hx hb (dk DX12_held 14 rfl) rfl (lv_at hl 0 rfl) ?_
      refine lv_l2i hx hb (dk DX12_held 15 rfl) rfl ?_
      exact W.iret (v := a0.toInt32) hx hb hr (fun t ht hW => ⟨_, rfl, h, ht⟩) (fun _ h => by cases h) (dk DX12_held 16 rfl)
    · have h := h.2 hc
      refine lv_iload_n hx hb (dk DX12_held 12 rfl) rfl (lv_at hl 2 rfl) ?_
      refine lv_goto (tgt := 24) hx hb (dk DX12_held 13 rfl) (by decide) ?_
      exact W.iret (v := a2) hx hb hr (fun t ht hW => ⟨_, rfl, h, ht⟩) (fun _ h => by cases h) (dk DX12_held 16 rfl)
  · have h := h.2 hc
    refine lv_iload_n hx hb (dk DX12_held 5 rfl) rfl (lv_at hl 1 rfl) ?_
    refine lv_goto (tgt := 24) hx hb (dk DX12_held 6 rfl) (by decide) ?_
    exact W.iret (v := a1) hx hb hr (fun t ht hW => ⟨_, rfl, h, ht⟩) (fun _ h => by cases h) (dk DX12_held 16 rfl)

def ww_has : List Cond := .code yX12_has cX12_has 2 (some .boolean) :: (WdM ++ wsX120)
theorem q_has : yX12_has.cls ≠ "java/lang/invoke/MethodHandle" ∧ yX12_has.cls ≠ "java/lang/invoke/VarHandle" ∧ (parseMethodDescriptor yX12_has.desc).map (fun d => d.parameters.length) = some 2 := by decide +kernel
def VC_has (Post : Int32 → Prop) (a0 : Int32) (a1 : Int32) : Prop := ((¬ ((a0 >>> (a1 &&& 31)) &&& 1) = 1 → Post 0) ∧ (((a0 >>> (a1 &&& 31)) &&& 1) = 1 → Post 1))
set_option maxHeartbeats 4000000 in
set_option maxRecDepth 100000 in
theorem m_has {l : Launch} {Post : Int32 → Prop} (a0 : Int32) (a1 : Int32) (h : VC_has Post a0 a1) : Met l yX12_has ww_has ({ frames := 0, cells := 0, slots := 0, locals := 0 } : Room) (va_Pc [.int a0, .int a1] (fun _ => True)) (vp_Si Post) 0 0 (fun _ => False) := by
  refine oS (cc := cX12_has) (maxL := 2) (ret := (some .boolean)) (Qc := vp_Si Post) (by decide) rfl (Nat.le_of_ble_eq_true rfl) (fun p e s m below meth c ls X hr hlocks hl => ?_)
  have hx := X.1
  have hb := X.2.1
  have hl : lv_has ls 2 [(0, .int a0), (1, .int a1)] := hl
  dsimp only [VC_has] at h
  refine lv_iload_n hx hb (dk DX12_has 0 rfl) rfl (lv_at hl 0 rfl) ?_
  refine lv_iload_n hx hb (dk DX12_has 1 rfl) rfl (lv_at hl 1 rfl) ?_
  refine lv_ishr hx hb (dk DX12_has 2 rfl) ?_
  refine lv_iconst (v := 1) hx hb (dk DX12_has 3 rfl) (by decide) ?_
  refine lv_iand hx hb (dk DX12_has 4 rfl) ?_
  refine lv_iconst (v := 1) hx hb (dk DX12_has 5 rfl) (by decide) ?_
  refine lv_icmp_ne (tgt := 13) hx hb (dk DX12_has 6 rfl) (by decide) (fun hc => ?_) (fun hc => ?_)
  · have h := h.1 hc
    refine lv_iconst (v := 0) hx hb (dk DX12_has 9 rfl) (by decide) ?_
    exact W.zret (v := 0) hx hb hr (by decide) (fun t ht hW => ⟨_, rfl, h, ht⟩) (fun _ h => by cases h) (dk DX12_has 10 rfl)
  · have h := h.2 hc
    refine lv_iconst (v := 1) hx hb (dk DX12_has 7 rfl) (by decide) ?_
    refine lv_goto (tgt := 14) hx hb (dk DX12_has 8 rfl) (by decide) ?_
    exact W.zret (v := 1) hx hb hr (by decide) (fun t ht hW => ⟨_, rfl, h, ht⟩) (fun _ h => by cases h) (dk DX12_has 10 rfl)

def ww_bits : List Cond := .code yX12_bits cX12_bits 3 (some .int) :: (WdM ++ wsX120)
theorem q_bits : yX12_bits.cls ≠ "java/lang/invoke/MethodHandle" ∧ yX12_bits.cls ≠ "java/lang/invoke/VarHandle" ∧ (parseMethodDescriptor yX12_bits.desc).map (fun d => d.parameters.length) = some 1 := by decide +kernel
abbrev Hd_bits : Type := (Int32 × Int32 × Int32)
def B_bits (Post : Int32 → Prop) (K : Hd_bits → Prop) : Hd_bits → Prop
  | (x0, x1, x2) => ((10 ≤ x2 → Post x1) ∧ (¬ 10 ≤ x2 → ∀ v1 : Int32, v1 = x1 + ((x0 >>> (x2 &&& 31)) &&& 1) → ∀ v2 : Int32, v2 = x2 + 1 → K (x0, v1, v2)))
def VC_bits (Post : Int32 → Prop) (a0 : Int32) : Prop := ∀ K : Hd_bits → Prop, (∀ h, B_bits Post K h → K h) → K (a0, 0, 0)
set_option maxHeartbeats 4000000 in
set_option maxRecDepth 100000 in
theorem h_bits_0 {p : Program} {l : Launch} {e : Env} {s : State} {m : MethodId} {below : List Frame} {meth : Method} {c : Code} {args : Array Value} {Post : Int32 → Prop} {K : Hd_bits → Prop} (X : CallFix p m c cX12_bits 3 s args ww_bits yX12_bits.cls) (hr : meth.sig.returnType = (some .int)) (hlocks : meth.locks = false) (hK0 : ∀ (x0 : Int32) (x1 : Int32) (x2 : Int32), K (x0, x1, x2) → ∀ ls : Array Slot, lv_has ls 3 [(0, .int x0), (1, .int x1), (2, .int x2)] → W p l e (headSpec ww_bits ({ frames := 0, cells := 0, slots := 0, locals := 0 } : Room)).room s m args below meth c s.heap [] 0 0 (MQ below (vp_Si Post) args s 0 0 (fun _ => False)) (F0 m 4 ls [])) (x0 : Int32) (x1 : Int32) (x2 : Int32) (h : B_bits Post K (x0, x1, x2)) : ∀ ls : Array Slot, lv_has ls 3 [(0, .int x0), (1, .int x1), (2, .int x2)] → W p l e (headSpec ww_bits ({ frames := 0, cells := 0, slots := 0, locals := 0 } : Room)).room s m args below meth c s.heap [] 0 0 (MQ below (vp_Si Post) args s 0 0 (fun _ => False)) (F0 m 4 ls []) := by
  have hx := X.1
  have hb := X.2.1
  intro ls hl
  dsimp only [B_bits] at h
  refine lv_iload_n hx hb (dk DX12_bits 4 rfl) rfl (lv_at hl 2 rfl) ?_
  refine lv_bipush (v := 10) hx hb (dk DX12_bits 5 rfl) (by decide) ?_
  refine lv_icmp_ge (tgt := 24) hx hb (dk DX12_bits 6 rfl) (by decide) (fun hc => ?_) (fun hc => ?_)
  · have h := h.1 hc
    refine lv_iload_n hx hb (dk DX12_bits 17 rfl) rfl (lv_at hl 1 rfl) ?_
    exact W.iret (v := x1) hx hb hr (fun t ht hW => ⟨_, rfl, h, ht⟩) (fun _ h => by cases h) (dk DX12_bits 18 rfl)
  · have h := h.2 hc
    refine lv_iload_n hx hb (dk DX12_bits 7 rfl) rfl (lv_at hl 1 rfl) ?_
    refine lv_iload_n hx hb (dk DX12_bits 8 rfl) rfl (lv_at hl 0 rfl) ?_
    refine lv_iload_n hx hb (dk DX12_bits 9 rfl) rfl (lv_at hl 2 rfl) ?_
    refine lv_ishr hx hb (dk DX12_bits 10 rfl) ?_
    refine lv_iconst (v := 1) hx hb (dk DX12_bits 11 rfl) (by decide) ?_
    refine lv_iand hx hb (dk DX12_bits 12 rfl) ?_
    refine lv_iadd hx hb (dk DX12_bits 13 rfl) ?_
    refine lv_topi (fun v1 ev1 => ?_)
    have h := h v1 ev1
    refine lv_istore_n (lv' := [(1, .int v1), (0, .int x0), (2, .int x2)]) hx hb (dk DX12_bits 14 rfl) rfl hl (by decide) rfl (fun ls hl => ?_)
    obtain ⟨v2, ev2⟩ : ∃ y : Int32, y = x2 + 1 := ⟨_, rfl⟩
    have h := h v2 ev2
    refine lv_iinc (v := v2) (lv' := [(2, .int v2), (1, .int v1), (0, .int x0)]) hx hb (dk DX12_bits 15 rfl) hl (k := 2) rfl (by rw [ev2]; rfl) (by decide) rfl (fun ls hl => ?_)
    refine lv_goto (tgt := 4) hx hb (dk DX12_bits 16 rfl) (by decide) ?_
    exact hK0 x0 v1 v2 h  ls (lv_sub hl [2, 1, 0] rfl)
set_option maxHeartbeats 4000000 in
set_option maxRecDepth 100000 in
theorem m_bits {l : Launch} {Post : Int32 → Prop} (a0 : Int32) (h : VC_bits Post a0) : Met l yX12_bits ww_bits ({ frames := 0, cells := 0, slots := 0, locals := 0 } : Room) (va_Pc [.int a0] (fun _ => True)) (vp_Si Post) 0 0 (fun _ => False) := by
  refine oS (cc := cX12_bits) (maxL := 3) (ret := (some .int)) (Qc := vp_Si Post) (by decide) rfl (Nat.le_of_ble_eq_true rfl) (fun p e s m below meth c ls X hr hlocks hl => ?_)
  have hx := X.1
  have hb := X.2.1
  have hl : lv_has ls 3 [(0, .int a0)] := hl
  generalize hargs : ([.int a0] : List Value).toArray = args at X ⊢
  have h := h (fun hd => match hd with | (x0, x1, x2) => ∀ ls : Array Slot, lv_has ls 3 [(0, .int x0), (1, .int x1), (2, .int x2)] → W p l e (headSpec ww_bits ({ frames := 0, cells := 0, slots := 0, locals := 0 } : Room)).room s m args below meth c s.heap [] 0 0 (MQ below (vp_Si Post) args s 0 0 (fun _ => False)) (F0 m 4 ls [])) ?_
  · skip
    refine lv_iconst (v := 0) hx hb (dk DX12_bits 0 rfl) (by decide) ?_
    refine lv_istore_n (lv' := [(1, .int 0), (0, .int a0)]) hx hb (dk DX12_bits 1 rfl) rfl hl (by decide) rfl (fun ls hl => ?_)
    refine lv_iconst (v := 0) hx hb (dk DX12_bits 2 rfl) (by decide) ?_
    refine lv_istore_n (lv' := [(2, .int 0), (1, .int 0), (0, .int a0)]) hx hb (dk DX12_bits 3 rfl) rfl hl (by decide) rfl (fun ls hl => ?_)
    exact h  ls (lv_sub hl [2, 1, 0] rfl)
  · rintro ⟨x0, x1, x2⟩ hB
    exact h_bits_0 X hr hlocks (hK0 := fun _ _ _ h => h) x0 x1 x2 hB

def ww_isBlower : List Cond := .code yX12_isBlower cX12_isBlower 2 (some .boolean) :: (WdM ++ wsX120)
theorem q_isBlower : yX12_isBlower.cls = RX12 ∧ yX12_isBlower.cls ≠ "java/lang/invoke/MethodHandle" ∧ yX12_isBlower.cls ≠ "java/lang/invoke/VarHandle" ∧ (parseMethodDescriptor yX12_isBlower.desc).map (fun d => d.parameters.length) = some 1 := by decide +kernel
def VC_isBlower (Post : Int32 → MS → Prop) (a0 : Int32) (S : MS) : Prop := vp_in (0 : Int32) 3890 ∧ VC_isIn (fun r1 => (r1 = 0 ∨ r1 = 1) ∧ Post r1 S) a0 0 (((S.2.2.1 0) (0 : Int32).toNatClampNeg) - 1)
set_option maxHeartbeats 4000000 in
set_option maxRecDepth 100000 in
theorem m_isBlower {l : Launch} {dC : Nat → ClassId} {dI : Nat → Nat → Nat} {q : Nat → Nat} {cI cJ cZ : ClassId} {sz : Nat} {Post : Int32 → MS → Prop} (a0 : Int32) (S : MS) (h : VC_isBlower Post a0 S) : Met l yX12_isBlower ww_isBlower ({ frames := 1, cells := 0, slots := 0, locals := 22 } : Room) (va_Pc [.ref (q 0), .int a0] (preM dC dI q cI cJ cZ S sz)) (va_Qi Post (atM dC dI q cI cJ cZ (va_A (wM q cI cJ cZ S) sz)) (va_A (wM q cI cJ cZ S) sz)) 0 0 (va_A (wM q cI cJ cZ S) sz) := by
  refine oM (cc := cX12_isBlower) (maxL := 2) (ret := (some .boolean)) (Qc := fun A => va_Qi Post (atM dC dI q cI cJ cZ A) A) (by decide) rfl (fun w h => List.mem_cons_of_mem _ (List.mem_append_right _ h)) rfl (Nat.le_of_ble_eq_true rfl) (fun p e s m below meth c A ls X hr hlocks hP hD hS hl => ?_)
  have hx := X.1
  have hb := X.2.1
  have hl : lv_has ls 2 [(0, .ref (q 0)), (1, .int a0)] := hl
  have lk7 := X.2.2.2.2.1 (.fieldLink RX12 7 "BreathOnLoanModel" "a" "[I") (inW 5 rfl)
  dsimp only [VC_isBlower] at h
  refine lv_iload_n hx hb (dk DX12_isBlower 0 rfl) rfl (lv_at hl 1 rfl) ?_
  refine lv_iconst (v := 0) hx hb (dk DX12_isBlower 1 rfl) (by decide) ?_
  refine lv_aload_n hx hb (dk DX12_isBlower 2 rfl) rfl (lv_at hl 0 rfl) ?_
  refine gM X hP 0 (by decide) rfl lk7 (dk DX12_isBlower 3 rfl) ?_
  refine lv_iconst (v := 0) hx hb (dk DX12_isBlower 4 rfl) (by decide) ?_
  obtain ⟨hin, h⟩ := h
  refine ldM X hP 1 rfl hin (dk DX12_isBlower 5 rfl) ?_
  refine lv_iconst (v := 1) hx hb (dk DX12_isBlower 6 rfl) (by decide) ?_
  refine lv_isub hx hb (dk DX12_isBlower 7 rfl) ?_
  refine cSi (As := [.int a0, .int 0, .int (((S.2.2.1 0) (0 : Int32).toNatClampNeg) - 1)]) (rest := []) ⟨X.1, X.2.1, X.2.2.1, X.2.2.2.1, X.2.2.2.2.1⟩ (m_isIn (l := l) a0 0 (((S.2.2.1 0) (0 : Int32).toNatClampNeg) - 1) h) (va_cwS 3 X.2.2.2.2.1 (gwS 31 32 24 26 rfl rfl rfl rfl) rfl rfl rfl q_isIn ⟨Nat.le_of_ble_eq_true rfl, Nat.le_of_ble_eq_true rfl⟩) rfl hl.1 rfl (Nat.le_of_ble_eq_true rfl) (dk DX12_isBlower 8 rfl) (fun r1 h => ?_)
  obtain ⟨hz, h⟩ := h
  exact W.zret (v := r1) hx hb hr (by rcases hz with z | z <;> rw [z] <;> decide) (fun t ht hW => ⟨⟨_, _, rfl, h, by rw [ht]; exact hP, va_K.moved hW.alike X.2.2.2.2.2.2.1, hD⟩, hS.F ht⟩) hS.2.2 (dk DX12_isBlower 9 rfl)

def ww_isKind : List Cond := .code yX12_isKind cX12_isKind 2 (some .boolean) :: (WdM ++ wsX120)
theorem q_isKind : yX12_isKind.cls = RX12 ∧ yX12_isKind.cls ≠ "java/lang/invoke/MethodHandle" ∧ yX12_isKind.cls ≠ "java/lang/invoke/VarHandle" ∧ (parseMethodDescriptor yX12_isKind.desc).map (fun d => d.parameters.length) = some 1 := by decide +kernel
def VC_isKind (Post : Int32 → MS → Prop) (a0 : Int32) (S : MS) : Prop := vp_in (1 : Int32) 3890 ∧ VC_isIn (fun r1 => (r1 = 0 ∨ r1 = 1) ∧ Post r1 S) a0 0 (((S.2.2.1 0) (1 : Int32).toNatClampNeg) - 1)
set_option maxHeartbeats 4000000 in
set_option maxRecDepth 100000 in
theorem m_isKind {l : Launch} {dC : Nat → ClassId} {dI : Nat → Nat → Nat} {q : Nat → Nat} {cI cJ cZ : ClassId} {sz : Nat} {Post : Int32 → MS → Prop} (a0 : Int32) (S : MS) (h : VC_isKind Post a0 S) : Met l yX12_isKind ww_isKind ({ frames := 1, cells := 0, slots := 0, locals := 22 } : Room) (va_Pc [.ref (q 0), .int a0] (preM dC dI q cI cJ cZ S sz)) (va_Qi Post (atM dC dI q cI cJ cZ (va_A (wM q cI cJ cZ S) sz)) (va_A (wM q cI cJ cZ S) sz)) 0 0 (va_A (wM q cI cJ cZ S) sz) := by
  refine oM (cc := cX12_isKind) (maxL := 2) (ret := (some .boolean)) (Qc := fun A => va_Qi Post (atM dC dI q cI cJ cZ A) A) (by decide) rfl (fun w h => List.mem_cons_of_mem _ (List.mem_append_right _ h)) rfl (Nat.le_of_ble_eq_true rfl) (fun p e s m below meth c A ls X hr hlocks hP hD hS hl => ?_)
  have hx := X.1
  have hb := X.2.1
  have hl : lv_has ls 2 [(0, .ref (q 0)), (1, .int a0)] := hl
  have lk7 := X.2.2.2.2.1 (.fieldLink RX12 7 "BreathOnLoanModel" "a" "[I") (inW 5 rfl)
  dsimp only [VC_isKind] at h
  refine lv_iload_n hx hb (dk DX12_isKind 0 rfl) rfl (lv_at hl 1 rfl) ?_
  refine lv_iconst (v := 0) hx hb (dk DX12_isKind 1 rfl) (by decide) ?_
  refine lv_aload_n hx hb (dk DX12_isKind 2 rfl) rfl (lv_at hl 0 rfl) ?_
  refine gM X hP 0 (by decide) rfl lk7 (dk DX12_isKind 3 rfl) ?_
  refine lv_iconst (v := 1) hx hb (dk DX12_isKind 4 rfl) (by decide) ?_
  obtain ⟨hin, h⟩ := h
  refine ldM X hP 1 rfl hin (dk DX12_isKind 5 rfl) ?_
  refine lv_iconst (v := 1) hx hb (dk DX12_isKind 6 rfl) (by decide) ?_
  refine lv_isub hx hb (dk DX12_isKind 7 rfl) ?_
  refine cSi (As := [.int a0, .int 0, .int (((S.2.2.1 0) (1 : Int32).toNatClampNeg) - 1)]) (rest := []) ⟨X.1, X.2.1, X.2.2.1, X.2.2.2.1, X.2.2.2.2.1⟩ (m_isIn (l := l) a0 0 (((S.2.2.1 0) (1 : Int32).toNatClampNeg) - 1) h) (va_cwS 3 X.2.2.2.2.1 (gwS 31 32 24 26 rfl rfl rfl rfl) rfl rfl rfl q_isIn ⟨Nat.le_of_ble_eq_true rfl, Nat.le_of_ble_eq_true rfl⟩) rfl hl.1 rfl (Nat.le_of_ble_eq_true rfl) (dk DX12_isKind 8 rfl) (fun r1 h => ?_)
  obtain ⟨hz, h⟩ := h
  exact W.zret (v := r1) hx hb hr (by rcases hz with z | z <;> rw [z] <;> decide) (fun t ht hW => ⟨⟨_, _, rfl, h, by rw [ht]; exact hP, va_K.moved hW.alike X.2.2.2.2.2.2.1, hD⟩, hS.F ht⟩) hS.2.2 (dk DX12_isKind 9 rfl)

def ww_isPiece : List Cond := .code yX12_isPiece cX12_isPiece 2 (some .boolean) :: (WdM ++ wsX120)
theorem q_isPiece : yX12_isPiece.cls = RX12 ∧ yX12_isPiece.cls ≠ "java/lang/invoke/MethodHandle" ∧ yX12_isPiece.cls ≠ "java/lang/invoke/VarHandle" ∧ (parseMethodDescriptor yX12_isPiece.desc).map (fun d => d.parameters.length) = some 1 := by decide +kernel
def VC_isPiece (Post : Int32 → MS → Prop) (a0 : Int32) (S : MS) : Prop := vp_in (2 : Int32) 3890 ∧ VC_isIn (fun r1 => (r1 = 0 ∨ r1 = 1) ∧ Post r1 S) a0 0 (((S.2.2.1 0) (2 : Int32).toNatClampNeg) - 1)
set_option maxHeartbeats 4000000 in
set_option maxRecDepth 100000 in
theorem m_isPiece {l : Launch} {dC : Nat → ClassId} {dI : Nat → Nat → Nat} {q : Nat → Nat} {cI cJ cZ : ClassId} {sz : Nat} {Post : Int32 → MS → Prop} (a0 : Int32) (S : MS) (h : VC_isPiece Post a0 S) : Met l yX12_isPiece ww_isPiece ({ frames := 1, cells := 0, slots := 0, locals := 22 } : Room) (va_Pc [.ref (q 0), .int a0] (preM dC dI q cI cJ cZ S sz)) (va_Qi Post (atM dC dI q cI cJ cZ (va_A (wM q cI cJ cZ S) sz)) (va_A (wM q cI cJ cZ S) sz)) 0 0 (va_A (wM q cI cJ cZ S) sz) := by
  refine oM (cc := cX12_isPiece) (maxL := 2) (ret := (some .boolean)) (Qc := fun A => va_Qi Post (atM dC dI q cI cJ cZ A) A) (by decide) rfl (fun w h => List.mem_cons_of_mem _ (List.mem_append_right _ h)) rfl (Nat.le_of_ble_eq_true rfl) (fun p e s m below meth c A ls X hr hlocks hP hD hS hl => ?_)
  have hx := X.1
  have hb := X.2.1
  have hl : lv_has ls 2 [(0, .ref (q 0)), (1, .int a0)] := hl
  have lk7 := X.2.2.2.2.1 (.fieldLink RX12 7 "BreathOnLoanModel" "a" "[I") (inW 5 rfl)
  dsimp only [VC_isPiece] at h
  refine lv_iload_n hx hb (dk DX12_isPiece 0 rfl) rfl (lv_at hl 1 rfl) ?_
  refine lv_iconst (v := 0) hx hb (dk DX12_isPiece 1 rfl) (by decide) ?_
  refine lv_aload_n hx hb (dk DX12_isPiece 2 rfl) rfl (lv_at hl 0 rfl) ?_
  refine gM X hP 0 (by decide) rfl lk7 (dk DX12_isPiece 3 rfl) ?_
  refine lv_iconst (v := 2) hx hb (dk DX12_isPiece 4 rfl) (by decide) ?_
  obtain ⟨hin, h⟩ := h
  refine ldM X hP 1 rfl hin (dk DX12_isPiece 5 rfl) ?_
  refine lv_iconst (v := 1) hx hb (dk DX12_isPiece 6 rfl) (by decide) ?_
  refine lv_isub hx hb (dk DX12_isPiece 7 rfl) ?_
  refine cSi (As := [.int a0, .int 0, .int (((S.2.2.1 0) (2 : Int32).toNatClampNeg) - 1)]) (rest := []) ⟨X.1, X.2.1, X.2.2.1, X.2.2.2.1, X.2.2.2.2.1⟩ (m_isIn (l := l) a0 0 (((S.2.2.1 0) (2 : Int32).toNatClampNeg) - 1) h) (va_cwS 3 X.2.2.2.2.1 (gwS 31 32 24 26 rfl rfl rfl rfl) rfl rfl rfl q_isIn ⟨Nat.le_of_ble_eq_true rfl, Nat.le_of_ble_eq_true rfl⟩) rfl hl.1 rfl (Nat.le_of_ble_eq_true rfl) (dk DX12_isPiece 8 rfl) (fun r1 h => ?_)
  obtain ⟨hz, h⟩ := h
  exact W.zret (v := r1) hx hb hr (by rcases hz with z | z <;> rw [z] <;> decide) (fun t ht hW => ⟨⟨_, _, rfl, h, by rw [ht]; exact hP, va_K.moved hW.alike X.2.2.2.2.2.2.1, hD⟩, hS.F ht⟩) hS.2.2 (dk DX12_isPiece 9 rfl)

def ww_isHour : List Cond := .code yX12_isHour cX12_isHour 1 (some .boolean) :: (WdM ++ wsX120)
theorem q_isHour : yX12_isHour.cls ≠ "java/lang/invoke/MethodHandle" ∧ yX12_isHour.cls ≠ "java/lang/invoke/VarHandle" ∧ (parseMethodDescriptor yX12_isHour.desc).map (fun d => d.parameters.length) = some 1 := by decide +kernel
def VC_isHour (Post : Int32 → Prop) (a0 : Int32) : Prop := VC_isIn (fun r1 => (r1 = 0 ∨ r1 = 1) ∧ Post r1) a0 0 999
set_option maxHeartbeats 4000000 in
set_option maxRecDepth 100000 in
theorem m_isHour {l : Launch} {Post : Int32 → Prop} (a0 : Int32) (h : VC_isHour Post a0) : Met l yX12_isHour ww_isHour ({ frames := 1, cells := 0, slots := 0, locals := 22 } : Room) (va_Pc [.int a0] (fun _ => True)) (vp_Si Post) 0 0 (fun _ => False) := by
  refine oS (cc := cX12_isHour) (maxL := 1) (ret := (some .boolean)) (Qc := vp_Si Post) (by decide) rfl (Nat.le_of_ble_eq_true rfl) (fun p e s m below meth c ls X hr hlocks hl => ?_)
  have hx := X.1
  have hb := X.2.1
  have hl : lv_has ls 1 [(0, .int a0)] := hl
  dsimp only [VC_isHour] at h
  refine lv_iload_n hx hb (dk DX12_isHour 0 rfl) rfl (lv_at hl 0 rfl) ?_
  refine lv_iconst (v := 0) hx hb (dk DX12_isHour 1 rfl) (by decide) ?_
  refine lv_sipush (v := 999) hx hb (dk DX12_isHour 2 rfl) (by decide) ?_
  refine cSi (As := [.int a0, .int 0, .int 999]) (rest := []) X (m_isIn (l := l) a0 0 999 h) (va_cwS 3 X.2.2.2.2 (gwS 31 32 24 26 rfl rfl rfl rfl) rfl rfl rfl q_isIn ⟨Nat.le_of_ble_eq_true rfl, Nat.le_of_ble_eq_true rfl⟩) rfl hl.1 rfl (Nat.le_of_ble_eq_true rfl) (dk DX12_isHour 3 rfl) (fun r1 h => ?_)
  obtain ⟨hz, h⟩ := h
  exact W.zret (v := r1) hx hb hr (by rcases hz with z | z <;> rw [z] <;> decide) (fun t ht hW => ⟨_, rfl, h, ht⟩) (fun _ h => by cases h) (dk DX12_isHour 4 rfl)

def ww_get : List Cond := .code yX12_get cX12_get 3 (some .int) :: (WdM ++ wsX120)
theorem q_get : yX12_get.cls = RX12 ∧ yX12_get.cls ≠ "java/lang/invoke/MethodHandle" ∧ yX12_get.cls ≠ "java/lang/invoke/VarHandle" ∧ (parseMethodDescriptor yX12_get.desc).map (fun d => d.parameters.length) = some 2 := by decide +kernel
def VC_get (Post : Int32 → MS → Prop) (a0 : Int32) (a1 : Int32) (S : MS) : Prop := vp_in ((10 + (5 * a0)) + a1) 3890 ∧ Post ((S.2.2.1 0) ((10 + (5 * a0)) + a1).toNatClampNeg) S
set_option maxHeartbeats 4000000 in
set_option maxRecDepth 100000 in
theorem m_get {l : Launch} {dC : Nat → ClassId} {dI : Nat → Nat → Nat} {q : Nat → Nat} {cI cJ cZ : ClassId} {sz : Nat} {Post : Int32 → MS → Prop} (a0 : Int32) (a1 : Int32) (S : MS) (h : VC_get Post a0 a1 S) : Met l yX12_get ww_get ({ frames := 0, cells := 0, slots := 0, locals := 0 } : Room) (va_Pc [.ref (q 0), .int a0, .int a1] (preM dC dI q cI cJ cZ S sz)) (va_Qi Post (atM dC dI q cI cJ cZ (va_A (wM q cI cJ cZ S) sz)) (va_A (wM q cI cJ cZ S) sz)) 0 0 (va_A (wM q cI cJ cZ S) sz) := by
  refine oM (cc := cX12_get) (maxL := 3) (ret := (some .int)) (Qc := fun A => va_Qi Post (atM dC dI q cI cJ cZ A) A) (by decide) rfl (fun w h => List.mem_cons_of_mem _ (List.mem_append_right _ h)) rfl (Nat.le_of_ble_eq_true rfl) (fun p e s m below meth c A ls X hr hlocks hP hD hS hl => ?_)
  have hx := X.1
  have hb := X.2.1
  have hl : lv_has ls 3 [(0, .ref (q 0)), (1, .int a0), (2, .int a1)] := hl
  have lk7 := X.2.2.2.2.1 (.fieldLink RX12 7 "BreathOnLoanModel" "a" "[I") (inW 5 rfl)
  dsimp only [VC_get] at h
  refine lv_aload_n hx hb (dk DX12_get 0 rfl) rfl (lv_at hl 0 rfl) ?_
  refine gM X hP 0 (by decide) rfl lk7 (dk DX12_get 1 rfl) ?_
  refine lv_bipush (v := 10) hx hb (dk DX12_get 2 rfl) (by decide) ?_
  refine lv_iconst (v := 5) hx hb (dk DX12_get 3 rfl) (by decide) ?_
  refine lv_iload_n hx hb (dk DX12_get 4 rfl) rfl (lv_at hl 1 rfl) ?_
  refine lv_imul hx hb (dk DX12_get 5 rfl) ?_
  refine lv_iadd hx hb (dk DX12_get 6 rfl) ?_
  refine lv_iload_n hx hb (dk DX12_get 7 rfl) rfl (lv_at hl 2 rfl) ?_
  refine lv_iadd hx hb (dk DX12_get 8 rfl) ?_
  obtain ⟨hin, h⟩ := h
  refine ldM X hP 1 rfl hin (dk DX12_get 9 rfl) ?_
  exact W.iret (v := (S.2.2.1 0) ((10 + (5 * a0)) + a1).toNatClampNeg) hx hb hr (fun t ht hW => ⟨⟨_, _, rfl, h, by rw [ht]; exact hP, va_K.moved hW.alike X.2.2.2.2.2.2.1, hD⟩, hS.F ht⟩) hS.2.2 (dk DX12_get 10 rfl)

def ww_set : List Cond := .code yX12_set cX12_set 4 none :: (WdM ++ wsX120)
theorem q_set : yX12_set.cls = RX12 ∧ yX12_set.cls ≠ "java/lang/invoke/MethodHandle" ∧ yX12_set.cls ≠ "java/lang/invoke/VarHandle" ∧ (parseMethodDescriptor yX12_set.desc).map (fun d => d.parameters.length) = some 3 := by decide +kernel
def VC_set (Post : MS → Prop) (a0 : Int32) (a1 : Int32) (a2 : Int32) (S : MS) : Prop := vp_in ((10 + (5 * a0)) + a1) 3890 ∧ ∀ S1 : MS, S1 = sF S 0 (upd (S.2.2.1 0) ((10 + (5 * a0)) + a1).toNatClampNeg a2) → Post S1
set_option maxHeartbeats 4000000 in
set_option maxRecDepth 100000 in
theorem m_set {l : Launch} {dC : Nat → ClassId} {dI : Nat → Nat → Nat} {q : Nat → Nat} {cI cJ cZ : ClassId} {sz : Nat} {Post : MS → Prop} (a0 : Int32) (a1 : Int32) (a2 : Int32) (S : MS) (h : VC_set Post a0 a1 a2 S) : Met l yX12_set ww_set ({ frames := 0, cells := 0, slots := 0, locals := 0 } : Room) (va_Pc [.ref (q 0), .int a0, .int a1, .int a2] (preM dC dI q cI cJ cZ S sz)) (va_Qv Post (atM dC dI q cI cJ cZ (va_A (wM q cI cJ cZ S) sz)) (va_A (wM q cI cJ cZ S) sz)) 0 0 (va_A (wM q cI cJ cZ S) sz) := by
  refine oM (cc := cX12_set) (maxL := 4) (ret := none) (Qc := fun A => va_Qv Post (atM dC dI q cI cJ cZ A) A) (by decide) rfl (fun w h => List.mem_cons_of_mem _ (List.mem_append_right _ h)) rfl (Nat.le_of_ble_eq_true rfl) (fun p e s m below meth c A ls X hr hlocks hP hD hS hl => ?_)
  have hx := X.1
  have hb := X.2.1
  have hl : lv_has ls 4 [(0, .ref (q 0)), (1, .int a0), (2, .int a1), (3, .int a2)] := hl
  have lk7 := X.2.2.2.2.1 (.fieldLink RX12 7 "BreathOnLoanModel" "a" "[I") (inW 5 rfl)
  dsimp only [VC_set] at h
  refine lv_aload_n hx hb (dk DX12_set 0 rfl) rfl (lv_at hl 0 rfl) ?_
  refine gM X hP 0 (by decide) rfl lk7 (dk DX12_set 1 rfl) ?_
  refine lv_bipush (v := 10) hx hb (dk DX12_set 2 rfl) (by decide) ?_
  refine lv_iconst (v := 5) hx hb (dk DX12_set 3 rfl) (by decide) ?_
  refine lv_iload_n hx hb (dk DX12_set 4 rfl) rfl (lv_at hl 1 rfl) ?_
  refine lv_imul hx hb (dk DX12_set 5 rfl) ?_
  refine lv_iadd hx hb (dk DX12_set 6 rfl) ?_
  refine lv_iload_n hx hb (dk DX12_set 7 rfl) rfl (lv_at hl 2 rfl) ?_
  refine lv_iadd hx hb (dk DX12_set 8 rfl) ?_
  refine lv_iload_n hx hb (dk DX12_set 9 rfl) rfl (lv_at hl 3 rfl) ?_
  obtain ⟨hin, h⟩ := h
  refine stM_0 X hP hD hS hin (dk DX12_set 10 rfl) (fun S1 eS1 H locs hP hD hS => ?_)
  have h := h S1 eS1
  exact W.vret hx hb hr (fun t ht hW => ⟨⟨_, rfl, h, by rw [ht]; exact hP, va_K.moved hW.alike X.2.2.2.2.2.2.1, hD⟩, hS.F ht⟩) hS.2.2 (dk DX12_set 11 rfl)

def ww_pieceAt : List Cond := .code yX12_pieceAt cX12_pieceAt 1 (some .int) :: (WdM ++ wsX120)
theorem q_pieceAt : yX12_pieceAt.cls ≠ "java/lang/invoke/MethodHandle" ∧ yX12_pieceAt.cls ≠ "java/lang/invoke/VarHandle" ∧ (parseMethodDescriptor yX12_pieceAt.desc).map (fun d => d.parameters.length) = some 1 := by decide +kernel
def VC_pieceAt (Post : Int32 → Prop) (a0 : Int32) : Prop := Post (150 + (10 * a0))
set_option maxHeartbeats 4000000 in
set_option maxRecDepth 100000 in
theorem m_pieceAt {l : Launch} {Post : Int32 → Prop} (a0 : Int32) (h : VC_pieceAt Post a0) : Met l yX12_pieceAt ww_pieceAt ({ frames := 0, cells := 0, slots := 0, locals := 0 } : Room) (va_Pc [.int a0] (fun _ => True)) (vp_Si Post) 0 0 (fun _ => False) := by
  refine oS (cc := cX12_pieceAt) (maxL := 1) (ret := (some .int)) (Qc := vp_Si Post) (by decide) rfl (Nat.le_of_ble_eq_true rfl) (fun p e s m below meth c ls X hr hlocks hl => ?_)
  have hx := X.1
  have hb := X.2.1
  have hl : lv_has ls 1 [(0, .int a0)] := hl
  dsimp only [VC_pieceAt] at h
  refine lv_sipush (v := 150) hx hb (dk DX12_pieceAt 0 rfl) (by decide) ?_
  refine lv_bipush (v := 10) hx hb (dk DX12_pieceAt 1 rfl) (by decide) ?_
  refine lv_iload_n hx hb (dk DX12_pieceAt 2 rfl) rfl (lv_at hl 0 rfl) ?_
  refine lv_imul hx hb (dk DX12_pieceAt 3 rfl) ?_
  refine lv_iadd hx hb (dk DX12_pieceAt 4 rfl) ?_
  exact W.iret (v := 150 + (10 * a0)) hx hb hr (fun t ht hW => ⟨_, rfl, h, ht⟩) (fun _ h => by cases h) (dk DX12_pieceAt 5 rfl)

def ww_gave : List Cond := .code yX12_gave cX12_gave 3 (some .int) :: (WdM ++ wsX120)
theorem q_gave : yX12_gave.cls = RX12 ∧ yX12_gave.cls ≠ "java/lang/invoke/MethodHandle" ∧ yX12_gave.cls ≠ "java/lang/invoke/VarHandle" ∧ (parseMethodDescriptor yX12_gave.desc).map (fun d => d.parameters.length) = some 2 := by decide +kernel
def VC_gave (Post : Int32 → MS → Prop) (a0 : Int32) (a1 : Int32) (S : MS) : Prop := VC_pieceAt (fun r1 => vp_in ((r1 + 4) + a1) 3890 ∧ Post ((S.2.2.1 0) ((r1 + 4) + a1).toNatClampNeg) S) a0
set_option maxHeartbeats 4000000 in
set_option maxRecDepth 100000 in
theorem m_gave {l : Launch} {dC : Nat → ClassId} {dI : Nat → Nat → Nat} {q : Nat → Nat} {cI cJ cZ : ClassId} {sz : Nat} {Post : Int32 → MS → Prop} (a0 : Int32) (a1 : Int32) (S : MS) (h : VC_gave Post a0 a1 S) : Met l yX12_gave ww_gave ({ frames := 1, cells := 0, slots := 0, locals := 20 } : Room) (va_Pc [.ref (q 0), .int a0, .int a1] (preM dC dI q cI cJ cZ S sz)) (va_Qi Post (atM dC dI q cI cJ cZ (va_A (wM q cI cJ cZ S) sz)) (va_A (wM q cI cJ cZ S) sz)) 0 0 (va_A (wM q cI cJ cZ S) sz) := by
  refine oM (cc := cX12_gave) (maxL := 3) (ret := (some .int)) (Qc := fun A => va_Qi Post (atM dC dI q cI cJ cZ A) A) (by decide) rfl (fun w h => List.mem_cons_of_mem _ (List.mem_append_right _ h)) rfl (Nat.le_of_ble_eq_true rfl) (fun p e s m below meth c A ls X hr hlocks hP hD hS hl => ?_)
  have hx := X.1
  have hb := X.2.1
  have hl : lv_has ls 3 [(0, .ref (q 0)), (1, .int a0), (2, .int a1)] := hl
  have lk7 := X.2.2.2.2.1 (.fieldLink RX12 7 "BreathOnLoanModel" "a" "[I") (inW 5 rfl)
  dsimp only [VC_gave] at h
  refine lv_aload_n hx hb (dk DX12_gave 0 rfl) rfl (lv_at hl 0 rfl) ?_
  refine gM X hP 0 (by decide) rfl lk7 (dk DX12_gave 1 rfl) ?_
  refine lv_iload_n hx hb (dk DX12_gave 2 rfl) rfl (lv_at hl 1 rfl) ?_
  refine cSi (As := [.int a0]) (rest := [.ref (q 1)]) ⟨X.1, X.2.1, X.2.2.1, X.2.2.2.1, X.2.2.2.2.1⟩ (m_pieceAt (l := l) a0 h) (va_cwS 1 X.2.2.2.2.1 (gwS 40 41 24 38 rfl rfl rfl rfl) rfl rfl rfl q_pieceAt ⟨Nat.le_of_ble_eq_true rfl, Nat.le_of_ble_eq_true rfl⟩) rfl hl.1 rfl (Nat.le_of_ble_eq_true rfl) (dk DX12_gave 3 rfl) (fun r1 h => ?_)
  refine lv_iconst (v := 4) hx hb (dk DX12_gave 4 rfl) (by decide) ?_
  refine lv_iadd hx hb (dk DX12_gave 5 rfl) ?_
  refine lv_iload_n hx hb (dk DX12_gave 6 rfl) rfl (lv_at hl 2 rfl) ?_
  refine lv_iadd hx hb (dk DX12_gave 7 rfl) ?_
  obtain ⟨hin, h⟩ := h
  refine ldM X hP 1 rfl hin (dk DX12_gave 8 rfl) ?_
  exact W.iret (v := (S.2.2.1 0) ((r1 + 4) + a1).toNatClampNeg) hx hb hr (fun t ht hW => ⟨⟨_, _, rfl, h, by rw [ht]; exact hP, va_K.moved hW.alike X.2.2.2.2.2.2.1, hD⟩, hS.F ht⟩) hS.2.2 (dk DX12_gave 9 rfl)

def ww_blower : List Cond := .code yX12_blower cX12_blower 5 (some .int) :: (WdM ++ wsX120)
theorem q_blower : yX12_blower.cls = RX12 ∧ yX12_blower.cls ≠ "java/lang/invoke/MethodHandle" ∧ yX12_blower.cls ≠ "java/lang/invoke/VarHandle" ∧ (parseMethodDescriptor yX12_blower.desc).map (fun d => d.parameters.length) = some 3 := by decide +kernel
def VC_blower (Post : Int32 → MS → Prop) (a0 : Int32) (a1 : Int32) (a2 : Int32) (S : MS) : Prop := VC_isIn (fun r1 => ((r1 = 0 → Post (-1) S) ∧ (¬ r1 = 0 → VC_isIn (fun r2 => ((r2 = 0 → Post (-1) S) ∧ (¬ r2 = 0 → VC_isIn (fun r3 => ((r3 = 0 → Post (-1) S) ∧ (¬ r3 = 0 → vp_in (0 : Int32) 3890 ∧ ((¬ ((S.2.2.1 0) (0 : Int32).toNatClampNeg) = 6 → vp_in (0 : Int32) 3890 ∧ ∀ v4 : Int32, v4 = (S.2.2.1 0) (0 : Int32).toNatClampNeg → VC_set (fun S5 => VC_set (fun S6 => VC_set (fun S7 => VC_set (fun S8 => VC_set (fun S9 => vp_in (0 : Int32) 3890 ∧ ∀ v10 : Int32, v10 = ((S9.2.2.1 0) (0 : Int32).toNatClampNeg) + 1 → vp_in (0 : Int32) 3890 ∧ ∀ S11 : MS, S11 = sF S9 0 (upd (S9.2.2.1 0) (0 : Int32).toNatClampNeg v10) → Post v4 S11) v4 4 0 S8) v4 3 0 S7) v4 2 a2 S6) v4 1 a1 S5) v4 0 a0 S) ∧ (((S.2.2.1 0) (0 : Int32).toNatClampNeg) = 6 → Post (-1) S))))) a2 0 999))) a1 0 3))) a0 1 9
set_option maxHeartbeats 4000000 in
set_option maxRecDepth 100000 in
theorem m_blower {l : Launch} {dC : Nat → ClassId} {dI : Nat → Nat → Nat} {q : Nat → Nat} {cI cJ cZ : ClassId} {sz : Nat} {Post : Int32 → MS → Prop} (a0 : Int32) (a1 : Int32) (a2 : Int32) (S : MS) (h : VC_blower Post a0 a1 a2 S) : Met l yX12_blower ww_blower ({ frames := 1, cells := 0, slots := 0, locals := 23 } : Room) (va_Pc [.ref (q 0), .int a0, .int a1, .int a2] (preM dC dI q cI cJ cZ S sz)) (va_Qi Post (atM dC dI q cI cJ cZ (va_A (wM q cI cJ cZ S) sz)) (va_A (wM q cI cJ cZ S) sz)) 0 0 (va_A (wM q cI cJ cZ S) sz) := by
  refine oM (cc := cX12_blower) (maxL := 5) (ret := (some .int)) (Qc := fun A => va_Qi Post (atM dC dI q cI cJ cZ A) A) (by decide) rfl (fun w h => List.mem_cons_of_mem _ (List.mem_append_right _ h)) rfl (Nat.le_of_ble_eq_true rfl) (fun p e s m below meth c A ls X hr hlocks hP hD hS hl => ?_)
  have hx := X.1
  have hb := X.2.1
  have hl : lv_has ls 5 [(0, .ref (q 0)), (1, .int a0), (2, .int a1), (3, .int a2)] := hl
  have lk7 := X.2.2.2.2.1 (.fieldLink RX12 7 "BreathOnLoanModel" "a" "[I") (inW 5 rfl)
  dsimp only [VC_blower] at h
  refine lv_iload_n hx hb (dk DX12_blower 0 rfl) rfl (lv_at hl 1 rfl) ?_
  refine lv_iconst (v := 1) hx hb (dk DX12_blower 1 rfl) (by decide) ?_
  refine lv_bipush (v := 9) hx hb (dk DX12_blower 2 rfl) (by decide) ?_
  refine cSi (As := [.int a0, .int 1, .int 9]) (rest := []) ⟨X.1, X.2.1, X.2.2.1, X.2.2.2.1, X.2.2.2.2.1⟩ (m_isIn (l := l) a0 1 9 h) (va_cwS 3 X.2.2.2.2.1 (gwS 31 32 24 26 rfl rfl rfl rfl) rfl rfl rfl q_isIn ⟨Nat.le_of_ble_eq_true rfl, Nat.le_of_ble_eq_true rfl⟩) rfl hl.1 rfl (Nat.le_of_ble_eq_true rfl) (dk DX12_blower 3 rfl) (fun r1 h => ?_)
  refine lv_if_eq (tgt := 41) hx hb (dk DX12_blower 4 rfl) (by decide) (fun hc => ?_) (fun hc => ?_)
  · have h := h.1 hc
    refine lv_iconst (v := (-1)) hx hb (dk DX12_blower 21 rfl) (by decide) ?_
    exact W.iret (v := (-1)) hx hb hr (fun t ht hW => ⟨⟨_, _, rfl, h, by rw [ht]; exact hP, va_K.moved hW.alike X.2.2.2.2.2.2.1, hD⟩, hS.F ht⟩) hS.2.2 (dk DX12_blower 22 rfl)
  · have h := h.2 hc
    refine lv_iload_n hx hb (dk DX12_blower 5 rfl) rfl (lv_at hl 2 rfl) ?_
    refine lv_iconst (v := 0) hx hb (dk DX12_blower 6 rfl) (by decide) ?_
    refine lv_iconst (v := 3) hx hb (dk DX12_blower 7 rfl) (by decide) ?_
    refine cSi (As := [.int a1, .int 0, .int 3]) (rest := []) ⟨X.1, X.2.1, X.2.2.1, X.2.2.2.1, X.2.2.2.2.1⟩ (m_isIn (l := l) a1 0 3 h) (va_cwS 3 X.2.2.2.2.1 (gwS 31 32 24 26 rfl rfl rfl rfl) rfl rfl rfl q_isIn ⟨Nat.le_of_ble_eq_true rfl, Nat.le_of_ble_eq_true rfl⟩) rfl hl.1 rfl (Nat.le_of_ble_eq_true rfl) (dk DX12_blower 8 rfl) (fun r2 h => ?_)
    refine lv_if_eq (tgt := 41) hx hb (dk DX12_blower 9 rfl) (by decide) (fun hc => ?_) (fun hc => ?_)
    · have h := h.1 hc
      refine lv_iconst (v := (-1)) hx hb (dk DX12_blower 21 rfl) (by decide) ?_
      exact W.iret (v := (-1)) hx hb hr (fun t ht hW => ⟨⟨_, _, rfl, h, by rw [ht]; exact hP, va_K.moved hW.alike X.2.2.2.2.2.2.1, hD⟩, hS.F ht⟩) hS.2.2 (dk DX12_blower 22 rfl)
    · have h := h.2 hc
      refine lv_iload_n hx hb (dk DX12_blower 10 rfl) rfl (lv_at hl 3 rfl) ?_
      refine lv_iconst (v := 0) hx hb (dk DX12_blower 11 rfl) (by decide) ?_
      refine lv_sipush (v := 999) hx hb (dk DX12_blower 12 rfl) (by decide) ?_
      refine cSi (As := [.int a2, .int 0, .int 999]) (rest := []) ⟨X.1, X.2.1, X.2.2.1, X.2.2.2.1, X.2.2.2.2.1⟩ (m_isIn (l := l) a2 0 999 h) (va_cwS 3 X.2.2.2.2.1 (gwS 31 32 24 26 rfl rfl rfl rfl) rfl rfl rfl q_isIn ⟨Nat.le_of_ble_eq_true rfl, Nat.le_of_ble_eq_true rfl⟩) rfl hl.1 rfl (Nat.le_of_ble_eq_true rfl) (dk DX12_blower 13 rfl) (fun r3 h => ?_)
      refine lv_if_eq (tgt := 41) hx hb (dk DX12_blower 14 rfl) (by decide) (fun hc => ?_) (fun hc => ?_)
      · have h := h.1 hc
        refine lv_iconst (v := (-1)) hx hb (dk DX12_blower 21 rfl) (by decide) ?_
        exact W.iret (v := (-1)) hx hb hr (fun t ht hW => ⟨⟨_, _, rfl, h, by rw [ht]; exact hP, va_K.moved hW.alike X.2.2.2.2.2.2.1, hD⟩, hS.F ht⟩) hS.2.2 (dk DX12_blower 22 rfl)
      · have h := h.2 hc
        refine lv_aload_n hx hb (dk DX12_blower 15 rfl) rfl (lv_at hl 0 rfl) ?_
        refine gM X hP 0 (by decide) rfl lk7 (dk DX12_blower 16 rfl) ?_
        refine lv_iconst (v := 0) hx hb (dk DX12_blower 17 rfl) (by decide) ?_
        obtain ⟨hin, h⟩ := h
        refine ldM X hP 1 rfl hin (dk DX12_blower 18 rfl) ?_
        refine lv_bipush (v := 6) hx hb (dk DX12_blower 19 rfl) (by decide) ?_
        refine lv_icmp_ne (tgt := 43) hx hb (dk DX12_blower 20 rfl) (by decide) (fun hc => ?_) (fun hc => ?_)
        · have h := h.1 hc
          refine lv_aload_n hx hb (dk DX12_blower 23 rfl) rfl (lv_at hl 0 rfl) ?_
          refine gM X hP 0 (by decide) rfl lk7 (dk DX12_blower 24 rfl) ?_
          refine lv_iconst (v := 0) hx hb (dk DX12_blower 25 rfl) (by decide) ?_
          obtain ⟨hin, h⟩ := h
          refine ldM X hP 1 rfl hin (dk DX12_blower 26 rfl) ?_
          refine lv_topi (fun v4 ev4 => ?_)
          have h := h v4 ev4
          refine lv_istore (lv' := [(4, .int v4), (0, .ref (q 0)), (1, .int a0), (2, .int a1), (3, .int a2)]) hx hb (dk DX12_blower 27 rfl) hl (by decide) rfl (fun ls hl => ?_)
          refine lv_aload_n hx hb (dk DX12_blower 28 rfl) rfl (lv_at hl 1 rfl) ?_
          refine lv_iload hx hb (dk DX12_blower 29 rfl) (lv_at hl 0 rfl) ?_
          refine lv_iconst (v := 0) hx hb (dk DX12_blower 30 rfl) (by decide) ?_
          refine lv_iload_n hx hb (dk DX12_blower 31 rfl) rfl (lv_at hl 2 rfl) ?_
          refine cMv (As := [.int v4, .int 0, .int a0]) (rest := []) X (m_set (l := l) (dC := dC) (dI := dI) (q := q) (cI := cI) (cJ := cJ) (cZ := cZ) (sz := _) v4 0 a0 S h) (cwV 3 X.2.2.2.2.1 (gwV 43 44 45 24 37 rfl rfl rfl rfl rfl) rfl rfl rfl q_set ⟨Nat.le_of_ble_eq_true rfl, Nat.le_of_ble_eq_true rfl⟩) hP hD hS rfl hl.1 rfl (Nat.le_of_ble_eq_true rfl) (dk DX12_blower 32 rfl) (fun S5 H locs h hP hD hS => ?_)
          refine lv_aload_n hx hb (dk DX12_blower 33 rfl) rfl (lv_at hl 1 rfl) ?_
          refine lv_iload hx hb (dk DX12_blower 34 rfl) (lv_at hl 0 rfl) ?_
          refine lv_iconst (v := 1) hx hb (dk DX12_blower 35 rfl) (by decide) ?_
          refine lv_iload_n hx hb (dk DX12_blower 36 rfl) rfl (lv_at hl 3 rfl) ?_
          refine cMv (As := [.int v4, .int 1, .int a1]) (rest := []) X (m_set (l := l) (dC := dC) (dI := dI) (q := q) (cI := cI) (cJ := cJ) (cZ := cZ) (sz := _) v4 1 a1 S5 h) (cwV 3 X.2.2.2.2.1 (gwV 43 44 45 24 37 rfl rfl rfl rfl rfl) rfl rfl rfl q_set ⟨Nat.le_of_ble_eq_true rfl, Nat.le_of_ble_eq_true rfl⟩) hP hD hS rfl hl.1 rfl (Nat.le_of_ble_eq_true rfl) (dk DX12_blower 37 rfl) (fun S6 H locs h hP hD hS => ?_)
          refine lv_aload_n hx hb (dk DX12_blower 38 rfl) rfl (lv_at hl 1 rfl) ?_
          refine lv_iload hx hb (dk DX12_blower 39 rfl) (lv_at hl 0 rfl) ?_
          refine lv_iconst (v := 2) hx hb (dk DX12_blower 40 rfl) (by decide) ?_
          refine lv_iload_n hx hb (dk DX12_blower 41 rfl) rfl (lv_at hl 4 rfl) ?_
          refine cMv (As := [.int v4, .int 2, .int a2]) (rest := []) X (m_set (l := l) (dC := dC) (dI := dI) (q := q) (cI := cI) (cJ := cJ) (cZ := cZ) (sz := _) v4 2 a2 S6 h) (cwV 3 X.2.2.2.2.1 (gwV 43 44 45 24 37 rfl rfl rfl rfl rfl) rfl rfl rfl q_set ⟨Nat.le_of_ble_eq_true rfl, Nat.le_of_ble_eq_true rfl⟩) hP hD hS rfl hl.1 rfl (Nat.le_of_ble_eq_true rfl) (dk DX12_blower 42 rfl) (fun S7 H locs h hP hD hS => ?_)
          refine lv_aload_n hx hb (dk DX12_blower 43 rfl) rfl (lv_at hl 1 rfl) ?_
          refine lv_iload hx hb (dk DX12_blower 44 rfl) (lv_at hl 0 rfl) ?_
          refine lv_iconst (v := 3) hx hb (dk DX12_blower 45 rfl) (by decide) ?_
          refine lv_iconst (v := 0) hx hb (dk DX12_blower 46 rfl) (by decide) ?_
          refine cMv (As := [.int v4, .int 3, .int 0]) (rest := []) X (m_set (l := l) (dC := dC) (dI := dI) (q := q) (cI := cI) (cJ := cJ) (cZ := cZ) (sz := _) v4 3 0 S7 h) (cwV 3 X.2.2.2.2.1 (gwV 43 44 45 24 37 rfl rfl rfl rfl rfl) rfl rfl rfl q_set ⟨Nat.le_of_ble_eq_true rfl, Nat.le_of_ble_eq_true rfl⟩) hP hD hS rfl hl.1 rfl (Nat.le_of_ble_eq_true rfl) (dk DX12_blower 47 rfl) (fun S8 H locs h hP hD hS => ?_)
          refine lv_aload_n hx hb (dk DX12_blower 48 rfl) rfl (lv_at hl 1 rfl) ?_
          refine lv_iload hx hb (dk DX12_blower 49 rfl) (lv_at hl 0 rfl) ?_
          refine lv_iconst (v := 4) hx hb (dk DX12_blower 50 rfl) (by decide) ?_
          refine lv_iconst (v := 0) hx hb (dk DX12_blower 51 rfl) (by decide) ?_
          refine cMv (As := [.int v4, .int 4, .int 0]) (rest := []) X (m_set (l := l) (dC := dC) (dI := dI) (q := q) (cI := cI) (cJ := cJ) (cZ := cZ) (sz := _) v4 4 0 S8 h) (cwV 3 X.2.2.2.2.1 (gwV 43 44 45 24 37 rfl rfl rfl rfl rfl) rfl rfl rfl q_set ⟨Nat.le_of_ble_eq_true rfl, Nat.le_of_ble_eq_true rfl⟩) hP hD hS rfl hl.1 rfl (Nat.le_of_ble_eq_true rfl) (dk DX12_blower 52 rfl) (fun S9 H locs h hP hD hS => ?_)
          refine lv_aload_n hx hb (dk DX12_blower 53 rfl) rfl (lv_at hl 1 rfl) ?_
          refine gM X hP 0 (by decide) rfl lk7 (dk DX12_blower 54 rfl) ?_
          refine lv_iconst (v := 0) hx hb (dk DX12_blower 55 rfl) (by decide) ?_
          refine lv_dup2_11 hx hb (dk DX12_blower 56 rfl) rfl rfl ?_
          obtain ⟨hin, h⟩ := h
          refine ldM X hP 1 rfl hin (dk DX12_blower 57 rfl) ?_
          refine lv_iconst (v := 1) hx hb (dk DX12_blower 58 rfl) (by decide) ?_
          refine lv_iadd hx hb (dk DX12_blower 59 rfl) ?_
          refine lv_topi (fun v10 ev10 => ?_)
          have h := h v10 ev10
          obtain ⟨hin, h⟩ := h
          refine stM_0 X hP hD hS hin (dk DX12_blower 60 rfl) (fun S11 eS11 H locs hP hD hS => ?_)
          have h := h S11 eS11
          refine lv_iload hx hb (dk DX12_blower 61 rfl) (lv_at hl 0 rfl) ?_
          exact W.iret (v := v4) hx hb hr (fun t ht hW => ⟨⟨_, _, rfl, h, by rw [ht]; exact hP, va_K.moved hW.alike X.2.2.2.2.2.2.1, hD⟩, hS.F ht⟩) hS.2.2 (dk DX12_blower 62 rfl)
        · have h := h.2 hc
          refine lv_iconst (v := (-1)) hx hb (dk DX12_blower 21 rfl) (by decide) ?_
          exact W.iret (v := (-1)) hx hb hr (fun t ht hW => ⟨⟨_, _, rfl, h, by rw [ht]; exact hP, va_K.moved hW.alike X.2.2.2.2.2.2.1, hD⟩, hS.F ht⟩) hS.2.2 (dk DX12_blower 22 rfl)

def ww_part : List Cond := .code yX12_part cX12_part 4 none :: (WdM ++ wsX120)
theorem q_part : yX12_part.cls = RX12 ∧ yX12_part.cls ≠ "java/lang/invoke/MethodHandle" ∧ yX12_part.cls ≠ "java/lang/invoke/VarHandle" ∧ (parseMethodDescriptor yX12_part.desc).map (fun d => d.parameters.length) = some 3 := by decide +kernel
def VC_part (Post : MS → Prop) (a0 : Int32) (a1 : Int32) (a2 : Int32) (S : MS) : Prop := ((a2 = 0 → VC_get (fun r2 S1 => VC_set (fun S3 => Post S3) a0 4 (r2 &&& (((1 : Int32) <<< (a1 &&& 31)) ^^^ (-1))) S1) a0 4 S) ∧ (¬ a2 = 0 → VC_get (fun r5 S4 => VC_set (fun S6 => Post S6) a0 4 (r5 ||| ((1 : Int32) <<< (a1 &&& 31))) S4) a0 4 S))
set_option maxHeartbeats 4000000 in
set_option maxRecDepth 100000 in
theorem m_part {l : Launch} {dC : Nat → ClassId} {dI : Nat → Nat → Nat} {q : Nat → Nat} {cI cJ cZ : ClassId} {sz : Nat} {Post : MS → Prop} (a0 : Int32) (a1 : Int32) (a2 : Int32) (S : MS) (h : VC_part Post a0 a1 a2 S) : Met l yX12_part ww_part ({ frames := 1, cells := 0, slots := 0, locals := 23 } : Room) (va_Pc [.ref (q 0), .int a0, .int a1, .int a2] (preM dC dI q cI cJ cZ S sz)) (va_Qv Post (atM dC dI q cI cJ cZ (va_A (wM q cI cJ cZ S) sz)) (va_A (wM q cI cJ cZ S) sz)) 0 0 (va_A (wM q cI cJ cZ S) sz) := by
  refine oM (cc := cX12_part) (maxL := 4) (ret := none) (Qc := fun A => va_Qv Post (atM dC dI q cI cJ cZ A) A) (by decide) rfl (fun w h => List.mem_cons_of_mem _ (List.mem_append_right _ h)) rfl (Nat.le_of_ble_eq_true rfl) (fun p e s m below meth c A ls X hr hlocks hP hD hS hl => ?_)
  have hx := X.1
  have hb := X.2.1
  have hl : lv_has ls 4 [(0, .ref (q 0)), (1, .int a0), (2, .int a1), (3, .int a2)] := hl
  dsimp only [VC_part] at h
  refine lv_aload_n hx hb (dk DX12_part 0 rfl) rfl (lv_at hl 0 rfl) ?_
  refine lv_iload_n hx hb (dk DX12_part 1 rfl) rfl (lv_at hl 1 rfl) ?_
  refine lv_iconst (v := 4) hx hb (dk DX12_part 2 rfl) (by decide) ?_
  refine lv_iload_n hx hb (dk DX12_part 3 rfl) rfl (lv_at hl 3 rfl) ?_
  refine lv_if_eq (tgt := 20) hx hb (dk DX12_part 4 rfl) (by decide) (fun hc => ?_) (fun hc => ?_)
  · have h := h.1 hc
    refine lv_aload_n hx hb (dk DX12_part 14 rfl) rfl (lv_at hl 0 rfl) ?_
    refine lv_iload_n hx hb (dk DX12_part 15 rfl) rfl (lv_at hl 1 rfl) ?_
    refine lv_iconst (v := 4) hx hb (dk DX12_part 16 rfl) (by decide) ?_
    refine cMi (As := [.int a0, .int 4]) (rest := [.int 4, .int a0, .ref (q 0)]) X (m_get (l := l) (dC := dC) (dI := dI) (q := q) (cI := cI) (cJ := cJ) (cZ := cZ) (sz := _) a0 4 S h) (cwV 2 X.2.2.2.2.1 (gwV 47 48 49 24 36 rfl rfl rfl rfl rfl) rfl rfl rfl q_get ⟨Nat.le_of_ble_eq_true rfl, Nat.le_of_ble_eq_true rfl⟩) hP hD hS rfl hl.1 rfl (Nat.le_of_ble_eq_true rfl) (dk DX12_part 17 rfl) (fun r2 S1 H locs h hP hD hS => ?_)
    refine lv_iconst (v := 1) hx hb (dk DX12_part 18 rfl) (by decide) ?_
    refine lv_iload_n hx hb (dk DX12_part 19 rfl) rfl (lv_at hl 2 rfl) ?_
    refine lv_ishl hx hb (dk DX12_part 20 rfl) ?_
    refine lv_iconst (v := (-1)) hx hb (dk DX12_part 21 rfl) (by decide) ?_
    refine lv_ixor hx hb (dk DX12_part 22 rfl) ?_
    refine lv_iand hx hb (dk DX12_part 23 rfl) ?_
    refine cMv (As := [.int a0, .int 4, .int (r2 &&& (((1 : Int32) <<< (a1 &&& 31)) ^^^ (-1)))]) (rest := []) X (m_set (l := l) (dC := dC) (dI := dI) (q := q) (cI := cI) (cJ := cJ) (cZ := cZ) (sz := _) a0 4 (r2 &&& (((1 : Int32) <<< (a1 &&& 31)) ^^^ (-1))) S1 h) (cwV 3 X.2.2.2.2.1 (gwV 43 44 45 24 37 rfl rfl rfl rfl rfl) rfl rfl rfl q_set ⟨Nat.le_of_ble_eq_true rfl, Nat.le_of_ble_eq_true rfl⟩) hP hD hS rfl hl.1 rfl (Nat.le_of_ble_eq_true rfl) (dk DX12_part 24 rfl) (fun S3 H locs h hP hD hS => ?_)
    exact W.vret hx hb hr (fun t ht hW => ⟨⟨_, rfl, h, by rw [ht]; exact hP, va_K.moved hW.alike X.2.2.2.2.2.2.1, hD⟩, hS.F ht⟩) hS.2.2 (dk DX12_part 25 rfl)
  · have h := h.2 hc
    refine lv_aload_n hx hb (dk DX12_part 5 rfl) rfl (lv_at hl 0 rfl) ?_
    refine lv_iload_n hx hb (dk DX12_part 6 rfl) rfl (lv_at hl 1 rfl) ?_
    refine lv_iconst (v := 4) hx hb (dk DX12_part 7 rfl) (by decide) ?_
    refine cMi (As := [.int a0, .int 4]) (rest := [.int 4, .int a0, .ref (q 0)]) X (m_get (l := l) (dC := dC) (dI := dI) (q := q) (cI := cI) (cJ := cJ) (cZ := cZ) (sz := _) a0 4 S h) (cwV 2 X.2.2.2.2.1 (gwV 47 48 49 24 36 rfl rfl rfl rfl rfl) rfl rfl rfl q_get ⟨Nat.le_of_ble_eq_true rfl, Nat.le_of_ble_eq_true rfl⟩) hP hD hS rfl hl.1 rfl (Nat.le_of_ble_eq_true rfl) (dk DX12_part 8 rfl) (fun r5 S4 H locs h hP hD hS => ?_)
    refine lv_iconst (v := 1) hx hb (dk DX12_part 9 rfl) (by decide) ?_
    refine lv_iload_n hx hb (dk DX12_part 10 rfl) rfl (lv_at hl 2 rfl) ?_
    refine lv_ishl hx hb (dk DX12_part 11 rfl) ?_
    refine lv_ior hx hb (dk DX12_part 12 rfl) ?_
    refine lv_goto (tgt := 32) hx hb (dk DX12_part 13 rfl) (by decide) ?_
    refine cMv (As := [.int a0, .int 4, .int (r5 ||| ((1 : Int32) <<< (a1 &&& 31)))]) (rest := []) X (m_set (l := l) (dC := dC) (dI := dI) (q := q) (cI := cI) (cJ := cJ) (cZ := cZ) (sz := _) a0 4 (r5 ||| ((1 : Int32) <<< (a1 &&& 31))) S4 h) (cwV 3 X.2.2.2.2.1 (gwV 43 44 45 24 37 rfl rfl rfl rfl rfl) rfl rfl rfl q_set ⟨Nat.le_of_ble_eq_true rfl, Nat.le_of_ble_eq_true rfl⟩) hP hD hS rfl hl.1 rfl (Nat.le_of_ble_eq_true rfl) (dk DX12_part 24 rfl) (fun S6 H locs h hP hD hS => ?_)
    exact W.vret hx hb hr (fun t ht hW => ⟨⟨_, rfl, h, by rw [ht]; exact hP, va_K.moved hW.alike X.2.2.2.2.2.2.1, hD⟩, hS.F ht⟩) hS.2.2 (dk DX12_part 25 rfl)

def ww_quarrel : List Cond := .code yX12_quarrel cX12_quarrel 4 (some .boolean) :: (WdM ++ wsX120)
theorem q_quarrel : yX12_quarrel.cls = RX12 ∧ yX12_quarrel.cls ≠ "java/lang/invoke/MethodHandle" ∧ yX12_quarrel.cls ≠ "java/lang/invoke/VarHandle" ∧ (parseMethodDescriptor yX12_quarrel.desc).map (fun d => d.parameters.length) = some 3 := by decide +kernel
def VC_quarrel (Post : Int32 → MS → Prop) (a0 : Int32) (a1 : Int32) (a2 : Int32) (S : MS) : Prop := VC_isBlower (fun r2 S1 => ((r2 = 0 → Post 0 S1) ∧ (¬ r2 = 0 → VC_isBlower (fun r4 S3 => ((r4 = 0 → Post 0 S3) ∧ (¬ r4 = 0 → ((¬ a0 = a1 → VC_part (fun S5 => VC_part (fun S6 => Post 1 S6) a1 a0 a2 S5) a0 a1 a2 S3) ∧ (a0 = a1 → Post 0 S3))))) a1 S1))) a0 S
set_option maxHeartbeats 4000000 in
set_option maxRecDepth 100000 in
theorem m_quarrel {l : Launch} {dC : Nat → ClassId} {dI : Nat → Nat → Nat} {q : Nat → Nat} {cI cJ cZ : ClassId} {sz : Nat} {Post : Int32 → MS → Prop} (a0 : Int32) (a1 : Int32) (a2 : Int32) (S : MS) (h : VC_quarrel Post a0 a1 a2 S) : Met l yX12_quarrel ww_quarrel ({ frames := 2, cells := 0, slots := 0, locals := 46 } : Room) (va_Pc [.ref (q 0), .int a0, .int a1, .int a2] (preM dC dI q cI cJ cZ S sz)) (va_Qi Post (atM dC dI q cI cJ cZ (va_A (wM q cI cJ cZ S) sz)) (va_A (wM q cI cJ cZ S) sz)) 0 0 (va_A (wM q cI cJ cZ S) sz) := by
  refine oM (cc := cX12_quarrel) (maxL := 4) (ret := (some .boolean)) (Qc := fun A => va_Qi Post (atM dC dI q cI cJ cZ A) A) (by decide) rfl (fun w h => List.mem_cons_of_mem _ (List.mem_append_right _ h)) rfl (Nat.le_of_ble_eq_true rfl) (fun p e s m below meth c A ls X hr hlocks hP hD hS hl => ?_)
  have hx := X.1
  have hb := X.2.1
  have hl : lv_has ls 4 [(0, .ref (q 0)), (1, .int a0), (2, .int a1), (3, .int a2)] := hl
  dsimp only [VC_quarrel] at h
  refine lv_aload_n hx hb (dk DX12_quarrel 0 rfl) rfl (lv_at hl 0 rfl) ?_
  refine lv_iload_n hx hb (dk DX12_quarrel 1 rfl) rfl (lv_at hl 1 rfl) ?_
  refine cMi (As := [.int a0]) (rest := []) X (m_isBlower (l := l) (dC := dC) (dI := dI) (q := q) (cI := cI) (cJ := cJ) (cZ := cZ) (sz := _) a0 S h) (cwV 1 X.2.2.2.2.1 (gwV 51 52 53 24 30 rfl rfl rfl rfl rfl) rfl rfl rfl q_isBlower ⟨Nat.le_of_ble_eq_true rfl, Nat.le_of_ble_eq_true rfl⟩) hP hD hS rfl hl.1 rfl (Nat.le_of_ble_eq_true rfl) (dk DX12_quarrel 2 rfl) (fun r2 S1 H locs h hP hD hS => ?_)
  refine lv_if_eq (tgt := 21) hx hb (dk DX12_quarrel 3 rfl) (by decide) (fun hc => ?_) (fun hc => ?_)
  · have h := h.1 hc
    refine lv_iconst (v := 0) hx hb (dk DX12_quarrel 11 rfl) (by decide) ?_
    exact W.zret (v := 0) hx hb hr (by decide) (fun t ht hW => ⟨⟨_, _, rfl, h, by rw [ht]; exact hP, va_K.moved hW.alike X.2.2.2.2.2.2.1, hD⟩, hS.F ht⟩) hS.2.2 (dk DX12_quarrel 12 rfl)
  · have h := h.2 hc
    refine lv_aload_n hx hb (dk DX12_quarrel 4 rfl) rfl (lv_at hl 0 rfl) ?_
    refine lv_iload_n hx hb (dk DX12_quarrel 5 rfl) rfl (lv_at hl 2 rfl) ?_
    refine cMi (As := [.int a1]) (rest := []) X (m_isBlower (l := l) (dC := dC) (dI := dI) (q := q) (cI := cI) (cJ := cJ) (cZ := cZ) (sz := _) a1 S1 h) (cwV 1 X.2.2.2.2.1 (gwV 51 52 53 24 30 rfl rfl rfl rfl rfl) rfl rfl rfl q_isBlower ⟨Nat.le_of_ble_eq_true rfl, Nat.le_of_ble_eq_true rfl⟩) hP hD hS rfl hl.1 rfl (Nat.le_of_ble_eq_true rfl) (dk DX12_quarrel 6 rfl) (fun r4 S3 H locs h hP hD hS => ?_)
    refine lv_if_eq (tgt := 21) hx hb (dk DX12_quarrel 7 rfl) (by decide) (fun hc => ?_) (fun hc => ?_)
    · have h := h.1 hc
      refine lv_iconst (v := 0) hx hb (dk DX12_quarrel 11 rfl) (by decide) ?_
      exact W.zret (v := 0) hx hb hr (by decide) (fun t ht hW => ⟨⟨_, _, rfl, h, by rw [ht]; exact hP, va_K.moved hW.alike X.2.2.2.2.2.2.1, hD⟩, hS.F ht⟩) hS.2.2 (dk DX12_quarrel 12 rfl)
    · have h := h.2 hc
      refine lv_iload_n hx hb (dk DX12_quarrel 8 rfl) rfl (lv_at hl 1 rfl) ?_
      refine lv_iload_n hx hb (dk DX12_quarrel 9 rfl) rfl (lv_at hl 2 rfl) ?_
      refine lv_icmp_ne (tgt := 23) hx hb (dk DX12_quarrel 10 rfl) (by decide) (fun hc => ?_) (fun hc => ?_)
      · have h := h.1 hc
        refine lv_aload_n hx hb (dk DX12_quarrel 13 rfl) rfl (lv_at hl 0 rfl) ?_
        refine lv_iload_n hx hb (dk DX12_quarrel 14 rfl) rfl (lv_at hl 1 rfl) ?_
        refine lv_iload_n hx hb (dk DX12_quarrel 15 rfl) rfl (lv_at hl 2 rfl) ?_
        refine lv_iload_n hx hb (dk DX12_quarrel 16 rfl) rfl (lv_at hl 3 rfl) ?_
        refine cMv (As := [.int a0, .int a1, .int a2]) (rest := []) X (m_part (l := l) (dC := dC) (dI := dI) (q := q) (cI := cI) (cJ := cJ) (cZ := cZ) (sz := _) a0 a1 a2 S3 h) (cwV 3 X.2.2.2.2.1 (gwV 54 55 56 24 46 rfl rfl rfl rfl rfl) rfl rfl rfl q_part ⟨Nat.le_of_ble_eq_true rfl, Nat.le_of_ble_eq_true rfl⟩) hP hD hS rfl hl.1 rfl (Nat.le_of_ble_eq_true rfl) (dk DX12_quarrel 17 rfl) (fun S5 H locs h hP hD hS => ?_)
        refine lv_aload_n hx hb (dk DX12_quarrel 18 rfl) rfl (lv_at hl 0 rfl) ?_
        refine lv_iload_n hx hb (dk DX12_quarrel 19 rfl) rfl (lv_at hl 2 rfl) ?_
        refine lv_iload_n hx hb (dk DX12_quarrel 20 rfl) rfl (lv_at hl 1 rfl) ?_
        refine lv_iload_n hx hb (dk DX12_quarrel 21 rfl) rfl (lv_at hl 3 rfl) ?_
        refine cMv (As := [.int a1, .int a0, .int a2]) (rest := []) X (m_part (l := l) (dC := dC) (dI := dI) (q := q) (cI := cI) (cJ := cJ) (cZ := cZ) (sz := _) a1 a0 a2 S5 h) (cwV 3 X.2.2.2.2.1 (gwV 54 55 56 24 46 rfl rfl rfl rfl rfl) rfl rfl rfl q_part ⟨Nat.le_of_ble_eq_true rfl, Nat.le_of_ble_eq_true rfl⟩) hP hD hS rfl hl.1 rfl (Nat.le_of_ble_eq_true rfl) (dk DX12_quarrel 22 rfl) (fun S6 H locs h hP hD hS => ?_)
        refine lv_iconst (v := 1) hx hb (dk DX12_quarrel 23 rfl) (by decide) ?_
        exact W.zret (v := 1) hx hb hr (by decide) (fun t ht hW => ⟨⟨_, _, rfl, h, by rw [ht]; exact hP, va_K.moved hW.alike X.2.2.2.2.2.2.1, hD⟩, hS.F ht⟩) hS.2.2 (dk DX12_quarrel 24 rfl)
      · have h := h.2 hc
        refine lv_iconst (v := 0) hx hb (dk DX12_quarrel 11 rfl) (by decide) ?_
        exact W.zret (v := 0) hx hb hr (by decide) (fun t ht hW => ⟨⟨_, _, rfl, h, by rw [ht]; exact hP, va_K.moved hW.alike X.2.2.2.2.2.2.1, hD⟩, hS.F ht⟩) hS.2.2 (dk DX12_quarrel 12 rfl)

