-- begin voicesOf givenByAll
def ww_begin : List Cond := .code yX12_begin cX12_begin 4 (some .int) :: (WdM ++ wsX120)
theorem q_begin : yX12_begin.cls = RX12 ∧ yX12_begin.cls ≠ "java/lang/invoke/MethodHandle" ∧ yX12_begin.cls ≠ "java/lang/invoke/VarHandle" ∧ (parseMethodDescriptor yX12_begin.desc).map (fun d => d.parameters.length) = some 1 := by decide +kernel
abbrev Hd_begin : Type := (Int32 × Int32 × Int32)
def B_begin (Post : Int32 → MS → Prop) (K : Hd_begin → MS → Prop) : Hd_begin → MS → Prop
  | (x1, x2, x3), S => ((10 ≤ x3 → vp_in (2 : Int32) 3890 ∧ ∀ v6 : Int32, v6 = ((S.2.2.1 0) (2 : Int32).toNatClampNeg) + 1 → vp_in (2 : Int32) 3890 ∧ ∀ S7 : MS, S7 = sF S 0 (upd (S.2.2.1 0) (2 : Int32).toNatClampNeg v6) → vp_in (2 : Int32) 3890 ∧ Post (((S7.2.2.1 0) (2 : Int32).toNatClampNeg) - 1) S7) ∧ (¬ 10 ≤ x3 → vp_in (x2 + x3) 3890 ∧ ∀ S8 : MS, S8 = sF S 0 (upd (S.2.2.1 0) (x2 + x3).toNatClampNeg 0) → ∀ v9 : Int32, v9 = x3 + 1 → K (x1, x2, v9) S8))
def VC_begin (Post : Int32 → MS → Prop) (a0 : Int32) (S : MS) : Prop := ∀ K : Hd_begin → MS → Prop, (∀ h S, B_begin Post K h S → K h S) → VC_isKind (fun r2 S1 => ((r2 = 0 → Post (-1) S1) ∧ (¬ r2 = 0 → vp_in (2 : Int32) 3890 ∧ ((¬ ((S1.2.2.1 0) (2 : Int32).toNatClampNeg) = 10 → VC_keep (fun S3 => vp_in (2 : Int32) 3890 ∧ VC_pieceAt (fun r4 => vp_in r4 3890 ∧ ∀ S5 : MS, S5 = sF S3 0 (upd (S3.2.2.1 0) r4.toNatClampNeg a0) → K (a0, r4, 1) S5) ((S3.2.2.1 0) (2 : Int32).toNatClampNeg)) S1) ∧ (((S1.2.2.1 0) (2 : Int32).toNatClampNeg) = 10 → Post (-1) S1))))) a0 S
set_option maxHeartbeats 4000000 in
set_option maxRecDepth 100000 in
theorem h_begin_0 {p : Program} {l : Launch} {e : Env} {s : State} {m : MethodId} {below : List Frame} {meth : Method} {c : Code} {dC : Nat → ClassId} {dI : Nat → Nat → Nat} {q : Nat → Nat} {cI cJ cZ : ClassId} {A : Nat → Prop} {args : Array Value} {Post : Int32 → MS → Prop} {K : Hd_begin → MS → Prop} (X : XM p s m args c cX12_begin 4 ww_begin dC dI cI cJ cZ A) (hr : meth.sig.returnType = (some .int)) (hlocks : meth.locks = false) (hK0 : ∀ (x1 : Int32) (x2 : Int32) (x3 : Int32) (S : MS), K (x1, x2, x3) S → ∀ (H : Heap) (locs : List Loc), va_P (dC, dI) vwCl (wM q cI cJ cZ S) H → va_D A (wM q cI cJ cZ S) → va_S A s.heap H locs → ∀ ls : Array Slot, lv_has ls 4 [(0, .ref (q 0)), (1, .int x1), (2, .int x2), (3, .int x3)] → W p l e (headSpec ww_begin ({ frames := 2, cells := 0, slots := 0, locals := 44 } : Room)).room s m args below meth c H locs 0 0 (MQ below (va_Qi Post (atM dC dI q cI cJ cZ A) A) args s 0 0 A) (F0 m 44 ls [])) (x1 : Int32) (x2 : Int32) (x3 : Int32) (S : MS) (h : B_begin Post K (x1, x2, x3) S) : ∀ (H : Heap) (locs : List Loc), va_P (dC, dI) vwCl (wM q cI cJ cZ S) H → va_D A (wM q cI cJ cZ S) → va_S A s.heap H locs → ∀ ls : Array Slot, lv_has ls 4 [(0, .ref (q 0)), (1, .int x1), (2, .int x2), (3, .int x3)] → W p l e (headSpec ww_begin ({ frames := 2, cells := 0, slots := 0, locals := 44 } : Room)).room s m args below meth c H locs 0 0 (MQ below (va_Qi Post (atM dC dI q cI cJ cZ A) A) args s 0 0 A) (F0 m 44 ls []) := by
  have hx := X.1
  have hb := X.2.1
  intro H locs hP hD hS ls hl
  have lk7 := X.2.2.2.2.1 (.fieldLink RX12 7 "BreathOnLoanModel" "a" "[I") (inW 5 rfl)
  dsimp only [B_begin] at h
  refine lv_iload_n hx hb (dk DX12_begin 27 rfl) rfl (lv_at hl 3 rfl) ?_
  refine lv_bipush (v := 10) hx hb (dk DX12_begin 28 rfl) (by decide) ?_
  refine lv_icmp_ge (tgt := 65) hx hb (dk DX12_begin 29 rfl) (by decide) (fun hc => ?_) (fun hc => ?_)
  · have h := h.1 hc
    refine lv_aload_n hx hb (dk DX12_begin 39 rfl) rfl (lv_at hl 0 rfl) ?_
    refine gM X hP 0 (by decide) rfl lk7 (dk DX12_begin 40 rfl) ?_
    refine lv_iconst (v := 2) hx hb (dk DX12_begin 41 rfl) (by decide) ?_
    refine lv_dup2_11 hx hb (dk DX12_begin 42 rfl) rfl rfl ?_
    obtain ⟨hin, h⟩ := h
    refine ldM X hP 1 rfl hin (dk DX12_begin 43 rfl) ?_
    refine lv_iconst (v := 1) hx hb (dk DX12_begin 44 rfl) (by decide) ?_
    refine lv_iadd hx hb (dk DX12_begin 45 rfl) ?_
    refine lv_topi (fun v6 ev6 => ?_)
    have h := h v6 ev6
    obtain ⟨hin, h⟩ := h
    refine stM_0 X hP hD hS hin (dk DX12_begin 46 rfl) (fun S7 eS7 H locs hP hD hS => ?_)
    have h := h S7 eS7
    refine lv_aload_n hx hb (dk DX12_begin 47 rfl) rfl (lv_at hl 0 rfl) ?_
    refine gM X hP 0 (by decide) rfl lk7 (dk DX12_begin 48 rfl) ?_
    refine lv_iconst (v := 2) hx hb (dk DX12_begin 49 rfl) (by decide) ?_
    obtain ⟨hin, h⟩ := h
    refine ldM X hP 1 rfl hin (dk DX12_begin 50 rfl) ?_
    refine lv_iconst (v := 1) hx hb (dk DX12_begin 51 rfl) (by decide) ?_
    refine lv_isub hx hb (dk DX12_begin 52 rfl) ?_
    exact W.iret (v := ((S7.2.2.1 0) (2 : Int32).toNatClampNeg) - 1) hx hb hr (fun t ht hW => ⟨⟨_, _, rfl, h, by rw [ht]; exact hP, va_K.moved hW.alike X.2.2.2.2.2.2.1, hD⟩, hS.F ht⟩) hS.2.2 (dk DX12_begin 53 rfl)
  · have h := h.2 hc
    refine lv_aload_n hx hb (dk DX12_begin 30 rfl) rfl (lv_at hl 0 rfl) ?_
    refine gM X hP 0 (by decide) rfl lk7 (dk DX12_begin 31 rfl) ?_
    refine lv_iload_n hx hb (dk DX12_begin 32 rfl) rfl (lv_at hl 2 rfl) ?_
    refine lv_iload_n hx hb (dk DX12_begin 33 rfl) rfl (lv_at hl 3 rfl) ?_
    refine lv_iadd hx hb (dk DX12_begin 34 rfl) ?_
    refine lv_iconst (v := 0) hx hb (dk DX12_begin 35 rfl) (by decide) ?_
    obtain ⟨hin, h⟩ := h
    refine stM_0 X hP hD hS hin (dk DX12_begin 36 rfl) (fun S8 eS8 H locs hP hD hS => ?_)
    have h := h S8 eS8
    obtain ⟨v9, ev9⟩ : ∃ y : Int32, y = x3 + 1 := ⟨_, rfl⟩
    have h := h v9 ev9
    refine lv_iinc (v := v9) (lv' := [(3, .int v9), (0, .ref (q 0)), (1, .int x1), (2, .int x2)]) hx hb (dk DX12_begin 37 rfl) hl (k := 3) rfl (by rw [ev9]; rfl) (by decide) rfl (fun ls hl => ?_)
    refine lv_goto (tgt := 44) hx hb (dk DX12_begin 38 rfl) (by decide) ?_
    exact hK0 x1 x2 v9 S8 h _ _ hP hD hS ls (lv_sub hl [1, 2, 3, 0] rfl)
set_option maxHeartbeats 4000000 in
set_option maxRecDepth 100000 in
theorem m_begin {l : Launch} {dC : Nat → ClassId} {dI : Nat → Nat → Nat} {q : Nat → Nat} {cI cJ cZ : ClassId} {sz : Nat} {Post : Int32 → MS → Prop} (a0 : Int32) (S : MS) (h : VC_begin Post a0 S) : Met l yX12_begin ww_begin ({ frames := 2, cells := 0, slots := 0, locals := 44 } : Room) (va_Pc [.ref (q 0), .int a0] (preM dC dI q cI cJ cZ S sz)) (va_Qi Post (atM dC dI q cI cJ cZ (va_A (wM q cI cJ cZ S) sz)) (va_A (wM q cI cJ cZ S) sz)) 0 0 (va_A (wM q cI cJ cZ S) sz) := by
  refine oM (cc := cX12_begin) (maxL := 4) (ret := (some .int)) (Qc := fun A => va_Qi Post (atM dC dI q cI cJ cZ A) A) (by decide) rfl (fun w h => List.mem_cons_of_mem _ (List.mem_append_right _ h)) rfl (Nat.le_of_ble_eq_true rfl) (fun p e s m below meth c A ls X hr hlocks hP hD hS hl => ?_)
  have hx := X.1
  have hb := X.2.1
  have hl : lv_has ls 4 [(0, .ref (q 0)), (1, .int a0)] := hl
  have lk7 := X.2.2.2.2.1 (.fieldLink RX12 7 "BreathOnLoanModel" "a" "[I") (inW 5 rfl)
  generalize hargs : ([.ref (q 0), .int a0] : List Value).toArray = args at X ⊢
  have h := h (fun hd S => match hd with | (x1, x2, x3) => ∀ (H : Heap) (locs : List Loc), va_P (dC, dI) vwCl (wM q cI cJ cZ S) H → va_D A (wM q cI cJ cZ S) → va_S A s.heap H locs → ∀ ls : Array Slot, lv_has ls 4 [(0, .ref (q 0)), (1, .int x1), (2, .int x2), (3, .int x3)] → W p l e (headSpec ww_begin ({ frames := 2, cells := 0, slots := 0, locals := 44 } : Room)).room s m args below meth c H locs 0 0 (MQ below (va_Qi Post (atM dC dI q cI cJ cZ A) A) args s 0 0 A) (F0 m 44 ls [])) ?_
  · skip
    refine lv_aload_n hx hb (dk DX12_begin 0 rfl) rfl (lv_at hl 0 rfl) ?_
    refine lv_iload_n hx hb (dk DX12_begin 1 rfl) rfl (lv_at hl 1 rfl) ?_
    refine cMi (As := [.int a0]) (rest := []) X (m_isKind (l := l) (dC := dC) (dI := dI) (q := q) (cI := cI) (cJ := cJ) (cZ := cZ) (sz := _) a0 S h) (cwV 1 X.2.2.2.2.1 (gwV 260 261 262 24 33 rfl rfl rfl rfl rfl) rfl rfl rfl q_isKind ⟨Nat.le_of_ble_eq_true rfl, Nat.le_of_ble_eq_true rfl⟩) hP hD hS rfl hl.1 rfl (Nat.le_of_ble_eq_true rfl) (dk DX12_begin 2 rfl) (fun r2 S1 H locs h hP hD hS => ?_)
    refine lv_if_eq (tgt := 19) hx hb (dk DX12_begin 3 rfl) (by decide) (fun hc => ?_) (fun hc => ?_)
    · have h := h.1 hc
      refine lv_iconst (v := (-1)) hx hb (dk DX12_begin 10 rfl) (by decide) ?_
      exact W.iret (v := (-1)) hx hb hr (fun t ht hW => ⟨⟨_, _, rfl, h, by rw [ht]; exact hP, va_K.moved hW.alike X.2.2.2.2.2.2.1, hD⟩, hS.F ht⟩) hS.2.2 (dk DX12_begin 11 rfl)
    · have h := h.2 hc
      refine lv_aload_n hx hb (dk DX12_begin 4 rfl) rfl (lv_at hl 0 rfl) ?_
      refine gM X hP 0 (by decide) rfl lk7 (dk DX12_begin 5 rfl) ?_
      refine lv_iconst (v := 2) hx hb (dk DX12_begin 6 rfl) (by decide) ?_
      obtain ⟨hin, h⟩ := h
      refine ldM X hP 1 rfl hin (dk DX12_begin 7 rfl) ?_
      refine lv_bipush (v := 10) hx hb (dk DX12_begin 8 rfl) (by decide) ?_
      refine lv_icmp_ne (tgt := 21) hx hb (dk DX12_begin 9 rfl) (by decide) (fun hc => ?_) (fun hc => ?_)
      · have h := h.1 hc
        refine lv_aload_n hx hb (dk DX12_begin 12 rfl) rfl (lv_at hl 0 rfl) ?_
        refine cMv (As := []) (rest := []) X (m_keep (l := l) (dC := dC) (dI := dI) (q := q) (cI := cI) (cJ := cJ) (cZ := cZ) (sz := _) S1 h) (cwV 0 X.2.2.2.2.1 (gwV 263 264 265 24 257 rfl rfl rfl rfl rfl) rfl rfl rfl q_keep ⟨Nat.le_of_ble_eq_true rfl, Nat.le_of_ble_eq_true rfl⟩) hP hD hS rfl hl.1 rfl (Nat.le_of_ble_eq_true rfl) (dk DX12_begin 13 rfl) (fun S3 H locs h hP hD hS => ?_)
        refine lv_aload_n hx hb (dk DX12_begin 14 rfl) rfl (lv_at hl 0 rfl) ?_
        refine gM X hP 0 (by decide) rfl lk7 (dk DX12_begin 15 rfl) ?_
        refine lv_iconst (v := 2) hx hb (dk DX12_begin 16 rfl) (by decide) ?_
        obtain ⟨hin, h⟩ := h
        refine ldM X hP 1 rfl hin (dk DX12_begin 17 rfl) ?_
        refine cSi (As := [.int ((S3.2.2.1 0) (2 : Int32).toNatClampNeg)]) (rest := []) ⟨X.1, X.2.1, X.2.2.1, X.2.2.2.1, X.2.2.2.2.1⟩ (m_pieceAt (l := l) ((S3.2.2.1 0) (2 : Int32).toNatClampNeg) h) (va_cwS 1 X.2.2.2.2.1 (gwS 40 41 24 38 rfl rfl rfl rfl) rfl rfl rfl q_pieceAt ⟨Nat.le_of_ble_eq_true rfl, Nat.le_of_ble_eq_true rfl⟩) rfl hl.1 rfl (Nat.le_of_ble_eq_true rfl) (dk DX12_begin 18 rfl) (fun r4 h => ?_)
        refine lv_istore_n (lv' := [(2, .int r4), (0, .ref (q 0)), (1, .int a0)]) hx hb (dk DX12_begin 19 rfl) rfl hl (by decide) rfl (fun ls hl => ?_)
        refine lv_aload_n hx hb (dk DX12_begin 20 rfl) rfl (lv_at hl 1 rfl) ?_
        refine gM X hP 0 (by decide) rfl lk7 (dk DX12_begin 21 rfl) ?_
        refine lv_iload_n hx hb (dk DX12_begin 22 rfl) rfl (lv_at hl 0 rfl) ?_
        refine lv_iload_n hx hb (dk DX12_begin 23 rfl) rfl (lv_at hl 2 rfl) ?_
        obtain ⟨hin, h⟩ := h
        refine stM_0 X hP hD hS hin (dk DX12_begin 24 rfl) (fun S5 eS5 H locs hP hD hS => ?_)
        have h := h S5 eS5
        refine lv_iconst (v := 1) hx hb (dk DX12_begin 25 rfl) (by decide) ?_
        refine lv_istore_n (lv' := [(3, .int 1), (2, .int r4), (0, .ref (q 0)), (1, .int a0)]) hx hb (dk DX12_begin 26 rfl) rfl hl (by decide) rfl (fun ls hl => ?_)
        exact h _ _ hP hD hS ls (lv_sub hl [2, 3, 1, 0] rfl)
      · have h := h.2 hc
        refine lv_iconst (v := (-1)) hx hb (dk DX12_begin 10 rfl) (by decide) ?_
        exact W.iret (v := (-1)) hx hb hr (fun t ht hW => ⟨⟨_, _, rfl, h, by rw [ht]; exact hP, va_K.moved hW.alike X.2.2.2.2.2.2.1, hD⟩, hS.F ht⟩) hS.2.2 (dk DX12_begin 11 rfl)
  · rintro ⟨x1, x2, x3⟩ S hB
    exact h_begin_0 X hr hlocks (hK0 := fun _ _ _ _ h => h) x1 x2 x3 S hB

def ww_voicesOf : List Cond := .code yX12_voicesOf cX12_voicesOf 4 (some .int) :: (WdM ++ wsX120)
theorem q_voicesOf : yX12_voicesOf.cls = RX12 ∧ yX12_voicesOf.cls ≠ "java/lang/invoke/MethodHandle" ∧ yX12_voicesOf.cls ≠ "java/lang/invoke/VarHandle" ∧ (parseMethodDescriptor yX12_voicesOf.desc).map (fun d => d.parameters.length) = some 1 := by decide +kernel
abbrev Hd_voicesOf : Type := (Int32 × Int32 × Int32)
def B_voicesOf (Post : Int32 → MS → Prop) (K : Hd_voicesOf → MS → Prop) : Hd_voicesOf → MS → Prop
  | (x1, x2, x3), S => vp_in (0 : Int32) 3890 ∧ ((((S.2.2.1 0) (0 : Int32).toNatClampNeg) ≤ x3 → Post x2 S) ∧ (¬ ((S.2.2.1 0) (0 : Int32).toNatClampNeg) ≤ x3 → VC_gave (fun r2 S1 => ((r2 ≤ 0 → ∀ v3 : Int32, v3 = x2 ||| 0 → ∀ v4 : Int32, v4 = x3 + 1 → K (x1, v3, v4) S1) ∧ (¬ r2 ≤ 0 → VC_get (fun r6 S5 => ∀ v7 : Int32, v7 = x2 ||| ((1 : Int32) <<< (r6 &&& 31)) → ∀ v8 : Int32, v8 = x3 + 1 → K (x1, v7, v8) S5) x3 1 S1))) x1 x3 S))
def VC_voicesOf (Post : Int32 → MS → Prop) (a0 : Int32) (S : MS) : Prop := ∀ K : Hd_voicesOf → MS → Prop, (∀ h S, B_voicesOf Post K h S → K h S) → K (a0, 0, 0) S
set_option maxHeartbeats 4000000 in
set_option maxRecDepth 100000 in
theorem h_voicesOf_0 {p : Program} {l : Launch} {e : Env} {s : State} {m : MethodId} {below : List Frame} {meth : Method} {c : Code} {dC : Nat → ClassId} {dI : Nat → Nat → Nat} {q : Nat → Nat} {cI cJ cZ : ClassId} {A : Nat → Prop} {args : Array Value} {Post : Int32 → MS → Prop} {K : Hd_voicesOf → MS → Prop} (X : XM p s m args c cX12_voicesOf 4 ww_voicesOf dC dI cI cJ cZ A) (hr : meth.sig.returnType = (some .int)) (hlocks : meth.locks = false) (hK0 : ∀ (x1 : Int32) (x2 : Int32) (x3 : Int32) (S : MS), K (x1, x2, x3) S → ∀ (H : Heap) (locs : List Loc), va_P (dC, dI) vwCl (wM q cI cJ cZ S) H → va_D A (wM q cI cJ cZ S) → va_S A s.heap H locs → ∀ ls : Array Slot, lv_has ls 4 [(0, .ref (q 0)), (1, .int x1), (2, .int x2), (3, .int x3)] → W p l e (headSpec ww_voicesOf ({ frames := 2, cells := 0, slots := 0, locals := 42 } : Room)).room s m args below meth c H locs 0 0 (MQ below (va_Qi Post (atM dC dI q cI cJ cZ A) A) args s 0 0 A) (F0 m 4 ls [])) (x1 : Int32) (x2 : Int32) (x3 : Int32) (S : MS) (h : B_voicesOf Post K (x1, x2, x3) S) : ∀ (H : Heap) (locs : List Loc), va_P (dC, dI) vwCl (wM q cI cJ cZ S) H → va_D A (wM q cI cJ cZ S) → va_S A s.heap H locs → ∀ ls : Array Slot, lv_has ls 4 [(0, .ref (q 0)), (1, .int x1), (2, .int x2), (3, .int x3)] → W p l e (headSpec ww_voicesOf ({ frames := 2, cells := 0, slots := 0, locals := 42 } : Room)).room s m args below meth c H locs 0 0 (MQ below (va_Qi Post (atM dC dI q cI cJ cZ A) A) args s 0 0 A) (F0 m 4 ls []) := by
  have hx := X.1
  have hb := X.2.1
  intro H locs hP hD hS ls hl
  have lk7 := X.2.2.2.2.1 (.fieldLink RX12 7 "BreathOnLoanModel" "a" "[I") (inW 5 rfl)
  dsimp only [B_voicesOf] at h
  refine lv_iload_n hx hb (dk DX12_voicesOf 4 rfl) rfl (lv_at hl 3 rfl) ?_
  refine lv_aload_n hx hb (dk DX12_voicesOf 5 rfl) rfl (lv_at hl 0 rfl) ?_
  refine gM X hP 0 (by decide) rfl lk7 (dk DX12_voicesOf 6 rfl) ?_
  refine lv_iconst (v := 0) hx hb (dk DX12_voicesOf 7 rfl) (by decide) ?_
  obtain ⟨hin, h⟩ := h
  refine ldM X hP 1 rfl hin (dk DX12_voicesOf 8 rfl) ?_
  refine lv_icmp_ge (tgt := 44) hx hb (dk DX12_voicesOf 9 rfl) (by decide) (fun hc => ?_) (fun hc => ?_)
  · have h := h.1 hc
    refine lv_iload_n hx hb (dk DX12_voicesOf 28 rfl) rfl (lv_at hl 2 rfl) ?_
    exact W.iret (v := x2) hx hb hr (fun t ht hW => ⟨⟨_, _, rfl, h, by rw [ht]; exact hP, va_K.moved hW.alike X.2.2.2.2.2.2.1, hD⟩, hS.F ht⟩) hS.2.2 (dk DX12_voicesOf 29 rfl)
  · have h := h.2 hc
    refine lv_iload_n hx hb (dk DX12_voicesOf 10 rfl) rfl (lv_at hl 2 rfl) ?_
    refine lv_aload_n hx hb (dk DX12_voicesOf 11 rfl) rfl (lv_at hl 0 rfl) ?_
    refine lv_iload_n hx hb (dk DX12_voicesOf 12 rfl) rfl (lv_at hl 1 rfl) ?_
    refine lv_iload_n hx hb (dk DX12_voicesOf 13 rfl) rfl (lv_at hl 3 rfl) ?_
    refine cMi (As := [.int x1, .int x3]) (rest := [.int x2]) X (m_gave (l := l) (dC := dC) (dI := dI) (q := q) (cI := cI) (cJ := cJ) (cZ := cZ) (sz := _) x1 x3 S h) (cwV 2 X.2.2.2.2.1 (gwV 240 241 242 24 39 rfl rfl rfl rfl rfl) rfl rfl rfl q_gave ⟨Nat.le_of_ble_eq_true rfl, Nat.le_of_ble_eq_true rfl⟩) hP hD hS rfl hl.1 rfl (Nat.le_of_ble_eq_true rfl) (dk DX12_voicesOf 14 rfl) (fun r2 S1 H locs h hP hD hS => ?_)
    refine lv_if_le (tgt := 35) hx hb (dk DX12_voicesOf 15 rfl) (by decide) (fun hc => ?_) (fun hc => ?_)
    · have h := h.1 hc
      refine lv_iconst (v := 0) hx hb (dk DX12_voicesOf 23 rfl) (by decide) ?_
      refine lv_ior hx hb (dk DX12_voicesOf 24 rfl) ?_
      refine lv_topi (fun v3 ev3 => ?_)
      have h := h v3 ev3
      refine lv_istore_n (lv' := [(2, .int v3), (0, .ref (q 0)), (1, .int x1), (3, .int x3)]) hx hb (dk DX12_voicesOf 25 rfl) rfl hl (by decide) rfl (fun ls hl => ?_)
      obtain ⟨v4, ev4⟩ : ∃ y : Int32, y = x3 + 1 := ⟨_, rfl⟩
      have h := h v4 ev4
      refine lv_iinc (v := v4) (lv' := [(3, .int v4), (2, .int v3), (0, .ref (q 0)), (1, .int x1)]) hx hb (dk DX12_voicesOf 26 rfl) hl (k := 3) rfl (by rw [ev4]; rfl) (by decide) rfl (fun ls hl => ?_)
      refine lv_goto (tgt := 4) hx hb (dk DX12_voicesOf 27 rfl) (by decide) ?_
      exact hK0 x1 v3 v4 S1 h _ _ hP hD hS ls (lv_sub hl [2, 3, 1, 0] rfl)
    · have h := h.2 hc
      refine lv_iconst (v := 1) hx hb (dk DX12_voicesOf 16 rfl) (by decide) ?_
      refine lv_aload_n hx hb (dk DX12_voicesOf 17 rfl) rfl (lv_at hl 0 rfl) ?_
      refine lv_iload_n hx hb (dk DX12_voicesOf 18 rfl) rfl (lv_at hl 3 rfl) ?_
      refine lv_iconst (v := 1) hx hb (dk DX12_voicesOf 19 rfl) (by decide) ?_
      refine cMi (As := [.int x3, .int 1]) (rest := [.int 1, .int x2]) X (m_get (l := l) (dC := dC) (dI := dI) (q := q) (cI := cI) (cJ := cJ) (cZ := cZ) (sz := _) x3 1 S1 h) (cwV 2 X.2.2.2.2.1 (gwV 47 48 49 24 36 rfl rfl rfl rfl rfl) rfl rfl rfl q_get ⟨Nat.le_of_ble_eq_true rfl, Nat.le_of_ble_eq_true rfl⟩) hP hD hS rfl hl.1 rfl (Nat.le_of_ble_eq_true rfl) (dk DX12_voicesOf 20 rfl) (fun r6 S5 H locs h hP hD hS => ?_)
      refine lv_ishl hx hb (dk DX12_voicesOf 21 rfl) ?_
      refine lv_goto (tgt := 36) hx hb (dk DX12_voicesOf 22 rfl) (by decide) ?_
      refine lv_ior hx hb (dk DX12_voicesOf 24 rfl) ?_
      refine lv_topi (fun v7 ev7 => ?_)
      have h := h v7 ev7
      refine lv_istore_n (lv' := [(2, .int v7), (0, .ref (q 0)), (1, .int x1), (3, .int x3)]) hx hb (dk DX12_voicesOf 25 rfl) rfl hl (by decide) rfl (fun ls hl => ?_)
      obtain ⟨v8, ev8⟩ : ∃ y : Int32, y = x3 + 1 := ⟨_, rfl⟩
      have h := h v8 ev8
      refine lv_iinc (v := v8) (lv' := [(3, .int v8), (2, .int v7), (0, .ref (q 0)), (1, .int x1)]) hx hb (dk DX12_voicesOf 26 rfl) hl (k := 3) rfl (by rw [ev8]; rfl) (by decide) rfl (fun ls hl => ?_)
      refine lv_goto (tgt := 4) hx hb (dk DX12_voicesOf 27 rfl) (by decide) ?_
      exact hK0 x1 v7 v8 S5 h _ _ hP hD hS ls (lv_sub hl [2, 3, 1, 0] rfl)
set_option maxHeartbeats 4000000 in
set_option maxRecDepth 100000 in
theorem m_voicesOf {l : Launch} {dC : Nat → ClassId} {dI : Nat → Nat → Nat} {q : Nat → Nat} {cI cJ cZ : ClassId} {sz : Nat} {Post : Int32 → MS → Prop} (a0 : Int32) (S : MS) (h : VC_voicesOf Post a0 S) : Met l yX12_voicesOf ww_voicesOf ({ frames := 2, cells := 0, slots := 0, locals := 42 } : Room) (va_Pc [.ref (q 0), .int a0] (preM dC dI q cI cJ cZ S sz)) (va_Qi Post (atM dC dI q cI cJ cZ (va_A (wM q cI cJ cZ S) sz)) (va_A (wM q cI cJ cZ S) sz)) 0 0 (va_A (wM q cI cJ cZ S) sz) := by
  refine oM (cc := cX12_voicesOf) (maxL := 4) (ret := (some .int)) (Qc := fun A => va_Qi Post (atM dC dI q cI cJ cZ A) A) (by decide) rfl (fun w h => List.mem_cons_of_mem _ (List.mem_append_right _ h)) rfl (Nat.le_of_ble_eq_true rfl) (fun p e s m below meth c A ls X hr hlocks hP hD hS hl => ?_)
  have hx := X.1
  have hb := X.2.1
  have hl : lv_has ls 4 [(0, .ref (q 0)), (1, .int a0)] := hl
  have lk7 := X.2.2.2.2.1 (.fieldLink RX12 7 "BreathOnLoanModel" "a" "[I") (inW 5 rfl)
  generalize hargs : ([.ref (q 0), .int a0] : List Value).toArray = args at X ⊢
  have h := h (fun hd S => match hd with | (x1, x2, x3) => ∀ (H : Heap) (locs : List Loc), va_P (dC, dI) vwCl (wM q cI cJ cZ S) H → va_D A (wM q cI cJ cZ S) → va_S A s.heap H locs → ∀ ls : Array Slot, lv_has ls 4 [(0, .ref (q 0)), (1, .int x1), (2, .int x2), (3, .int x3)] → W p l e (headSpec ww_voicesOf ({ frames := 2, cells := 0, slots := 0, locals := 42 } : Room)).room s m args below meth c H locs 0 0 (MQ below (va_Qi Post (atM dC dI q cI cJ cZ A) A) args s 0 0 A) (F0 m 4 ls [])) ?_
  · skip
    refine lv_iconst (v := 0) hx hb (dk DX12_voicesOf 0 rfl) (by decide) ?_
    refine lv_istore_n (lv' := [(2, .int 0), (0, .ref (q 0)), (1, .int a0)]) hx hb (dk DX12_voicesOf 1 rfl) rfl hl (by decide) rfl (fun ls hl => ?_)
    refine lv_iconst (v := 0) hx hb (dk DX12_voicesOf 2 rfl) (by decide) ?_
    refine lv_istore_n (lv' := [(3, .int 0), (2, .int 0), (0, .ref (q 0)), (1, .int a0)]) hx hb (dk DX12_voicesOf 3 rfl) rfl hl (by decide) rfl (fun ls hl => ?_)
    exact h _ _ hP hD hS ls (lv_sub hl [2, 3, 1, 0] rfl)
  · rintro ⟨x1, x2, x3⟩ S hB
    exact h_voicesOf_0 X hr hlocks (hK0 := fun _ _ _ _ h => h) x1 x2 x3 S hB

def ww_givenByAll : List Cond := .code yX12_givenByAll cX12_givenByAll 3 (some .int) :: (WdM ++ wsX120)
theorem q_givenByAll : yX12_givenByAll.cls = RX12 ∧ yX12_givenByAll.cls ≠ "java/lang/invoke/MethodHandle" ∧ yX12_givenByAll.cls ≠ "java/lang/invoke/VarHandle" ∧ (parseMethodDescriptor yX12_givenByAll.desc).map (fun d => d.parameters.length) = some 0 := by decide +kernel
abbrev Hd_givenByAll : Type := (Int32 × Int32)
def B_givenByAll (Post : Int32 → MS → Prop) (K : Hd_givenByAll → MS → Prop) : Hd_givenByAll → MS → Prop
  | (x1, x2), S => vp_in (0 : Int32) 3890 ∧ ((((S.2.2.1 0) (0 : Int32).toNatClampNeg) ≤ x2 → Post x1 S) ∧ (¬ ((S.2.2.1 0) (0 : Int32).toNatClampNeg) ≤ x2 → VC_get (fun r2 S1 => ∀ v3 : Int32, v3 = x1 + r2 → ∀ v4 : Int32, v4 = x2 + 1 → K (v3, v4) S1) x2 3 S))
def VC_givenByAll (Post : Int32 → MS → Prop) (S : MS) : Prop := ∀ K : Hd_givenByAll → MS → Prop, (∀ h S, B_givenByAll Post K h S → K h S) → K (0, 0) S
set_option maxHeartbeats 4000000 in
set_option maxRecDepth 100000 in
theorem h_givenByAll_0 {p : Program} {l : Launch} {e : Env} {s : State} {m : MethodId} {below : List Frame} {meth : Method} {c : Code} {dC : Nat → ClassId} {dI : Nat → Nat → Nat} {q : Nat → Nat} {cI cJ cZ : ClassId} {A : Nat → Prop} {args : Array Value} {Post : Int32 → MS → Prop} {K : Hd_givenByAll → MS → Prop} (X : XM p s m args c cX12_givenByAll 3 ww_givenByAll dC dI cI cJ cZ A) (hr : meth.sig.returnType = (some .int)) (hlocks : meth.locks = false) (hK0 : ∀ (x1 : Int32) (x2 : Int32) (S : MS), K (x1, x2) S → ∀ (H : Heap) (locs : List Loc), va_P (dC, dI) vwCl (wM q cI cJ cZ S) H → va_D A (wM q cI cJ cZ S) → va_S A s.heap H locs → ∀ ls : Array Slot, lv_has ls 3 [(0, .ref (q 0)), (1, .int x1), (2, .int x2)] → W p l e (headSpec ww_givenByAll ({ frames := 1, cells := 0, slots := 0, locals := 22 } : Room)).room s m args below meth c H locs 0 0 (MQ below (va_Qi Post (atM dC dI q cI cJ cZ A) A) args s 0 0 A) (F0 m 4 ls [])) (x1 : Int32) (x2 : Int32) (S : MS) (h : B_givenByAll Post K (x1, x2) S) : ∀ (H : Heap) (locs : List Loc), va_P (dC, dI) vwCl (wM q cI cJ cZ S) H → va_D A (wM q cI cJ cZ S) → va_S A s.heap H locs → ∀ ls : Array Slot, lv_has ls 3 [(0, .ref (q 0)), (1, .int x1), (2, .int x2)] → W p l e (headSpec ww_givenByAll ({ frames := 1, cells := 0, slots := 0, locals := 22 } : Room)).room s m args below meth c H locs 0 0 (MQ below (va_Qi Post (atM dC dI q cI cJ cZ A) A) args s 0 0 A) (F0 m 4 ls []) := by
  have hx := X.1
  have hb := X.2.1
  intro H locs hP hD hS ls hl
  have lk7 := X.2.2.2.2.1 (.fieldLink RX12 7 "BreathOnLoanModel" "a" "[I") (inW 5 rfl)
  dsimp only [B_givenByAll] at h
  refine lv_iload_n hx hb (dk DX12_givenByAll 4 rfl) rfl (lv_at hl 2 rfl) ?_
  refine lv_aload_n hx hb (dk DX12_givenByAll 5 rfl) rfl (lv_at hl 0 rfl) ?_
  refine gM X hP 0 (by decide) rfl lk7 (dk DX12_givenByAll 6 rfl) ?_
  refine lv_iconst (v := 0) hx hb (dk DX12_givenByAll 7 rfl) (by decide) ?_
  obtain ⟨hin, h⟩ := h
  refine ldM X hP 1 rfl hin (dk DX12_givenByAll 8 rfl) ?_
  refine lv_icmp_ge (tgt := 29) hx hb (dk DX12_givenByAll 9 rfl) (by decide) (fun hc => ?_) (fun hc => ?_)
  · have h := h.1 hc
    refine lv_iload_n hx hb (dk DX12_givenByAll 19 rfl) rfl (lv_at hl 1 rfl) ?_
    exact W.iret (v := x1) hx hb hr (fun t ht hW => ⟨⟨_, _, rfl, h, by rw [ht]; exact hP, va_K.moved hW.alike X.2.2.2.2.2.2.1, hD⟩, hS.F ht⟩) hS.2.2 (dk DX12_givenByAll 20 rfl)
  · have h := h.2 hc
    refine lv_iload_n hx hb (dk DX12_givenByAll 10 rfl) rfl (lv_at hl 1 rfl) ?_
    refine lv_aload_n hx hb (dk DX12_givenByAll 11 rfl) rfl (lv_at hl 0 rfl) ?_
    refine lv_iload_n hx hb (dk DX12_givenByAll 12 rfl) rfl (lv_at hl 2 rfl) ?_
    refine lv_iconst (v := 3) hx hb (dk DX12_givenByAll 13 rfl) (by decide) ?_
    refine cMi (As := [.int x2, .int 3]) (rest := [.int x1]) X (m_get (l := l) (dC := dC) (dI := dI) (q := q) (cI := cI) (cJ := cJ) (cZ := cZ) (sz := _) x2 3 S h) (cwV 2 X.2.2.2.2.1 (gwV 47 48 49 24 36 rfl rfl rfl rfl rfl) rfl rfl rfl q_get ⟨Nat.le_of_ble_eq_true rfl, Nat.le_of_ble_eq_true rfl⟩) hP hD hS rfl hl.1 rfl (Nat.le_of_ble_eq_true rfl) (dk DX12_givenByAll 14 rfl) (fun r2 S1 H locs h hP hD hS => ?_)
    refine lv_iadd hx hb (dk DX12_givenByAll 15 rfl) ?_
    refine lv_topi (fun v3 ev3 => ?_)
    have h := h v3 ev3
    refine lv_istore_n (lv' := [(1, .int v3), (0, .ref (q 0)), (2, .int x2)]) hx hb (dk DX12_givenByAll 16 rfl) rfl hl (by decide) rfl (fun ls hl => ?_)
    obtain ⟨v4, ev4⟩ : ∃ y : Int32, y = x2 + 1 := ⟨_, rfl⟩
    have h := h v4 ev4
    refine lv_iinc (v := v4) (lv' := [(2, .int v4), (1, .int v3), (0, .ref (q 0))]) hx hb (dk DX12_givenByAll 17 rfl) hl (k := 2) rfl (by rw [ev4]; rfl) (by decide) rfl (fun ls hl => ?_)
    refine lv_goto (tgt := 4) hx hb (dk DX12_givenByAll 18 rfl) (by decide) ?_
    exact hK0 v3 v4 S1 h _ _ hP hD hS ls (lv_sub hl [2, 1, 0] rfl)
set_option maxHeartbeats 4000000 in
set_option maxRecDepth 100000 in
theorem m_givenByAll {l : Launch} {dC : Nat → ClassId} {dI : Nat → Nat → Nat} {q : Nat → Nat} {cI cJ cZ : ClassId} {sz : Nat} {Post : Int32 → MS → Prop} (S : MS) (h : VC_givenByAll Post S) : Met l yX12_givenByAll ww_givenByAll ({ frames := 1, cells := 0, slots := 0, locals := 22 } : Room) (va_Pc [.ref (q 0)] (preM dC dI q cI cJ cZ S sz)) (va_Qi Post (atM dC dI q cI cJ cZ (va_A (wM q cI cJ cZ S) sz)) (va_A (wM q cI cJ cZ S) sz)) 0 0 (va_A (wM q cI cJ cZ S) sz) := by
  refine oM (cc := cX12_givenByAll) (maxL := 3) (ret := (some .int)) (Qc := fun A => va_Qi Post (atM dC dI q cI cJ cZ A) A) (by decide) rfl (fun w h => List.mem_cons_of_mem _ (List.mem_append_right _ h)) rfl (Nat.le_of_ble_eq_true rfl) (fun p e s m below meth c A ls X hr hlocks hP hD hS hl => ?_)
  have hx := X.1
  have hb := X.2.1
  have hl : lv_has ls 3 [(0, .ref (q 0))] := hl
  have lk7 := X.2.2.2.2.1 (.fieldLink RX12 7 "BreathOnLoanModel" "a" "[I") (inW 5 rfl)
  generalize hargs : ([.ref (q 0)] : List Value).toArray = args at X ⊢
  have h := h (fun hd S => match hd with | (x1, x2) => ∀ (H : Heap) (locs : List Loc), va_P (dC, dI) vwCl (wM q cI cJ cZ S) H → va_D A (wM q cI cJ cZ S) → va_S A s.heap H locs → ∀ ls : Array Slot, lv_has ls 3 [(0, .ref (q 0)), (1, .int x1), (2, .int x2)] → W p l e (headSpec ww_givenByAll ({ frames := 1, cells := 0, slots := 0, locals := 22 } : Room)).room s m args below meth c H locs 0 0 (MQ below (va_Qi Post (atM dC dI q cI cJ cZ A) A) args s 0 0 A) (F0 m 4 ls [])) ?_
  · skip
    refine lv_iconst (v := 0) hx hb (dk DX12_givenByAll 0 rfl) (by decide) ?_
    refine lv_istore_n (lv' := [(1, .int 0), (0, .ref (q 0))]) hx hb (dk DX12_givenByAll 1 rfl) rfl hl (by decide) rfl (fun ls hl => ?_)
    refine lv_iconst (v := 0) hx hb (dk DX12_givenByAll 2 rfl) (by decide) ?_
    refine lv_istore_n (lv' := [(2, .int 0), (1, .int 0), (0, .ref (q 0))]) hx hb (dk DX12_givenByAll 3 rfl) rfl hl (by decide) rfl (fun ls hl => ?_)
    exact h _ _ hP hD hS ls (lv_sub hl [2, 1, 0] rfl)
  · rintro ⟨x1, x2⟩ S hB
    exact h_givenByAll_0 X hr hlocks (hK0 := fun _ _ _ h => h) x1 x2 S hB

