-- X11_whose_0 X11_tell_0 X11_liars_0 X11_coughs_0 X11_aboutKind_0
def ww_X11_whose_0 : List Cond := .code yX11_whose cX11_whose 4 (some .int) :: (WdX ++ WsX)
theorem q_X11_whose_0 : yX11_whose.cls = RX11 ∧ yX11_whose.cls ≠ "java/lang/invoke/MethodHandle" ∧ yX11_whose.cls ≠ "java/lang/invoke/VarHandle" ∧ (parseMethodDescriptor yX11_whose.desc).map (fun d => d.parameters.length) = some 1 := by decide +kernel
abbrev Hd_X11_whose_0 : Type := (Int32 × Int32 × Int32)
def B_X11_whose_0 (Post : Int32 → XS → Prop) (K : Hd_X11_whose_0 → XS → Prop) : Hd_X11_whose_0 → XS → Prop
  | (x1, x2, x3), S => ((((1 : Int32) <<< ((S.1 64) &&& 31)) ≤ x3 → ((¬ x1 = (-1) → Post (-1) S) ∧ (x1 = (-1) → Post x2 S))) ∧ (¬ ((1 : Int32) <<< ((S.1 64) &&& 31)) ≤ x3 → VC_X11_canHaveBlown_0 (fun r2 S1 => ((r2 = 0 → ∀ v3 : Int32, v3 = x3 + 1 → K (x1, x2, v3) S1) ∧ (¬ r2 = 0 → ((¬ x2 = x1 → ∀ v4 : Int32, v4 = x2 + 1 → ∀ v5 : Int32, v5 = x3 + 1 → K (x1, v4, v5) S1) ∧ (x2 = x1 → Post x3 S1))))) x3 S))
def VC_X11_whose_0 (Post : Int32 → XS → Prop) (a0 : Int32) (S : XS) : Prop := ∀ K : Hd_X11_whose_0 → XS → Prop, (∀ h S, B_X11_whose_0 Post K h S → K h S) → K (a0, 0, 1) S
set_option maxHeartbeats 4000000 in
set_option maxRecDepth 100000 in
theorem h_X11_whose_0_0 {p : Program} {l : Launch} {e : Env} {s : State} {m : MethodId} {below : List Frame} {meth : Method} {c : Code} {dC : Nat → ClassId} {dI : Nat → Nat → Nat} {q : Nat → Nat} {cI cT : ClassId} {en : Nat → Nat} {A : Nat → Prop} {args : Array Value} {Post : Int32 → XS → Prop} {K : Hd_X11_whose_0 → XS → Prop} (X : XX p s m args c cX11_whose 4 ww_X11_whose_0 RX11 dC dI cI cT en A) (hr : meth.sig.returnType = (some .int)) (hlocks : meth.locks = false) (hK0 : ∀ (x1 : Int32) (x2 : Int32) (x3 : Int32) (S : XS), K (x1, x2, x3) S → ∀ (H : Heap) (locs : List Loc), va_P (dC, dI) vwCl (wX q cI cT S) H → va_D A (wX q cI cT S) → va_S A s.heap H locs → ∀ ls : Array Slot, lv_has ls 4 [(0, .ref (q 0)), (1, .int x1), (2, .int x2), (3, .int x3)] → W p l e (headSpec ww_X11_whose_0 ({ frames := 3, cells := 0, slots := 0, locals := 88 } : Room)).room s m args below meth c H locs 0 0 (MQ below (va_Qi Post (atX dC dI q cI cT A) A) args s 0 0 A) (F0 m 4 ls [])) (x1 : Int32) (x2 : Int32) (x3 : Int32) (S : XS) (h : B_X11_whose_0 Post K (x1, x2, x3) S) : ∀ (H : Heap) (locs : List Loc), va_P (dC, dI) vwCl (wX q cI cT S) H → va_D A (wX q cI cT S) → va_S A s.heap H locs → ∀ ls : Array Slot, lv_has ls 4 [(0, .ref (q 0)), (1, .int x1), (2, .int x2), (3, .int x3)] → W p l e (headSpec ww_X11_whose_0 ({ frames := 3, cells := 0, slots := 0, locals := 88 } : Room)).room s m args below meth c H locs 0 0 (MQ below (va_Qi Post (atX dC dI q cI cT A) A) args s 0 0 A) (F0 m 4 ls []) := by
  have hx := X.1
  have hb := X.2.1
  intro H locs hP hD hS ls hl
  have lk12 := X.2.2.2.2.1 (.fieldLink RX11 12 "BreathOnLoan" "now" "LBreathOnLoan$State;") (inX 568 rfl)
  have lk57 := X.2.2.2.2.1 (.fieldLink RX11 57 "BreathOnLoan$State" "crew" "LBreathOnLoan$Crew;") (inX 592 rfl)
  have lk256 := X.2.2.2.2.1 (.fieldLink RX11 256 "BreathOnLoan$Crew" "count" "I") (inX 672 rfl)
  dsimp only [B_X11_whose_0] at h
  refine lv_iload_n hx hb (dk DX11_whose 4 rfl) rfl (lv_at hl 3 rfl) ?_
  refine lv_iconst (v := 1) hx hb (dk DX11_whose 5 rfl) (by decide) ?_
  refine lv_aload_n hx hb (dk DX11_whose 6 rfl) rfl (lv_at hl 0 rfl) ?_
  refine gX_0 X hP 0 (by decide) rfl lk12 (dk DX11_whose 7 rfl) ?_
  refine gX_1 X hP 0 (by decide) rfl lk57 (dk DX11_whose 8 rfl) ?_
  refine gX_2 X hP 0 (by decide) rfl lk256 (dk DX11_whose 9 rfl) ?_
  refine lv_ishl hx hb (dk DX11_whose 10 rfl) ?_
  refine lv_icmp_ge (tgt := 44) hx hb (dk DX11_whose 11 rfl) (by decide) (fun hc => ?_) (fun hc => ?_)
  · have h := h.1 hc
    refine lv_iload_n hx hb (dk DX11_whose 24 rfl) rfl (lv_at hl 1 rfl) ?_
    refine lv_iconst (v := (-1)) hx hb (dk DX11_whose 25 rfl) (by decide) ?_
    refine lv_icmp_ne (tgt := 53) hx hb (dk DX11_whose 26 rfl) (by decide) (fun hc => ?_) (fun hc => ?_)
    · have h := h.1 hc
      refine lv_iconst (v := (-1)) hx hb (dk DX11_whose 29 rfl) (by decide) ?_
      exact W.iret (v := (-1)) hx hb hr (fun t ht hW => ⟨⟨_, _, rfl, h, by rw [ht]; exact hP, va_K.moved hW.alike X.2.2.2.2.2.2.1, hD⟩, hS.F ht⟩) hS.2.2 (dk DX11_whose 30 rfl)
    · have h := h.2 hc
      refine lv_iload_n hx hb (dk DX11_whose 27 rfl) rfl (lv_at hl 2 rfl) ?_
      refine lv_goto (tgt := 54) hx hb (dk DX11_whose 28 rfl) (by decide) ?_
      exact W.iret (v := x2) hx hb hr (fun t ht hW => ⟨⟨_, _, rfl, h, by rw [ht]; exact hP, va_K.moved hW.alike X.2.2.2.2.2.2.1, hD⟩, hS.F ht⟩) hS.2.2 (dk DX11_whose 30 rfl)
  · have h := h.2 hc
    refine lv_aload_n hx hb (dk DX11_whose 12 rfl) rfl (lv_at hl 0 rfl) ?_
    refine lv_iload_n hx hb (dk DX11_whose 13 rfl) rfl (lv_at hl 3 rfl) ?_
    refine cXi (As := [.int x3]) (rest := []) X (m_X11_canHaveBlown_0 (l := l) (dC := dC) (dI := dI) (q := q) (cI := cI) (cT := cT) (en := en) (sz := _) x3 S h) (cwV 1 X.2.2.2.2.1 (gxV 745 746 747 16 744 rfl rfl rfl rfl rfl) rfl rfl rfl q_X11_canHaveBlown_0 ⟨Nat.le_of_ble_eq_true rfl, Nat.le_of_ble_eq_true rfl⟩) (rX_0 X hP) hP hD hS rfl hl.1 rfl (Nat.le_of_ble_eq_true rfl) (dk DX11_whose 14 rfl) (fun r2 S1 H locs h hP hD hS => ?_)
    refine lv_if_eq (tgt := 38) hx hb (dk DX11_whose 15 rfl) (by decide) (fun hc => ?_) (fun hc => ?_)
    · have h := h.1 hc
      obtain ⟨v3, ev3⟩ : ∃ y : Int32, y = x3 + 1 := ⟨_, rfl⟩
      have h := h v3 ev3
      refine lv_iinc (v := v3) (lv' := [(3, .int v3), (0, .ref (q 0)), (1, .int x1), (2, .int x2)]) hx hb (dk DX11_whose 22 rfl) hl (k := 3) rfl (by rw [ev3]; rfl) (by decide) rfl (fun ls hl => ?_)
      refine lv_goto (tgt := 4) hx hb (dk DX11_whose 23 rfl) (by decide) ?_
      exact hK0 x1 x2 v3 S1 h _ _ hP hD hS ls (lv_sub hl [1, 2, 3, 0] rfl)
    · have h := h.2 hc
      refine lv_iload_n hx hb (dk DX11_whose 16 rfl) rfl (lv_at hl 2 rfl) ?_
      refine lv_iload_n hx hb (dk DX11_whose 17 rfl) rfl (lv_at hl 1 rfl) ?_
      refine lv_icmp_ne (tgt := 35) hx hb (dk DX11_whose 18 rfl) (by decide) (fun hc => ?_) (fun hc => ?_)
      · have h := h.1 hc
        obtain ⟨v4, ev4⟩ : ∃ y : Int32, y = x2 + 1 := ⟨_, rfl⟩
        have h := h v4 ev4
        refine lv_iinc (v := v4) (lv' := [(2, .int v4), (0, .ref (q 0)), (1, .int x1), (3, .int x3)]) hx hb (dk DX11_whose 21 rfl) hl (k := 2) rfl (by rw [ev4]; rfl) (by decide) rfl (fun ls hl => ?_)
        obtain ⟨v5, ev5⟩ : ∃ y : Int32, y = x3 + 1 := ⟨_, rfl⟩
        have h := h v5 ev5
        refine lv_iinc (v := v5) (lv' := [(3, .int v5), (2, .int v4), (0, .ref (q 0)), (1, .int x1)]) hx hb (dk DX11_whose 22 rfl) hl (k := 3) rfl (by rw [ev5]; rfl) (by decide) rfl (fun ls hl => ?_)
        refine lv_goto (tgt := 4) hx hb (dk DX11_whose 23 rfl) (by decide) ?_
        exact hK0 x1 v4 v5 S1 h _ _ hP hD hS ls (lv_sub hl [2, 3, 1, 0] rfl)
      · have h := h.2 hc
        refine lv_iload_n hx hb (dk DX11_whose 19 rfl) rfl (lv_at hl 3 rfl) ?_
        exact W.iret (v := x3) hx hb hr (fun t ht hW => ⟨⟨_, _, rfl, h, by rw [ht]; exact hP, va_K.moved hW.alike X.2.2.2.2.2.2.1, hD⟩, hS.F ht⟩) hS.2.2 (dk DX11_whose 20 rfl)
set_option maxHeartbeats 4000000 in
set_option maxRecDepth 100000 in
theorem m_X11_whose_0 {l : Launch} {dC : Nat → ClassId} {dI : Nat → Nat → Nat} {q : Nat → Nat} {cI cT : ClassId} {en : Nat → Nat} {sz : Nat} {Post : Int32 → XS → Prop} (a0 : Int32) (S : XS) (h : VC_X11_whose_0 Post a0 S) : Met l yX11_whose ww_X11_whose_0 ({ frames := 3, cells := 0, slots := 0, locals := 88 } : Room) (va_Pc [.ref (q 0), .int a0] (preX dC dI q cI cT en S sz)) (va_Qi Post (atX dC dI q cI cT (va_A (wX q cI cT S) sz)) (va_A (wX q cI cT S) sz)) 0 0 (va_A (wX q cI cT S) sz) := by
  refine oX (cc := cX11_whose) (maxL := 4) (ret := (some .int)) (Qc := fun A => va_Qi Post (atX dC dI q cI cT A) A) (own := RX11) (by decide) rfl (fun w h => List.mem_cons_of_mem _ (List.mem_append_right _ h)) rfl (Nat.le_of_ble_eq_true rfl) (fun p e s m below meth c A ls X hr hlocks hP hD hS hl => ?_)
  have hx := X.1
  have hb := X.2.1
  have hl : lv_has ls 4 [(0, .ref (q 0)), (1, .int a0)] := hl
  have lk12 := X.2.2.2.2.1 (.fieldLink RX11 12 "BreathOnLoan" "now" "LBreathOnLoan$State;") (inX 568 rfl)
  have lk57 := X.2.2.2.2.1 (.fieldLink RX11 57 "BreathOnLoan$State" "crew" "LBreathOnLoan$Crew;") (inX 592 rfl)
  have lk256 := X.2.2.2.2.1 (.fieldLink RX11 256 "BreathOnLoan$Crew" "count" "I") (inX 672 rfl)
  generalize hargs : ([.ref (q 0), .int a0] : List Value).toArray = args at X ⊢
  have h := h (fun hd S => match hd with | (x1, x2, x3) => ∀ (H : Heap) (locs : List Loc), va_P (dC, dI) vwCl (wX q cI cT S) H → va_D A (wX q cI cT S) → va_S A s.heap H locs → ∀ ls : Array Slot, lv_has ls 4 [(0, .ref (q 0)), (1, .int x1), (2, .int x2), (3, .int x3)] → W p l e (headSpec ww_X11_whose_0 ({ frames := 3, cells := 0, slots := 0, locals := 88 } : Room)).room s m args below meth c H locs 0 0 (MQ below (va_Qi Post (atX dC dI q cI cT A) A) args s 0 0 A) (F0 m 4 ls [])) ?_
  · skip
    refine lv_iconst (v := 0) hx hb (dk DX11_whose 0 rfl) (by decide) ?_
    refine lv_istore_n (lv' := [(2, .int 0), (0, .ref (q 0)), (1, .int a0)]) hx hb (dk DX11_whose 1 rfl) rfl hl (by decide) rfl (fun ls hl => ?_)
    refine lv_iconst (v := 1) hx hb (dk DX11_whose 2 rfl) (by decide) ?_
    refine lv_istore_n (lv' := [(3, .int 1), (2, .int 0), (0, .ref (q 0)), (1, .int a0)]) hx hb (dk DX11_whose 3 rfl) rfl hl (by decide) rfl (fun ls hl => ?_)
    exact h _ _ hP hD hS ls (lv_sub hl [2, 3, 1, 0] rfl)
  · rintro ⟨x1, x2, x3⟩ S hB
    exact h_X11_whose_0_0 X hr hlocks (hK0 := fun _ _ _ _ h => h) x1 x2 x3 S hB

def ww_X11_tell_0 : List Cond := .code yX11_tell cX11_tell 5 (some .int) :: (WdX ++ WsX)
theorem q_X11_tell_0 : yX11_tell.cls = RX11 ∧ yX11_tell.cls ≠ "java/lang/invoke/MethodHandle" ∧ yX11_tell.cls ≠ "java/lang/invoke/VarHandle" ∧ (parseMethodDescriptor yX11_tell.desc).map (fun d => d.parameters.length) = some 4 := by decide +kernel
def VC_X11_tell_0 (Post : Int32 → XS → Prop) (a0 : Int32) (a1 : Int32) (a2 : Int32) (a3 : Int32) (S : XS) : Prop := VC_X1_has_2 (fun r2 S1 => ((r2 = 0 → Post (-1) S1) ∧ (¬ r2 = 0 → VC_X11_within (fun r3 => ((r3 = 0 → Post (-1) S1) ∧ (¬ r3 = 0 → VC_X11_within (fun r4 => ((r4 = 0 → Post (-1) S1) ∧ (¬ r4 = 0 → VC_X11_within (fun r5 => ((¬ r5 = 0 → VC_X7_hear_17 (fun r7 S6 => Post r7 S6) a1 a0 a2 a3 S1) ∧ (r5 = 0 → Post (-1) S1))) a3 0 999))) a2 1 9))) a1 0 9))) a0 S
set_option maxHeartbeats 4000000 in
set_option maxRecDepth 100000 in
theorem m_X11_tell_0 {l : Launch} {dC : Nat → ClassId} {dI : Nat → Nat → Nat} {q : Nat → Nat} {cI cT : ClassId} {en : Nat → Nat} {sz : Nat} {Post : Int32 → XS → Prop} (a0 : Int32) (a1 : Int32) (a2 : Int32) (a3 : Int32) (S : XS) (h : VC_X11_tell_0 Post a0 a1 a2 a3 S) : Met l yX11_tell ww_X11_tell_0 ({ frames := 1, cells := 0, slots := 0, locals := 24 } : Room) (va_Pc [.ref (q 0), .int a0, .int a1, .int a2, .int a3] (preX dC dI q cI cT en S sz)) (va_Qi Post (atX dC dI q cI cT (va_A (wX q cI cT S) sz)) (va_A (wX q cI cT S) sz)) 0 0 (va_A (wX q cI cT S) sz) := by
  refine oX (cc := cX11_tell) (maxL := 5) (ret := (some .int)) (Qc := fun A => va_Qi Post (atX dC dI q cI cT A) A) (own := RX11) (by decide) rfl (fun w h => List.mem_cons_of_mem _ (List.mem_append_right _ h)) rfl (Nat.le_of_ble_eq_true rfl) (fun p e s m below meth c A ls X hr hlocks hP hD hS hl => ?_)
  have hx := X.1
  have hb := X.2.1
  have hl : lv_has ls 5 [(0, .ref (q 0)), (1, .int a0), (2, .int a1), (3, .int a2), (4, .int a3)] := hl
  have lk12 := X.2.2.2.2.1 (.fieldLink RX11 12 "BreathOnLoan" "now" "LBreathOnLoan$State;") (inX 568 rfl)
  have lk57 := X.2.2.2.2.1 (.fieldLink RX11 57 "BreathOnLoan$State" "crew" "LBreathOnLoan$Crew;") (inX 592 rfl)
  have lk247 := X.2.2.2.2.1 (.fieldLink RX11 247 "BreathOnLoan$State" "talk" "LBreathOnLoan$Talk;") (inX 736 rfl)
  dsimp only [VC_X11_tell_0] at h
  refine lv_aload_n hx hb (dk DX11_tell 0 rfl) rfl (lv_at hl 0 rfl) ?_
  refine gX_0 X hP 0 (by decide) rfl lk12 (dk DX11_tell 1 rfl) ?_
  refine gX_1 X hP 0 (by decide) rfl lk57 (dk DX11_tell 2 rfl) ?_
  refine lv_iload_n hx hb (dk DX11_tell 3 rfl) rfl (lv_at hl 1 rfl) ?_
  refine cXi (As := [.int a0]) (rest := []) X (m_X1_has_2 (l := l) (dC := dC) (dI := dI) (q := q) (cI := cI) (cT := cT) (en := en) (sz := _) a0 S h) (cwV 1 X.2.2.2.2.1 (gxV 598 40 41 42 35 rfl rfl rfl rfl rfl) rfl rfl rfl q_X1_has_2 ⟨Nat.le_of_ble_eq_true rfl, Nat.le_of_ble_eq_true rfl⟩) (rX_2 X hP) hP hD hS rfl hl.1 rfl (Nat.le_of_ble_eq_true rfl) (dk DX11_tell 4 rfl) (fun r2 S1 H locs h hP hD hS => ?_)
  refine lv_if_eq (tgt := 46) hx hb (dk DX11_tell 5 rfl) (by decide) (fun hc => ?_) (fun hc => ?_)
  · have h := h.1 hc
    refine lv_iconst (v := (-1)) hx hb (dk DX11_tell 21 rfl) (by decide) ?_
    exact W.iret (v := (-1)) hx hb hr (fun t ht hW => ⟨⟨_, _, rfl, h, by rw [ht]; exact hP, va_K.moved hW.alike X.2.2.2.2.2.2.1, hD⟩, hS.F ht⟩) hS.2.2 (dk DX11_tell 22 rfl)
  · have h := h.2 hc
    refine lv_iload_n hx hb (dk DX11_tell 6 rfl) rfl (lv_at hl 2 rfl) ?_
    refine lv_iconst (v := 0) hx hb (dk DX11_tell 7 rfl) (by decide) ?_
    refine lv_bipush (v := 9) hx hb (dk DX11_tell 8 rfl) (by decide) ?_
    refine cSi (As := [.int a1, .int 0, .int 9]) (rest := []) ⟨X.1, X.2.1, X.2.2.1, X.2.2.2.1, X.2.2.2.2.1⟩ (m_X11_within (l := l) a1 0 9 h) (va_cwS 3 X.2.2.2.2.1 (gxS 593 327 16 324 rfl rfl rfl rfl) rfl rfl rfl q_X11_within ⟨Nat.le_of_ble_eq_true rfl, Nat.le_of_ble_eq_true rfl⟩) rfl hl.1 rfl (Nat.le_of_ble_eq_true rfl) (dk DX11_tell 9 rfl) (fun r3 h => ?_)
    refine lv_if_eq (tgt := 46) hx hb (dk DX11_tell 10 rfl) (by decide) (fun hc => ?_) (fun hc => ?_)
    · have h := h.1 hc
      refine lv_iconst (v := (-1)) hx hb (dk DX11_tell 21 rfl) (by decide) ?_
      exact W.iret (v := (-1)) hx hb hr (fun t ht hW => ⟨⟨_, _, rfl, h, by rw [ht]; exact hP, va_K.moved hW.alike X.2.2.2.2.2.2.1, hD⟩, hS.F ht⟩) hS.2.2 (dk DX11_tell 22 rfl)
    · have h := h.2 hc
      refine lv_iload_n hx hb (dk DX11_tell 11 rfl) rfl (lv_at hl 3 rfl) ?_
      refine lv_iconst (v := 1) hx hb (dk DX11_tell 12 rfl) (by decide) ?_
      refine lv_bipush (v := 9) hx hb (dk DX11_tell 13 rfl) (by decide) ?_
      refine cSi (As := [.int a2, .int 1, .int 9]) (rest := []) ⟨X.1, X.2.1, X.2.2.1, X.2.2.2.1, X.2.2.2.2.1⟩ (m_X11_within (l := l) a2 1 9 h) (va_cwS 3 X.2.2.2.2.1 (gxS 593 327 16 324 rfl rfl rfl rfl) rfl rfl rfl q_X11_within ⟨Nat.le_of_ble_eq_true rfl, Nat.le_of_ble_eq_true rfl⟩) rfl hl.1 rfl (Nat.le_of_ble_eq_true rfl) (dk DX11_tell 14 rfl) (fun r4 h => ?_)
      refine lv_if_eq (tgt := 46) hx hb (dk DX11_tell 15 rfl) (by decide) (fun hc => ?_) (fun hc => ?_)
      · have h := h.1 hc
        refine lv_iconst (v := (-1)) hx hb (dk DX11_tell 21 rfl) (by decide) ?_
        exact W.iret (v := (-1)) hx hb hr (fun t ht hW => ⟨⟨_, _, rfl, h, by rw [ht]; exact hP, va_K.moved hW.alike X.2.2.2.2.2.2.1, hD⟩, hS.F ht⟩) hS.2.2 (dk DX11_tell 22 rfl)
      · have h := h.2 hc
        refine lv_iload hx hb (dk DX11_tell 16 rfl) (lv_at hl 4 rfl) ?_
        refine lv_iconst (v := 0) hx hb (dk DX11_tell 17 rfl) (by decide) ?_
        refine lv_sipush (v := 999) hx hb (dk DX11_tell 18 rfl) (by decide) ?_
        refine cSi (As := [.int a3, .int 0, .int 999]) (rest := []) ⟨X.1, X.2.1, X.2.2.1, X.2.2.2.1, X.2.2.2.2.1⟩ (m_X11_within (l := l) a3 0 999 h) (va_cwS 3 X.2.2.2.2.1 (gxS 593 327 16 324 rfl rfl rfl rfl) rfl rfl rfl q_X11_within ⟨Nat.le_of_ble_eq_true rfl, Nat.le_of_ble_eq_true rfl⟩) rfl hl.1 rfl (Nat.le_of_ble_eq_true rfl) (dk DX11_tell 19 rfl) (fun r5 h => ?_)
        refine lv_if_ne (tgt := 48) hx hb (dk DX11_tell 20 rfl) (by decide) (fun hc => ?_) (fun hc => ?_)
        · have h := h.1 hc
          refine lv_aload_n hx hb (dk DX11_tell 23 rfl) rfl (lv_at hl 0 rfl) ?_
          refine gX_0 X hP 0 (by decide) rfl lk12 (dk DX11_tell 24 rfl) ?_
          refine gX_1 X hP 4 (by decide) rfl lk247 (dk DX11_tell 25 rfl) ?_
          refine lv_iload_n hx hb (dk DX11_tell 26 rfl) rfl (lv_at hl 2 rfl) ?_
          refine lv_iload_n hx hb (dk DX11_tell 27 rfl) rfl (lv_at hl 1 rfl) ?_
          refine lv_iload_n hx hb (dk DX11_tell 28 rfl) rfl (lv_at hl 3 rfl) ?_
          refine lv_iload hx hb (dk DX11_tell 29 rfl) (lv_at hl 4 rfl) ?_
          refine cXi (As := [.int a1, .int a0, .int a2, .int a3]) (rest := []) X (m_X7_hear_17 (l := l) (dC := dC) (dI := dI) (q := q) (cI := cI) (cT := cT) (en := en) (sz := _) a1 a0 a2 a3 S1 h) (cwV 4 X.2.2.2.2.1 (gxV 750 751 752 501 555 rfl rfl rfl rfl rfl) rfl rfl rfl q_X7_hear_17 ⟨Nat.le_of_ble_eq_true rfl, Nat.le_of_ble_eq_true rfl⟩) (rX_17 X hP) hP hD hS rfl hl.1 rfl (Nat.le_of_ble_eq_true rfl) (dk DX11_tell 30 rfl) (fun r7 S6 H locs h hP hD hS => ?_)
          exact W.iret (v := r7) hx hb hr (fun t ht hW => ⟨⟨_, _, rfl, h, by rw [ht]; exact hP, va_K.moved hW.alike X.2.2.2.2.2.2.1, hD⟩, hS.F ht⟩) hS.2.2 (dk DX11_tell 31 rfl)
        · have h := h.2 hc
          refine lv_iconst (v := (-1)) hx hb (dk DX11_tell 21 rfl) (by decide) ?_
          exact W.iret (v := (-1)) hx hb hr (fun t ht hW => ⟨⟨_, _, rfl, h, by rw [ht]; exact hP, va_K.moved hW.alike X.2.2.2.2.2.2.1, hD⟩, hS.F ht⟩) hS.2.2 (dk DX11_tell 22 rfl)

def ww_X11_liars_0 : List Cond := .code yX11_liars cX11_liars 7 (some .int) :: (WdX ++ WsX)
theorem q_X11_liars_0 : yX11_liars.cls = RX11 ∧ yX11_liars.cls ≠ "java/lang/invoke/MethodHandle" ∧ yX11_liars.cls ≠ "java/lang/invoke/VarHandle" ∧ (parseMethodDescriptor yX11_liars.desc).map (fun d => d.parameters.length) = some 0 := by decide +kernel
abbrev Hd_X11_liars_0 : Type := (Int32 × Int32)
def B_X11_liars_0 (Post : Int32 → XS → Prop) (K : Hd_X11_liars_0 → XS → Prop) : Hd_X11_liars_0 → XS → Prop
  | (x2, x3), S => (((S.1 546) ≤ x3 → Post x2 S) ∧ (¬ (S.1 546) ≤ x3 → vp_in (4 * x3) 80 ∧ ∀ v1 : Int32, v1 = (S.2.1 19) (4 * x3).toNatClampNeg → vp_in ((4 * x3) + 1) 80 ∧ ∀ v2 : Int32, v2 = (S.2.1 19) ((4 * x3) + 1).toNatClampNeg → vp_in ((4 * x3) + 3) 80 ∧ ∀ v3 : Int32, v3 = (S.2.1 19) ((4 * x3) + 3).toNatClampNeg → VC_X7_toldSum_17 (fun r5 S4 => VC_X0_sum_11 (fun r7 S6 => ((r5 ≤ r7 → ∀ v8 : Int32, v8 = x3 + 1 → K (x2, v8) S6) ∧ (¬ r5 ≤ r7 → ∀ v9 : Int32, v9 = x2 ||| ((1 : Int32) <<< (v2 &&& 31)) → ∀ v10 : Int32, v10 = x3 + 1 → K (v9, v10) S6))) v1 v2 v3 S4) v1 v2 v3 S))
def VC_X11_liars_0 (Post : Int32 → XS → Prop) (S : XS) : Prop := ∀ K : Hd_X11_liars_0 → XS → Prop, (∀ h S, B_X11_liars_0 Post K h S → K h S) → K (0, 0) S
set_option maxHeartbeats 4000000 in
set_option maxRecDepth 100000 in
theorem h_X11_liars_0_0 {p : Program} {l : Launch} {e : Env} {s : State} {m : MethodId} {below : List Frame} {meth : Method} {c : Code} {dC : Nat → ClassId} {dI : Nat → Nat → Nat} {q : Nat → Nat} {cI cT : ClassId} {en : Nat → Nat} {A : Nat → Prop} {args : Array Value} {Post : Int32 → XS → Prop} {K : Hd_X11_liars_0 → XS → Prop} (X : XX p s m args c cX11_liars 7 ww_X11_liars_0 RX11 dC dI cI cT en A) (hr : meth.sig.returnType = (some .int)) (hlocks : meth.locks = false) (hK0 : ∀ (x2 : Int32) (x3 : Int32) (S : XS), K (x2, x3) S → ∀ (H : Heap) (locs : List Loc), va_P (dC, dI) vwCl (wX q cI cT S) H → va_D A (wX q cI cT S) → va_S A s.heap H locs → ∀ ls : Array Slot, lv_has ls 7 [(0, .ref (q 0)), (1, .ref (q 17)), (2, .int x2), (3, .int x3)] → W p l e (headSpec ww_X11_liars_0 ({ frames := 2, cells := 0, slots := 0, locals := 49 } : Room)).room s m args below meth c H locs 0 0 (MQ below (va_Qi Post (atX dC dI q cI cT A) A) args s 0 0 A) (F0 m 12 ls [])) (x2 : Int32) (x3 : Int32) (S : XS) (h : B_X11_liars_0 Post K (x2, x3) S) : ∀ (H : Heap) (locs : List Loc), va_P (dC, dI) vwCl (wX q cI cT S) H → va_D A (wX q cI cT S) → va_S A s.heap H locs → ∀ ls : Array Slot, lv_has ls 7 [(0, .ref (q 0)), (1, .ref (q 17)), (2, .int x2), (3, .int x3)] → W p l e (headSpec ww_X11_liars_0 ({ frames := 2, cells := 0, slots := 0, locals := 49 } : Room)).room s m args below meth c H locs 0 0 (MQ below (va_Qi Post (atX dC dI q cI cT A) A) args s 0 0 A) (F0 m 12 ls []) := by
  have hx := X.1
  have hb := X.2.1
  intro H locs hP hD hS ls hl
  have lk12 := X.2.2.2.2.1 (.fieldLink RX11 12 "BreathOnLoan" "now" "LBreathOnLoan$State;") (inX 568 rfl)
  have lk247 := X.2.2.2.2.1 (.fieldLink RX11 247 "BreathOnLoan$State" "talk" "LBreathOnLoan$Talk;") (inX 736 rfl)
  have lk264 := X.2.2.2.2.1 (.fieldLink RX11 264 "BreathOnLoan$Talk" "toldCount" "I") (inX 754 rfl)
  have lk267 := X.2.2.2.2.1 (.fieldLink RX11 267 "BreathOnLoan$Talk" "told" "[I") (inX 755 rfl)
  have lk141 := X.2.2.2.2.1 (.fieldLink RX11 141 "BreathOnLoan$State" "bench" "LBreathOnLoan$Bench;") (inX 632 rfl)
  dsimp only [B_X11_liars_0] at h
  refine lv_iload_n hx hb (dk DX11_liars 8 rfl) rfl (lv_at hl 3 rfl) ?_
  refine lv_aload_n hx hb (dk DX11_liars 9 rfl) rfl (lv_at hl 1 rfl) ?_
  refine gX_17 X hP 2 (by decide) rfl lk264 (dk DX11_liars 10 rfl) ?_
  refine lv_icmp_ge (tgt := 96) hx hb (dk DX11_liars 11 rfl) (by decide) (fun hc => ?_) (fun hc => ?_)
  · have h := h.1 hc
    refine lv_iload_n hx hb (dk DX11_liars 58 rfl) rfl (lv_at hl 2 rfl) ?_
    exact W.iret (v := x2) hx hb hr (fun t ht hW => ⟨⟨_, _, rfl, h, by rw [ht]; exact hP, va_K.moved hW.alike X.2.2.2.2.2.2.1, hD⟩, hS.F ht⟩) hS.2.2 (dk DX11_liars 59 rfl)
  · have h := h.2 hc
    refine lv_aload_n hx hb (dk DX11_liars 12 rfl) rfl (lv_at hl 1 rfl) ?_
    refine gX_17 X hP 3 (by decide) rfl lk267 (dk DX11_liars 13 rfl) ?_
    refine lv_iconst (v := 4) hx hb (dk DX11_liars 14 rfl) (by decide) ?_
    refine lv_iload_n hx hb (dk DX11_liars 15 rfl) rfl (lv_at hl 3 rfl) ?_
    refine lv_imul hx hb (dk DX11_liars 16 rfl) ?_
    obtain ⟨hin, h⟩ := h
    refine ldX_19 X hP hin (dk DX11_liars 17 rfl) ?_
    refine lv_topi (fun v1 ev1 => ?_)
    have h := h v1 ev1
    refine lv_istore (lv' := [(4, .int v1), (0, .ref (q 0)), (1, .ref (q 17)), (2, .int x2), (3, .int x3)]) hx hb (dk DX11_liars 18 rfl) hl (by decide) rfl (fun ls hl => ?_)
    refine lv_aload_n hx hb (dk DX11_liars 19 rfl) rfl (lv_at hl 2 rfl) ?_
    refine gX_17 X hP 3 (by decide) rfl lk267 (dk DX11_liars 20 rfl) ?_
    refine lv_iconst (v := 4) hx hb (dk DX11_liars 21 rfl) (by decide) ?_
    refine lv_iload_n hx hb (dk DX11_liars 22 rfl) rfl (lv_at hl 4 rfl) ?_
    refine lv_imul hx hb (dk DX11_liars 23 rfl) ?_
    refine lv_iconst (v := 1) hx hb (dk DX11_liars 24 rfl) (by decide) ?_
    refine lv_iadd hx hb (dk DX11_liars 25 rfl) ?_
    obtain ⟨hin, h⟩ := h
    refine ldX_19 X hP hin (dk DX11_liars 26 rfl) ?_
    refine lv_topi (fun v2 ev2 => ?_)
    have h := h v2 ev2
    refine lv_istore (lv' := [(5, .int v2), (4, .int v1), (0, .ref (q 0)), (1, .ref (q 17)), (2, .int x2), (3, .int x3)]) hx hb (dk DX11_liars 27 rfl) hl (by decide) rfl (fun ls hl => ?_)
    refine lv_aload_n hx hb (dk DX11_liars 28 rfl) rfl (lv_at hl 3 rfl) ?_
    refine gX_17 X hP 3 (by decide) rfl lk267 (dk DX11_liars 29 rfl) ?_
    refine lv_iconst (v := 4) hx hb (dk DX11_liars 30 rfl) (by decide) ?_
    refine lv_iload_n hx hb (dk DX11_liars 31 rfl) rfl (lv_at hl 5 rfl) ?_
    refine lv_imul hx hb (dk DX11_liars 32 rfl) ?_
    refine lv_iconst (v := 3) hx hb (dk DX11_liars 33 rfl) (by decide) ?_
    refine lv_iadd hx hb (dk DX11_liars 34 rfl) ?_
    obtain ⟨hin, h⟩ := h
    refine ldX_19 X hP hin (dk DX11_liars 35 rfl) ?_
    refine lv_topi (fun v3 ev3 => ?_)
    have h := h v3 ev3
    refine lv_istore (lv' := [(6, .int v3), (5, .int v2), (4, .int v1), (0, .ref (q 0)), (1, .ref (q 17)), (2, .int x2), (3, .int x3)]) hx hb (dk DX11_liars 36 rfl) hl (by decide) rfl (fun ls hl => ?_)
    refine lv_aload_n hx hb (dk DX11_liars 37 rfl) rfl (lv_at hl 4 rfl) ?_
    refine lv_iload hx hb (dk DX11_liars 38 rfl) (lv_at hl 2 rfl) ?_
    refine lv_iload hx hb (dk DX11_liars 39 rfl) (lv_at hl 1 rfl) ?_
    refine lv_iload hx hb (dk DX11_liars 40 rfl) (lv_at hl 0 rfl) ?_
    refine cXi (As := [.int v1, .int v2, .int v3]) (rest := []) X (m_X7_toldSum_17 (l := l) (dC := dC) (dI := dI) (q := q) (cI := cI) (cT := cT) (en := en) (sz := _) v1 v2 v3 S h) (cwV 3 X.2.2.2.2.1 (gxV 756 757 758 501 556 rfl rfl rfl rfl rfl) rfl rfl rfl q_X7_toldSum_17 ⟨Nat.le_of_ble_eq_true rfl, Nat.le_of_ble_eq_true rfl⟩) (rX_17 X hP) hP hD hS rfl hl.1 rfl (Nat.le_of_ble_eq_true rfl) (dk DX11_liars 41 rfl) (fun r5 S4 H locs h hP hD hS => ?_)
    refine lv_aload_n hx hb (dk DX11_liars 42 rfl) rfl (lv_at hl 3 rfl) ?_
    refine gX_0 X hP 0 (by decide) rfl lk12 (dk DX11_liars 43 rfl) ?_
    refine gX_1 X hP 2 (by decide) rfl lk141 (dk DX11_liars 44 rfl) ?_
    refine lv_iload hx hb (dk DX11_liars 45 rfl) (lv_at hl 2 rfl) ?_
    refine lv_iload hx hb (dk DX11_liars 46 rfl) (lv_at hl 1 rfl) ?_
    refine lv_iload hx hb (dk DX11_liars 47 rfl) (lv_at hl 0 rfl) ?_
    refine cXi (As := [.int v1, .int v2, .int v3]) (rest := [.int r5]) X (m_X0_sum_11 (l := l) (dC := dC) (dI := dI) (q := q) (cI := cI) (cT := cT) (en := en) (sz := _) v1 v2 v3 S4 h) (cwV 3 X.2.2.2.2.1 (gxV 655 164 165 146 14 rfl rfl rfl rfl rfl) rfl rfl rfl q_X0_sum_11 ⟨Nat.le_of_ble_eq_true rfl, Nat.le_of_ble_eq_true rfl⟩) (rX_11 X hP) hP hD hS rfl hl.1 rfl (Nat.le_of_ble_eq_true rfl) (dk DX11_liars 48 rfl) (fun r7 S6 H locs h hP hD hS => ?_)
    refine lv_icmp_le (tgt := 90) hx hb (dk DX11_liars 49 rfl) (by decide) (fun hc => ?_) (fun hc => ?_)
    · have h := h.1 hc
      obtain ⟨v8, ev8⟩ : ∃ y : Int32, y = x3 + 1 := ⟨_, rfl⟩
      have h := h v8 ev8
      refine lv_iinc (v := v8) (lv' := [(3, .int v8), (6, .int v3), (5, .int v2), (4, .int v1), (0, .ref (q 0)), (1, .ref (q 17)), (2, .int x2)]) hx hb (dk DX11_liars 56 rfl) hl (k := 6) rfl (by rw [ev8]; rfl) (by decide) rfl (fun ls hl => ?_)
      refine lv_goto (tgt := 12) hx hb (dk DX11_liars 57 rfl) (by decide) ?_
      exact hK0 x2 v8 S6 h _ _ hP hD hS ls (lv_sub hl [4, 5, 6, 0] rfl)
    · have h := h.2 hc
      refine lv_iload_n hx hb (dk DX11_liars 50 rfl) rfl (lv_at hl 5 rfl) ?_
      refine lv_iconst (v := 1) hx hb (dk DX11_liars 51 rfl) (by decide) ?_
      refine lv_iload hx hb (dk DX11_liars 52 rfl) (lv_at hl 1 rfl) ?_
      refine lv_ishl hx hb (dk DX11_liars 53 rfl) ?_
      refine lv_ior hx hb (dk DX11_liars 54 rfl) ?_
      refine lv_topi (fun v9 ev9 => ?_)
      have h := h v9 ev9
      refine lv_istore_n (lv' := [(2, .int v9), (6, .int v3), (5, .int v2), (4, .int v1), (0, .ref (q 0)), (1, .ref (q 17)), (3, .int x3)]) hx hb (dk DX11_liars 55 rfl) rfl hl (by decide) rfl (fun ls hl => ?_)
      obtain ⟨v10, ev10⟩ : ∃ y : Int32, y = x3 + 1 := ⟨_, rfl⟩
      have h := h v10 ev10
      refine lv_iinc (v := v10) (lv' := [(3, .int v10), (2, .int v9), (6, .int v3), (5, .int v2), (4, .int v1), (0, .ref (q 0)), (1, .ref (q 17))]) hx hb (dk DX11_liars 56 rfl) hl (k := 6) rfl (by rw [ev10]; rfl) (by decide) rfl (fun ls hl => ?_)
      refine lv_goto (tgt := 12) hx hb (dk DX11_liars 57 rfl) (by decide) ?_
      exact hK0 v9 v10 S6 h _ _ hP hD hS ls (lv_sub hl [5, 6, 1, 0] rfl)
set_option maxHeartbeats 4000000 in
set_option maxRecDepth 100000 in
theorem m_X11_liars_0 {l : Launch} {dC : Nat → ClassId} {dI : Nat → Nat → Nat} {q : Nat → Nat} {cI cT : ClassId} {en : Nat → Nat} {sz : Nat} {Post : Int32 → XS → Prop} (S : XS) (h : VC_X11_liars_0 Post S) : Met l yX11_liars ww_X11_liars_0 ({ frames := 2, cells := 0, slots := 0, locals := 49 } : Room) (va_Pc [.ref (q 0)] (preX dC dI q cI cT en S sz)) (va_Qi Post (atX dC dI q cI cT (va_A (wX q cI cT S) sz)) (va_A (wX q cI cT S) sz)) 0 0 (va_A (wX q cI cT S) sz) := by
  refine oX (cc := cX11_liars) (maxL := 7) (ret := (some .int)) (Qc := fun A => va_Qi Post (atX dC dI q cI cT A) A) (own := RX11) (by decide) rfl (fun w h => List.mem_cons_of_mem _ (List.mem_append_right _ h)) rfl (Nat.le_of_ble_eq_true rfl) (fun p e s m below meth c A ls X hr hlocks hP hD hS hl => ?_)
  have hx := X.1
  have hb := X.2.1
  have hl : lv_has ls 7 [(0, .ref (q 0))] := hl
  have lk12 := X.2.2.2.2.1 (.fieldLink RX11 12 "BreathOnLoan" "now" "LBreathOnLoan$State;") (inX 568 rfl)
  have lk247 := X.2.2.2.2.1 (.fieldLink RX11 247 "BreathOnLoan$State" "talk" "LBreathOnLoan$Talk;") (inX 736 rfl)
  have lk264 := X.2.2.2.2.1 (.fieldLink RX11 264 "BreathOnLoan$Talk" "toldCount" "I") (inX 754 rfl)
  have lk267 := X.2.2.2.2.1 (.fieldLink RX11 267 "BreathOnLoan$Talk" "told" "[I") (inX 755 rfl)
  have lk141 := X.2.2.2.2.1 (.fieldLink RX11 141 "BreathOnLoan$State" "bench" "LBreathOnLoan$Bench;") (inX 632 rfl)
  generalize hargs : ([.ref (q 0)] : List Value).toArray = args at X ⊢
  have h := h (fun hd S => match hd with | (x2, x3) => ∀ (H : Heap) (locs : List Loc), va_P (dC, dI) vwCl (wX q cI cT S) H → va_D A (wX q cI cT S) → va_S A s.heap H locs → ∀ ls : Array Slot, lv_has ls 7 [(0, .ref (q 0)), (1, .ref (q 17)), (2, .int x2), (3, .int x3)] → W p l e (headSpec ww_X11_liars_0 ({ frames := 2, cells := 0, slots := 0, locals := 49 } : Room)).room s m args below meth c H locs 0 0 (MQ below (va_Qi Post (atX dC dI q cI cT A) A) args s 0 0 A) (F0 m 12 ls [])) ?_
  · skip
    refine lv_aload_n hx hb (dk DX11_liars 0 rfl) rfl (lv_at hl 0 rfl) ?_
    refine gX_0 X hP 0 (by decide) rfl lk12 (dk DX11_liars 1 rfl) ?_
    refine gX_1 X hP 4 (by decide) rfl lk247 (dk DX11_liars 2 rfl) ?_
    refine lv_astore_n (lv' := [(1, .ref (q 17)), (0, .ref (q 0))]) hx hb (dk DX11_liars 3 rfl) rfl hl (by decide) rfl (fun ls hl => ?_)
    refine lv_iconst (v := 0) hx hb (dk DX11_liars 4 rfl) (by decide) ?_
    refine lv_istore_n (lv' := [(2, .int 0), (1, .ref (q 17)), (0, .ref (q 0))]) hx hb (dk DX11_liars 5 rfl) rfl hl (by decide) rfl (fun ls hl => ?_)
    refine lv_iconst (v := 0) hx hb (dk DX11_liars 6 rfl) (by decide) ?_
    refine lv_istore_n (lv' := [(3, .int 0), (2, .int 0), (1, .ref (q 17)), (0, .ref (q 0))]) hx hb (dk DX11_liars 7 rfl) rfl hl (by decide) rfl (fun ls hl => ?_)
    exact h _ _ hP hD hS ls (lv_sub hl [3, 2, 1, 0] rfl)
  · rintro ⟨x2, x3⟩ S hB
    exact h_X11_liars_0_0 X hr hlocks (hK0 := fun _ _ _ h => h) x2 x3 S hB

def ww_X11_coughs_0 : List Cond := .code yX11_coughs cX11_coughs 9 (some .int) :: (WdX ++ WsX)
theorem q_X11_coughs_0 : yX11_coughs.cls = RX11 ∧ yX11_coughs.cls ≠ "java/lang/invoke/MethodHandle" ∧ yX11_coughs.cls ≠ "java/lang/invoke/VarHandle" ∧ (parseMethodDescriptor yX11_coughs.desc).map (fun d => d.parameters.length) = some 4 := by decide +kernel
abbrev Hd_X11_coughs_0 : Type := (Int32 × Int32 × Int32 × Int32 × Int32 × Int32 × Int32) ⊕ (Int32 × Int32 × Int32 × Int32 × Int32 × Int32 × Int32 × Int32) ⊕ (Int32 × Int32 × Int32 × Int32 × Int32 × Int32 × Int32 × Int32)
def B_X11_coughs_0 (Post : Int32 → XS → Prop) (K : Hd_X11_coughs_0 → XS → Prop) : Hd_X11_coughs_0 → XS → Prop
  | (.inl (x1, x2, x3, x4, x5, x6, x7)), S => ((x2 ≤ x7 → Post x6 S) ∧ (¬ x2 ≤ x7 → K (.inr (.inl (x1, x2, x3, x4, x5, x6, x7, 0))) S))
  | (.inr (.inl (x1, x2, x3, x4, x5, x6, x7, x8))), S => (((S.1 64) ≤ x8 → ∀ v7 : Int32, v7 = x7 + 1 → K (.inl (x1, x2, x3, x4, x5, x6, v7)) S) ∧ (¬ (S.1 64) ≤ x8 → ((¬ x8 = x4 → K (.inr (.inr (x1, x2, x3, x4, x5, x6, x7, x8))) S) ∧ (x8 = x4 → ¬ (10 : Int32) = 0 ∧ ((x3 ≤ (x5 - x5 / 10 * 10) → K (.inr (.inr (x1, x2, x3, x4, x5, x6, x7, x8))) S) ∧ (¬ x3 ≤ (x5 - x5 / 10 * 10) → ∀ v8 : Int32, v8 = x6 + 1 → K (.inr (.inr (x1, x2, x3, x4, x5, v8, x7, x8))) S))))))
  | (.inr (.inr (x1, x2, x3, x4, x5, x6, x7, x8))), S => ¬ (30103 : Int32) = 0 ∧ ∀ v9 : Int32, v9 = ((x5 * 181) + 37) - ((x5 * 181) + 37) / 30103 * 30103 → ∀ v10 : Int32, v10 = x8 + 1 → K (.inr (.inl (x1, x2, x3, x4, v9, x6, x7, v10))) S
def VC_X11_coughs_0 (Post : Int32 → XS → Prop) (a0 : Int32) (a1 : Int32) (a2 : Int32) (a3 : Int32) (S : XS) : Prop := ∀ K : Hd_X11_coughs_0 → XS → Prop, (∀ h S, B_X11_coughs_0 Post K h S → K h S) → VC_X11_within (fun r1 => ((r1 = 0 → Post (-1) S) ∧ (¬ r1 = 0 → VC_X11_within (fun r2 => ((r2 = 0 → Post (-1) S) ∧ (¬ r2 = 0 → VC_X11_within (fun r3 => ((r3 = 0 → Post (-1) S) ∧ (¬ r3 = 0 → VC_X1_has_2 (fun r5 S4 => ((¬ r5 = 0 → ∀ v6 : Int32, v6 = (a0 * 7) + 5 → K (.inl (a0, a1, a2, a3, v6, 0, 0)) S4) ∧ (r5 = 0 → Post (-1) S4))) a3 S))) a2 1 10))) a1 1 30))) a0 0 9999
set_option maxHeartbeats 4000000 in
set_option maxRecDepth 100000 in
theorem h_X11_coughs_0_0 {p : Program} {l : Launch} {e : Env} {s : State} {m : MethodId} {below : List Frame} {meth : Method} {c : Code} {dC : Nat → ClassId} {dI : Nat → Nat → Nat} {q : Nat → Nat} {cI cT : ClassId} {en : Nat → Nat} {A : Nat → Prop} {args : Array Value} {Post : Int32 → XS → Prop} {K : Hd_X11_coughs_0 → XS → Prop} (X : XX p s m args c cX11_coughs 9 ww_X11_coughs_0 RX11 dC dI cI cT en A) (hr : meth.sig.returnType = (some .int)) (hlocks : meth.locks = false) (hK0 : ∀ (x1 : Int32) (x2 : Int32) (x3 : Int32) (x4 : Int32) (x5 : Int32) (x6 : Int32) (x7 : Int32) (S : XS), K (.inl (x1, x2, x3, x4, x5, x6, x7)) S → ∀ (H : Heap) (locs : List Loc), va_P (dC, dI) vwCl (wX q cI cT S) H → va_D A (wX q cI cT S) → va_S A s.heap H locs → ∀ ls : Array Slot, lv_has ls 9 [(0, .ref (q 0)), (1, .int x1), (2, .int x2), (3, .int x3), (4, .int x4), (5, .int x5), (6, .int x6), (7, .int x7)] → W p l e (headSpec ww_X11_coughs_0 ({ frames := 1, cells := 0, slots := 0, locals := 22 } : Room)).room s m args below meth c H locs 0 0 (MQ below (va_Qi Post (atX dC dI q cI cT A) A) args s 0 0 A) (F0 m 62 ls [])) (hK1 : ∀ (x1 : Int32) (x2 : Int32) (x3 : Int32) (x4 : Int32) (x5 : Int32) (x6 : Int32) (x7 : Int32) (x8 : Int32) (S : XS), K (.inr (.inl (x1, x2, x3, x4, x5, x6, x7, x8))) S → ∀ (H : Heap) (locs : List Loc), va_P (dC, dI) vwCl (wX q cI cT S) H → va_D A (wX q cI cT S) → va_S A s.heap H locs → ∀ ls : Array Slot, lv_has ls 9 [(0, .ref (q 0)), (1, .int x1), (2, .int x2), (3, .int x3), (4, .int x4), (5, .int x5), (6, .int x6), (7, .int x7), (8, .int x8)] → W p l e (headSpec ww_X11_coughs_0 ({ frames := 1, cells := 0, slots := 0, locals := 22 } : Room)).room s m args below meth c H locs 0 0 (MQ below (va_Qi Post (atX dC dI q cI cT A) A) args s 0 0 A) (F0 m 71 ls [])) (hK2 : ∀ (x1 : Int32) (x2 : Int32) (x3 : Int32) (x4 : Int32) (x5 : Int32) (x6 : Int32) (x7 : Int32) (x8 : Int32) (S : XS), K (.inr (.inr (x1, x2, x3, x4, x5, x6, x7, x8))) S → ∀ (H : Heap) (locs : List Loc), va_P (dC, dI) vwCl (wX q cI cT S) H → va_D A (wX q cI cT S) → va_S A s.heap H locs → ∀ ls : Array Slot, lv_has ls 9 [(0, .ref (q 0)), (1, .int x1), (2, .int x2), (3, .int x3), (4, .int x4), (5, .int x5), (6, .int x6), (7, .int x7), (8, .int x8)] → W p l e (headSpec ww_X11_coughs_0 ({ frames := 1, cells := 0, slots := 0, locals := 22 } : Room)).room s m args below meth c H locs 0 0 (MQ below (va_Qi Post (atX dC dI q cI cT A) A) args s 0 0 A) (F0 m 105 ls [])) (x1 : Int32) (x2 : Int32) (x3 : Int32) (x4 : Int32) (x5 : Int32) (x6 : Int32) (x7 : Int32) (S : XS) (h : B_X11_coughs_0 Post K (.inl (x1, x2, x3, x4, x5, x6, x7)) S) : ∀ (H : Heap) (locs : List Loc), va_P (dC, dI) vwCl (wX q cI cT S) H → va_D A (wX q cI cT S) → va_S A s.heap H locs → ∀ ls : Array Slot, lv_has ls 9 [(0, .ref (q 0)), (1, .int x1), (2, .int x2), (3, .int x3), (4, .int x4), (5, .int x5), (6, .int x6), (7, .int x7)] → W p l e (headSpec ww_X11_coughs_0 ({ frames := 1, cells := 0, slots := 0, locals := 22 } : Room)).room s m args below meth c H locs 0 0 (MQ below (va_Qi Post (atX dC dI q cI cT A) A) args s 0 0 A) (F0 m 62 ls []) := by
  have hx := X.1
  have hb := X.2.1
  intro H locs hP hD hS ls hl
  have lk12 := X.2.2.2.2.1 (.fieldLink RX11 12 "BreathOnLoan" "now" "LBreathOnLoan$State;") (inX 568 rfl)
  have lk57 := X.2.2.2.2.1 (.fieldLink RX11 57 "BreathOnLoan$State" "crew" "LBreathOnLoan$Crew;") (inX 592 rfl)
  have lk256 := X.2.2.2.2.1 (.fieldLink RX11 256 "BreathOnLoan$Crew" "count" "I") (inX 672 rfl)
  dsimp only [B_X11_coughs_0] at h
  refine lv_iload hx hb (dk DX11_coughs 33 rfl) (lv_at hl 7 rfl) ?_
  refine lv_iload_n hx hb (dk DX11_coughs 34 rfl) rfl (lv_at hl 2 rfl) ?_
  refine lv_icmp_ge (tgt := 132) hx hb (dk DX11_coughs 35 rfl) (by decide) (fun hc => ?_) (fun hc => ?_)
  · have h := h.1 hc
    refine lv_iload hx hb (dk DX11_coughs 65 rfl) (lv_at hl 6 rfl) ?_
    exact W.iret (v := x6) hx hb hr (fun t ht hW => ⟨⟨_, _, rfl, h, by rw [ht]; exact hP, va_K.moved hW.alike X.2.2.2.2.2.2.1, hD⟩, hS.F ht⟩) hS.2.2 (dk DX11_coughs 66 rfl)
  · have h := h.2 hc
    refine lv_iconst (v := 0) hx hb (dk DX11_coughs 36 rfl) (by decide) ?_
    refine lv_istore (lv' := [(8, .int 0), (0, .ref (q 0)), (1, .int x1), (2, .int x2), (3, .int x3), (4, .int x4), (5, .int x5), (6, .int x6), (7, .int x7)]) hx hb (dk DX11_coughs 37 rfl) hl (by decide) rfl (fun ls hl => ?_)
    exact hK1 x1 x2 x3 x4 x5 x6 x7 0 S h _ _ hP hD hS ls (lv_sub hl [1, 2, 3, 4, 5, 6, 7, 8, 0] rfl)
set_option maxHeartbeats 4000000 in
set_option maxRecDepth 100000 in
theorem h_X11_coughs_0_1 {p : Program} {l : Launch} {e : Env} {s : State} {m : MethodId} {below : List Frame} {meth : Method} {c : Code} {dC : Nat → ClassId} {dI : Nat → Nat → Nat} {q : Nat → Nat} {cI cT : ClassId} {en : Nat → Nat} {A : Nat → Prop} {args : Array Value} {Post : Int32 → XS → Prop} {K : Hd_X11_coughs_0 → XS → Prop} (X : XX p s m args c cX11_coughs 9 ww_X11_coughs_0 RX11 dC dI cI cT en A) (hr : meth.sig.returnType = (some .int)) (hlocks : meth.locks = false) (hK0 : ∀ (x1 : Int32) (x2 : Int32) (x3 : Int32) (x4 : Int32) (x5 : Int32) (x6 : Int32) (x7 : Int32) (S : XS), K (.inl (x1, x2, x3, x4, x5, x6, x7)) S → ∀ (H : Heap) (locs : List Loc), va_P (dC, dI) vwCl (wX q cI cT S) H → va_D A (wX q cI cT S) → va_S A s.heap H locs → ∀ ls : Array Slot, lv_has ls 9 [(0, .ref (q 0)), (1, .int x1), (2, .int x2), (3, .int x3), (4, .int x4), (5, .int x5), (6, .int x6), (7, .int x7)] → W p l e (headSpec ww_X11_coughs_0 ({ frames := 1, cells := 0, slots := 0, locals := 22 } : Room)).room s m args below meth c H locs 0 0 (MQ below (va_Qi Post (atX dC dI q cI cT A) A) args s 0 0 A) (F0 m 62 ls [])) (hK1 : ∀ (x1 : Int32) (x2 : Int32) (x3 : Int32) (x4 : Int32) (x5 : Int32) (x6 : Int32) (x7 : Int32) (x8 : Int32) (S : XS), K (.inr (.inl (x1, x2, x3, x4, x5, x6, x7, x8))) S → ∀ (H : Heap) (locs : List Loc), va_P (dC, dI) vwCl (wX q cI cT S) H → va_D A (wX q cI cT S) → va_S A s.heap H locs → ∀ ls : Array Slot, lv_has ls 9 [(0, .ref (q 0)), (1, .int x1), (2, .int x2), (3, .int x3), (4, .int x4), (5, .int x5), (6, .int x6), (7, .int x7), (8, .int x8)] → W p l e (headSpec ww_X11_coughs_0 ({ frames := 1, cells := 0, slots := 0, locals := 22 } : Room)).room s m args below meth c H locs 0 0 (MQ below (va_Qi Post (atX dC dI q cI cT A) A) args s 0 0 A) (F0 m 71 ls [])) (hK2 : ∀ (x1 : Int32) (x2 : Int32) (x3 : Int32) (x4 : Int32) (x5 : Int32) (x6 : Int32) (x7 : Int32) (x8 : Int32) (S : XS), K (.inr (.inr (x1, x2, x3, x4, x5, x6, x7, x8))) S → ∀ (H : Heap) (locs : List Loc), va_P (dC, dI) vwCl (wX q cI cT S) H → va_D A (wX q cI cT S) → va_S A s.heap H locs → ∀ ls : Array Slot, lv_has ls 9 [(0, .ref (q 0)), (1, .int x1), (2, .int x2), (3, .int x3), (4, .int x4), (5, .int x5), (6, .int x6), (7, .int x7), (8, .int x8)] → W p l e (headSpec ww_X11_coughs_0 ({ frames := 1, cells := 0, slots := 0, locals := 22 } : Room)).room s m args below meth c H locs 0 0 (MQ below (va_Qi Post (atX dC dI q cI cT A) A) args s 0 0 A) (F0 m 105 ls [])) (x1 : Int32) (x2 : Int32) (x3 : Int32) (x4 : Int32) (x5 : Int32) (x6 : Int32) (x7 : Int32) (x8 : Int32) (S : XS) (h : B_X11_coughs_0 Post K (.inr (.inl (x1, x2, x3, x4, x5, x6, x7, x8))) S) : ∀ (H : Heap) (locs : List Loc), va_P (dC, dI) vwCl (wX q cI cT S) H → va_D A (wX q cI cT S) → va_S A s.heap H locs → ∀ ls : Array Slot, lv_has ls 9 [(0, .ref (q 0)), (1, .int x1), (2, .int x2), (3, .int x3), (4, .int x4), (5, .int x5), (6, .int x6), (7, .int x7), (8, .int x8)] → W p l e (headSpec ww_X11_coughs_0 ({ frames := 1, cells := 0, slots := 0, locals := 22 } : Room)).room s m args below meth c H locs 0 0 (MQ below (va_Qi Post (atX dC dI q cI cT A) A) args s 0 0 A) (F0 m 71 ls []) := by
  have hx := X.1
  have hb := X.2.1
  intro H locs hP hD hS ls hl
  have lk12 := X.2.2.2.2.1 (.fieldLink RX11 12 "BreathOnLoan" "now" "LBreathOnLoan$State;") (inX 568 rfl)
  have lk57 := X.2.2.2.2.1 (.fieldLink RX11 57 "BreathOnLoan$State" "crew" "LBreathOnLoan$Crew;") (inX 592 rfl)
  have lk256 := X.2.2.2.2.1 (.fieldLink RX11 256 "BreathOnLoan$Crew" "count" "I") (inX 672 rfl)
  dsimp only [B_X11_coughs_0] at h
  refine lv_iload hx hb (dk DX11_coughs 38 rfl) (lv_at hl 8 rfl) ?_
  refine lv_aload_n hx hb (dk DX11_coughs 39 rfl) rfl (lv_at hl 0 rfl) ?_
  refine gX_0 X hP 0 (by decide) rfl lk12 (dk DX11_coughs 40 rfl) ?_
  refine gX_1 X hP 0 (by decide) rfl lk57 (dk DX11_coughs 41 rfl) ?_
  refine gX_2 X hP 0 (by decide) rfl lk256 (dk DX11_coughs 42 rfl) ?_
  refine lv_icmp_ge (tgt := 126) hx hb (dk DX11_coughs 43 rfl) (by decide) (fun hc => ?_) (fun hc => ?_)
  · have h := h.1 hc
    obtain ⟨v7, ev7⟩ : ∃ y : Int32, y = x7 + 1 := ⟨_, rfl⟩
    have h := h v7 ev7
    refine lv_iinc (v := v7) (lv' := [(7, .int v7), (0, .ref (q 0)), (1, .int x1), (2, .int x2), (3, .int x3), (4, .int x4), (5, .int x5), (6, .int x6), (8, .int x8)]) hx hb (dk DX11_coughs 63 rfl) hl (k := 7) rfl (by rw [ev7]; rfl) (by decide) rfl (fun ls hl => ?_)
    refine lv_goto (tgt := 62) hx hb (dk DX11_coughs 64 rfl) (by decide) ?_
    exact hK0 x1 x2 x3 x4 x5 x6 v7 S h _ _ hP hD hS ls (lv_sub hl [1, 2, 3, 4, 5, 6, 7, 0] rfl)
  · have h := h.2 hc
    refine lv_iload hx hb (dk DX11_coughs 44 rfl) (lv_at hl 8 rfl) ?_
    refine lv_iload hx hb (dk DX11_coughs 45 rfl) (lv_at hl 4 rfl) ?_
    refine lv_icmp_ne (tgt := 105) hx hb (dk DX11_coughs 46 rfl) (by decide) (fun hc => ?_) (fun hc => ?_)
    · have h := h.1 hc
      exact hK2 x1 x2 x3 x4 x5 x6 x7 x8 S h _ _ hP hD hS ls (lv_sub hl [0, 1, 2, 3, 4, 5, 6, 7, 8] rfl)
    · have h := h.2 hc
      refine lv_iload hx hb (dk DX11_coughs 47 rfl) (lv_at hl 5 rfl) ?_
      refine lv_bipush (v := 10) hx hb (dk DX11_coughs 48 rfl) (by decide) ?_
      obtain ⟨hz, h⟩ := h
      refine lv_irem hx hb (dk DX11_coughs 49 rfl) hz ?_
      refine lv_iload_n hx hb (dk DX11_coughs 50 rfl) rfl (lv_at hl 3 rfl) ?_
      refine lv_icmp_ge (tgt := 105) hx hb (dk DX11_coughs 51 rfl) (by decide) (fun hc => ?_) (fun hc => ?_)
      · have h := h.1 hc
        exact hK2 x1 x2 x3 x4 x5 x6 x7 x8 S h _ _ hP hD hS ls (lv_sub hl [0, 1, 2, 3, 4, 5, 6, 7, 8] rfl)
      · have h := h.2 hc
        obtain ⟨v8, ev8⟩ : ∃ y : Int32, y = x6 + 1 := ⟨_, rfl⟩
        have h := h v8 ev8
        refine lv_iinc (v := v8) (lv' := [(6, .int v8), (0, .ref (q 0)), (1, .int x1), (2, .int x2), (3, .int x3), (4, .int x4), (5, .int x5), (7, .int x7), (8, .int x8)]) hx hb (dk DX11_coughs 52 rfl) hl (k := 6) rfl (by rw [ev8]; rfl) (by decide) rfl (fun ls hl => ?_)
        exact hK2 x1 x2 x3 x4 x5 v8 x7 x8 S h _ _ hP hD hS ls (lv_sub hl [1, 2, 3, 4, 5, 6, 0, 7, 8] rfl)
set_option maxHeartbeats 4000000 in
set_option maxRecDepth 100000 in
theorem h_X11_coughs_0_2 {p : Program} {l : Launch} {e : Env} {s : State} {m : MethodId} {below : List Frame} {meth : Method} {c : Code} {dC : Nat → ClassId} {dI : Nat → Nat → Nat} {q : Nat → Nat} {cI cT : ClassId} {en : Nat → Nat} {A : Nat → Prop} {args : Array Value} {Post : Int32 → XS → Prop} {K : Hd_X11_coughs_0 → XS → Prop} (X : XX p s m args c cX11_coughs 9 ww_X11_coughs_0 RX11 dC dI cI cT en A) (hr : meth.sig.returnType = (some .int)) (hlocks : meth.locks = false) (hK0 : ∀ (x1 : Int32) (x2 : Int32) (x3 : Int32) (x4 : Int32) (x5 : Int32) (x6 : Int32) (x7 : Int32) (S : XS), K (.inl (x1, x2, x3, x4, x5, x6, x7)) S → ∀ (H : Heap) (locs : List Loc), va_P (dC, dI) vwCl (wX q cI cT S) H → va_D A (wX q cI cT S) → va_S A s.heap H locs → ∀ ls : Array Slot, lv_has ls 9 [(0, .ref (q 0)), (1, .int x1), (2, .int x2), (3, .int x3), (4, .int x4), (5, .int x5), (6, .int x6), (7, .int x7)] → W p l e (headSpec ww_X11_coughs_0 ({ frames := 1, cells := 0, slots := 0, locals := 22 } : Room)).room s m args below meth c H locs 0 0 (MQ below (va_Qi Post (atX dC dI q cI cT A) A) args s 0 0 A) (F0 m 62 ls [])) (hK1 : ∀ (x1 : Int32) (x2 : Int32) (x3 : Int32) (x4 : Int32) (x5 : Int32) (x6 : Int32) (x7 : Int32) (x8 : Int32) (S : XS), K (.inr (.inl (x1, x2, x3, x4, x5, x6, x7, x8))) S → ∀ (H : Heap) (locs : List Loc), va_P (dC, dI) vwCl (wX q cI cT S) H → va_D A (wX q cI cT S) → va_S A s.heap H locs → ∀ ls : Array Slot, lv_has ls 9 [(0, .ref (q 0)), (1, .int x1), (2, .int x2), (3, .int x3), (4, .int x4), (5, .int x5), (6, .int x6), (7, .int x7), (8, .int x8)] → W p l e (headSpec ww_X11_coughs_0 ({ frames := 1, cells := 0, slots := 0, locals := 22 } : Room)).room s m args below meth c H locs 0 0 (MQ below (va_Qi Post (atX dC dI q cI cT A) A) args s 0 0 A) (F0 m 71 ls [])) (hK2 : ∀ (x1 : Int32) (x2 : Int32) (x3 : Int32) (x4 : Int32) (x5 : Int32) (x6 : Int32) (x7 : Int32) (x8 : Int32) (S : XS), K (.inr (.inr (x1, x2, x3, x4, x5, x6, x7, x8))) S → ∀ (H : Heap) (locs : List Loc), va_P (dC, dI) vwCl (wX q cI cT S) H → va_D A (wX q cI cT S) → va_S A s.heap H locs → ∀ ls : Array Slot, lv_has ls 9 [(0, .ref (q 0)), (1, .int x1), (2, .int x2), (3, .int x3), (4, .int x4), (5, .int x5), (6, .int x6), (7, .int x7), (8, .int x8)] → W p l e (headSpec ww_X11_coughs_0 ({ frames := 1, cells := 0, slots := 0, locals := 22 } : Room)).room s m args below meth c H locs 0 0 (MQ below (va_Qi Post (atX dC dI q cI cT A) A) args s 0 0 A) (F0 m 105 ls [])) (x1 : Int32) (x2 : Int32) (x3 : Int32) (x4 : Int32) (x5 : Int32) (x6 : Int32) (x7 : Int32) (x8 : Int32) (S : XS) (h : B_X11_coughs_0 Post K (.inr (.inr (x1, x2, x3, x4, x5, x6, x7, x8))) S) : ∀ (H : Heap) (locs : List Loc), va_P (dC, dI) vwCl (wX q cI cT S) H → va_D A (wX q cI cT S) → va_S A s.heap H locs → ∀ ls : Array Slot, lv_has ls 9 [(0, .ref (q 0)), (1, .int x1), (2, .int x2), (3, .int x3), (4, .int x4), (5, .int x5), (6, .int x6), (7, .int x7), (8, .int x8)] → W p l e (headSpec ww_X11_coughs_0 ({ frames := 1, cells := 0, slots := 0, locals := 22 } : Room)).room s m args below meth c H locs 0 0 (MQ below (va_Qi Post (atX dC dI q cI cT A) A) args s 0 0 A) (F0 m 105 ls []) := by
  have hx := X.1
  have hb := X.2.1
  intro H locs hP hD hS ls hl
  have lk12 := X.2.2.2.2.1 (.fieldLink RX11 12 "BreathOnLoan" "now" "LBreathOnLoan$State;") (inX 568 rfl)
  have lk57 := X.2.2.2.2.1 (.fieldLink RX11 57 "BreathOnLoan$State" "crew" "LBreathOnLoan$Crew;") (inX 592 rfl)
  have lk256 := X.2.2.2.2.1 (.fieldLink RX11 256 "BreathOnLoan$Crew" "count" "I") (inX 672 rfl)
  dsimp only [B_X11_coughs_0] at h
  refine lv_iload hx hb (dk DX11_coughs 53 rfl) (lv_at hl 5 rfl) ?_
  refine lv_sipush (v := 181) hx hb (dk DX11_coughs 54 rfl) (by decide) ?_
  refine lv_imul hx hb (dk DX11_coughs 55 rfl) ?_
  refine lv_bipush (v := 37) hx hb (dk DX11_coughs 56 rfl) (by decide) ?_
  refine lv_iadd hx hb (dk DX11_coughs 57 rfl) ?_
  refine lv_sipush (v := 30103) hx hb (dk DX11_coughs 58 rfl) (by decide) ?_
  obtain ⟨hz, h⟩ := h
  refine lv_irem hx hb (dk DX11_coughs 59 rfl) hz ?_
  refine lv_topi (fun v9 ev9 => ?_)
  have h := h v9 ev9
  refine lv_istore (lv' := [(5, .int v9), (0, .ref (q 0)), (1, .int x1), (2, .int x2), (3, .int x3), (4, .int x4), (6, .int x6), (7, .int x7), (8, .int x8)]) hx hb (dk DX11_coughs 60 rfl) hl (by decide) rfl (fun ls hl => ?_)
  obtain ⟨v10, ev10⟩ : ∃ y : Int32, y = x8 + 1 := ⟨_, rfl⟩
  have h := h v10 ev10
  refine lv_iinc (v := v10) (lv' := [(8, .int v10), (5, .int v9), (0, .ref (q 0)), (1, .int x1), (2, .int x2), (3, .int x3), (4, .int x4), (6, .int x6), (7, .int x7)]) hx hb (dk DX11_coughs 61 rfl) hl (k := 8) rfl (by rw [ev10]; rfl) (by decide) rfl (fun ls hl => ?_)
  refine lv_goto (tgt := 71) hx hb (dk DX11_coughs 62 rfl) (by decide) ?_
  exact hK1 x1 x2 x3 x4 v9 x6 x7 v10 S h _ _ hP hD hS ls (lv_sub hl [2, 3, 4, 5, 6, 1, 7, 8, 0] rfl)
set_option maxHeartbeats 4000000 in
set_option maxRecDepth 100000 in
theorem m_X11_coughs_0 {l : Launch} {dC : Nat → ClassId} {dI : Nat → Nat → Nat} {q : Nat → Nat} {cI cT : ClassId} {en : Nat → Nat} {sz : Nat} {Post : Int32 → XS → Prop} (a0 : Int32) (a1 : Int32) (a2 : Int32) (a3 : Int32) (S : XS) (h : VC_X11_coughs_0 Post a0 a1 a2 a3 S) : Met l yX11_coughs ww_X11_coughs_0 ({ frames := 1, cells := 0, slots := 0, locals := 22 } : Room) (va_Pc [.ref (q 0), .int a0, .int a1, .int a2, .int a3] (preX dC dI q cI cT en S sz)) (va_Qi Post (atX dC dI q cI cT (va_A (wX q cI cT S) sz)) (va_A (wX q cI cT S) sz)) 0 0 (va_A (wX q cI cT S) sz) := by
  refine oX (cc := cX11_coughs) (maxL := 9) (ret := (some .int)) (Qc := fun A => va_Qi Post (atX dC dI q cI cT A) A) (own := RX11) (by decide) rfl (fun w h => List.mem_cons_of_mem _ (List.mem_append_right _ h)) rfl (Nat.le_of_ble_eq_true rfl) (fun p e s m below meth c A ls X hr hlocks hP hD hS hl => ?_)
  have hx := X.1
  have hb := X.2.1
  have hl : lv_has ls 9 [(0, .ref (q 0)), (1, .int a0), (2, .int a1), (3, .int a2), (4, .int a3)] := hl
  have lk12 := X.2.2.2.2.1 (.fieldLink RX11 12 "BreathOnLoan" "now" "LBreathOnLoan$State;") (inX 568 rfl)
  have lk57 := X.2.2.2.2.1 (.fieldLink RX11 57 "BreathOnLoan$State" "crew" "LBreathOnLoan$Crew;") (inX 592 rfl)
  have lk256 := X.2.2.2.2.1 (.fieldLink RX11 256 "BreathOnLoan$Crew" "count" "I") (inX 672 rfl)
  generalize hargs : ([.ref (q 0), .int a0, .int a1, .int a2, .int a3] : List Value).toArray = args at X ⊢
  have h := h (fun hd S => match hd with | (.inl (x1, x2, x3, x4, x5, x6, x7)) => ∀ (H : Heap) (locs : List Loc), va_P (dC, dI) vwCl (wX q cI cT S) H → va_D A (wX q cI cT S) → va_S A s.heap H locs → ∀ ls : Array Slot, lv_has ls 9 [(0, .ref (q 0)), (1, .int x1), (2, .int x2), (3, .int x3), (4, .int x4), (5, .int x5), (6, .int x6), (7, .int x7)] → W p l e (headSpec ww_X11_coughs_0 ({ frames := 1, cells := 0, slots := 0, locals := 22 } : Room)).room s m args below meth c H locs 0 0 (MQ below (va_Qi Post (atX dC dI q cI cT A) A) args s 0 0 A) (F0 m 62 ls []) | (.inr (.inl (x1, x2, x3, x4, x5, x6, x7, x8))) => ∀ (H : Heap) (locs : List Loc), va_P (dC, dI) vwCl (wX q cI cT S) H → va_D A (wX q cI cT S) → va_S A s.heap H locs → ∀ ls : Array Slot, lv_has ls 9 [(0, .ref (q 0)), (1, .int x1), (2, .int x2), (3, .int x3), (4, .int x4), (5, .int x5), (6, .int x6), (7, .int x7), (8, .int x8)] → W p l e (headSpec ww_X11_coughs_0 ({ frames := 1, cells := 0, slots := 0, locals := 22 } : Room)).room s m args below meth c H locs 0 0 (MQ below (va_Qi Post (atX dC dI q cI cT A) A) args s 0 0 A) (F0 m 71 ls []) | (.inr (.inr (x1, x2, x3, x4, x5, x6, x7, x8))) => ∀ (H : Heap) (locs : List Loc), va_P (dC, dI) vwCl (wX q cI cT S) H → va_D A (wX q cI cT S) → va_S A s.heap H locs → ∀ ls : Array Slot, lv_has ls 9 [(0, .ref (q 0)), (1, .int x1), (2, .int x2), (3, .int x3), (4, .int x4), (5, .int x5), (6, .int x6), (7, .int x7), (8, .int x8)] → W p l e (headSpec ww_X11_coughs_0 ({ frames := 1, cells := 0, slots := 0, locals := 22 } : Room)).room s m args below meth c H locs 0 0 (MQ below (va_Qi Post (atX dC dI q cI cT A) A) args s 0 0 A) (F0 m 105 ls [])) ?_
  · skip
    refine lv_iload_n hx hb (dk DX11_coughs 0 rfl) rfl (lv_at hl 1 rfl) ?_
    refine lv_iconst (v := 0) hx hb (dk DX11_coughs 1 rfl) (by decide) ?_
    refine lv_sipush (v := 9999) hx hb (dk DX11_coughs 2 rfl) (by decide) ?_
    refine cSi (As := [.int a0, .int 0, .int 9999]) (rest := []) ⟨X.1, X.2.1, X.2.2.1, X.2.2.2.1, X.2.2.2.2.1⟩ (m_X11_within (l := l) a0 0 9999 h) (va_cwS 3 X.2.2.2.2.1 (gxS 593 327 16 324 rfl rfl rfl rfl) rfl rfl rfl q_X11_within ⟨Nat.le_of_ble_eq_true rfl, Nat.le_of_ble_eq_true rfl⟩) rfl hl.1 rfl (Nat.le_of_ble_eq_true rfl) (dk DX11_coughs 3 rfl) (fun r1 h => ?_)
    refine lv_if_eq (tgt := 46) hx hb (dk DX11_coughs 4 rfl) (by decide) (fun hc => ?_) (fun hc => ?_)
    · have h := h.1 hc
      refine lv_iconst (v := (-1)) hx hb (dk DX11_coughs 21 rfl) (by decide) ?_
      exact W.iret (v := (-1)) hx hb hr (fun t ht hW => ⟨⟨_, _, rfl, h, by rw [ht]; exact hP, va_K.moved hW.alike X.2.2.2.2.2.2.1, hD⟩, hS.F ht⟩) hS.2.2 (dk DX11_coughs 22 rfl)
    · have h := h.2 hc
      refine lv_iload_n hx hb (dk DX11_coughs 5 rfl) rfl (lv_at hl 2 rfl) ?_
      refine lv_iconst (v := 1) hx hb (dk DX11_coughs 6 rfl) (by decide) ?_
      refine lv_bipush (v := 30) hx hb (dk DX11_coughs 7 rfl) (by decide) ?_
      refine cSi (As := [.int a1, .int 1, .int 30]) (rest := []) ⟨X.1, X.2.1, X.2.2.1, X.2.2.2.1, X.2.2.2.2.1⟩ (m_X11_within (l := l) a1 1 30 h) (va_cwS 3 X.2.2.2.2.1 (gxS 593 327 16 324 rfl rfl rfl rfl) rfl rfl rfl q_X11_within ⟨Nat.le_of_ble_eq_true rfl, Nat.le_of_ble_eq_true rfl⟩) rfl hl.1 rfl (Nat.le_of_ble_eq_true rfl) (dk DX11_coughs 8 rfl) (fun r2 h => ?_)
      refine lv_if_eq (tgt := 46) hx hb (dk DX11_coughs 9 rfl) (by decide) (fun hc => ?_) (fun hc => ?_)
      · have h := h.1 hc
        refine lv_iconst (v := (-1)) hx hb (dk DX11_coughs 21 rfl) (by decide) ?_
        exact W.iret (v := (-1)) hx hb hr (fun t ht hW => ⟨⟨_, _, rfl, h, by rw [ht]; exact hP, va_K.moved hW.alike X.2.2.2.2.2.2.1, hD⟩, hS.F ht⟩) hS.2.2 (dk DX11_coughs 22 rfl)
      · have h := h.2 hc
        refine lv_iload_n hx hb (dk DX11_coughs 10 rfl) rfl (lv_at hl 3 rfl) ?_
        refine lv_iconst (v := 1) hx hb (dk DX11_coughs 11 rfl) (by decide) ?_
        refine lv_bipush (v := 10) hx hb (dk DX11_coughs 12 rfl) (by decide) ?_
        refine cSi (As := [.int a2, .int 1, .int 10]) (rest := []) ⟨X.1, X.2.1, X.2.2.1, X.2.2.2.1, X.2.2.2.2.1⟩ (m_X11_within (l := l) a2 1 10 h) (va_cwS 3 X.2.2.2.2.1 (gxS 593 327 16 324 rfl rfl rfl rfl) rfl rfl rfl q_X11_within ⟨Nat.le_of_ble_eq_true rfl, Nat.le_of_ble_eq_true rfl⟩) rfl hl.1 rfl (Nat.le_of_ble_eq_true rfl) (dk DX11_coughs 13 rfl) (fun r3 h => ?_)
        refine lv_if_eq (tgt := 46) hx hb (dk DX11_coughs 14 rfl) (by decide) (fun hc => ?_) (fun hc => ?_)
        · have h := h.1 hc
          refine lv_iconst (v := (-1)) hx hb (dk DX11_coughs 21 rfl) (by decide) ?_
          exact W.iret (v := (-1)) hx hb hr (fun t ht hW => ⟨⟨_, _, rfl, h, by rw [ht]; exact hP, va_K.moved hW.alike X.2.2.2.2.2.2.1, hD⟩, hS.F ht⟩) hS.2.2 (dk DX11_coughs 22 rfl)
        · have h := h.2 hc
          refine lv_aload_n hx hb (dk DX11_coughs 15 rfl) rfl (lv_at hl 0 rfl) ?_
          refine gX_0 X hP 0 (by decide) rfl lk12 (dk DX11_coughs 16 rfl) ?_
          refine gX_1 X hP 0 (by decide) rfl lk57 (dk DX11_coughs 17 rfl) ?_
          refine lv_iload hx hb (dk DX11_coughs 18 rfl) (lv_at hl 4 rfl) ?_
          refine cXi (As := [.int a3]) (rest := []) X (m_X1_has_2 (l := l) (dC := dC) (dI := dI) (q := q) (cI := cI) (cT := cT) (en := en) (sz := _) a3 S h) (cwV 1 X.2.2.2.2.1 (gxV 598 40 41 42 35 rfl rfl rfl rfl rfl) rfl rfl rfl q_X1_has_2 ⟨Nat.le_of_ble_eq_true rfl, Nat.le_of_ble_eq_true rfl⟩) (rX_2 X hP) hP hD hS rfl hl.1 rfl (Nat.le_of_ble_eq_true rfl) (dk DX11_coughs 19 rfl) (fun r5 S4 H locs h hP hD hS => ?_)
          refine lv_if_ne (tgt := 48) hx hb (dk DX11_coughs 20 rfl) (by decide) (fun hc => ?_) (fun hc => ?_)
          · have h := h.1 hc
            refine lv_iload_n hx hb (dk DX11_coughs 23 rfl) rfl (lv_at hl 1 rfl) ?_
            refine lv_bipush (v := 7) hx hb (dk DX11_coughs 24 rfl) (by decide) ?_
            refine lv_imul hx hb (dk DX11_coughs 25 rfl) ?_
            refine lv_iconst (v := 5) hx hb (dk DX11_coughs 26 rfl) (by decide) ?_
            refine lv_iadd hx hb (dk DX11_coughs 27 rfl) ?_
            refine lv_topi (fun v6 ev6 => ?_)
            have h := h v6 ev6
            refine lv_istore (lv' := [(5, .int v6), (0, .ref (q 0)), (1, .int a0), (2, .int a1), (3, .int a2), (4, .int a3)]) hx hb (dk DX11_coughs 28 rfl) hl (by decide) rfl (fun ls hl => ?_)
            refine lv_iconst (v := 0) hx hb (dk DX11_coughs 29 rfl) (by decide) ?_
            refine lv_istore (lv' := [(6, .int 0), (5, .int v6), (0, .ref (q 0)), (1, .int a0), (2, .int a1), (3, .int a2), (4, .int a3)]) hx hb (dk DX11_coughs 30 rfl) hl (by decide) rfl (fun ls hl => ?_)
            refine lv_iconst (v := 0) hx hb (dk DX11_coughs 31 rfl) (by decide) ?_
            refine lv_istore (lv' := [(7, .int 0), (6, .int 0), (5, .int v6), (0, .ref (q 0)), (1, .int a0), (2, .int a1), (3, .int a2), (4, .int a3)]) hx hb (dk DX11_coughs 32 rfl) hl (by decide) rfl (fun ls hl => ?_)
            exact h _ _ hP hD hS ls (lv_sub hl [3, 4, 5, 6, 7, 2, 1, 0] rfl)
          · have h := h.2 hc
            refine lv_iconst (v := (-1)) hx hb (dk DX11_coughs 21 rfl) (by decide) ?_
            exact W.iret (v := (-1)) hx hb hr (fun t ht hW => ⟨⟨_, _, rfl, h, by rw [ht]; exact hP, va_K.moved hW.alike X.2.2.2.2.2.2.1, hD⟩, hS.F ht⟩) hS.2.2 (dk DX11_coughs 22 rfl)
  · rintro (⟨x1, x2, x3, x4, x5, x6, x7⟩ | ⟨x1, x2, x3, x4, x5, x6, x7, x8⟩ | ⟨x1, x2, x3, x4, x5, x6, x7, x8⟩) S hB
    · exact h_X11_coughs_0_0 X hr hlocks (hK0 := fun _ _ _ _ _ _ _ _ h => h) (hK1 := fun _ _ _ _ _ _ _ _ _ h => h) (hK2 := fun _ _ _ _ _ _ _ _ _ h => h) x1 x2 x3 x4 x5 x6 x7 S hB
    · exact h_X11_coughs_0_1 X hr hlocks (hK0 := fun _ _ _ _ _ _ _ _ h => h) (hK1 := fun _ _ _ _ _ _ _ _ _ h => h) (hK2 := fun _ _ _ _ _ _ _ _ _ h => h) x1 x2 x3 x4 x5 x6 x7 x8 S hB
    · exact h_X11_coughs_0_2 X hr hlocks (hK0 := fun _ _ _ _ _ _ _ _ h => h) (hK1 := fun _ _ _ _ _ _ _ _ _ h => h) (hK2 := fun _ _ _ _ _ _ _ _ _ h => h) x1 x2 x3 x4 x5 x6 x7 x8 S hB

def ww_X11_aboutKind_0 : List Cond := .code yX11_aboutKind cX11_aboutKind 3 (some .int) :: (WdX ++ WsX)
theorem q_X11_aboutKind_0 : yX11_aboutKind.cls = RX11 ∧ yX11_aboutKind.cls ≠ "java/lang/invoke/MethodHandle" ∧ yX11_aboutKind.cls ≠ "java/lang/invoke/VarHandle" ∧ (parseMethodDescriptor yX11_aboutKind.desc).map (fun d => d.parameters.length) = some 1 := by decide +kernel
abbrev Hd_X11_aboutKind_0 : Type := (Int32)
def B_X11_aboutKind_0 (Post : Int32 → XS → Prop) (K : Hd_X11_aboutKind_0 → XS → Prop) : Hd_X11_aboutKind_0 → XS → Prop
  | x1, S => ((x1 < 20 → Post (-2) S) ∧ (¬ x1 < 20 → VC_X10_has_7 (fun r4 S3 => ((r4 = 0 → Post (-2) S3) ∧ (¬ r4 = 0 → vp_in (x1 - 20) 6 ∧ vp_in (x1 - 20) 6 ∧ Post ((100 * ((S3.2.1 8) (x1 - 20).toNatClampNeg)) + ((S3.2.1 9) (x1 - 20).toNatClampNeg)) S3))) (x1 - 20) S))
def VC_X11_aboutKind_0 (Post : Int32 → XS → Prop) (a0 : Int32) (S : XS) : Prop := ∀ K : Hd_X11_aboutKind_0 → XS → Prop, (∀ h S, B_X11_aboutKind_0 Post K h S → K h S) → ((a0 < 10 → K a0 S) ∧ (¬ a0 < 10 → VC_X10_has_7 (fun r2 S1 => ((r2 = 0 → K a0 S1) ∧ (¬ r2 = 0 → vp_in (a0 - 10) 6 ∧ Post ((S1.2.1 10) (a0 - 10).toNatClampNeg) S1))) (a0 - 10) S))
set_option maxHeartbeats 4000000 in
set_option maxRecDepth 100000 in
theorem h_X11_aboutKind_0_0 {p : Program} {l : Launch} {e : Env} {s : State} {m : MethodId} {below : List Frame} {meth : Method} {c : Code} {dC : Nat → ClassId} {dI : Nat → Nat → Nat} {q : Nat → Nat} {cI cT : ClassId} {en : Nat → Nat} {A : Nat → Prop} {args : Array Value} {Post : Int32 → XS → Prop} {K : Hd_X11_aboutKind_0 → XS → Prop} (X : XX p s m args c cX11_aboutKind 3 ww_X11_aboutKind_0 RX11 dC dI cI cT en A) (hr : meth.sig.returnType = (some .int)) (hlocks : meth.locks = false) (hK0 : ∀ (x1 : Int32) (S : XS), K x1 S → ∀ (H : Heap) (locs : List Loc), va_P (dC, dI) vwCl (wX q cI cT S) H → va_D A (wX q cI cT S) → va_S A s.heap H locs → ∀ ls : Array Slot, lv_has ls 3 [(0, .ref (q 0)), (1, .int x1), (2, .ref (q 7))] → W p l e (headSpec ww_X11_aboutKind_0 ({ frames := 1, cells := 0, slots := 0, locals := 21 } : Room)).room s m args below meth c H locs 0 0 (MQ below (va_Qi Post (atX dC dI q cI cT A) A) args s 0 0 A) (F0 m 35 ls [])) (x1 : Int32) (S : XS) (h : B_X11_aboutKind_0 Post K x1 S) : ∀ (H : Heap) (locs : List Loc), va_P (dC, dI) vwCl (wX q cI cT S) H → va_D A (wX q cI cT S) → va_S A s.heap H locs → ∀ ls : Array Slot, lv_has ls 3 [(0, .ref (q 0)), (1, .int x1), (2, .ref (q 7))] → W p l e (headSpec ww_X11_aboutKind_0 ({ frames := 1, cells := 0, slots := 0, locals := 21 } : Room)).room s m args below meth c H locs 0 0 (MQ below (va_Qi Post (atX dC dI q cI cT A) A) args s 0 0 A) (F0 m 35 ls []) := by
  have hx := X.1
  have hb := X.2.1
  intro H locs hP hD hS ls hl
  have lk12 := X.2.2.2.2.1 (.fieldLink RX11 12 "BreathOnLoan" "now" "LBreathOnLoan$State;") (inX 568 rfl)
  have lk75 := X.2.2.2.2.1 (.fieldLink RX11 75 "BreathOnLoan$State" "wares" "LBreathOnLoan$Wares;") (inX 603 rfl)
  have lk284 := X.2.2.2.2.1 (.fieldLink RX11 284 "BreathOnLoan$Wares" "worth" "[I") (inX 677 rfl)
  have lk287 := X.2.2.2.2.1 (.fieldLink RX11 287 "BreathOnLoan$Wares" "want" "[I") (inX 766 rfl)
  have lk290 := X.2.2.2.2.1 (.fieldLink RX11 290 "BreathOnLoan$Wares" "voices" "[I") (inX 767 rfl)
  dsimp only [B_X11_aboutKind_0] at h
  refine lv_iload_n hx hb (dk DX11_aboutKind 20 rfl) rfl (lv_at hl 1 rfl) ?_
  refine lv_bipush (v := 20) hx hb (dk DX11_aboutKind 21 rfl) (by decide) ?_
  refine lv_icmp_lt (tgt := 75) hx hb (dk DX11_aboutKind 22 rfl) (by decide) (fun hc => ?_) (fun hc => ?_)
  · have h := h.1 hc
    refine lv_bipush (v := (-2)) hx hb (dk DX11_aboutKind 45 rfl) (by decide) ?_
    exact W.iret (v := (-2)) hx hb hr (fun t ht hW => ⟨⟨_, _, rfl, h, by rw [ht]; exact hP, va_K.moved hW.alike X.2.2.2.2.2.2.1, hD⟩, hS.F ht⟩) hS.2.2 (dk DX11_aboutKind 46 rfl)
  · have h := h.2 hc
    refine lv_aload_n hx hb (dk DX11_aboutKind 23 rfl) rfl (lv_at hl 2 rfl) ?_
    refine lv_iload_n hx hb (dk DX11_aboutKind 24 rfl) rfl (lv_at hl 1 rfl) ?_
    refine lv_bipush (v := 20) hx hb (dk DX11_aboutKind 25 rfl) (by decide) ?_
    refine lv_isub hx hb (dk DX11_aboutKind 26 rfl) ?_
    refine cXi (As := [.int (x1 - 20)]) (rest := []) X (m_X10_has_7 (l := l) (dC := dC) (dI := dI) (q := q) (cI := cI) (cT := cT) (en := en) (sz := _) (x1 - 20) S h) (cwV 1 X.2.2.2.2.1 (gxV 637 148 149 150 135 rfl rfl rfl rfl rfl) rfl rfl rfl q_X10_has_7 ⟨Nat.le_of_ble_eq_true rfl, Nat.le_of_ble_eq_true rfl⟩) (rX_7 X hP) hP hD hS rfl hl.1 rfl (Nat.le_of_ble_eq_true rfl) (dk DX11_aboutKind 27 rfl) (fun r4 S3 H locs h hP hD hS => ?_)
    refine lv_if_eq (tgt := 75) hx hb (dk DX11_aboutKind 28 rfl) (by decide) (fun hc => ?_) (fun hc => ?_)
    · have h := h.1 hc
      refine lv_bipush (v := (-2)) hx hb (dk DX11_aboutKind 45 rfl) (by decide) ?_
      exact W.iret (v := (-2)) hx hb hr (fun t ht hW => ⟨⟨_, _, rfl, h, by rw [ht]; exact hP, va_K.moved hW.alike X.2.2.2.2.2.2.1, hD⟩, hS.F ht⟩) hS.2.2 (dk DX11_aboutKind 46 rfl)
    · have h := h.2 hc
      refine lv_bipush (v := 100) hx hb (dk DX11_aboutKind 29 rfl) (by decide) ?_
      refine lv_aload_n hx hb (dk DX11_aboutKind 30 rfl) rfl (lv_at hl 2 rfl) ?_
      refine gX_7 X hP 1 (by decide) rfl lk287 (dk DX11_aboutKind 31 rfl) ?_
      refine lv_iload_n hx hb (dk DX11_aboutKind 32 rfl) rfl (lv_at hl 1 rfl) ?_
      refine lv_bipush (v := 20) hx hb (dk DX11_aboutKind 33 rfl) (by decide) ?_
      refine lv_isub hx hb (dk DX11_aboutKind 34 rfl) ?_
      obtain ⟨hin, h⟩ := h
      refine ldX_8 X hP hin (dk DX11_aboutKind 35 rfl) ?_
      refine lv_imul hx hb (dk DX11_aboutKind 36 rfl) ?_
      refine lv_aload_n hx hb (dk DX11_aboutKind 37 rfl) rfl (lv_at hl 2 rfl) ?_
      refine gX_7 X hP 2 (by decide) rfl lk290 (dk DX11_aboutKind 38 rfl) ?_
      refine lv_iload_n hx hb (dk DX11_aboutKind 39 rfl) rfl (lv_at hl 1 rfl) ?_
      refine lv_bipush (v := 20) hx hb (dk DX11_aboutKind 40 rfl) (by decide) ?_
      refine lv_isub hx hb (dk DX11_aboutKind 41 rfl) ?_
      obtain ⟨hin, h⟩ := h
      refine ldX_9 X hP hin (dk DX11_aboutKind 42 rfl) ?_
      refine lv_iadd hx hb (dk DX11_aboutKind 43 rfl) ?_
      exact W.iret (v := (100 * ((S3.2.1 8) (x1 - 20).toNatClampNeg)) + ((S3.2.1 9) (x1 - 20).toNatClampNeg)) hx hb hr (fun t ht hW => ⟨⟨_, _, rfl, h, by rw [ht]; exact hP, va_K.moved hW.alike X.2.2.2.2.2.2.1, hD⟩, hS.F ht⟩) hS.2.2 (dk DX11_aboutKind 44 rfl)
set_option maxHeartbeats 4000000 in
set_option maxRecDepth 100000 in
theorem m_X11_aboutKind_0 {l : Launch} {dC : Nat → ClassId} {dI : Nat → Nat → Nat} {q : Nat → Nat} {cI cT : ClassId} {en : Nat → Nat} {sz : Nat} {Post : Int32 → XS → Prop} (a0 : Int32) (S : XS) (h : VC_X11_aboutKind_0 Post a0 S) : Met l yX11_aboutKind ww_X11_aboutKind_0 ({ frames := 1, cells := 0, slots := 0, locals := 21 } : Room) (va_Pc [.ref (q 0), .int a0] (preX dC dI q cI cT en S sz)) (va_Qi Post (atX dC dI q cI cT (va_A (wX q cI cT S) sz)) (va_A (wX q cI cT S) sz)) 0 0 (va_A (wX q cI cT S) sz) := by
  refine oX (cc := cX11_aboutKind) (maxL := 3) (ret := (some .int)) (Qc := fun A => va_Qi Post (atX dC dI q cI cT A) A) (own := RX11) (by decide) rfl (fun w h => List.mem_cons_of_mem _ (List.mem_append_right _ h)) rfl (Nat.le_of_ble_eq_true rfl) (fun p e s m below meth c A ls X hr hlocks hP hD hS hl => ?_)
  have hx := X.1
  have hb := X.2.1
  have hl : lv_has ls 3 [(0, .ref (q 0)), (1, .int a0)] := hl
  have lk12 := X.2.2.2.2.1 (.fieldLink RX11 12 "BreathOnLoan" "now" "LBreathOnLoan$State;") (inX 568 rfl)
  have lk75 := X.2.2.2.2.1 (.fieldLink RX11 75 "BreathOnLoan$State" "wares" "LBreathOnLoan$Wares;") (inX 603 rfl)
  have lk284 := X.2.2.2.2.1 (.fieldLink RX11 284 "BreathOnLoan$Wares" "worth" "[I") (inX 677 rfl)
  have lk287 := X.2.2.2.2.1 (.fieldLink RX11 287 "BreathOnLoan$Wares" "want" "[I") (inX 766 rfl)
  have lk290 := X.2.2.2.2.1 (.fieldLink RX11 290 "BreathOnLoan$Wares" "voices" "[I") (inX 767 rfl)
  generalize hargs : ([.ref (q 0), .int a0] : List Value).toArray = args at X ⊢
  have h := h (fun hd S => match hd with | x1 => ∀ (H : Heap) (locs : List Loc), va_P (dC, dI) vwCl (wX q cI cT S) H → va_D A (wX q cI cT S) → va_S A s.heap H locs → ∀ ls : Array Slot, lv_has ls 3 [(0, .ref (q 0)), (1, .int x1), (2, .ref (q 7))] → W p l e (headSpec ww_X11_aboutKind_0 ({ frames := 1, cells := 0, slots := 0, locals := 21 } : Room)).room s m args below meth c H locs 0 0 (MQ below (va_Qi Post (atX dC dI q cI cT A) A) args s 0 0 A) (F0 m 35 ls [])) ?_
  · skip
    refine lv_aload_n hx hb (dk DX11_aboutKind 0 rfl) rfl (lv_at hl 0 rfl) ?_
    refine gX_0 X hP 0 (by decide) rfl lk12 (dk DX11_aboutKind 1 rfl) ?_
    refine gX_1 X hP 1 (by decide) rfl lk75 (dk DX11_aboutKind 2 rfl) ?_
    refine lv_astore_n (lv' := [(2, .ref (q 7)), (0, .ref (q 0)), (1, .int a0)]) hx hb (dk DX11_aboutKind 3 rfl) rfl hl (by decide) rfl (fun ls hl => ?_)
    refine lv_iload_n hx hb (dk DX11_aboutKind 4 rfl) rfl (lv_at hl 2 rfl) ?_
    refine lv_bipush (v := 10) hx hb (dk DX11_aboutKind 5 rfl) (by decide) ?_
    refine lv_icmp_lt (tgt := 35) hx hb (dk DX11_aboutKind 6 rfl) (by decide) (fun hc => ?_) (fun hc => ?_)
    · have h := h.1 hc
      exact h _ _ hP hD hS ls (lv_sub hl [1, 2, 0] rfl)
    · have h := h.2 hc
      refine lv_aload_n hx hb (dk DX11_aboutKind 7 rfl) rfl (lv_at hl 0 rfl) ?_
      refine lv_iload_n hx hb (dk DX11_aboutKind 8 rfl) rfl (lv_at hl 2 rfl) ?_
      refine lv_bipush (v := 10) hx hb (dk DX11_aboutKind 9 rfl) (by decide) ?_
      refine lv_isub hx hb (dk DX11_aboutKind 10 rfl) ?_
      refine cXi (As := [.int (a0 - 10)]) (rest := []) X (m_X10_has_7 (l := l) (dC := dC) (dI := dI) (q := q) (cI := cI) (cT := cT) (en := en) (sz := _) (a0 - 10) S h) (cwV 1 X.2.2.2.2.1 (gxV 637 148 149 150 135 rfl rfl rfl rfl rfl) rfl rfl rfl q_X10_has_7 ⟨Nat.le_of_ble_eq_true rfl, Nat.le_of_ble_eq_true rfl⟩) (rX_7 X hP) hP hD hS rfl hl.1 rfl (Nat.le_of_ble_eq_true rfl) (dk DX11_aboutKind 11 rfl) (fun r2 S1 H locs h hP hD hS => ?_)
      refine lv_if_eq (tgt := 35) hx hb (dk DX11_aboutKind 12 rfl) (by decide) (fun hc => ?_) (fun hc => ?_)
      · have h := h.1 hc
        exact h _ _ hP hD hS ls (lv_sub hl [1, 2, 0] rfl)
      · have h := h.2 hc
        refine lv_aload_n hx hb (dk DX11_aboutKind 13 rfl) rfl (lv_at hl 0 rfl) ?_
        refine gX_7 X hP 3 (by decide) rfl lk284 (dk DX11_aboutKind 14 rfl) ?_
        refine lv_iload_n hx hb (dk DX11_aboutKind 15 rfl) rfl (lv_at hl 2 rfl) ?_
        refine lv_bipush (v := 10) hx hb (dk DX11_aboutKind 16 rfl) (by decide) ?_
        refine lv_isub hx hb (dk DX11_aboutKind 17 rfl) ?_
        obtain ⟨hin, h⟩ := h
        refine ldX_10 X hP hin (dk DX11_aboutKind 18 rfl) ?_
        exact W.iret (v := (S1.2.1 10) (a0 - 10).toNatClampNeg) hx hb hr (fun t ht hW => ⟨⟨_, _, rfl, h, by rw [ht]; exact hP, va_K.moved hW.alike X.2.2.2.2.2.2.1, hD⟩, hS.F ht⟩) hS.2.2 (dk DX11_aboutKind 19 rfl)
  · rintro x1 S hB
    exact h_X11_aboutKind_0_0 X hr hlocks (hK0 := fun _ _ h => h) x1 S hB

