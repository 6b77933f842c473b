-- X4_lookAhead_51_1_48 X11_by_0 X11_smoke_0 X11_cost_0 X11_addBubble_0 X11_blow_0 X11_addShares_0
def ww_X4_lookAhead_51_1_48 : List Cond := .code yX4_lookAhead cX4_lookAhead 6 none :: (WdX ++ WsX)
theorem q_X4_lookAhead_51_1_48 : yX4_lookAhead.cls = RX4 ∧ yX4_lookAhead.cls ≠ "java/lang/invoke/MethodHandle" ∧ yX4_lookAhead.cls ≠ "java/lang/invoke/VarHandle" ∧ (parseMethodDescriptor yX4_lookAhead.desc).map (fun d => d.parameters.length) = some 3 := by decide +kernel
abbrev Hd_X4_lookAhead_51_1_48 : Type := (Int32 × Int32) ⊕ (Int32 × Int32 × Int32)
def B_X4_lookAhead_51_1_48 (Post : XS → Prop) (K : Hd_X4_lookAhead_51_1_48 → XS → Prop) : Hd_X4_lookAhead_51_1_48 → XS → Prop
  | (.inl (x3, x4)), S => (((S.1 1632) ≤ x4 → Post S) ∧ (¬ (S.1 1632) ≤ x4 → VC_X2_smokeIn_48_1 (fun r4 S3 => vp_in x4 24 ∧ ∀ S5 : XS, S5 = xF S3 52 (upd (S3.2.1 52) x4.toNatClampNeg r4) → K (.inr (x3, x4, 0)) S5) ((S.1 352) + x4) S))
  | (.inr (x3, x4, x5)), S => (((S.1 64) ≤ x5 → ∀ v6 : Int32, v6 = x4 + 1 → K (.inl (x3, v6)) S) ∧ (¬ (S.1 64) ≤ x5 → VC_X2_costOf_48_1 (fun r8 S7 => vp_in ((x4 * 6) + x5) 144 ∧ ∀ S9 : XS, S9 = xF S7 53 (upd (S7.2.1 53) ((x4 * 6) + x5).toNatClampNeg r8) → ∀ v10 : Int32, v10 = x5 + 1 → K (.inr (x3, x4, v10)) S9) x5 ((S.1 352) + x4) S))
def VC_X4_lookAhead_51_1_48 (Post : XS → Prop) (a2 : Int32) (S : XS) : Prop := ∀ K : Hd_X4_lookAhead_51_1_48 → XS → Prop, (∀ h S, B_X4_lookAhead_51_1_48 Post K h S → K h S) → ∀ v1 : Int32, v1 = (if 0 < (if (1000 - (S.1 352)) < (if 24 < a2 then 24 else a2) then (1000 - (S.1 352)) else (if 24 < a2 then 24 else a2)) then (if (1000 - (S.1 352)) < (if 24 < a2 then 24 else a2) then (1000 - (S.1 352)) else (if 24 < a2 then 24 else a2)) else 0) → ∀ S2 : XS, S2 = xI S 1632 v1 → K (.inl (a2, 0)) S2
set_option maxHeartbeats 4000000 in
set_option maxRecDepth 100000 in
theorem h_X4_lookAhead_51_1_48_0 {p : Program} {l : Launch} {e : Env} {s : State} {m : MethodId} {below : List Frame} {meth : Method} {c : Code} {dC : Nat → ClassId} {dI : Nat → Nat → Nat} {q : Nat → Nat} {cI cT : ClassId} {en : Nat → Nat} {A : Nat → Prop} {args : Array Value} {Post : XS → Prop} {K : Hd_X4_lookAhead_51_1_48 → XS → Prop} (X : XX p s m args c cX4_lookAhead 6 ww_X4_lookAhead_51_1_48 RX4 dC dI cI cT en A) (hr : meth.sig.returnType = none) (hlocks : meth.locks = false) (hK0 : ∀ (x3 : Int32) (x4 : Int32) (S : XS), K (.inl (x3, x4)) S → ∀ (H : Heap) (locs : List Loc), va_P (dC, dI) vwCl (wX q cI cT S) H → va_D A (wX q cI cT S) → va_S A s.heap H locs → ∀ ls : Array Slot, lv_has ls 6 [(0, .ref (q 51)), (1, .ref (q 1)), (2, .ref (q 48)), (3, .int x3), (4, .int x4)] → W p l e (headSpec ww_X4_lookAhead_51_1_48 ({ frames := 5, cells := 0, slots := 0, locals := 137 } : Room)).room s m args below meth c H locs 0 0 (MQ below (va_Qv Post (atX dC dI q cI cT A) A) args s 0 0 A) (F0 m 31 ls [])) (hK1 : ∀ (x3 : Int32) (x4 : Int32) (x5 : Int32) (S : XS), K (.inr (x3, x4, x5)) S → ∀ (H : Heap) (locs : List Loc), va_P (dC, dI) vwCl (wX q cI cT S) H → va_D A (wX q cI cT S) → va_S A s.heap H locs → ∀ ls : Array Slot, lv_has ls 6 [(0, .ref (q 51)), (1, .ref (q 1)), (2, .ref (q 48)), (3, .int x3), (4, .int x4), (5, .int x5)] → W p l e (headSpec ww_X4_lookAhead_51_1_48 ({ frames := 5, cells := 0, slots := 0, locals := 137 } : Room)).room s m args below meth c H locs 0 0 (MQ below (va_Qv Post (atX dC dI q cI cT A) A) args s 0 0 A) (F0 m 65 ls [])) (x3 : Int32) (x4 : Int32) (S : XS) (h : B_X4_lookAhead_51_1_48 Post K (.inl (x3, x4)) S) : ∀ (H : Heap) (locs : List Loc), va_P (dC, dI) vwCl (wX q cI cT S) H → va_D A (wX q cI cT S) → va_S A s.heap H locs → ∀ ls : Array Slot, lv_has ls 6 [(0, .ref (q 51)), (1, .ref (q 1)), (2, .ref (q 48)), (3, .int x3), (4, .int x4)] → W p l e (headSpec ww_X4_lookAhead_51_1_48 ({ frames := 5, cells := 0, slots := 0, locals := 137 } : Room)).room s m args below meth c H locs 0 0 (MQ below (va_Qv Post (atX dC dI q cI cT A) A) args s 0 0 A) (F0 m 31 ls []) := by
  have hx := X.1
  have hb := X.2.1
  intro H locs hP hD hS ls hl
  have lk39 := X.2.2.2.2.1 (.fieldLink RX4 39 "BreathOnLoan$State" "bench" "LBreathOnLoan$Bench;") (inX 421 rfl)
  have lk45 := X.2.2.2.2.1 (.fieldLink RX4 45 "BreathOnLoan$Bench" "hour" "I") (inX 422 rfl)
  have lk54 := X.2.2.2.2.1 (.fieldLink RX4 54 "BreathOnLoan$Planner" "hours" "I") (inX 424 rfl)
  have lk11 := X.2.2.2.2.1 (.fieldLink RX4 11 "BreathOnLoan$Planner" "smokes" "[I") (inX 413 rfl)
  have lk63 := X.2.2.2.2.1 (.fieldLink RX4 63 "BreathOnLoan$State" "crew" "LBreathOnLoan$Crew;") (inX 425 rfl)
  have lk67 := X.2.2.2.2.1 (.fieldLink RX4 67 "BreathOnLoan$Crew" "count" "I") (inX 426 rfl)
  have lk15 := X.2.2.2.2.1 (.fieldLink RX4 15 "BreathOnLoan$Planner" "prices" "[I") (inX 414 rfl)
  dsimp only [B_X4_lookAhead_51_1_48] at h
  refine lv_iload hx hb (dk DX4_lookAhead 15 rfl) (lv_at hl 4 rfl) ?_
  refine lv_aload_n hx hb (dk DX4_lookAhead 16 rfl) rfl (lv_at hl 0 rfl) ?_
  refine gX_51 X hP 0 (by decide) rfl lk54 (dk DX4_lookAhead 17 rfl) ?_
  refine lv_icmp_ge (tgt := 119) hx hb (dk DX4_lookAhead 18 rfl) (by decide) (fun hc => ?_) (fun hc => ?_)
  · have h := h.1 hc
    exact W.vret hx hb hr (fun t ht hW => ⟨⟨_, rfl, h, by rw [ht]; exact hP, va_K.moved hW.alike X.2.2.2.2.2.2.1, hD⟩, hS.F ht⟩) hS.2.2 (dk DX4_lookAhead 59 rfl)
  · have h := h.2 hc
    refine lv_aload_n hx hb (dk DX4_lookAhead 19 rfl) rfl (lv_at hl 0 rfl) ?_
    refine gX_51 X hP 4 (by decide) rfl lk11 (dk DX4_lookAhead 20 rfl) ?_
    refine lv_iload hx hb (dk DX4_lookAhead 21 rfl) (lv_at hl 4 rfl) ?_
    refine lv_aload_n hx hb (dk DX4_lookAhead 22 rfl) rfl (lv_at hl 2 rfl) ?_
    refine lv_aload_n hx hb (dk DX4_lookAhead 23 rfl) rfl (lv_at hl 1 rfl) ?_
    refine lv_aload_n hx hb (dk DX4_lookAhead 24 rfl) rfl (lv_at hl 1 rfl) ?_
    refine gX_1 X hP 2 (by decide) rfl lk39 (dk DX4_lookAhead 25 rfl) ?_
    refine gX_11 X hP 0 (by decide) rfl lk45 (dk DX4_lookAhead 26 rfl) ?_
    refine lv_iload hx hb (dk DX4_lookAhead 27 rfl) (lv_at hl 4 rfl) ?_
    refine lv_iadd hx hb (dk DX4_lookAhead 28 rfl) ?_
    refine cXi (As := [.ref (q 1), .int ((S.1 352) + x4)]) (rest := [.int x4, .ref (q 52)]) X (m_X2_smokeIn_48_1 (l := l) (dC := dC) (dI := dI) (q := q) (cI := cI) (cT := cT) (en := en) (sz := _) ((S.1 352) + x4) S h) (cwV 2 X.2.2.2.2.1 (gxV 427 428 429 95 124 rfl rfl rfl rfl rfl) rfl rfl rfl q_X2_smokeIn_48_1 ⟨Nat.le_of_ble_eq_true rfl, Nat.le_of_ble_eq_true rfl⟩) (rX_48 X hP) hP hD hS rfl hl.1 rfl (Nat.le_of_ble_eq_true rfl) (dk DX4_lookAhead 29 rfl) (fun r4 S3 H locs h hP hD hS => ?_)
    obtain ⟨hin, h⟩ := h
    refine stX_52 X hP hD hS hin (dk DX4_lookAhead 30 rfl) (fun S5 eS5 H locs hP hD hS => ?_)
    have h := h S5 eS5
    refine lv_iconst (v := 0) hx hb (dk DX4_lookAhead 31 rfl) (by decide) ?_
    refine lv_istore (lv' := [(5, .int 0), (0, .ref (q 51)), (1, .ref (q 1)), (2, .ref (q 48)), (3, .int x3), (4, .int x4)]) hx hb (dk DX4_lookAhead 32 rfl) hl (by decide) rfl (fun ls hl => ?_)
    exact hK1 x3 x4 0 S5 h _ _ hP hD hS ls (lv_sub hl [1, 2, 3, 4, 5, 0] rfl)
set_option maxHeartbeats 4000000 in
set_option maxRecDepth 100000 in
theorem h_X4_lookAhead_51_1_48_1 {p : Program} {l : Launch} {e : Env} {s : State} {m : MethodId} {below : List Frame} {meth : Method} {c : Code} {dC : Nat → ClassId} {dI : Nat → Nat → Nat} {q : Nat → Nat} {cI cT : ClassId} {en : Nat → Nat} {A : Nat → Prop} {args : Array Value} {Post : XS → Prop} {K : Hd_X4_lookAhead_51_1_48 → XS → Prop} (X : XX p s m args c cX4_lookAhead 6 ww_X4_lookAhead_51_1_48 RX4 dC dI cI cT en A) (hr : meth.sig.returnType = none) (hlocks : meth.locks = false) (hK0 : ∀ (x3 : Int32) (x4 : Int32) (S : XS), K (.inl (x3, x4)) S → ∀ (H : Heap) (locs : List Loc), va_P (dC, dI) vwCl (wX q cI cT S) H → va_D A (wX q cI cT S) → va_S A s.heap H locs → ∀ ls : Array Slot, lv_has ls 6 [(0, .ref (q 51)), (1, .ref (q 1)), (2, .ref (q 48)), (3, .int x3), (4, .int x4)] → W p l e (headSpec ww_X4_lookAhead_51_1_48 ({ frames := 5, cells := 0, slots := 0, locals := 137 } : Room)).room s m args below meth c H locs 0 0 (MQ below (va_Qv Post (atX dC dI q cI cT A) A) args s 0 0 A) (F0 m 31 ls [])) (hK1 : ∀ (x3 : Int32) (x4 : Int32) (x5 : Int32) (S : XS), K (.inr (x3, x4, x5)) S → ∀ (H : Heap) (locs : List Loc), va_P (dC, dI) vwCl (wX q cI cT S) H → va_D A (wX q cI cT S) → va_S A s.heap H locs → ∀ ls : Array Slot, lv_has ls 6 [(0, .ref (q 51)), (1, .ref (q 1)), (2, .ref (q 48)), (3, .int x3), (4, .int x4), (5, .int x5)] → W p l e (headSpec ww_X4_lookAhead_51_1_48 ({ frames := 5, cells := 0, slots := 0, locals := 137 } : Room)).room s m args below meth c H locs 0 0 (MQ below (va_Qv Post (atX dC dI q cI cT A) A) args s 0 0 A) (F0 m 65 ls [])) (x3 : Int32) (x4 : Int32) (x5 : Int32) (S : XS) (h : B_X4_lookAhead_51_1_48 Post K (.inr (x3, x4, x5)) S) : ∀ (H : Heap) (locs : List Loc), va_P (dC, dI) vwCl (wX q cI cT S) H → va_D A (wX q cI cT S) → va_S A s.heap H locs → ∀ ls : Array Slot, lv_has ls 6 [(0, .ref (q 51)), (1, .ref (q 1)), (2, .ref (q 48)), (3, .int x3), (4, .int x4), (5, .int x5)] → W p l e (headSpec ww_X4_lookAhead_51_1_48 ({ frames := 5, cells := 0, slots := 0, locals := 137 } : Room)).room s m args below meth c H locs 0 0 (MQ below (va_Qv Post (atX dC dI q cI cT A) A) args s 0 0 A) (F0 m 65 ls []) := by
  have hx := X.1
  have hb := X.2.1
  intro H locs hP hD hS ls hl
  have lk39 := X.2.2.2.2.1 (.fieldLink RX4 39 "BreathOnLoan$State" "bench" "LBreathOnLoan$Bench;") (inX 421 rfl)
  have lk45 := X.2.2.2.2.1 (.fieldLink RX4 45 "BreathOnLoan$Bench" "hour" "I") (inX 422 rfl)
  have lk54 := X.2.2.2.2.1 (.fieldLink RX4 54 "BreathOnLoan$Planner" "hours" "I") (inX 424 rfl)
  have lk11 := X.2.2.2.2.1 (.fieldLink RX4 11 "BreathOnLoan$Planner" "smokes" "[I") (inX 413 rfl)
  have lk63 := X.2.2.2.2.1 (.fieldLink RX4 63 "BreathOnLoan$State" "crew" "LBreathOnLoan$Crew;") (inX 425 rfl)
  have lk67 := X.2.2.2.2.1 (.fieldLink RX4 67 "BreathOnLoan$Crew" "count" "I") (inX 426 rfl)
  have lk15 := X.2.2.2.2.1 (.fieldLink RX4 15 "BreathOnLoan$Planner" "prices" "[I") (inX 414 rfl)
  dsimp only [B_X4_lookAhead_51_1_48] at h
  refine lv_iload hx hb (dk DX4_lookAhead 33 rfl) (lv_at hl 5 rfl) ?_
  refine lv_aload_n hx hb (dk DX4_lookAhead 34 rfl) rfl (lv_at hl 1 rfl) ?_
  refine gX_1 X hP 0 (by decide) rfl lk63 (dk DX4_lookAhead 35 rfl) ?_
  refine gX_2 X hP 0 (by decide) rfl lk67 (dk DX4_lookAhead 36 rfl) ?_
  refine lv_icmp_ge (tgt := 113) hx hb (dk DX4_lookAhead 37 rfl) (by decide) (fun hc => ?_) (fun hc => ?_)
  · have h := h.1 hc
    obtain ⟨v6, ev6⟩ : ∃ y : Int32, y = x4 + 1 := ⟨_, rfl⟩
    have h := h v6 ev6
    refine lv_iinc (v := v6) (lv' := [(4, .int v6), (0, .ref (q 51)), (1, .ref (q 1)), (2, .ref (q 48)), (3, .int x3), (5, .int x5)]) hx hb (dk DX4_lookAhead 57 rfl) hl (k := 4) rfl (by rw [ev6]; rfl) (by decide) rfl (fun ls hl => ?_)
    refine lv_goto (tgt := 31) hx hb (dk DX4_lookAhead 58 rfl) (by decide) ?_
    exact hK0 x3 v6 S h _ _ hP hD hS ls (lv_sub hl [1, 2, 3, 4, 0] rfl)
  · have h := h.2 hc
    refine lv_aload_n hx hb (dk DX4_lookAhead 38 rfl) rfl (lv_at hl 0 rfl) ?_
    refine gX_51 X hP 5 (by decide) rfl lk15 (dk DX4_lookAhead 39 rfl) ?_
    refine lv_iload hx hb (dk DX4_lookAhead 40 rfl) (lv_at hl 4 rfl) ?_
    refine lv_bipush (v := 6) hx hb (dk DX4_lookAhead 41 rfl) (by decide) ?_
    refine lv_imul hx hb (dk DX4_lookAhead 42 rfl) ?_
    refine lv_iload hx hb (dk DX4_lookAhead 43 rfl) (lv_at hl 5 rfl) ?_
    refine lv_iadd hx hb (dk DX4_lookAhead 44 rfl) ?_
    refine lv_aload_n hx hb (dk DX4_lookAhead 45 rfl) rfl (lv_at hl 2 rfl) ?_
    refine lv_aload_n hx hb (dk DX4_lookAhead 46 rfl) rfl (lv_at hl 1 rfl) ?_
    refine lv_iload hx hb (dk DX4_lookAhead 47 rfl) (lv_at hl 5 rfl) ?_
    refine lv_aload_n hx hb (dk DX4_lookAhead 48 rfl) rfl (lv_at hl 1 rfl) ?_
    refine gX_1 X hP 2 (by decide) rfl lk39 (dk DX4_lookAhead 49 rfl) ?_
    refine gX_11 X hP 0 (by decide) rfl lk45 (dk DX4_lookAhead 50 rfl) ?_
    refine lv_iload hx hb (dk DX4_lookAhead 51 rfl) (lv_at hl 4 rfl) ?_
    refine lv_iadd hx hb (dk DX4_lookAhead 52 rfl) ?_
    refine cXi (As := [.ref (q 1), .int x5, .int ((S.1 352) + x4)]) (rest := [.int ((x4 * 6) + x5), .ref (q 53)]) X (m_X2_costOf_48_1 (l := l) (dC := dC) (dI := dI) (q := q) (cI := cI) (cT := cT) (en := en) (sz := _) x5 ((S.1 352) + x4) S h) (cwV 3 X.2.2.2.2.1 (gxV 430 431 432 95 134 rfl rfl rfl rfl rfl) rfl rfl rfl q_X2_costOf_48_1 ⟨Nat.le_of_ble_eq_true rfl, Nat.le_of_ble_eq_true rfl⟩) (rX_48 X hP) hP hD hS rfl hl.1 rfl (Nat.le_of_ble_eq_true rfl) (dk DX4_lookAhead 53 rfl) (fun r8 S7 H locs h hP hD hS => ?_)
    obtain ⟨hin, h⟩ := h
    refine stX_53 X hP hD hS hin (dk DX4_lookAhead 54 rfl) (fun S9 eS9 H locs hP hD hS => ?_)
    have h := h S9 eS9
    obtain ⟨v10, ev10⟩ : ∃ y : Int32, y = x5 + 1 := ⟨_, rfl⟩
    have h := h v10 ev10
    refine lv_iinc (v := v10) (lv' := [(5, .int v10), (0, .ref (q 51)), (1, .ref (q 1)), (2, .ref (q 48)), (3, .int x3), (4, .int x4)]) hx hb (dk DX4_lookAhead 55 rfl) hl (k := 5) rfl (by rw [ev10]; rfl) (by decide) rfl (fun ls hl => ?_)
    refine lv_goto (tgt := 65) hx hb (dk DX4_lookAhead 56 rfl) (by decide) ?_
    exact hK1 x3 x4 v10 S9 h _ _ hP hD hS ls (lv_sub hl [1, 2, 3, 4, 5, 0] rfl)
set_option maxHeartbeats 4000000 in
set_option maxRecDepth 100000 in
theorem m_X4_lookAhead_51_1_48 {l : Launch} {dC : Nat → ClassId} {dI : Nat → Nat → Nat} {q : Nat → Nat} {cI cT : ClassId} {en : Nat → Nat} {sz : Nat} {Post : XS → Prop} (a2 : Int32) (S : XS) (h : VC_X4_lookAhead_51_1_48 Post a2 S) : Met l yX4_lookAhead ww_X4_lookAhead_51_1_48 ({ frames := 5, cells := 0, slots := 0, locals := 137 } : Room) (va_Pc [.ref (q 51), .ref (q 1), .ref (q 48), .int a2] (preX dC dI q cI cT en S sz)) (va_Qv Post (atX dC dI q cI cT (va_A (wX q cI cT S) sz)) (va_A (wX q cI cT S) sz)) 0 0 (va_A (wX q cI cT S) sz) := by
  refine oX (cc := cX4_lookAhead) (maxL := 6) (ret := none) (Qc := fun A => va_Qv Post (atX dC dI q cI cT A) A) (own := RX4) (by decide) rfl (fun w h => List.mem_cons_of_mem _ (List.mem_append_right _ h)) rfl (Nat.le_of_ble_eq_true rfl) (fun p e s m below meth c A ls X hr hlocks hP hD hS hl => ?_)
  have hx := X.1
  have hb := X.2.1
  have hl : lv_has ls 6 [(0, .ref (q 51)), (1, .ref (q 1)), (2, .ref (q 48)), (3, .int a2)] := hl
  have lk39 := X.2.2.2.2.1 (.fieldLink RX4 39 "BreathOnLoan$State" "bench" "LBreathOnLoan$Bench;") (inX 421 rfl)
  have lk45 := X.2.2.2.2.1 (.fieldLink RX4 45 "BreathOnLoan$Bench" "hour" "I") (inX 422 rfl)
  have lk54 := X.2.2.2.2.1 (.fieldLink RX4 54 "BreathOnLoan$Planner" "hours" "I") (inX 424 rfl)
  have lk11 := X.2.2.2.2.1 (.fieldLink RX4 11 "BreathOnLoan$Planner" "smokes" "[I") (inX 413 rfl)
  have lk63 := X.2.2.2.2.1 (.fieldLink RX4 63 "BreathOnLoan$State" "crew" "LBreathOnLoan$Crew;") (inX 425 rfl)
  have lk67 := X.2.2.2.2.1 (.fieldLink RX4 67 "BreathOnLoan$Crew" "count" "I") (inX 426 rfl)
  have lk15 := X.2.2.2.2.1 (.fieldLink RX4 15 "BreathOnLoan$Planner" "prices" "[I") (inX 414 rfl)
  generalize hargs : ([.ref (q 51), .ref (q 1), .ref (q 48), .int a2] : List Value).toArray = args at X ⊢
  have h := h (fun hd S => match hd with | (.inl (x3, x4)) => ∀ (H : Heap) (locs : List Loc), va_P (dC, dI) vwCl (wX q cI cT S) H → va_D A (wX q cI cT S) → va_S A s.heap H locs → ∀ ls : Array Slot, lv_has ls 6 [(0, .ref (q 51)), (1, .ref (q 1)), (2, .ref (q 48)), (3, .int x3), (4, .int x4)] → W p l e (headSpec ww_X4_lookAhead_51_1_48 ({ frames := 5, cells := 0, slots := 0, locals := 137 } : Room)).room s m args below meth c H locs 0 0 (MQ below (va_Qv Post (atX dC dI q cI cT A) A) args s 0 0 A) (F0 m 31 ls []) | (.inr (x3, x4, x5)) => ∀ (H : Heap) (locs : List Loc), va_P (dC, dI) vwCl (wX q cI cT S) H → va_D A (wX q cI cT S) → va_S A s.heap H locs → ∀ ls : Array Slot, lv_has ls 6 [(0, .ref (q 51)), (1, .ref (q 1)), (2, .ref (q 48)), (3, .int x3), (4, .int x4), (5, .int x5)] → W p l e (headSpec ww_X4_lookAhead_51_1_48 ({ frames := 5, cells := 0, slots := 0, locals := 137 } : Room)).room s m args below meth c H locs 0 0 (MQ below (va_Qv Post (atX dC dI q cI cT A) A) args s 0 0 A) (F0 m 65 ls [])) ?_
  · skip
    refine lv_aload_n hx hb (dk DX4_lookAhead 0 rfl) rfl (lv_at hl 0 rfl) ?_
    refine lv_iconst (v := 0) hx hb (dk DX4_lookAhead 1 rfl) (by decide) ?_
    refine lv_iload_n hx hb (dk DX4_lookAhead 2 rfl) rfl (lv_at hl 3 rfl) ?_
    refine lv_bipush (v := 24) hx hb (dk DX4_lookAhead 3 rfl) (by decide) ?_
    refine va_mmin hx hb (X.2.2.1.trans hl.1.symm) X.2.2.2.1 (X.2.2.2.2.1 (.methodLink RX4 33 Lib.Math.min.name) (inX 420 rfl)) (X.2.2.2.2.1 (.static Lib.Math.min.name) (inX 20 rfl)) (X.2.2.2.2.1 (.initialized "java/lang/Math") (inX 21 rfl)) (X.2.2.2.2.1 (.code Lib.Math.min.name Lib.Math.min.code 2 (some .int)) (inX 22 rfl)) (Nat.le_of_ble_eq_true rfl) (Nat.le_of_ble_eq_true rfl) (Nat.zero_le _) (Nat.zero_le _) (dk DX4_lookAhead 4 rfl) ?_
    refine lv_sipush (v := 1000) hx hb (dk DX4_lookAhead 5 rfl) (by decide) ?_
    refine lv_aload_n hx hb (dk DX4_lookAhead 6 rfl) rfl (lv_at hl 1 rfl) ?_
    refine gX_1 X hP 2 (by decide) rfl lk39 (dk DX4_lookAhead 7 rfl) ?_
    refine gX_11 X hP 0 (by decide) rfl lk45 (dk DX4_lookAhead 8 rfl) ?_
    refine lv_isub hx hb (dk DX4_lookAhead 9 rfl) ?_
    refine va_mmin hx hb (X.2.2.1.trans hl.1.symm) X.2.2.2.1 (X.2.2.2.2.1 (.methodLink RX4 33 Lib.Math.min.name) (inX 420 rfl)) (X.2.2.2.2.1 (.static Lib.Math.min.name) (inX 20 rfl)) (X.2.2.2.2.1 (.initialized "java/lang/Math") (inX 21 rfl)) (X.2.2.2.2.1 (.code Lib.Math.min.name Lib.Math.min.code 2 (some .int)) (inX 22 rfl)) (Nat.le_of_ble_eq_true rfl) (Nat.le_of_ble_eq_true rfl) (Nat.zero_le _) (Nat.zero_le _) (dk DX4_lookAhead 10 rfl) ?_
    refine va_mmax hx hb (X.2.2.1.trans hl.1.symm) X.2.2.2.1 (X.2.2.2.2.1 (.methodLink RX4 51 Lib.Math.max.name) (inX 423 rfl)) (X.2.2.2.2.1 (.static Lib.Math.max.name) (inX 104 rfl)) (X.2.2.2.2.1 (.initialized "java/lang/Math") (inX 21 rfl)) (X.2.2.2.2.1 (.code Lib.Math.max.name Lib.Math.max.code 2 (some .int)) (inX 105 rfl)) (Nat.le_of_ble_eq_true rfl) (Nat.le_of_ble_eq_true rfl) (Nat.zero_le _) (Nat.zero_le _) (dk DX4_lookAhead 11 rfl) ?_
    refine lv_topi (fun v1 ev1 => ?_)
    have h := h v1 ev1
    refine pX_51_0 X hP hD hS lk54 (dk DX4_lookAhead 12 rfl) (fun S2 eS2 H locs hP hD hS => ?_)
    have h := h S2 eS2
    refine lv_iconst (v := 0) hx hb (dk DX4_lookAhead 13 rfl) (by decide) ?_
    refine lv_istore (lv' := [(4, .int 0), (0, .ref (q 51)), (1, .ref (q 1)), (2, .ref (q 48)), (3, .int a2)]) hx hb (dk DX4_lookAhead 14 rfl) hl (by decide) rfl (fun ls hl => ?_)
    exact h _ _ hP hD hS ls (lv_sub hl [1, 2, 3, 4, 0] rfl)
  · rintro (⟨x3, x4⟩ | ⟨x3, x4, x5⟩) S hB
    · exact h_X4_lookAhead_51_1_48_0 X hr hlocks (hK0 := fun _ _ _ h => h) (hK1 := fun _ _ _ _ h => h) x3 x4 S hB
    · exact h_X4_lookAhead_51_1_48_1 X hr hlocks (hK0 := fun _ _ _ h => h) (hK1 := fun _ _ _ _ h => h) x3 x4 x5 S hB

def ww_X11_by_0 : List Cond := .code yX11_by cX11_by 2 (some .boolean) :: (WdX ++ WsX)
theorem q_X11_by_0 : yX11_by.cls = RX11 ∧ yX11_by.cls ≠ "java/lang/invoke/MethodHandle" ∧ yX11_by.cls ≠ "java/lang/invoke/VarHandle" ∧ (parseMethodDescriptor yX11_by.desc).map (fun d => d.parameters.length) = some 1 := by decide +kernel
def VC_X11_by_0 (Post : Int32 → XS → Prop) (a0 : Int32) (S : XS) : Prop := ((a0 = (-1) → ∀ S1 : XS, S1 = xI S 39 a0 → Post 1 S1) ∧ (¬ a0 = (-1) → VC_X5_textAt_1 (fun r3 S2 => ((r3 = none → Post 0 S2) ∧ ∀ a4 : Nat, r3 = some a4 → ∀ S5 : XS, S5 = xI S2 39 a0 → Post 1 S5)) a0 S))
set_option maxHeartbeats 4000000 in
set_option maxRecDepth 100000 in
theorem m_X11_by_0 {l : Launch} {dC : Nat → ClassId} {dI : Nat → Nat → Nat} {q : Nat → Nat} {cI cT : ClassId} {en : Nat → Nat} {sz : Nat} {Post : Int32 → XS → Prop} (a0 : Int32) (S : XS) (h : VC_X11_by_0 Post a0 S) : Met l yX11_by ww_X11_by_0 ({ frames := 1, cells := 0, slots := 0, locals := 21 } : Room) (va_Pc [.ref (q 0), .int a0] (preX dC dI q cI cT en S sz)) (va_Qi Post (atX dC dI q cI cT (va_A (wX q cI cT S) sz)) (va_A (wX q cI cT S) sz)) 0 0 (va_A (wX q cI cT S) sz) := by
  refine oX (cc := cX11_by) (maxL := 2) (ret := (some .boolean)) (Qc := fun A => va_Qi Post (atX dC dI q cI cT A) A) (own := RX11) (by decide) rfl (fun w h => List.mem_cons_of_mem _ (List.mem_append_right _ h)) rfl (Nat.le_of_ble_eq_true rfl) (fun p e s m below meth c A ls X hr hlocks hP hD hS hl => ?_)
  have hx := X.1
  have hb := X.2.1
  have hl : lv_has ls 2 [(0, .ref (q 0)), (1, .int a0)] := hl
  have lk12 := X.2.2.2.2.1 (.fieldLink RX11 12 "BreathOnLoan" "now" "LBreathOnLoan$State;") (inX 568 rfl)
  have lk117 := X.2.2.2.2.1 (.fieldLink RX11 117 "BreathOnLoan$State" "ruling" "I") (inX 626 rfl)
  dsimp only [VC_X11_by_0] at h
  refine lv_iload_n hx hb (dk DX11_by 0 rfl) rfl (lv_at hl 1 rfl) ?_
  refine lv_iconst (v := (-1)) hx hb (dk DX11_by 1 rfl) (by decide) ?_
  refine lv_icmp_eq (tgt := 18) hx hb (dk DX11_by 2 rfl) (by decide) (fun hc => ?_) (fun hc => ?_)
  · have h := h.1 hc
    refine lv_aload_n hx hb (dk DX11_by 10 rfl) rfl (lv_at hl 0 rfl) ?_
    refine gX_0 X hP 0 (by decide) rfl lk12 (dk DX11_by 11 rfl) ?_
    refine lv_iload_n hx hb (dk DX11_by 12 rfl) rfl (lv_at hl 1 rfl) ?_
    refine pX_1_7 X hP hD hS lk117 (dk DX11_by 13 rfl) (fun S1 eS1 H locs hP hD hS => ?_)
    have h := h S1 eS1
    refine lv_iconst (v := 1) hx hb (dk DX11_by 14 rfl) (by decide) ?_
    exact W.zret (v := 1) hx hb hr (by decide) (fun t ht hW => ⟨⟨_, _, rfl, h, by rw [ht]; exact hP, va_K.moved hW.alike X.2.2.2.2.2.2.1, hD⟩, hS.F ht⟩) hS.2.2 (dk DX11_by 15 rfl)
  · have h := h.2 hc
    refine lv_aload_n hx hb (dk DX11_by 3 rfl) rfl (lv_at hl 0 rfl) ?_
    refine gX_0 X hP 0 (by decide) rfl lk12 (dk DX11_by 4 rfl) ?_
    refine lv_iload_n hx hb (dk DX11_by 5 rfl) rfl (lv_at hl 1 rfl) ?_
    refine cXq (As := [.int a0]) (rest := []) X (m_X5_textAt_1 (l := l) (dC := dC) (dI := dI) (q := q) (cI := cI) (cT := cT) (en := en) (sz := _) a0 S h) (cwV 1 X.2.2.2.2.1 (gxV 627 65 66 67 57 rfl rfl rfl rfl rfl) rfl rfl rfl q_X5_textAt_1 ⟨Nat.le_of_ble_eq_true rfl, Nat.le_of_ble_eq_true rfl⟩) (rX_1 X hP) hP hD hS rfl hl.1 rfl (Nat.le_of_ble_eq_true rfl) (dk DX11_by 6 rfl) (fun r3 S2 H locs h hP hD hS => ?_)
    rcases r3 with _ | a4
    · have h := h.1 rfl
      refine lv_ifnonnullN hx hb (dk DX11_by 7 rfl) ?_
      refine lv_iconst (v := 0) hx hb (dk DX11_by 8 rfl) (by decide) ?_
      exact W.zret (v := 0) hx hb hr (by decide) (fun t ht hW => ⟨⟨_, _, rfl, h, by rw [ht]; exact hP, va_K.moved hW.alike X.2.2.2.2.2.2.1, hD⟩, hS.F ht⟩) hS.2.2 (dk DX11_by 9 rfl)
    · have h := h.2 a4 rfl
      refine lv_ifnonnull (tgt := 18) hx hb (dk DX11_by 7 rfl) (by decide) ?_
      refine lv_aload_n hx hb (dk DX11_by 10 rfl) rfl (lv_at hl 0 rfl) ?_
      refine gX_0 X hP 0 (by decide) rfl lk12 (dk DX11_by 11 rfl) ?_
      refine lv_iload_n hx hb (dk DX11_by 12 rfl) rfl (lv_at hl 1 rfl) ?_
      refine pX_1_7 X hP hD hS lk117 (dk DX11_by 13 rfl) (fun S5 eS5 H locs hP hD hS => ?_)
      have h := h S5 eS5
      refine lv_iconst (v := 1) hx hb (dk DX11_by 14 rfl) (by decide) ?_
      exact W.zret (v := 1) hx hb hr (by decide) (fun t ht hW => ⟨⟨_, _, rfl, h, by rw [ht]; exact hP, va_K.moved hW.alike X.2.2.2.2.2.2.1, hD⟩, hS.F ht⟩) hS.2.2 (dk DX11_by 15 rfl)

def ww_X11_smoke_0 : List Cond := .code yX11_smoke cX11_smoke 2 (some .int) :: (WdX ++ WsX)
theorem q_X11_smoke_0 : yX11_smoke.cls = RX11 ∧ yX11_smoke.cls ≠ "java/lang/invoke/MethodHandle" ∧ yX11_smoke.cls ≠ "java/lang/invoke/VarHandle" ∧ (parseMethodDescriptor yX11_smoke.desc).map (fun d => d.parameters.length) = some 1 := by decide +kernel
def VC_X11_smoke_0 (Post : Int32 → XS → Prop) (a0 : Int32) (S : XS) : Prop := VC_X11_within (fun r1 => ((r1 = 0 → Post (-1) S) ∧ (¬ r1 = 0 → VC_X2_smokeIn_48_1 (fun r3 S2 => Post r3 S2) a0 S))) a0 0 999
set_option maxHeartbeats 4000000 in
set_option maxRecDepth 100000 in
theorem m_X11_smoke_0 {l : Launch} {dC : Nat → ClassId} {dI : Nat → Nat → Nat} {q : Nat → Nat} {cI cT : ClassId} {en : Nat → Nat} {sz : Nat} {Post : Int32 → XS → Prop} (a0 : Int32) (S : XS) (h : VC_X11_smoke_0 Post a0 S) : Met l yX11_smoke ww_X11_smoke_0 ({ frames := 5, cells := 0, slots := 0, locals := 136 } : Room) (va_Pc [.ref (q 0), .int a0] (preX dC dI q cI cT en S sz)) (va_Qi Post (atX dC dI q cI cT (va_A (wX q cI cT S) sz)) (va_A (wX q cI cT S) sz)) 0 0 (va_A (wX q cI cT S) sz) := by
  refine oX (cc := cX11_smoke) (maxL := 2) (ret := (some .int)) (Qc := fun A => va_Qi Post (atX dC dI q cI cT A) A) (own := RX11) (by decide) rfl (fun w h => List.mem_cons_of_mem _ (List.mem_append_right _ h)) rfl (Nat.le_of_ble_eq_true rfl) (fun p e s m below meth c A ls X hr hlocks hP hD hS hl => ?_)
  have hx := X.1
  have hb := X.2.1
  have hl : lv_has ls 2 [(0, .ref (q 0)), (1, .int a0)] := hl
  have lk38 := X.2.2.2.2.1 (.fieldLink RX11 38 "BreathOnLoan" "judge" "LBreathOnLoan$Judge;") (inX 579 rfl)
  have lk12 := X.2.2.2.2.1 (.fieldLink RX11 12 "BreathOnLoan" "now" "LBreathOnLoan$State;") (inX 568 rfl)
  dsimp only [VC_X11_smoke_0] at h
  refine lv_iload_n hx hb (dk DX11_smoke 0 rfl) rfl (lv_at hl 1 rfl) ?_
  refine lv_iconst (v := 0) hx hb (dk DX11_smoke 1 rfl) (by decide) ?_
  refine lv_sipush (v := 999) hx hb (dk DX11_smoke 2 rfl) (by decide) ?_
  refine cSi (As := [.int a0, .int 0, .int 999]) (rest := []) ⟨X.1, X.2.1, X.2.2.1, X.2.2.2.1, X.2.2.2.2.1⟩ (m_X11_within (l := l) a0 0 999 h) (va_cwS 3 X.2.2.2.2.1 (gxS 593 327 16 324 rfl rfl rfl rfl) rfl rfl rfl q_X11_within ⟨Nat.le_of_ble_eq_true rfl, Nat.le_of_ble_eq_true rfl⟩) rfl hl.1 rfl (Nat.le_of_ble_eq_true rfl) (dk DX11_smoke 3 rfl) (fun r1 h => ?_)
  refine lv_if_eq (tgt := 26) hx hb (dk DX11_smoke 4 rfl) (by decide) (fun hc => ?_) (fun hc => ?_)
  · have h := h.1 hc
    refine lv_iconst (v := (-1)) hx hb (dk DX11_smoke 12 rfl) (by decide) ?_
    exact W.iret (v := (-1)) hx hb hr (fun t ht hW => ⟨⟨_, _, rfl, h, by rw [ht]; exact hP, va_K.moved hW.alike X.2.2.2.2.2.2.1, hD⟩, hS.F ht⟩) hS.2.2 (dk DX11_smoke 13 rfl)
  · have h := h.2 hc
    refine lv_aload_n hx hb (dk DX11_smoke 5 rfl) rfl (lv_at hl 0 rfl) ?_
    refine gX_0 X hP 4 (by decide) rfl lk38 (dk DX11_smoke 6 rfl) ?_
    refine lv_aload_n hx hb (dk DX11_smoke 7 rfl) rfl (lv_at hl 0 rfl) ?_
    refine gX_0 X hP 0 (by decide) rfl lk12 (dk DX11_smoke 8 rfl) ?_
    refine lv_iload_n hx hb (dk DX11_smoke 9 rfl) rfl (lv_at hl 1 rfl) ?_
    refine cXi (As := [.ref (q 1), .int a0]) (rest := []) X (m_X2_smokeIn_48_1 (l := l) (dC := dC) (dI := dI) (q := q) (cI := cI) (cT := cT) (en := en) (sz := _) a0 S h) (cwV 2 X.2.2.2.2.1 (gxV 628 428 429 95 124 rfl rfl rfl rfl rfl) rfl rfl rfl q_X2_smokeIn_48_1 ⟨Nat.le_of_ble_eq_true rfl, Nat.le_of_ble_eq_true rfl⟩) (rX_48 X hP) hP hD hS rfl hl.1 rfl (Nat.le_of_ble_eq_true rfl) (dk DX11_smoke 10 rfl) (fun r3 S2 H locs h hP hD hS => ?_)
    refine lv_goto (tgt := 27) hx hb (dk DX11_smoke 11 rfl) (by decide) ?_
    exact W.iret (v := r3) hx hb hr (fun t ht hW => ⟨⟨_, _, rfl, h, by rw [ht]; exact hP, va_K.moved hW.alike X.2.2.2.2.2.2.1, hD⟩, hS.F ht⟩) hS.2.2 (dk DX11_smoke 13 rfl)

def ww_X11_cost_0 : List Cond := .code yX11_cost cX11_cost 3 (some .int) :: (WdX ++ WsX)
theorem q_X11_cost_0 : yX11_cost.cls = RX11 ∧ yX11_cost.cls ≠ "java/lang/invoke/MethodHandle" ∧ yX11_cost.cls ≠ "java/lang/invoke/VarHandle" ∧ (parseMethodDescriptor yX11_cost.desc).map (fun d => d.parameters.length) = some 2 := by decide +kernel
def VC_X11_cost_0 (Post : Int32 → XS → Prop) (a0 : Int32) (a1 : Int32) (S : XS) : Prop := VC_X1_has_2 (fun r2 S1 => ((r2 = 0 → Post (-1) S1) ∧ (¬ r2 = 0 → VC_X11_within (fun r3 => ((¬ r3 = 0 → VC_X2_costOf_48_1 (fun r5 S4 => Post r5 S4) a0 a1 S1) ∧ (r3 = 0 → Post (-1) S1))) a1 0 999))) a0 S
set_option maxHeartbeats 4000000 in
set_option maxRecDepth 100000 in
theorem m_X11_cost_0 {l : Launch} {dC : Nat → ClassId} {dI : Nat → Nat → Nat} {q : Nat → Nat} {cI cT : ClassId} {en : Nat → Nat} {sz : Nat} {Post : Int32 → XS → Prop} (a0 : Int32) (a1 : Int32) (S : XS) (h : VC_X11_cost_0 Post a0 a1 S) : Met l yX11_cost ww_X11_cost_0 ({ frames := 5, cells := 0, slots := 0, locals := 137 } : Room) (va_Pc [.ref (q 0), .int a0, .int a1] (preX dC dI q cI cT en S sz)) (va_Qi Post (atX dC dI q cI cT (va_A (wX q cI cT S) sz)) (va_A (wX q cI cT S) sz)) 0 0 (va_A (wX q cI cT S) sz) := by
  refine oX (cc := cX11_cost) (maxL := 3) (ret := (some .int)) (Qc := fun A => va_Qi Post (atX dC dI q cI cT A) A) (own := RX11) (by decide) rfl (fun w h => List.mem_cons_of_mem _ (List.mem_append_right _ h)) rfl (Nat.le_of_ble_eq_true rfl) (fun p e s m below meth c A ls X hr hlocks hP hD hS hl => ?_)
  have hx := X.1
  have hb := X.2.1
  have hl : lv_has ls 3 [(0, .ref (q 0)), (1, .int a0), (2, .int a1)] := hl
  have lk12 := X.2.2.2.2.1 (.fieldLink RX11 12 "BreathOnLoan" "now" "LBreathOnLoan$State;") (inX 568 rfl)
  have lk57 := X.2.2.2.2.1 (.fieldLink RX11 57 "BreathOnLoan$State" "crew" "LBreathOnLoan$Crew;") (inX 592 rfl)
  have lk38 := X.2.2.2.2.1 (.fieldLink RX11 38 "BreathOnLoan" "judge" "LBreathOnLoan$Judge;") (inX 579 rfl)
  dsimp only [VC_X11_cost_0] at h
  refine lv_aload_n hx hb (dk DX11_cost 0 rfl) rfl (lv_at hl 0 rfl) ?_
  refine gX_0 X hP 0 (by decide) rfl lk12 (dk DX11_cost 1 rfl) ?_
  refine gX_1 X hP 0 (by decide) rfl lk57 (dk DX11_cost 2 rfl) ?_
  refine lv_iload_n hx hb (dk DX11_cost 3 rfl) rfl (lv_at hl 1 rfl) ?_
  refine cXi (As := [.int a0]) (rest := []) X (m_X1_has_2 (l := l) (dC := dC) (dI := dI) (q := q) (cI := cI) (cT := cT) (en := en) (sz := _) a0 S h) (cwV 1 X.2.2.2.2.1 (gxV 598 40 41 42 35 rfl rfl rfl rfl rfl) rfl rfl rfl q_X1_has_2 ⟨Nat.le_of_ble_eq_true rfl, Nat.le_of_ble_eq_true rfl⟩) (rX_2 X hP) hP hD hS rfl hl.1 rfl (Nat.le_of_ble_eq_true rfl) (dk DX11_cost 4 rfl) (fun r2 S1 H locs h hP hD hS => ?_)
  refine lv_if_eq (tgt := 25) hx hb (dk DX11_cost 5 rfl) (by decide) (fun hc => ?_) (fun hc => ?_)
  · have h := h.1 hc
    refine lv_iconst (v := (-1)) hx hb (dk DX11_cost 11 rfl) (by decide) ?_
    exact W.iret (v := (-1)) hx hb hr (fun t ht hW => ⟨⟨_, _, rfl, h, by rw [ht]; exact hP, va_K.moved hW.alike X.2.2.2.2.2.2.1, hD⟩, hS.F ht⟩) hS.2.2 (dk DX11_cost 12 rfl)
  · have h := h.2 hc
    refine lv_iload_n hx hb (dk DX11_cost 6 rfl) rfl (lv_at hl 2 rfl) ?_
    refine lv_iconst (v := 0) hx hb (dk DX11_cost 7 rfl) (by decide) ?_
    refine lv_sipush (v := 999) hx hb (dk DX11_cost 8 rfl) (by decide) ?_
    refine cSi (As := [.int a1, .int 0, .int 999]) (rest := []) ⟨X.1, X.2.1, X.2.2.1, X.2.2.2.1, X.2.2.2.2.1⟩ (m_X11_within (l := l) a1 0 999 h) (va_cwS 3 X.2.2.2.2.1 (gxS 593 327 16 324 rfl rfl rfl rfl) rfl rfl rfl q_X11_within ⟨Nat.le_of_ble_eq_true rfl, Nat.le_of_ble_eq_true rfl⟩) rfl hl.1 rfl (Nat.le_of_ble_eq_true rfl) (dk DX11_cost 9 rfl) (fun r3 h => ?_)
    refine lv_if_ne (tgt := 27) hx hb (dk DX11_cost 10 rfl) (by decide) (fun hc => ?_) (fun hc => ?_)
    · have h := h.1 hc
      refine lv_aload_n hx hb (dk DX11_cost 13 rfl) rfl (lv_at hl 0 rfl) ?_
      refine gX_0 X hP 4 (by decide) rfl lk38 (dk DX11_cost 14 rfl) ?_
      refine lv_aload_n hx hb (dk DX11_cost 15 rfl) rfl (lv_at hl 0 rfl) ?_
      refine gX_0 X hP 0 (by decide) rfl lk12 (dk DX11_cost 16 rfl) ?_
      refine lv_iload_n hx hb (dk DX11_cost 17 rfl) rfl (lv_at hl 1 rfl) ?_
      refine lv_iload_n hx hb (dk DX11_cost 18 rfl) rfl (lv_at hl 2 rfl) ?_
      refine cXi (As := [.ref (q 1), .int a0, .int a1]) (rest := []) X (m_X2_costOf_48_1 (l := l) (dC := dC) (dI := dI) (q := q) (cI := cI) (cT := cT) (en := en) (sz := _) a0 a1 S1 h) (cwV 3 X.2.2.2.2.1 (gxV 630 431 432 95 134 rfl rfl rfl rfl rfl) rfl rfl rfl q_X2_costOf_48_1 ⟨Nat.le_of_ble_eq_true rfl, Nat.le_of_ble_eq_true rfl⟩) (rX_48 X hP) hP hD hS rfl hl.1 rfl (Nat.le_of_ble_eq_true rfl) (dk DX11_cost 19 rfl) (fun r5 S4 H locs h hP hD hS => ?_)
      exact W.iret (v := r5) hx hb hr (fun t ht hW => ⟨⟨_, _, rfl, h, by rw [ht]; exact hP, va_K.moved hW.alike X.2.2.2.2.2.2.1, hD⟩, hS.F ht⟩) hS.2.2 (dk DX11_cost 20 rfl)
    · have h := h.2 hc
      refine lv_iconst (v := (-1)) hx hb (dk DX11_cost 11 rfl) (by decide) ?_
      exact W.iret (v := (-1)) hx hb hr (fun t ht hW => ⟨⟨_, _, rfl, h, by rw [ht]; exact hP, va_K.moved hW.alike X.2.2.2.2.2.2.1, hD⟩, hS.F ht⟩) hS.2.2 (dk DX11_cost 12 rfl)

def ww_X11_addBubble_0 : List Cond := .code yX11_addBubble cX11_addBubble 7 (some .int) :: (WdX ++ WsX)
theorem q_X11_addBubble_0 : yX11_addBubble.cls = RX11 ∧ yX11_addBubble.cls ≠ "java/lang/invoke/MethodHandle" ∧ yX11_addBubble.cls ≠ "java/lang/invoke/VarHandle" ∧ (parseMethodDescriptor yX11_addBubble.desc).map (fun d => d.parameters.length) = some 3 := by decide +kernel
def VC_X11_addBubble_0 (Post : Int32 → XS → Prop) (a0 : Int32) (a1 : Int32) (a2 : Int32) (S : XS) : Prop := VC_X5_stateOf_1 (fun r2 S1 => ((¬ r2 = 0 → Post (-1) S1) ∧ (r2 = 0 → VC_X1_has_2 (fun r4 S3 => ((r4 = 0 → Post (-1) S3) ∧ (¬ r4 = 0 → VC_X11_within (fun r5 => ((r5 = 0 → Post (-1) S3) ∧ (¬ r5 = 0 → (((S3.1 356) < 40 → VC_X2_costOf_48_1 (fun r7 S6 => ∀ v8 : Int32, v8 = a2 * r7 → VC_X0_sum_11 (fun r10 S9 => vp_in a1 6 ∧ ((((S9.2.1 3) a1.toNatClampNeg) < (r10 + a2) → Post (-1) S9) ∧ (¬ ((S9.2.1 3) a1.toNatClampNeg) < (r10 + a2) → VC_X0_sum_11 (fun r12 S11 => VC_X2_smokeIn_48_1 (fun r14 S13 => ((r14 < (r12 + a2) → Post (-1) S13) ∧ (¬ r14 < (r12 + a2) → vp_in a1 6 ∧ ((v8 ≤ ((S13.2.1 5) a1.toNatClampNeg) → VC_X0_logBubble_11 (fun S15 => VC_X6_push_15 (fun r17 S16 => VC_X11_giveBeads_0 (fun S18 => VC_X5_stateOf_1 (fun r20 S19 => Post r20 S19) a0 S18) r17 a1 (-v8) S16) 1 a0 S15) a0 a1 a2 S13) ∧ (¬ v8 ≤ ((S13.2.1 5) a1.toNatClampNeg) → Post (-1) S13))))) (S11.1 352) S11) (-1) (-1) (S9.1 352) S9))) (-1) a1 (S6.1 352) S6) a1 (S3.1 352) S3) ∧ (¬ (S3.1 356) < 40 → Post (-1) S3))))) a2 1 9))) a1 S1))) a0 S
set_option maxHeartbeats 4000000 in
set_option maxRecDepth 100000 in
theorem m_X11_addBubble_0 {l : Launch} {dC : Nat → ClassId} {dI : Nat → Nat → Nat} {q : Nat → Nat} {cI cT : ClassId} {en : Nat → Nat} {sz : Nat} {Post : Int32 → XS → Prop} (a0 : Int32) (a1 : Int32) (a2 : Int32) (S : XS) (h : VC_X11_addBubble_0 Post a0 a1 a2 S) : Met l yX11_addBubble ww_X11_addBubble_0 ({ frames := 5, cells := 0, slots := 0, locals := 137 } : Room) (va_Pc [.ref (q 0), .int a0, .int a1, .int a2] (preX dC dI q cI cT en S sz)) (va_Qi Post (atX dC dI q cI cT (va_A (wX q cI cT S) sz)) (va_A (wX q cI cT S) sz)) 0 0 (va_A (wX q cI cT S) sz) := by
  refine oX (cc := cX11_addBubble) (maxL := 7) (ret := (some .int)) (Qc := fun A => va_Qi Post (atX dC dI q cI cT A) A) (own := RX11) (by decide) rfl (fun w h => List.mem_cons_of_mem _ (List.mem_append_right _ h)) rfl (Nat.le_of_ble_eq_true rfl) (fun p e s m below meth c A ls X hr hlocks hP hD hS hl => ?_)
  have hx := X.1
  have hb := X.2.1
  have hl : lv_has ls 7 [(0, .ref (q 0)), (1, .int a0), (2, .int a1), (3, .int a2)] := hl
  have lk12 := X.2.2.2.2.1 (.fieldLink RX11 12 "BreathOnLoan" "now" "LBreathOnLoan$State;") (inX 568 rfl)
  have lk141 := X.2.2.2.2.1 (.fieldLink RX11 141 "BreathOnLoan$State" "bench" "LBreathOnLoan$Bench;") (inX 632 rfl)
  have lk57 := X.2.2.2.2.1 (.fieldLink RX11 57 "BreathOnLoan$State" "crew" "LBreathOnLoan$Crew;") (inX 592 rfl)
  have lk204 := X.2.2.2.2.1 (.fieldLink RX11 204 "BreathOnLoan$Bench" "bubbles" "I") (inX 649 rfl)
  have lk38 := X.2.2.2.2.1 (.fieldLink RX11 38 "BreathOnLoan" "judge" "LBreathOnLoan$Judge;") (inX 579 rfl)
  have lk191 := X.2.2.2.2.1 (.fieldLink RX11 191 "BreathOnLoan$Bench" "hour" "I") (inX 650 rfl)
  have lk182 := X.2.2.2.2.1 (.fieldLink RX11 182 "BreathOnLoan$Crew" "lungs" "[I") (inX 651 rfl)
  have lk188 := X.2.2.2.2.1 (.fieldLink RX11 188 "BreathOnLoan$Crew" "beads" "[I") (inX 647 rfl)
  have lk167 := X.2.2.2.2.1 (.fieldLink RX11 167 "BreathOnLoan$State" "steps" "LBreathOnLoan$Steps;") (inX 636 rfl)
  dsimp only [VC_X11_addBubble_0] at h
  refine lv_aload_n hx hb (dk DX11_addBubble 0 rfl) rfl (lv_at hl 0 rfl) ?_
  refine gX_0 X hP 0 (by decide) rfl lk12 (dk DX11_addBubble 1 rfl) ?_
  refine gX_1 X hP 2 (by decide) rfl lk141 (dk DX11_addBubble 2 rfl) ?_
  refine lv_astore (lv' := [(4, .ref (q 11)), (0, .ref (q 0)), (1, .int a0), (2, .int a1), (3, .int a2)]) hx hb (dk DX11_addBubble 3 rfl) hl (by decide) rfl (fun ls hl => ?_)
  refine lv_aload_n hx hb (dk DX11_addBubble 4 rfl) rfl (lv_at hl 1 rfl) ?_
  refine gX_0 X hP 0 (by decide) rfl lk12 (dk DX11_addBubble 5 rfl) ?_
  refine lv_iload_n hx hb (dk DX11_addBubble 6 rfl) rfl (lv_at hl 2 rfl) ?_
  refine cXi (As := [.int a0]) (rest := []) X (m_X5_stateOf_1 (l := l) (dC := dC) (dI := dI) (q := q) (cI := cI) (cT := cT) (en := en) (sz := _) a0 S h) (cwV 1 X.2.2.2.2.1 (gxV 652 653 654 67 520 rfl rfl rfl rfl rfl) rfl rfl rfl q_X5_stateOf_1 ⟨Nat.le_of_ble_eq_true rfl, Nat.le_of_ble_eq_true rfl⟩) (rX_1 X hP) hP hD hS rfl hl.1 rfl (Nat.le_of_ble_eq_true rfl) (dk DX11_addBubble 7 rfl) (fun r2 S1 H locs h hP hD hS => ?_)
  refine lv_if_ne (tgt := 54) hx hb (dk DX11_addBubble 8 rfl) (by decide) (fun hc => ?_) (fun hc => ?_)
  · have h := h.1 hc
    refine lv_iconst (v := (-1)) hx hb (dk DX11_addBubble 24 rfl) (by decide) ?_
    exact W.iret (v := (-1)) hx hb hr (fun t ht hW => ⟨⟨_, _, rfl, h, by rw [ht]; exact hP, va_K.moved hW.alike X.2.2.2.2.2.2.1, hD⟩, hS.F ht⟩) hS.2.2 (dk DX11_addBubble 25 rfl)
  · have h := h.2 hc
    refine lv_aload_n hx hb (dk DX11_addBubble 9 rfl) rfl (lv_at hl 1 rfl) ?_
    refine gX_0 X hP 0 (by decide) rfl lk12 (dk DX11_addBubble 10 rfl) ?_
    refine gX_1 X hP 0 (by decide) rfl lk57 (dk DX11_addBubble 11 rfl) ?_
    refine lv_iload_n hx hb (dk DX11_addBubble 12 rfl) rfl (lv_at hl 3 rfl) ?_
    refine cXi (As := [.int a1]) (rest := []) X (m_X1_has_2 (l := l) (dC := dC) (dI := dI) (q := q) (cI := cI) (cT := cT) (en := en) (sz := _) a1 S1 h) (cwV 1 X.2.2.2.2.1 (gxV 598 40 41 42 35 rfl rfl rfl rfl rfl) rfl rfl rfl q_X1_has_2 ⟨Nat.le_of_ble_eq_true rfl, Nat.le_of_ble_eq_true rfl⟩) (rX_2 X hP) hP hD hS rfl hl.1 rfl (Nat.le_of_ble_eq_true rfl) (dk DX11_addBubble 13 rfl) (fun r4 S3 H locs h hP hD hS => ?_)
    refine lv_if_eq (tgt := 54) hx hb (dk DX11_addBubble 14 rfl) (by decide) (fun hc => ?_) (fun hc => ?_)
    · have h := h.1 hc
      refine lv_iconst (v := (-1)) hx hb (dk DX11_addBubble 24 rfl) (by decide) ?_
      exact W.iret (v := (-1)) hx hb hr (fun t ht hW => ⟨⟨_, _, rfl, h, by rw [ht]; exact hP, va_K.moved hW.alike X.2.2.2.2.2.2.1, hD⟩, hS.F ht⟩) hS.2.2 (dk DX11_addBubble 25 rfl)
    · have h := h.2 hc
      refine lv_iload_n hx hb (dk DX11_addBubble 15 rfl) rfl (lv_at hl 4 rfl) ?_
      refine lv_iconst (v := 1) hx hb (dk DX11_addBubble 16 rfl) (by decide) ?_
      refine lv_bipush (v := 9) hx hb (dk DX11_addBubble 17 rfl) (by decide) ?_
      refine cSi (As := [.int a2, .int 1, .int 9]) (rest := []) ⟨X.1, X.2.1, X.2.2.1, X.2.2.2.1, X.2.2.2.2.1⟩ (m_X11_within (l := l) a2 1 9 h) (va_cwS 3 X.2.2.2.2.1 (gxS 593 327 16 324 rfl rfl rfl rfl) rfl rfl rfl q_X11_within ⟨Nat.le_of_ble_eq_true rfl, Nat.le_of_ble_eq_true rfl⟩) rfl hl.1 rfl (Nat.le_of_ble_eq_true rfl) (dk DX11_addBubble 18 rfl) (fun r5 h => ?_)
      refine lv_if_eq (tgt := 54) hx hb (dk DX11_addBubble 19 rfl) (by decide) (fun hc => ?_) (fun hc => ?_)
      · have h := h.1 hc
        refine lv_iconst (v := (-1)) hx hb (dk DX11_addBubble 24 rfl) (by decide) ?_
        exact W.iret (v := (-1)) hx hb hr (fun t ht hW => ⟨⟨_, _, rfl, h, by rw [ht]; exact hP, va_K.moved hW.alike X.2.2.2.2.2.2.1, hD⟩, hS.F ht⟩) hS.2.2 (dk DX11_addBubble 25 rfl)
      · have h := h.2 hc
        refine lv_aload hx hb (dk DX11_addBubble 20 rfl) (lv_at hl 0 rfl) ?_
        refine gX_11 X hP 4 (by decide) rfl lk204 (dk DX11_addBubble 21 rfl) ?_
        refine lv_bipush (v := 40) hx hb (dk DX11_addBubble 22 rfl) (by decide) ?_
        refine lv_icmp_lt (tgt := 56) hx hb (dk DX11_addBubble 23 rfl) (by decide) (fun hc => ?_) (fun hc => ?_)
        · have h := h.1 hc
          refine lv_iload_n hx hb (dk DX11_addBubble 26 rfl) rfl (lv_at hl 4 rfl) ?_
          refine lv_aload_n hx hb (dk DX11_addBubble 27 rfl) rfl (lv_at hl 1 rfl) ?_
          refine gX_0 X hP 4 (by decide) rfl lk38 (dk DX11_addBubble 28 rfl) ?_
          refine lv_aload_n hx hb (dk DX11_addBubble 29 rfl) rfl (lv_at hl 1 rfl) ?_
          refine gX_0 X hP 0 (by decide) rfl lk12 (dk DX11_addBubble 30 rfl) ?_
          refine lv_iload_n hx hb (dk DX11_addBubble 31 rfl) rfl (lv_at hl 3 rfl) ?_
          refine lv_aload hx hb (dk DX11_addBubble 32 rfl) (lv_at hl 0 rfl) ?_
          refine gX_11 X hP 0 (by decide) rfl lk191 (dk DX11_addBubble 33 rfl) ?_
          refine cXi (As := [.ref (q 1), .int a1, .int (S3.1 352)]) (rest := [.int a2]) X (m_X2_costOf_48_1 (l := l) (dC := dC) (dI := dI) (q := q) (cI := cI) (cT := cT) (en := en) (sz := _) a1 (S3.1 352) S3 h) (cwV 3 X.2.2.2.2.1 (gxV 630 431 432 95 134 rfl rfl rfl rfl rfl) rfl rfl rfl q_X2_costOf_48_1 ⟨Nat.le_of_ble_eq_true rfl, Nat.le_of_ble_eq_true rfl⟩) (rX_48 X hP) hP hD hS rfl hl.1 rfl (Nat.le_of_ble_eq_true rfl) (dk DX11_addBubble 34 rfl) (fun r7 S6 H locs h hP hD hS => ?_)
          refine lv_imul hx hb (dk DX11_addBubble 35 rfl) ?_
          refine lv_topi (fun v8 ev8 => ?_)
          have h := h v8 ev8
          refine lv_istore (lv' := [(5, .int v8), (4, .ref (q 11)), (0, .ref (q 0)), (1, .int a0), (2, .int a1), (3, .int a2)]) hx hb (dk DX11_addBubble 36 rfl) hl (by decide) rfl (fun ls hl => ?_)
          refine lv_aload hx hb (dk DX11_addBubble 37 rfl) (lv_at hl 1 rfl) ?_
          refine lv_iconst (v := (-1)) hx hb (dk DX11_addBubble 38 rfl) (by decide) ?_
          refine lv_iload_n hx hb (dk DX11_addBubble 39 rfl) rfl (lv_at hl 4 rfl) ?_
          refine lv_aload hx hb (dk DX11_addBubble 40 rfl) (lv_at hl 1 rfl) ?_
          refine gX_11 X hP 0 (by decide) rfl lk191 (dk DX11_addBubble 41 rfl) ?_
          refine cXi (As := [.int (-1), .int a1, .int (S6.1 352)]) (rest := []) X (m_X0_sum_11 (l := l) (dC := dC) (dI := dI) (q := q) (cI := cI) (cT := cT) (en := en) (sz := _) (-1) a1 (S6.1 352) S6 h) (cwV 3 X.2.2.2.2.1 (gxV 655 164 165 146 14 rfl rfl rfl rfl rfl) rfl rfl rfl q_X0_sum_11 ⟨Nat.le_of_ble_eq_true rfl, Nat.le_of_ble_eq_true rfl⟩) (rX_11 X hP) hP hD hS rfl hl.1 rfl (Nat.le_of_ble_eq_true rfl) (dk DX11_addBubble 42 rfl) (fun r10 S9 H locs h hP hD hS => ?_)
          refine lv_iload_n hx hb (dk DX11_addBubble 43 rfl) rfl (lv_at hl 5 rfl) ?_
          refine lv_iadd hx hb (dk DX11_addBubble 44 rfl) ?_
          refine lv_aload_n hx hb (dk DX11_addBubble 45 rfl) rfl (lv_at hl 2 rfl) ?_
          refine gX_0 X hP 0 (by decide) rfl lk12 (dk DX11_addBubble 46 rfl) ?_
          refine gX_1 X hP 0 (by decide) rfl lk57 (dk DX11_addBubble 47 rfl) ?_
          refine gX_2 X hP 1 (by decide) rfl lk182 (dk DX11_addBubble 48 rfl) ?_
          refine lv_iload_n hx hb (dk DX11_addBubble 49 rfl) rfl (lv_at hl 4 rfl) ?_
          obtain ⟨hin, h⟩ := h
          refine ldX_3 X hP hin (dk DX11_addBubble 50 rfl) ?_
          refine lv_icmp_gt (tgt := 156) hx hb (dk DX11_addBubble 51 rfl) (by decide) (fun hc => ?_) (fun hc => ?_)
          · have h := h.1 hc
            refine lv_iconst (v := (-1)) hx hb (dk DX11_addBubble 76 rfl) (by decide) ?_
            exact W.iret (v := (-1)) hx hb hr (fun t ht hW => ⟨⟨_, _, rfl, h, by rw [ht]; exact hP, va_K.moved hW.alike X.2.2.2.2.2.2.1, hD⟩, hS.F ht⟩) hS.2.2 (dk DX11_addBubble 77 rfl)
          · have h := h.2 hc
            refine lv_aload hx hb (dk DX11_addBubble 52 rfl) (lv_at hl 1 rfl) ?_
            refine lv_iconst (v := (-1)) hx hb (dk DX11_addBubble 53 rfl) (by decide) ?_
            refine lv_iconst (v := (-1)) hx hb (dk DX11_addBubble 54 rfl) (by decide) ?_
            refine lv_aload hx hb (dk DX11_addBubble 55 rfl) (lv_at hl 1 rfl) ?_
            refine gX_11 X hP 0 (by decide) rfl lk191 (dk DX11_addBubble 56 rfl) ?_
            refine cXi (As := [.int (-1), .int (-1), .int (S9.1 352)]) (rest := []) X (m_X0_sum_11 (l := l) (dC := dC) (dI := dI) (q := q) (cI := cI) (cT := cT) (en := en) (sz := _) (-1) (-1) (S9.1 352) S9 h) (cwV 3 X.2.2.2.2.1 (gxV 655 164 165 146 14 rfl rfl rfl rfl rfl) rfl rfl rfl q_X0_sum_11 ⟨Nat.le_of_ble_eq_true rfl, Nat.le_of_ble_eq_true rfl⟩) (rX_11 X hP) hP hD hS rfl hl.1 rfl (Nat.le_of_ble_eq_true rfl) (dk DX11_addBubble 57 rfl) (fun r12 S11 H locs h hP hD hS => ?_)
            refine lv_iload_n hx hb (dk DX11_addBubble 58 rfl) rfl (lv_at hl 5 rfl) ?_
            refine lv_iadd hx hb (dk DX11_addBubble 59 rfl) ?_
            refine lv_aload_n hx hb (dk DX11_addBubble 60 rfl) rfl (lv_at hl 2 rfl) ?_
            refine gX_0 X hP 4 (by decide) rfl lk38 (dk DX11_addBubble 61 rfl) ?_
            refine lv_aload_n hx hb (dk DX11_addBubble 62 rfl) rfl (lv_at hl 2 rfl) ?_
            refine gX_0 X hP 0 (by decide) rfl lk12 (dk DX11_addBubble 63 rfl) ?_
            refine lv_aload hx hb (dk DX11_addBubble 64 rfl) (lv_at hl 1 rfl) ?_
            refine gX_11 X hP 0 (by decide) rfl lk191 (dk DX11_addBubble 65 rfl) ?_
            refine cXi (As := [.ref (q 1), .int (S11.1 352)]) (rest := [.int (r12 + a2)]) X (m_X2_smokeIn_48_1 (l := l) (dC := dC) (dI := dI) (q := q) (cI := cI) (cT := cT) (en := en) (sz := _) (S11.1 352) S11 h) (cwV 2 X.2.2.2.2.1 (gxV 628 428 429 95 124 rfl rfl rfl rfl rfl) rfl rfl rfl q_X2_smokeIn_48_1 ⟨Nat.le_of_ble_eq_true rfl, Nat.le_of_ble_eq_true rfl⟩) (rX_48 X hP) hP hD hS rfl hl.1 rfl (Nat.le_of_ble_eq_true rfl) (dk DX11_addBubble 66 rfl) (fun r14 S13 H locs h hP hD hS => ?_)
            refine lv_icmp_gt (tgt := 156) hx hb (dk DX11_addBubble 67 rfl) (by decide) (fun hc => ?_) (fun hc => ?_)
            · have h := h.1 hc
              refine lv_iconst (v := (-1)) hx hb (dk DX11_addBubble 76 rfl) (by decide) ?_
              exact W.iret (v := (-1)) hx hb hr (fun t ht hW => ⟨⟨_, _, rfl, h, by rw [ht]; exact hP, va_K.moved hW.alike X.2.2.2.2.2.2.1, hD⟩, hS.F ht⟩) hS.2.2 (dk DX11_addBubble 77 rfl)
            · have h := h.2 hc
              refine lv_iload hx hb (dk DX11_addBubble 68 rfl) (lv_at hl 0 rfl) ?_
              refine lv_aload_n hx hb (dk DX11_addBubble 69 rfl) rfl (lv_at hl 2 rfl) ?_
              refine gX_0 X hP 0 (by decide) rfl lk12 (dk DX11_addBubble 70 rfl) ?_
              refine gX_1 X hP 0 (by decide) rfl lk57 (dk DX11_addBubble 71 rfl) ?_
              refine gX_2 X hP 3 (by decide) rfl lk188 (dk DX11_addBubble 72 rfl) ?_
              refine lv_iload_n hx hb (dk DX11_addBubble 73 rfl) rfl (lv_at hl 4 rfl) ?_
              obtain ⟨hin, h⟩ := h
              refine ldX_5 X hP hin (dk DX11_addBubble 74 rfl) ?_
              refine lv_icmp_le (tgt := 158) hx hb (dk DX11_addBubble 75 rfl) (by decide) (fun hc => ?_) (fun hc => ?_)
              · have h := h.1 hc
                refine lv_aload hx hb (dk DX11_addBubble 78 rfl) (lv_at hl 1 rfl) ?_
                refine lv_iload_n hx hb (dk DX11_addBubble 79 rfl) rfl (lv_at hl 3 rfl) ?_
                refine lv_iload_n hx hb (dk DX11_addBubble 80 rfl) rfl (lv_at hl 4 rfl) ?_
                refine lv_iload_n hx hb (dk DX11_addBubble 81 rfl) rfl (lv_at hl 5 rfl) ?_
                refine cXv (As := [.int a0, .int a1, .int a2]) (rest := []) X (m_X0_logBubble_11 (l := l) (dC := dC) (dI := dI) (q := q) (cI := cI) (cT := cT) (en := en) (sz := _) a0 a1 a2 S13 h) (cwV 3 X.2.2.2.2.1 (gxV 656 657 658 146 10 rfl rfl rfl rfl rfl) rfl rfl rfl q_X0_logBubble_11 ⟨Nat.le_of_ble_eq_true rfl, Nat.le_of_ble_eq_true rfl⟩) (rX_11 X hP) hP hD hS rfl hl.1 rfl (Nat.le_of_ble_eq_true rfl) (dk DX11_addBubble 82 rfl) (fun S15 H locs h hP hD hS => ?_)
                refine lv_aload_n hx hb (dk DX11_addBubble 83 rfl) rfl (lv_at hl 2 rfl) ?_
                refine gX_0 X hP 0 (by decide) rfl lk12 (dk DX11_addBubble 84 rfl) ?_
                refine gX_1 X hP 3 (by decide) rfl lk167 (dk DX11_addBubble 85 rfl) ?_
                refine lv_iconst (v := 1) hx hb (dk DX11_addBubble 86 rfl) (by decide) ?_
                refine lv_iload_n hx hb (dk DX11_addBubble 87 rfl) rfl (lv_at hl 3 rfl) ?_
                refine cXi (As := [.int 1, .int a0]) (rest := []) X (m_X6_push_15 (l := l) (dC := dC) (dI := dI) (q := q) (cI := cI) (cT := cT) (en := en) (sz := _) 1 a0 S15 h) (cwV 2 X.2.2.2.2.1 (gxV 638 639 640 497 548 rfl rfl rfl rfl rfl) rfl rfl rfl q_X6_push_15 ⟨Nat.le_of_ble_eq_true rfl, Nat.le_of_ble_eq_true rfl⟩) (rX_15 X hP) hP hD hS rfl hl.1 rfl (Nat.le_of_ble_eq_true rfl) (dk DX11_addBubble 88 rfl) (fun r17 S16 H locs h hP hD hS => ?_)
                refine lv_istore (lv' := [(6, .int r17), (5, .int v8), (4, .ref (q 11)), (0, .ref (q 0)), (1, .int a0), (2, .int a1), (3, .int a2)]) hx hb (dk DX11_addBubble 89 rfl) hl (by decide) rfl (fun ls hl => ?_)
                refine lv_aload_n hx hb (dk DX11_addBubble 90 rfl) rfl (lv_at hl 3 rfl) ?_
                refine lv_iload hx hb (dk DX11_addBubble 91 rfl) (lv_at hl 0 rfl) ?_
                refine lv_iload_n hx hb (dk DX11_addBubble 92 rfl) rfl (lv_at hl 5 rfl) ?_
                refine lv_iload hx hb (dk DX11_addBubble 93 rfl) (lv_at hl 1 rfl) ?_
                refine lv_ineg hx hb (dk DX11_addBubble 94 rfl) ?_
                refine cXv (As := [.int r17, .int a1, .int (-v8)]) (rest := []) X (m_X11_giveBeads_0 (l := l) (dC := dC) (dI := dI) (q := q) (cI := cI) (cT := cT) (en := en) (sz := _) r17 a1 (-v8) S16 h) (cwV 3 X.2.2.2.2.1 (gxV 659 660 661 16 646 rfl rfl rfl rfl rfl) rfl rfl rfl q_X11_giveBeads_0 ⟨Nat.le_of_ble_eq_true rfl, Nat.le_of_ble_eq_true rfl⟩) (rX_0 X hP) hP hD hS rfl hl.1 rfl (Nat.le_of_ble_eq_true rfl) (dk DX11_addBubble 95 rfl) (fun S18 H locs h hP hD hS => ?_)
                refine lv_aload_n hx hb (dk DX11_addBubble 96 rfl) rfl (lv_at hl 3 rfl) ?_
                refine gX_0 X hP 0 (by decide) rfl lk12 (dk DX11_addBubble 97 rfl) ?_
                refine lv_iload_n hx hb (dk DX11_addBubble 98 rfl) rfl (lv_at hl 4 rfl) ?_
                refine cXi (As := [.int a0]) (rest := []) X (m_X5_stateOf_1 (l := l) (dC := dC) (dI := dI) (q := q) (cI := cI) (cT := cT) (en := en) (sz := _) a0 S18 h) (cwV 1 X.2.2.2.2.1 (gxV 652 653 654 67 520 rfl rfl rfl rfl rfl) rfl rfl rfl q_X5_stateOf_1 ⟨Nat.le_of_ble_eq_true rfl, Nat.le_of_ble_eq_true rfl⟩) (rX_1 X hP) hP hD hS rfl hl.1 rfl (Nat.le_of_ble_eq_true rfl) (dk DX11_addBubble 99 rfl) (fun r20 S19 H locs h hP hD hS => ?_)
                exact W.iret (v := r20) hx hb hr (fun t ht hW => ⟨⟨_, _, rfl, h, by rw [ht]; exact hP, va_K.moved hW.alike X.2.2.2.2.2.2.1, hD⟩, hS.F ht⟩) hS.2.2 (dk DX11_addBubble 100 rfl)
              · have h := h.2 hc
                refine lv_iconst (v := (-1)) hx hb (dk DX11_addBubble 76 rfl) (by decide) ?_
                exact W.iret (v := (-1)) hx hb hr (fun t ht hW => ⟨⟨_, _, rfl, h, by rw [ht]; exact hP, va_K.moved hW.alike X.2.2.2.2.2.2.1, hD⟩, hS.F ht⟩) hS.2.2 (dk DX11_addBubble 77 rfl)
        · have h := h.2 hc
          refine lv_iconst (v := (-1)) hx hb (dk DX11_addBubble 24 rfl) (by decide) ?_
          exact W.iret (v := (-1)) hx hb hr (fun t ht hW => ⟨⟨_, _, rfl, h, by rw [ht]; exact hP, va_K.moved hW.alike X.2.2.2.2.2.2.1, hD⟩, hS.F ht⟩) hS.2.2 (dk DX11_addBubble 25 rfl)

def ww_X11_blow_0 : List Cond := .code yX11_blow cX11_blow 4 (some .int) :: (WdX ++ WsX)
theorem q_X11_blow_0 : yX11_blow.cls = RX11 ∧ yX11_blow.cls ≠ "java/lang/invoke/MethodHandle" ∧ yX11_blow.cls ≠ "java/lang/invoke/VarHandle" ∧ (parseMethodDescriptor yX11_blow.desc).map (fun d => d.parameters.length) = some 3 := by decide +kernel
def VC_X11_blow_0 (Post : Int32 → XS → Prop) (a0 : Int32) (a1 : Int32) (a2 : Int32) (S : XS) : Prop := VC_X11_addBubble_0 (fun r2 S1 => Post r2 S1) a0 a1 a2 S
set_option maxHeartbeats 4000000 in
set_option maxRecDepth 100000 in
theorem m_X11_blow_0 {l : Launch} {dC : Nat → ClassId} {dI : Nat → Nat → Nat} {q : Nat → Nat} {cI cT : ClassId} {en : Nat → Nat} {sz : Nat} {Post : Int32 → XS → Prop} (a0 : Int32) (a1 : Int32) (a2 : Int32) (S : XS) (h : VC_X11_blow_0 Post a0 a1 a2 S) : Met l yX11_blow ww_X11_blow_0 ({ frames := 6, cells := 0, slots := 0, locals := 163 } : Room) (va_Pc [.ref (q 0), .int a0, .int a1, .int a2] (preX dC dI q cI cT en S sz)) (va_Qi Post (atX dC dI q cI cT (va_A (wX q cI cT S) sz)) (va_A (wX q cI cT S) sz)) 0 0 (va_A (wX q cI cT S) sz) := by
  refine oX (cc := cX11_blow) (maxL := 4) (ret := (some .int)) (Qc := fun A => va_Qi Post (atX dC dI q cI cT A) A) (own := RX11) (by decide) rfl (fun w h => List.mem_cons_of_mem _ (List.mem_append_right _ h)) rfl (Nat.le_of_ble_eq_true rfl) (fun p e s m below meth c A ls X hr hlocks hP hD hS hl => ?_)
  have hx := X.1
  have hb := X.2.1
  have hl : lv_has ls 4 [(0, .ref (q 0)), (1, .int a0), (2, .int a1), (3, .int a2)] := hl
  dsimp only [VC_X11_blow_0] at h
  refine lv_aload_n hx hb (dk DX11_blow 0 rfl) rfl (lv_at hl 0 rfl) ?_
  refine lv_iload_n hx hb (dk DX11_blow 1 rfl) rfl (lv_at hl 1 rfl) ?_
  refine lv_iload_n hx hb (dk DX11_blow 2 rfl) rfl (lv_at hl 2 rfl) ?_
  refine lv_iload_n hx hb (dk DX11_blow 3 rfl) rfl (lv_at hl 3 rfl) ?_
  refine cXi (As := [.int a0, .int a1, .int a2]) (rest := []) X (m_X11_addBubble_0 (l := l) (dC := dC) (dI := dI) (q := q) (cI := cI) (cT := cT) (en := en) (sz := _) a0 a1 a2 S h) (cwV 3 X.2.2.2.2.1 (gxV 663 664 665 16 662 rfl rfl rfl rfl rfl) rfl rfl rfl q_X11_addBubble_0 ⟨Nat.le_of_ble_eq_true rfl, Nat.le_of_ble_eq_true rfl⟩) (rX_0 X hP) hP hD hS rfl hl.1 rfl (Nat.le_of_ble_eq_true rfl) (dk DX11_blow 4 rfl) (fun r2 S1 H locs h hP hD hS => ?_)
  exact W.iret (v := r2) hx hb hr (fun t ht hW => ⟨⟨_, _, rfl, h, by rw [ht]; exact hP, va_K.moved hW.alike X.2.2.2.2.2.2.1, hD⟩, hS.F ht⟩) hS.2.2 (dk DX11_blow 5 rfl)

def ww_X11_addShares_0 : List Cond := .code yX11_addShares cX11_addShares 4 (some .int) :: (WdX ++ WsX)
theorem q_X11_addShares_0 : yX11_addShares.cls = RX11 ∧ yX11_addShares.cls ≠ "java/lang/invoke/MethodHandle" ∧ yX11_addShares.cls ≠ "java/lang/invoke/VarHandle" ∧ (parseMethodDescriptor yX11_addShares.desc).map (fun d => d.parameters.length) = some 1 := by decide +kernel
abbrev Hd_X11_addShares_0 : Type := (Int32 × Int32 × Int32) ⊕ (Int32 × Int32 × Int32 × Int32 × Int32)
def B_X11_addShares_0 (Post : Int32 → XS → Prop) (K : Hd_X11_addShares_0 → XS → Prop) : Hd_X11_addShares_0 → XS → Prop
  | (.inl (x1, x2, x3)), S => (((S.1 64) ≤ x3 → Post x2 S) ∧ (¬ (S.1 64) ≤ x3 → VC_X0_sum_11 (fun r2 S1 => ((¬ r2 = 0 → VC_X2_shareOf_48_1 (fun r4 S3 => K (.inr (x1, x2, x3, x3, r4)) S3) x1 x3 S1) ∧ (r2 = 0 → K (.inr (x1, x2, x3, x3, 0)) S1))) x1 x3 (-1) S))
  | (.inr (x1, x2, x3, t1, t2)), S => vp_in t1 6 ∧ ∀ S5 : XS, S5 = xF S 59 (upd (S.2.1 59) t1.toNatClampNeg t2) → vp_in x3 6 ∧ ∀ v6 : Int32, v6 = x2 + ((S5.2.1 59) x3.toNatClampNeg) → ∀ v7 : Int32, v7 = x3 + 1 → K (.inl (x1, v6, v7)) S5
def VC_X11_addShares_0 (Post : Int32 → XS → Prop) (a0 : Int32) (S : XS) : Prop := ∀ K : Hd_X11_addShares_0 → XS → Prop, (∀ h S, B_X11_addShares_0 Post K h S → K h S) → K (.inl (a0, 0, 0)) S
set_option maxHeartbeats 4000000 in
set_option maxRecDepth 100000 in
theorem h_X11_addShares_0_0 {p : Program} {l : Launch} {e : Env} {s : State} {m : MethodId} {below : List Frame} {meth : Method} {c : Code} {dC : Nat → ClassId} {dI : Nat → Nat → Nat} {q : Nat → Nat} {cI cT : ClassId} {en : Nat → Nat} {A : Nat → Prop} {args : Array Value} {Post : Int32 → XS → Prop} {K : Hd_X11_addShares_0 → XS → Prop} (X : XX p s m args c cX11_addShares 4 ww_X11_addShares_0 RX11 dC dI cI cT en A) (hr : meth.sig.returnType = (some .int)) (hlocks : meth.locks = false) (hK0 : ∀ (x1 : Int32) (x2 : Int32) (x3 : Int32) (S : XS), K (.inl (x1, x2, x3)) S → ∀ (H : Heap) (locs : List Loc), va_P (dC, dI) vwCl (wX q cI cT S) H → va_D A (wX q cI cT S) → va_S A s.heap H locs → ∀ ls : Array Slot, lv_has ls 4 [(0, .ref (q 0)), (1, .int x1), (2, .int x2), (3, .int x3)] → W p l e (headSpec ww_X11_addShares_0 ({ frames := 5, cells := 0, slots := 0, locals := 138 } : Room)).room s m args below meth c H locs 0 0 (MQ below (va_Qi Post (atX dC dI q cI cT A) A) args s 0 0 A) (F0 m 4 ls [])) (hK1 : ∀ (x1 : Int32) (x2 : Int32) (x3 : Int32) (t1 : Int32) (t2 : Int32) (S : XS), K (.inr (x1, x2, x3, t1, t2)) S → ∀ (H : Heap) (locs : List Loc), va_P (dC, dI) vwCl (wX q cI cT S) H → va_D A (wX q cI cT S) → va_S A s.heap H locs → ∀ ls : Array Slot, lv_has ls 4 [(0, .ref (q 0)), (1, .int x1), (2, .int x2), (3, .int x3)] → W p l e (headSpec ww_X11_addShares_0 ({ frames := 5, cells := 0, slots := 0, locals := 138 } : Room)).room s m args below meth c H locs 0 0 (MQ below (va_Qi Post (atX dC dI q cI cT A) A) args s 0 0 A) (F0 m 56 ls [.int t2, .int t1, .ref (q 59)])) (x1 : Int32) (x2 : Int32) (x3 : Int32) (S : XS) (h : B_X11_addShares_0 Post K (.inl (x1, x2, x3)) S) : ∀ (H : Heap) (locs : List Loc), va_P (dC, dI) vwCl (wX q cI cT S) H → va_D A (wX q cI cT S) → va_S A s.heap H locs → ∀ ls : Array Slot, lv_has ls 4 [(0, .ref (q 0)), (1, .int x1), (2, .int x2), (3, .int x3)] → W p l e (headSpec ww_X11_addShares_0 ({ frames := 5, cells := 0, slots := 0, locals := 138 } : Room)).room s m args below meth c H locs 0 0 (MQ below (va_Qi Post (atX dC dI q cI cT A) A) args s 0 0 A) (F0 m 4 ls []) := by
  have hx := X.1
  have hb := X.2.1
  intro H locs hP hD hS ls hl
  have lk12 := X.2.2.2.2.1 (.fieldLink RX11 12 "BreathOnLoan" "now" "LBreathOnLoan$State;") (inX 568 rfl)
  have lk57 := X.2.2.2.2.1 (.fieldLink RX11 57 "BreathOnLoan$State" "crew" "LBreathOnLoan$Crew;") (inX 592 rfl)
  have lk256 := X.2.2.2.2.1 (.fieldLink RX11 256 "BreathOnLoan$Crew" "count" "I") (inX 672 rfl)
  have lk49 := X.2.2.2.2.1 (.fieldLink RX11 49 "BreathOnLoan" "shares" "[I") (inX 583 rfl)
  have lk141 := X.2.2.2.2.1 (.fieldLink RX11 141 "BreathOnLoan$State" "bench" "LBreathOnLoan$Bench;") (inX 632 rfl)
  have lk38 := X.2.2.2.2.1 (.fieldLink RX11 38 "BreathOnLoan" "judge" "LBreathOnLoan$Judge;") (inX 579 rfl)
  dsimp only [B_X11_addShares_0] at h
  refine lv_iload_n hx hb (dk DX11_addShares 4 rfl) rfl (lv_at hl 3 rfl) ?_
  refine lv_aload_n hx hb (dk DX11_addShares 5 rfl) rfl (lv_at hl 0 rfl) ?_
  refine gX_0 X hP 0 (by decide) rfl lk12 (dk DX11_addShares 6 rfl) ?_
  refine gX_1 X hP 0 (by decide) rfl lk57 (dk DX11_addShares 7 rfl) ?_
  refine gX_2 X hP 0 (by decide) rfl lk256 (dk DX11_addShares 8 rfl) ?_
  refine lv_icmp_ge (tgt := 72) hx hb (dk DX11_addShares 9 rfl) (by decide) (fun hc => ?_) (fun hc => ?_)
  · have h := h.1 hc
    refine lv_iload_n hx hb (dk DX11_addShares 40 rfl) rfl (lv_at hl 2 rfl) ?_
    exact W.iret (v := x2) hx hb hr (fun t ht hW => ⟨⟨_, _, rfl, h, by rw [ht]; exact hP, va_K.moved hW.alike X.2.2.2.2.2.2.1, hD⟩, hS.F ht⟩) hS.2.2 (dk DX11_addShares 41 rfl)
  · have h := h.2 hc
    refine lv_aload_n hx hb (dk DX11_addShares 10 rfl) rfl (lv_at hl 0 rfl) ?_
    refine gX_0 X hP 6 (by decide) rfl lk49 (dk DX11_addShares 11 rfl) ?_
    refine lv_iload_n hx hb (dk DX11_addShares 12 rfl) rfl (lv_at hl 3 rfl) ?_
    refine lv_aload_n hx hb (dk DX11_addShares 13 rfl) rfl (lv_at hl 0 rfl) ?_
    refine gX_0 X hP 0 (by decide) rfl lk12 (dk DX11_addShares 14 rfl) ?_
    refine gX_1 X hP 2 (by decide) rfl lk141 (dk DX11_addShares 15 rfl) ?_
    refine lv_iload_n hx hb (dk DX11_addShares 16 rfl) rfl (lv_at hl 1 rfl) ?_
    refine lv_iload_n hx hb (dk DX11_addShares 17 rfl) rfl (lv_at hl 3 rfl) ?_
    refine lv_iconst (v := (-1)) hx hb (dk DX11_addShares 18 rfl) (by decide) ?_
    refine cXi (As := [.int x1, .int x3, .int (-1)]) (rest := [.int x3, .ref (q 59)]) X (m_X0_sum_11 (l := l) (dC := dC) (dI := dI) (q := q) (cI := cI) (cT := cT) (en := en) (sz := _) x1 x3 (-1) S h) (cwV 3 X.2.2.2.2.1 (gxV 655 164 165 146 14 rfl rfl rfl rfl rfl) rfl rfl rfl q_X0_sum_11 ⟨Nat.le_of_ble_eq_true rfl, Nat.le_of_ble_eq_true rfl⟩) (rX_11 X hP) hP hD hS rfl hl.1 rfl (Nat.le_of_ble_eq_true rfl) (dk DX11_addShares 19 rfl) (fun r2 S1 H locs h hP hD hS => ?_)
    refine lv_if_ne (tgt := 43) hx hb (dk DX11_addShares 20 rfl) (by decide) (fun hc => ?_) (fun hc => ?_)
    · have h := h.1 hc
      refine lv_aload_n hx hb (dk DX11_addShares 23 rfl) rfl (lv_at hl 0 rfl) ?_
      refine gX_0 X hP 4 (by decide) rfl lk38 (dk DX11_addShares 24 rfl) ?_
      refine lv_aload_n hx hb (dk DX11_addShares 25 rfl) rfl (lv_at hl 0 rfl) ?_
      refine gX_0 X hP 0 (by decide) rfl lk12 (dk DX11_addShares 26 rfl) ?_
      refine lv_iload_n hx hb (dk DX11_addShares 27 rfl) rfl (lv_at hl 1 rfl) ?_
      refine lv_iload_n hx hb (dk DX11_addShares 28 rfl) rfl (lv_at hl 3 rfl) ?_
      refine cXi (As := [.ref (q 1), .int x1, .int x3]) (rest := [.int x3, .ref (q 59)]) X (m_X2_shareOf_48_1 (l := l) (dC := dC) (dI := dI) (q := q) (cI := cI) (cT := cT) (en := en) (sz := _) x1 x3 S1 h) (cwV 3 X.2.2.2.2.1 (gxV 673 674 675 95 166 rfl rfl rfl rfl rfl) rfl rfl rfl q_X2_shareOf_48_1 ⟨Nat.le_of_ble_eq_true rfl, Nat.le_of_ble_eq_true rfl⟩) (rX_48 X hP) hP hD hS rfl hl.1 rfl (Nat.le_of_ble_eq_true rfl) (dk DX11_addShares 29 rfl) (fun r4 S3 H locs h hP hD hS => ?_)
      exact hK1 x1 x2 x3 x3 r4 S3 h _ _ hP hD hS ls (lv_sub hl [0, 1, 2, 3] rfl)
    · have h := h.2 hc
      refine lv_iconst (v := 0) hx hb (dk DX11_addShares 21 rfl) (by decide) ?_
      refine lv_goto (tgt := 56) hx hb (dk DX11_addShares 22 rfl) (by decide) ?_
      exact hK1 x1 x2 x3 x3 0 S1 h _ _ hP hD hS ls (lv_sub hl [0, 1, 2, 3] rfl)
set_option maxHeartbeats 4000000 in
set_option maxRecDepth 100000 in
theorem h_X11_addShares_0_1 {p : Program} {l : Launch} {e : Env} {s : State} {m : MethodId} {below : List Frame} {meth : Method} {c : Code} {dC : Nat → ClassId} {dI : Nat → Nat → Nat} {q : Nat → Nat} {cI cT : ClassId} {en : Nat → Nat} {A : Nat → Prop} {args : Array Value} {Post : Int32 → XS → Prop} {K : Hd_X11_addShares_0 → XS → Prop} (X : XX p s m args c cX11_addShares 4 ww_X11_addShares_0 RX11 dC dI cI cT en A) (hr : meth.sig.returnType = (some .int)) (hlocks : meth.locks = false) (hK0 : ∀ (x1 : Int32) (x2 : Int32) (x3 : Int32) (S : XS), K (.inl (x1, x2, x3)) S → ∀ (H : Heap) (locs : List Loc), va_P (dC, dI) vwCl (wX q cI cT S) H → va_D A (wX q cI cT S) → va_S A s.heap H locs → ∀ ls : Array Slot, lv_has ls 4 [(0, .ref (q 0)), (1, .int x1), (2, .int x2), (3, .int x3)] → W p l e (headSpec ww_X11_addShares_0 ({ frames := 5, cells := 0, slots := 0, locals := 138 } : Room)).room s m args below meth c H locs 0 0 (MQ below (va_Qi Post (atX dC dI q cI cT A) A) args s 0 0 A) (F0 m 4 ls [])) (hK1 : ∀ (x1 : Int32) (x2 : Int32) (x3 : Int32) (t1 : Int32) (t2 : Int32) (S : XS), K (.inr (x1, x2, x3, t1, t2)) S → ∀ (H : Heap) (locs : List Loc), va_P (dC, dI) vwCl (wX q cI cT S) H → va_D A (wX q cI cT S) → va_S A s.heap H locs → ∀ ls : Array Slot, lv_has ls 4 [(0, .ref (q 0)), (1, .int x1), (2, .int x2), (3, .int x3)] → W p l e (headSpec ww_X11_addShares_0 ({ frames := 5, cells := 0, slots := 0, locals := 138 } : Room)).room s m args below meth c H locs 0 0 (MQ below (va_Qi Post (atX dC dI q cI cT A) A) args s 0 0 A) (F0 m 56 ls [.int t2, .int t1, .ref (q 59)])) (x1 : Int32) (x2 : Int32) (x3 : Int32) (t1 : Int32) (t2 : Int32) (S : XS) (h : B_X11_addShares_0 Post K (.inr (x1, x2, x3, t1, t2)) S) : ∀ (H : Heap) (locs : List Loc), va_P (dC, dI) vwCl (wX q cI cT S) H → va_D A (wX q cI cT S) → va_S A s.heap H locs → ∀ ls : Array Slot, lv_has ls 4 [(0, .ref (q 0)), (1, .int x1), (2, .int x2), (3, .int x3)] → W p l e (headSpec ww_X11_addShares_0 ({ frames := 5, cells := 0, slots := 0, locals := 138 } : Room)).room s m args below meth c H locs 0 0 (MQ below (va_Qi Post (atX dC dI q cI cT A) A) args s 0 0 A) (F0 m 56 ls [.int t2, .int t1, .ref (q 59)]) := by
  have hx := X.1
  have hb := X.2.1
  intro H locs hP hD hS ls hl
  have lk12 := X.2.2.2.2.1 (.fieldLink RX11 12 "BreathOnLoan" "now" "LBreathOnLoan$State;") (inX 568 rfl)
  have lk57 := X.2.2.2.2.1 (.fieldLink RX11 57 "BreathOnLoan$State" "crew" "LBreathOnLoan$Crew;") (inX 592 rfl)
  have lk256 := X.2.2.2.2.1 (.fieldLink RX11 256 "BreathOnLoan$Crew" "count" "I") (inX 672 rfl)
  have lk49 := X.2.2.2.2.1 (.fieldLink RX11 49 "BreathOnLoan" "shares" "[I") (inX 583 rfl)
  have lk141 := X.2.2.2.2.1 (.fieldLink RX11 141 "BreathOnLoan$State" "bench" "LBreathOnLoan$Bench;") (inX 632 rfl)
  have lk38 := X.2.2.2.2.1 (.fieldLink RX11 38 "BreathOnLoan" "judge" "LBreathOnLoan$Judge;") (inX 579 rfl)
  dsimp only [B_X11_addShares_0] at h
  obtain ⟨hin, h⟩ := h
  refine stX_59 X hP hD hS hin (dk DX11_addShares 30 rfl) (fun S5 eS5 H locs hP hD hS => ?_)
  have h := h S5 eS5
  refine lv_iload_n hx hb (dk DX11_addShares 31 rfl) rfl (lv_at hl 2 rfl) ?_
  refine lv_aload_n hx hb (dk DX11_addShares 32 rfl) rfl (lv_at hl 0 rfl) ?_
  refine gX_0 X hP 6 (by decide) rfl lk49 (dk DX11_addShares 33 rfl) ?_
  refine lv_iload_n hx hb (dk DX11_addShares 34 rfl) rfl (lv_at hl 3 rfl) ?_
  obtain ⟨hin, h⟩ := h
  refine ldX_59 X hP hin (dk DX11_addShares 35 rfl) ?_
  refine lv_iadd hx hb (dk DX11_addShares 36 rfl) ?_
  refine lv_topi (fun v6 ev6 => ?_)
  have h := h v6 ev6
  refine lv_istore_n (lv' := [(2, .int v6), (0, .ref (q 0)), (1, .int x1), (3, .int x3)]) hx hb (dk DX11_addShares 37 rfl) rfl hl (by decide) rfl (fun ls hl => ?_)
  obtain ⟨v7, ev7⟩ : ∃ y : Int32, y = x3 + 1 := ⟨_, rfl⟩
  have h := h v7 ev7
  refine lv_iinc (v := v7) (lv' := [(3, .int v7), (2, .int v6), (0, .ref (q 0)), (1, .int x1)]) hx hb (dk DX11_addShares 38 rfl) hl (k := 3) rfl (by rw [ev7]; rfl) (by decide) rfl (fun ls hl => ?_)
  refine lv_goto (tgt := 4) hx hb (dk DX11_addShares 39 rfl) (by decide) ?_
  exact hK0 x1 v6 v7 S5 h _ _ hP hD hS ls (lv_sub hl [2, 3, 1, 0] rfl)
set_option maxHeartbeats 4000000 in
set_option maxRecDepth 100000 in
theorem m_X11_addShares_0 {l : Launch} {dC : Nat → ClassId} {dI : Nat → Nat → Nat} {q : Nat → Nat} {cI cT : ClassId} {en : Nat → Nat} {sz : Nat} {Post : Int32 → XS → Prop} (a0 : Int32) (S : XS) (h : VC_X11_addShares_0 Post a0 S) : Met l yX11_addShares ww_X11_addShares_0 ({ frames := 5, cells := 0, slots := 0, locals := 138 } : Room) (va_Pc [.ref (q 0), .int a0] (preX dC dI q cI cT en S sz)) (va_Qi Post (atX dC dI q cI cT (va_A (wX q cI cT S) sz)) (va_A (wX q cI cT S) sz)) 0 0 (va_A (wX q cI cT S) sz) := by
  refine oX (cc := cX11_addShares) (maxL := 4) (ret := (some .int)) (Qc := fun A => va_Qi Post (atX dC dI q cI cT A) A) (own := RX11) (by decide) rfl (fun w h => List.mem_cons_of_mem _ (List.mem_append_right _ h)) rfl (Nat.le_of_ble_eq_true rfl) (fun p e s m below meth c A ls X hr hlocks hP hD hS hl => ?_)
  have hx := X.1
  have hb := X.2.1
  have hl : lv_has ls 4 [(0, .ref (q 0)), (1, .int a0)] := hl
  have lk12 := X.2.2.2.2.1 (.fieldLink RX11 12 "BreathOnLoan" "now" "LBreathOnLoan$State;") (inX 568 rfl)
  have lk57 := X.2.2.2.2.1 (.fieldLink RX11 57 "BreathOnLoan$State" "crew" "LBreathOnLoan$Crew;") (inX 592 rfl)
  have lk256 := X.2.2.2.2.1 (.fieldLink RX11 256 "BreathOnLoan$Crew" "count" "I") (inX 672 rfl)
  have lk49 := X.2.2.2.2.1 (.fieldLink RX11 49 "BreathOnLoan" "shares" "[I") (inX 583 rfl)
  have lk141 := X.2.2.2.2.1 (.fieldLink RX11 141 "BreathOnLoan$State" "bench" "LBreathOnLoan$Bench;") (inX 632 rfl)
  have lk38 := X.2.2.2.2.1 (.fieldLink RX11 38 "BreathOnLoan" "judge" "LBreathOnLoan$Judge;") (inX 579 rfl)
  generalize hargs : ([.ref (q 0), .int a0] : List Value).toArray = args at X ⊢
  have h := h (fun hd S => match hd with | (.inl (x1, x2, x3)) => ∀ (H : Heap) (locs : List Loc), va_P (dC, dI) vwCl (wX q cI cT S) H → va_D A (wX q cI cT S) → va_S A s.heap H locs → ∀ ls : Array Slot, lv_has ls 4 [(0, .ref (q 0)), (1, .int x1), (2, .int x2), (3, .int x3)] → W p l e (headSpec ww_X11_addShares_0 ({ frames := 5, cells := 0, slots := 0, locals := 138 } : Room)).room s m args below meth c H locs 0 0 (MQ below (va_Qi Post (atX dC dI q cI cT A) A) args s 0 0 A) (F0 m 4 ls []) | (.inr (x1, x2, x3, t1, t2)) => ∀ (H : Heap) (locs : List Loc), va_P (dC, dI) vwCl (wX q cI cT S) H → va_D A (wX q cI cT S) → va_S A s.heap H locs → ∀ ls : Array Slot, lv_has ls 4 [(0, .ref (q 0)), (1, .int x1), (2, .int x2), (3, .int x3)] → W p l e (headSpec ww_X11_addShares_0 ({ frames := 5, cells := 0, slots := 0, locals := 138 } : Room)).room s m args below meth c H locs 0 0 (MQ below (va_Qi Post (atX dC dI q cI cT A) A) args s 0 0 A) (F0 m 56 ls [.int t2, .int t1, .ref (q 59)])) ?_
  · skip
    refine lv_iconst (v := 0) hx hb (dk DX11_addShares 0 rfl) (by decide) ?_
    refine lv_istore_n (lv' := [(2, .int 0), (0, .ref (q 0)), (1, .int a0)]) hx hb (dk DX11_addShares 1 rfl) rfl hl (by decide) rfl (fun ls hl => ?_)
    refine lv_iconst (v := 0) hx hb (dk DX11_addShares 2 rfl) (by decide) ?_
    refine lv_istore_n (lv' := [(3, .int 0), (2, .int 0), (0, .ref (q 0)), (1, .int a0)]) hx hb (dk DX11_addShares 3 rfl) rfl hl (by decide) rfl (fun ls hl => ?_)
    exact h _ _ hP hD hS ls (lv_sub hl [2, 3, 1, 0] rfl)
  · rintro (⟨x1, x2, x3⟩ | ⟨x1, x2, x3, t1, t2⟩) S hB
    · exact h_X11_addShares_0_0 X hr hlocks (hK0 := fun _ _ _ _ h => h) (hK1 := fun _ _ _ _ _ _ h => h) x1 x2 x3 S hB
    · exact h_X11_addShares_0_1 X hr hlocks (hK0 := fun _ _ _ _ h => h) (hK1 := fun _ _ _ _ _ _ h => h) x1 x2 x3 t1 t2 S hB

