-- X4_offer_51 X4_tryTeams_51_1 X4_choose_51_1 X4_answer_51
def ww_X4_offer_51 : List Cond := .code yX4_offer cX4_offer 9 none :: (WdX ++ WsX)
theorem q_X4_offer_51 : yX4_offer.cls = RX4 ∧ yX4_offer.cls ≠ "java/lang/invoke/MethodHandle" ∧ yX4_offer.cls ≠ "java/lang/invoke/VarHandle" ∧ (parseMethodDescriptor yX4_offer.desc).map (fun d => d.parameters.length) = some 3 := by decide +kernel
abbrev Hd_X4_offer_51 : Type := (Int32 × Int32 × Int32 × Int32)
def B_X4_offer_51 (Post : XS → Prop) (K : Hd_X4_offer_51 → XS → Prop) : Hd_X4_offer_51 → XS → Prop
  | (x1, x2, x3, x4), S => ((((1 : Int32) <<< ((S.1 1633) &&& 31)) ≤ x4 → Post S) ∧ (¬ ((1 : Int32) <<< ((S.1 1633) &&& 31)) ≤ x4 → ((((x4 >>> (x1 &&& 31)) &&& 1) = 0 → ∀ v1 : Int32, v1 = x4 + 1 → K (x1, x2, x3, v1) S) ∧ (¬ ((x4 >>> (x1 &&& 31)) &&& 1) = 0 → VC_X4_cellOf (fun r2 => VC_X4_cellOf (fun r3 => vp_in r3 400 ∧ ∀ v4 : Int32, v4 = (S.1 1635) + ((S.2.1 55) r3.toNatClampNeg) → vp_in r3 400 ∧ ∀ v5 : Int32, v5 = 1 + ((S.2.1 56) r3.toNatClampNeg) → VC_X4_isBetter_51 (fun r7 S6 => ((r7 = 0 → ∀ v8 : Int32, v8 = x4 + 1 → K (x1, x2, x3, v8) S6) ∧ (¬ r7 = 0 → vp_in r2 400 ∧ ∀ S9 : XS, S9 = xF S6 55 (upd (S6.2.1 55) r2.toNatClampNeg v4) → vp_in r2 400 ∧ ∀ S10 : XS, S10 = xF S9 56 (upd (S9.2.1 56) r2.toNatClampNeg v5) → vp_in r2 400 ∧ ∀ S11 : XS, S11 = xF S10 57 (upd (S10.2.1 57) r2.toNatClampNeg x3) → vp_in r2 400 ∧ ∀ S12 : XS, S12 = xF S11 58 (upd (S11.2.1 58) r2.toNatClampNeg r3) → ∀ v13 : Int32, v13 = x4 + 1 → K (x1, x2, x3, v13) S12))) r2 v4 v5 x3 S) (x4 &&& (((1 : Int32) <<< (x1 &&& 31)) ^^^ (-1))) ((S.1 1634) + 1)) x4 x2))))
def VC_X4_offer_51 (Post : XS → Prop) (a0 : Int32) (a1 : Int32) (a2 : Int32) (S : XS) : Prop := ∀ K : Hd_X4_offer_51 → XS → Prop, (∀ h S, B_X4_offer_51 Post K h S → K h S) → K (a0, a1, a2, 0) S
set_option maxHeartbeats 4000000 in
set_option maxRecDepth 100000 in
theorem h_X4_offer_51_0 {p : Program} {l : Launch} {e : Env} {s : State} {m : MethodId} {below : List Frame} {meth : Method} {c : Code} {dC : Nat → ClassId} {dI : Nat → Nat → Nat} {q : Nat → Nat} {cI cT : ClassId} {en : Nat → Nat} {A : Nat → Prop} {args : Array Value} {Post : XS → Prop} {K : Hd_X4_offer_51 → XS → Prop} (X : XX p s m args c cX4_offer 9 ww_X4_offer_51 RX4 dC dI cI cT en A) (hr : meth.sig.returnType = none) (hlocks : meth.locks = false) (hK0 : ∀ (x1 : Int32) (x2 : Int32) (x3 : Int32) (x4 : Int32) (S : XS), K (x1, x2, x3, x4) S → ∀ (H : Heap) (locs : List Loc), va_P (dC, dI) vwCl (wX q cI cT S) H → va_D A (wX q cI cT S) → va_S A s.heap H locs → ∀ ls : Array Slot, lv_has ls 9 [(0, .ref (q 51)), (1, .int x1), (2, .int x2), (3, .int x3), (4, .int x4)] → W p l e (headSpec ww_X4_offer_51 ({ frames := 1, cells := 0, slots := 0, locals := 24 } : Room)).room s m args below meth c H locs 0 0 (MQ below (va_Qv Post (atX dC dI q cI cT A) A) args s 0 0 A) (F0 m 3 ls [])) (x1 : Int32) (x2 : Int32) (x3 : Int32) (x4 : Int32) (S : XS) (h : B_X4_offer_51 Post K (x1, x2, x3, x4) S) : ∀ (H : Heap) (locs : List Loc), va_P (dC, dI) vwCl (wX q cI cT S) H → va_D A (wX q cI cT S) → va_S A s.heap H locs → ∀ ls : Array Slot, lv_has ls 9 [(0, .ref (q 51)), (1, .int x1), (2, .int x2), (3, .int x3), (4, .int x4)] → W p l e (headSpec ww_X4_offer_51 ({ frames := 1, cells := 0, slots := 0, locals := 24 } : Room)).room s m args below meth c H locs 0 0 (MQ below (va_Qv Post (atX dC dI q cI cT A) A) args s 0 0 A) (F0 m 3 ls []) := by
  have hx := X.1
  have hb := X.2.1
  intro H locs hP hD hS ls hl
  have lk75 := X.2.2.2.2.1 (.fieldLink RX4 75 "BreathOnLoan$Planner" "works" "I") (inX 436 rfl)
  have lk117 := X.2.2.2.2.1 (.fieldLink RX4 117 "BreathOnLoan$Planner" "runEnd" "I") (inX 446 rfl)
  have lk114 := X.2.2.2.2.1 (.fieldLink RX4 114 "BreathOnLoan$Planner" "runLeft" "I") (inX 445 rfl)
  have lk21 := X.2.2.2.2.1 (.fieldLink RX4 21 "BreathOnLoan$Planner" "left" "[I") (inX 416 rfl)
  have lk24 := X.2.2.2.2.1 (.fieldLink RX4 24 "BreathOnLoan$Planner" "count" "[I") (inX 417 rfl)
  have lk27 := X.2.2.2.2.1 (.fieldLink RX4 27 "BreathOnLoan$Planner" "pick" "[I") (inX 418 rfl)
  have lk30 := X.2.2.2.2.1 (.fieldLink RX4 30 "BreathOnLoan$Planner" "after" "[I") (inX 419 rfl)
  dsimp only [B_X4_offer_51] at h
  refine lv_iload hx hb (dk DX4_offer 2 rfl) (lv_at hl 4 rfl) ?_
  refine lv_iconst (v := 1) hx hb (dk DX4_offer 3 rfl) (by decide) ?_
  refine lv_aload_n hx hb (dk DX4_offer 4 rfl) rfl (lv_at hl 0 rfl) ?_
  refine gX_51 X hP 1 (by decide) rfl lk75 (dk DX4_offer 5 rfl) ?_
  refine lv_ishl hx hb (dk DX4_offer 6 rfl) ?_
  refine lv_icmp_ge (tgt := 130) hx hb (dk DX4_offer 7 rfl) (by decide) (fun hc => ?_) (fun hc => ?_)
  · have h := h.1 hc
    exact W.vret hx hb hr (fun t ht hW => ⟨⟨_, rfl, h, by rw [ht]; exact hP, va_K.moved hW.alike X.2.2.2.2.2.2.1, hD⟩, hS.F ht⟩) hS.2.2 (dk DX4_offer 75 rfl)
  · have h := h.2 hc
    refine lv_iload hx hb (dk DX4_offer 8 rfl) (lv_at hl 4 rfl) ?_
    refine lv_iload_n hx hb (dk DX4_offer 9 rfl) rfl (lv_at hl 1 rfl) ?_
    refine lv_ishr hx hb (dk DX4_offer 10 rfl) ?_
    refine lv_iconst (v := 1) hx hb (dk DX4_offer 11 rfl) (by decide) ?_
    refine lv_iand hx hb (dk DX4_offer 12 rfl) ?_
    refine lv_if_eq (tgt := 124) hx hb (dk DX4_offer 13 rfl) (by decide) (fun hc => ?_) (fun hc => ?_)
    · have h := h.1 hc
      obtain ⟨v1, ev1⟩ : ∃ y : Int32, y = x4 + 1 := ⟨_, rfl⟩
      have h := h v1 ev1
      refine lv_iinc (v := v1) (lv' := [(4, .int v1), (0, .ref (q 51)), (1, .int x1), (2, .int x2), (3, .int x3)]) hx hb (dk DX4_offer 73 rfl) hl (k := 4) rfl (by rw [ev1]; rfl) (by decide) rfl (fun ls hl => ?_)
      refine lv_goto (tgt := 3) hx hb (dk DX4_offer 74 rfl) (by decide) ?_
      exact hK0 x1 x2 x3 v1 S h _ _ hP hD hS ls (lv_sub hl [1, 2, 3, 4, 0] rfl)
    · have h := h.2 hc
      refine lv_iload hx hb (dk DX4_offer 14 rfl) (lv_at hl 4 rfl) ?_
      refine lv_iload_n hx hb (dk DX4_offer 15 rfl) rfl (lv_at hl 2 rfl) ?_
      refine cSi (As := [.int x4, .int x2]) (rest := []) ⟨X.1, X.2.1, X.2.2.1, X.2.2.2.1, X.2.2.2.2.1⟩ (m_X4_cellOf (l := l) x4 x2 h) (va_cwS 2 X.2.2.2.2.1 (gxS 437 438 439 434 rfl rfl rfl rfl) rfl rfl rfl q_X4_cellOf ⟨Nat.le_of_ble_eq_true rfl, Nat.le_of_ble_eq_true rfl⟩) rfl hl.1 rfl (Nat.le_of_ble_eq_true rfl) (dk DX4_offer 16 rfl) (fun r2 h => ?_)
      refine lv_istore (lv' := [(5, .int r2), (0, .ref (q 51)), (1, .int x1), (2, .int x2), (3, .int x3), (4, .int x4)]) hx hb (dk DX4_offer 17 rfl) hl (by decide) rfl (fun ls hl => ?_)
      refine lv_iload hx hb (dk DX4_offer 18 rfl) (lv_at hl 5 rfl) ?_
      refine lv_iconst (v := 1) hx hb (dk DX4_offer 19 rfl) (by decide) ?_
      refine lv_iload_n hx hb (dk DX4_offer 20 rfl) rfl (lv_at hl 2 rfl) ?_
      refine lv_ishl hx hb (dk DX4_offer 21 rfl) ?_
      refine lv_iconst (v := (-1)) hx hb (dk DX4_offer 22 rfl) (by decide) ?_
      refine lv_ixor hx hb (dk DX4_offer 23 rfl) ?_
      refine lv_iand hx hb (dk DX4_offer 24 rfl) ?_
      refine lv_aload_n hx hb (dk DX4_offer 25 rfl) rfl (lv_at hl 1 rfl) ?_
      refine gX_51 X hP 2 (by decide) rfl lk117 (dk DX4_offer 26 rfl) ?_
      refine lv_iconst (v := 1) hx hb (dk DX4_offer 27 rfl) (by decide) ?_
      refine lv_iadd hx hb (dk DX4_offer 28 rfl) ?_
      refine cSi (As := [.int (x4 &&& (((1 : Int32) <<< (x1 &&& 31)) ^^^ (-1))), .int ((S.1 1634) + 1)]) (rest := []) ⟨X.1, X.2.1, X.2.2.1, X.2.2.2.1, X.2.2.2.2.1⟩ (m_X4_cellOf (l := l) (x4 &&& (((1 : Int32) <<< (x1 &&& 31)) ^^^ (-1))) ((S.1 1634) + 1) h) (va_cwS 2 X.2.2.2.2.1 (gxS 437 438 439 434 rfl rfl rfl rfl) rfl rfl rfl q_X4_cellOf ⟨Nat.le_of_ble_eq_true rfl, Nat.le_of_ble_eq_true rfl⟩) rfl hl.1 rfl (Nat.le_of_ble_eq_true rfl) (dk DX4_offer 29 rfl) (fun r3 h => ?_)
      refine lv_istore (lv' := [(6, .int r3), (5, .int r2), (0, .ref (q 51)), (1, .int x1), (2, .int x2), (3, .int x3), (4, .int x4)]) hx hb (dk DX4_offer 30 rfl) hl (by decide) rfl (fun ls hl => ?_)
      refine lv_aload_n hx hb (dk DX4_offer 31 rfl) rfl (lv_at hl 2 rfl) ?_
      refine gX_51 X hP 3 (by decide) rfl lk114 (dk DX4_offer 32 rfl) ?_
      refine lv_aload_n hx hb (dk DX4_offer 33 rfl) rfl (lv_at hl 2 rfl) ?_
      refine gX_51 X hP 7 (by decide) rfl lk21 (dk DX4_offer 34 rfl) ?_
      refine lv_iload hx hb (dk DX4_offer 35 rfl) (lv_at hl 0 rfl) ?_
      obtain ⟨hin, h⟩ := h
      refine ldX_55 X hP hin (dk DX4_offer 36 rfl) ?_
      refine lv_iadd hx hb (dk DX4_offer 37 rfl) ?_
      refine lv_topi (fun v4 ev4 => ?_)
      have h := h v4 ev4
      refine lv_istore (lv' := [(7, .int v4), (6, .int r3), (5, .int r2), (0, .ref (q 51)), (1, .int x1), (2, .int x2), (3, .int x3), (4, .int x4)]) hx hb (dk DX4_offer 38 rfl) hl (by decide) rfl (fun ls hl => ?_)
      refine lv_iconst (v := 1) hx hb (dk DX4_offer 39 rfl) (by decide) ?_
      refine lv_aload_n hx hb (dk DX4_offer 40 rfl) rfl (lv_at hl 3 rfl) ?_
      refine gX_51 X hP 8 (by decide) rfl lk24 (dk DX4_offer 41 rfl) ?_
      refine lv_iload hx hb (dk DX4_offer 42 rfl) (lv_at hl 1 rfl) ?_
      obtain ⟨hin, h⟩ := h
      refine ldX_56 X hP hin (dk DX4_offer 43 rfl) ?_
      refine lv_iadd hx hb (dk DX4_offer 44 rfl) ?_
      refine lv_topi (fun v5 ev5 => ?_)
      have h := h v5 ev5
      refine lv_istore (lv' := [(8, .int v5), (7, .int v4), (6, .int r3), (5, .int r2), (0, .ref (q 51)), (1, .int x1), (2, .int x2), (3, .int x3), (4, .int x4)]) hx hb (dk DX4_offer 45 rfl) hl (by decide) rfl (fun ls hl => ?_)
      refine lv_aload_n hx hb (dk DX4_offer 46 rfl) rfl (lv_at hl 4 rfl) ?_
      refine lv_iload hx hb (dk DX4_offer 47 rfl) (lv_at hl 3 rfl) ?_
      refine lv_iload hx hb (dk DX4_offer 48 rfl) (lv_at hl 1 rfl) ?_
      refine lv_iload hx hb (dk DX4_offer 49 rfl) (lv_at hl 0 rfl) ?_
      refine lv_iload_n hx hb (dk DX4_offer 50 rfl) rfl (lv_at hl 7 rfl) ?_
      refine cXi (As := [.int r2, .int v4, .int v5, .int x3]) (rest := []) X (m_X4_isBetter_51 (l := l) (dC := dC) (dI := dI) (q := q) (cI := cI) (cT := cT) (en := en) (sz := _) r2 v4 v5 x3 S h) (cwV 4 X.2.2.2.2.1 (gxV 453 454 455 439 451 rfl rfl rfl rfl rfl) rfl rfl rfl q_X4_isBetter_51 ⟨Nat.le_of_ble_eq_true rfl, Nat.le_of_ble_eq_true rfl⟩) (rX_51 X hP) hP hD hS rfl hl.1 rfl (Nat.le_of_ble_eq_true rfl) (dk DX4_offer 51 rfl) (fun r7 S6 H locs h hP hD hS => ?_)
      refine lv_if_eq (tgt := 124) hx hb (dk DX4_offer 52 rfl) (by decide) (fun hc => ?_) (fun hc => ?_)
      · have h := h.1 hc
        obtain ⟨v8, ev8⟩ : ∃ y : Int32, y = x4 + 1 := ⟨_, rfl⟩
        have h := h v8 ev8
        refine lv_iinc (v := v8) (lv' := [(4, .int v8), (8, .int v5), (7, .int v4), (6, .int r3), (5, .int r2), (0, .ref (q 51)), (1, .int x1), (2, .int x2), (3, .int x3)]) hx hb (dk DX4_offer 73 rfl) hl (k := 8) rfl (by rw [ev8]; rfl) (by decide) rfl (fun ls hl => ?_)
        refine lv_goto (tgt := 3) hx hb (dk DX4_offer 74 rfl) (by decide) ?_
        exact hK0 x1 x2 x3 v8 S6 h _ _ hP hD hS ls (lv_sub hl [5, 6, 7, 8, 0] rfl)
      · have h := h.2 hc
        refine lv_aload_n hx hb (dk DX4_offer 53 rfl) rfl (lv_at hl 4 rfl) ?_
        refine gX_51 X hP 7 (by decide) rfl lk21 (dk DX4_offer 54 rfl) ?_
        refine lv_iload hx hb (dk DX4_offer 55 rfl) (lv_at hl 3 rfl) ?_
        refine lv_iload hx hb (dk DX4_offer 56 rfl) (lv_at hl 1 rfl) ?_
        obtain ⟨hin, h⟩ := h
        refine stX_55 X hP hD hS hin (dk DX4_offer 57 rfl) (fun S9 eS9 H locs hP hD hS => ?_)
        have h := h S9 eS9
        refine lv_aload_n hx hb (dk DX4_offer 58 rfl) rfl (lv_at hl 4 rfl) ?_
        refine gX_51 X hP 8 (by decide) rfl lk24 (dk DX4_offer 59 rfl) ?_
        refine lv_iload hx hb (dk DX4_offer 60 rfl) (lv_at hl 3 rfl) ?_
        refine lv_iload hx hb (dk DX4_offer 61 rfl) (lv_at hl 0 rfl) ?_
        obtain ⟨hin, h⟩ := h
        refine stX_56 X hP hD hS hin (dk DX4_offer 62 rfl) (fun S10 eS10 H locs hP hD hS => ?_)
        have h := h S10 eS10
        refine lv_aload_n hx hb (dk DX4_offer 63 rfl) rfl (lv_at hl 4 rfl) ?_
        refine gX_51 X hP 9 (by decide) rfl lk27 (dk DX4_offer 64 rfl) ?_
        refine lv_iload hx hb (dk DX4_offer 65 rfl) (lv_at hl 3 rfl) ?_
        refine lv_iload_n hx hb (dk DX4_offer 66 rfl) rfl (lv_at hl 7 rfl) ?_
        obtain ⟨hin, h⟩ := h
        refine stX_57 X hP hD hS hin (dk DX4_offer 67 rfl) (fun S11 eS11 H locs hP hD hS => ?_)
        have h := h S11 eS11
        refine lv_aload_n hx hb (dk DX4_offer 68 rfl) rfl (lv_at hl 4 rfl) ?_
        refine gX_51 X hP 10 (by decide) rfl lk30 (dk DX4_offer 69 rfl) ?_
        refine lv_iload hx hb (dk DX4_offer 70 rfl) (lv_at hl 3 rfl) ?_
        refine lv_iload hx hb (dk DX4_offer 71 rfl) (lv_at hl 2 rfl) ?_
        obtain ⟨hin, h⟩ := h
        refine stX_58 X hP hD hS hin (dk DX4_offer 72 rfl) (fun S12 eS12 H locs hP hD hS => ?_)
        have h := h S12 eS12
        obtain ⟨v13, ev13⟩ : ∃ y : Int32, y = x4 + 1 := ⟨_, rfl⟩
        have h := h v13 ev13
        refine lv_iinc (v := v13) (lv' := [(4, .int v13), (8, .int v5), (7, .int v4), (6, .int r3), (5, .int r2), (0, .ref (q 51)), (1, .int x1), (2, .int x2), (3, .int x3)]) hx hb (dk DX4_offer 73 rfl) hl (k := 8) rfl (by rw [ev13]; rfl) (by decide) rfl (fun ls hl => ?_)
        refine lv_goto (tgt := 3) hx hb (dk DX4_offer 74 rfl) (by decide) ?_
        exact hK0 x1 x2 x3 v13 S12 h _ _ hP hD hS ls (lv_sub hl [5, 6, 7, 8, 0] rfl)
set_option maxHeartbeats 4000000 in
set_option maxRecDepth 100000 in
theorem m_X4_offer_51 {l : Launch} {dC : Nat → ClassId} {dI : Nat → Nat → Nat} {q : Nat → Nat} {cI cT : ClassId} {en : Nat → Nat} {sz : Nat} {Post : XS → Prop} (a0 : Int32) (a1 : Int32) (a2 : Int32) (S : XS) (h : VC_X4_offer_51 Post a0 a1 a2 S) : Met l yX4_offer ww_X4_offer_51 ({ frames := 1, cells := 0, slots := 0, locals := 24 } : Room) (va_Pc [.ref (q 51), .int a0, .int a1, .int a2] (preX dC dI q cI cT en S sz)) (va_Qv Post (atX dC dI q cI cT (va_A (wX q cI cT S) sz)) (va_A (wX q cI cT S) sz)) 0 0 (va_A (wX q cI cT S) sz) := by
  refine oX (cc := cX4_offer) (maxL := 9) (ret := none) (Qc := fun A => va_Qv Post (atX dC dI q cI cT A) A) (own := RX4) (by decide) rfl (fun w h => List.mem_cons_of_mem _ (List.mem_append_right _ h)) rfl (Nat.le_of_ble_eq_true rfl) (fun p e s m below meth c A ls X hr hlocks hP hD hS hl => ?_)
  have hx := X.1
  have hb := X.2.1
  have hl : lv_has ls 9 [(0, .ref (q 51)), (1, .int a0), (2, .int a1), (3, .int a2)] := hl
  have lk75 := X.2.2.2.2.1 (.fieldLink RX4 75 "BreathOnLoan$Planner" "works" "I") (inX 436 rfl)
  have lk117 := X.2.2.2.2.1 (.fieldLink RX4 117 "BreathOnLoan$Planner" "runEnd" "I") (inX 446 rfl)
  have lk114 := X.2.2.2.2.1 (.fieldLink RX4 114 "BreathOnLoan$Planner" "runLeft" "I") (inX 445 rfl)
  have lk21 := X.2.2.2.2.1 (.fieldLink RX4 21 "BreathOnLoan$Planner" "left" "[I") (inX 416 rfl)
  have lk24 := X.2.2.2.2.1 (.fieldLink RX4 24 "BreathOnLoan$Planner" "count" "[I") (inX 417 rfl)
  have lk27 := X.2.2.2.2.1 (.fieldLink RX4 27 "BreathOnLoan$Planner" "pick" "[I") (inX 418 rfl)
  have lk30 := X.2.2.2.2.1 (.fieldLink RX4 30 "BreathOnLoan$Planner" "after" "[I") (inX 419 rfl)
  generalize hargs : ([.ref (q 51), .int a0, .int a1, .int a2] : List Value).toArray = args at X ⊢
  have h := h (fun hd S => match hd with | (x1, x2, x3, x4) => ∀ (H : Heap) (locs : List Loc), va_P (dC, dI) vwCl (wX q cI cT S) H → va_D A (wX q cI cT S) → va_S A s.heap H locs → ∀ ls : Array Slot, lv_has ls 9 [(0, .ref (q 51)), (1, .int x1), (2, .int x2), (3, .int x3), (4, .int x4)] → W p l e (headSpec ww_X4_offer_51 ({ frames := 1, cells := 0, slots := 0, locals := 24 } : Room)).room s m args below meth c H locs 0 0 (MQ below (va_Qv Post (atX dC dI q cI cT A) A) args s 0 0 A) (F0 m 3 ls [])) ?_
  · skip
    refine lv_iconst (v := 0) hx hb (dk DX4_offer 0 rfl) (by decide) ?_
    refine lv_istore (lv' := [(4, .int 0), (0, .ref (q 51)), (1, .int a0), (2, .int a1), (3, .int a2)]) hx hb (dk DX4_offer 1 rfl) hl (by decide) rfl (fun ls hl => ?_)
    exact h _ _ hP hD hS ls (lv_sub hl [1, 2, 3, 4, 0] rfl)
  · rintro ⟨x1, x2, x3, x4⟩ S hB
    exact h_X4_offer_51_0 X hr hlocks (hK0 := fun _ _ _ _ _ h => h) x1 x2 x3 x4 S hB

def ww_X4_tryTeams_51_1 : List Cond := .code yX4_tryTeams cX4_tryTeams 6 none :: (WdX ++ WsX)
theorem q_X4_tryTeams_51_1 : yX4_tryTeams.cls = RX4 ∧ yX4_tryTeams.cls ≠ "java/lang/invoke/MethodHandle" ∧ yX4_tryTeams.cls ≠ "java/lang/invoke/VarHandle" ∧ (parseMethodDescriptor yX4_tryTeams.desc).map (fun d => d.parameters.length) = some 3 := by decide +kernel
abbrev Hd_X4_tryTeams_51_1 : Type := (Int32 × Int32 × Int32) ⊕ (Int32 × Int32 × Int32 × Int32)
def B_X4_tryTeams_51_1 (Post : XS → Prop) (K : Hd_X4_tryTeams_51_1 → XS → Prop) : Hd_X4_tryTeams_51_1 → XS → Prop
  | (.inl (x2, x3, x4)), S => (((S.1 64) ≤ x4 → Post S) ∧ (¬ (S.1 64) ≤ x4 → K (.inr (x2, x3, x4, x4)) S))
  | (.inr (x2, x3, x4, x5)), S => (((S.1 64) ≤ x5 → ∀ v1 : Int32, v1 = x4 + 1 → K (.inl (x2, x3, v1)) S) ∧ (¬ (S.1 64) ≤ x5 → vp_in x2 4 ∧ VC_X4_isDoneBy_51_1 (fun r3 S2 => ((r3 = 0 → ∀ v4 : Int32, v4 = x5 + 1 → K (.inr (x2, x3, x4, v4)) S2) ∧ (¬ r3 = 0 → vp_in x2 4 ∧ VC_X4_offer_51 (fun S5 => ∀ v6 : Int32, v6 = x5 + 1 → K (.inr (x2, x3, x4, v6)) S5) x2 x3 (((100 * ((S2.2.1 54) x2.toNatClampNeg)) + (10 * x4)) + x5) S2))) ((S.2.1 54) x2.toNatClampNeg) x4 x5 x3 S))
def VC_X4_tryTeams_51_1 (Post : XS → Prop) (a1 : Int32) (a2 : Int32) (S : XS) : Prop := ∀ K : Hd_X4_tryTeams_51_1 → XS → Prop, (∀ h S, B_X4_tryTeams_51_1 Post K h S → K h S) → K (.inl (a1, a2, 0)) S
set_option maxHeartbeats 4000000 in
set_option maxRecDepth 100000 in
theorem h_X4_tryTeams_51_1_0 {p : Program} {l : Launch} {e : Env} {s : State} {m : MethodId} {below : List Frame} {meth : Method} {c : Code} {dC : Nat → ClassId} {dI : Nat → Nat → Nat} {q : Nat → Nat} {cI cT : ClassId} {en : Nat → Nat} {A : Nat → Prop} {args : Array Value} {Post : XS → Prop} {K : Hd_X4_tryTeams_51_1 → XS → Prop} (X : XX p s m args c cX4_tryTeams 6 ww_X4_tryTeams_51_1 RX4 dC dI cI cT en A) (hr : meth.sig.returnType = none) (hlocks : meth.locks = false) (hK0 : ∀ (x2 : Int32) (x3 : Int32) (x4 : Int32) (S : XS), K (.inl (x2, x3, x4)) S → ∀ (H : Heap) (locs : List Loc), va_P (dC, dI) vwCl (wX q cI cT S) H → va_D A (wX q cI cT S) → va_S A s.heap H locs → ∀ ls : Array Slot, lv_has ls 6 [(0, .ref (q 51)), (1, .ref (q 1)), (2, .int x2), (3, .int x3), (4, .int x4)] → W p l e (headSpec ww_X4_tryTeams_51_1 ({ frames := 2, cells := 0, slots := 0, locals := 73 } : Room)).room s m args below meth c H locs 0 0 (MQ below (va_Qv Post (atX dC dI q cI cT A) A) args s 0 0 A) (F0 m 3 ls [])) (hK1 : ∀ (x2 : Int32) (x3 : Int32) (x4 : Int32) (x5 : Int32) (S : XS), K (.inr (x2, x3, x4, x5)) S → ∀ (H : Heap) (locs : List Loc), va_P (dC, dI) vwCl (wX q cI cT S) H → va_D A (wX q cI cT S) → va_S A s.heap H locs → ∀ ls : Array Slot, lv_has ls 6 [(0, .ref (q 51)), (1, .ref (q 1)), (2, .int x2), (3, .int x3), (4, .int x4), (5, .int x5)] → W p l e (headSpec ww_X4_tryTeams_51_1 ({ frames := 2, cells := 0, slots := 0, locals := 73 } : Room)).room s m args below meth c H locs 0 0 (MQ below (va_Qv Post (atX dC dI q cI cT A) A) args s 0 0 A) (F0 m 19 ls [])) (x2 : Int32) (x3 : Int32) (x4 : Int32) (S : XS) (h : B_X4_tryTeams_51_1 Post K (.inl (x2, x3, x4)) S) : ∀ (H : Heap) (locs : List Loc), va_P (dC, dI) vwCl (wX q cI cT S) H → va_D A (wX q cI cT S) → va_S A s.heap H locs → ∀ ls : Array Slot, lv_has ls 6 [(0, .ref (q 51)), (1, .ref (q 1)), (2, .int x2), (3, .int x3), (4, .int x4)] → W p l e (headSpec ww_X4_tryTeams_51_1 ({ frames := 2, cells := 0, slots := 0, locals := 73 } : Room)).room s m args below meth c H locs 0 0 (MQ below (va_Qv Post (atX dC dI q cI cT A) A) args s 0 0 A) (F0 m 3 ls []) := by
  have hx := X.1
  have hb := X.2.1
  intro H locs hP hD hS ls hl
  have lk63 := X.2.2.2.2.1 (.fieldLink RX4 63 "BreathOnLoan$State" "crew" "LBreathOnLoan$Crew;") (inX 425 rfl)
  have lk67 := X.2.2.2.2.1 (.fieldLink RX4 67 "BreathOnLoan$Crew" "count" "I") (inX 426 rfl)
  have lk18 := X.2.2.2.2.1 (.fieldLink RX4 18 "BreathOnLoan$Planner" "kindOf" "[I") (inX 415 rfl)
  dsimp only [B_X4_tryTeams_51_1] at h
  refine lv_iload hx hb (dk DX4_tryTeams 2 rfl) (lv_at hl 4 rfl) ?_
  refine lv_aload_n hx hb (dk DX4_tryTeams 3 rfl) rfl (lv_at hl 1 rfl) ?_
  refine gX_1 X hP 0 (by decide) rfl lk63 (dk DX4_tryTeams 4 rfl) ?_
  refine gX_2 X hP 0 (by decide) rfl lk67 (dk DX4_tryTeams 5 rfl) ?_
  refine lv_icmp_ge (tgt := 86) hx hb (dk DX4_tryTeams 6 rfl) (by decide) (fun hc => ?_) (fun hc => ?_)
  · have h := h.1 hc
    exact W.vret hx hb hr (fun t ht hW => ⟨⟨_, rfl, h, by rw [ht]; exact hP, va_K.moved hW.alike X.2.2.2.2.2.2.1, hD⟩, hS.F ht⟩) hS.2.2 (dk DX4_tryTeams 45 rfl)
  · have h := h.2 hc
    refine lv_iload hx hb (dk DX4_tryTeams 7 rfl) (lv_at hl 4 rfl) ?_
    refine lv_istore (lv' := [(5, .int x4), (0, .ref (q 51)), (1, .ref (q 1)), (2, .int x2), (3, .int x3), (4, .int x4)]) hx hb (dk DX4_tryTeams 8 rfl) hl (by decide) rfl (fun ls hl => ?_)
    exact hK1 x2 x3 x4 x4 S h _ _ hP hD hS ls (lv_sub hl [1, 2, 3, 4, 5, 0] rfl)
set_option maxHeartbeats 4000000 in
set_option maxRecDepth 100000 in
theorem h_X4_tryTeams_51_1_1 {p : Program} {l : Launch} {e : Env} {s : State} {m : MethodId} {below : List Frame} {meth : Method} {c : Code} {dC : Nat → ClassId} {dI : Nat → Nat → Nat} {q : Nat → Nat} {cI cT : ClassId} {en : Nat → Nat} {A : Nat → Prop} {args : Array Value} {Post : XS → Prop} {K : Hd_X4_tryTeams_51_1 → XS → Prop} (X : XX p s m args c cX4_tryTeams 6 ww_X4_tryTeams_51_1 RX4 dC dI cI cT en A) (hr : meth.sig.returnType = none) (hlocks : meth.locks = false) (hK0 : ∀ (x2 : Int32) (x3 : Int32) (x4 : Int32) (S : XS), K (.inl (x2, x3, x4)) S → ∀ (H : Heap) (locs : List Loc), va_P (dC, dI) vwCl (wX q cI cT S) H → va_D A (wX q cI cT S) → va_S A s.heap H locs → ∀ ls : Array Slot, lv_has ls 6 [(0, .ref (q 51)), (1, .ref (q 1)), (2, .int x2), (3, .int x3), (4, .int x4)] → W p l e (headSpec ww_X4_tryTeams_51_1 ({ frames := 2, cells := 0, slots := 0, locals := 73 } : Room)).room s m args below meth c H locs 0 0 (MQ below (va_Qv Post (atX dC dI q cI cT A) A) args s 0 0 A) (F0 m 3 ls [])) (hK1 : ∀ (x2 : Int32) (x3 : Int32) (x4 : Int32) (x5 : Int32) (S : XS), K (.inr (x2, x3, x4, x5)) S → ∀ (H : Heap) (locs : List Loc), va_P (dC, dI) vwCl (wX q cI cT S) H → va_D A (wX q cI cT S) → va_S A s.heap H locs → ∀ ls : Array Slot, lv_has ls 6 [(0, .ref (q 51)), (1, .ref (q 1)), (2, .int x2), (3, .int x3), (4, .int x4), (5, .int x5)] → W p l e (headSpec ww_X4_tryTeams_51_1 ({ frames := 2, cells := 0, slots := 0, locals := 73 } : Room)).room s m args below meth c H locs 0 0 (MQ below (va_Qv Post (atX dC dI q cI cT A) A) args s 0 0 A) (F0 m 19 ls [])) (x2 : Int32) (x3 : Int32) (x4 : Int32) (x5 : Int32) (S : XS) (h : B_X4_tryTeams_51_1 Post K (.inr (x2, x3, x4, x5)) S) : ∀ (H : Heap) (locs : List Loc), va_P (dC, dI) vwCl (wX q cI cT S) H → va_D A (wX q cI cT S) → va_S A s.heap H locs → ∀ ls : Array Slot, lv_has ls 6 [(0, .ref (q 51)), (1, .ref (q 1)), (2, .int x2), (3, .int x3), (4, .int x4), (5, .int x5)] → W p l e (headSpec ww_X4_tryTeams_51_1 ({ frames := 2, cells := 0, slots := 0, locals := 73 } : Room)).room s m args below meth c H locs 0 0 (MQ below (va_Qv Post (atX dC dI q cI cT A) A) args s 0 0 A) (F0 m 19 ls []) := by
  have hx := X.1
  have hb := X.2.1
  intro H locs hP hD hS ls hl
  have lk63 := X.2.2.2.2.1 (.fieldLink RX4 63 "BreathOnLoan$State" "crew" "LBreathOnLoan$Crew;") (inX 425 rfl)
  have lk67 := X.2.2.2.2.1 (.fieldLink RX4 67 "BreathOnLoan$Crew" "count" "I") (inX 426 rfl)
  have lk18 := X.2.2.2.2.1 (.fieldLink RX4 18 "BreathOnLoan$Planner" "kindOf" "[I") (inX 415 rfl)
  dsimp only [B_X4_tryTeams_51_1] at h
  refine lv_iload hx hb (dk DX4_tryTeams 9 rfl) (lv_at hl 5 rfl) ?_
  refine lv_aload_n hx hb (dk DX4_tryTeams 10 rfl) rfl (lv_at hl 1 rfl) ?_
  refine gX_1 X hP 0 (by decide) rfl lk63 (dk DX4_tryTeams 11 rfl) ?_
  refine gX_2 X hP 0 (by decide) rfl lk67 (dk DX4_tryTeams 12 rfl) ?_
  refine lv_icmp_ge (tgt := 80) hx hb (dk DX4_tryTeams 13 rfl) (by decide) (fun hc => ?_) (fun hc => ?_)
  · have h := h.1 hc
    obtain ⟨v1, ev1⟩ : ∃ y : Int32, y = x4 + 1 := ⟨_, rfl⟩
    have h := h v1 ev1
    refine lv_iinc (v := v1) (lv' := [(4, .int v1), (0, .ref (q 51)), (1, .ref (q 1)), (2, .int x2), (3, .int x3), (5, .int x5)]) hx hb (dk DX4_tryTeams 43 rfl) hl (k := 4) rfl (by rw [ev1]; rfl) (by decide) rfl (fun ls hl => ?_)
    refine lv_goto (tgt := 3) hx hb (dk DX4_tryTeams 44 rfl) (by decide) ?_
    exact hK0 x2 x3 v1 S h _ _ hP hD hS ls (lv_sub hl [1, 2, 3, 4, 0] rfl)
  · have h := h.2 hc
    refine lv_aload_n hx hb (dk DX4_tryTeams 14 rfl) rfl (lv_at hl 0 rfl) ?_
    refine lv_aload_n hx hb (dk DX4_tryTeams 15 rfl) rfl (lv_at hl 1 rfl) ?_
    refine lv_aload_n hx hb (dk DX4_tryTeams 16 rfl) rfl (lv_at hl 0 rfl) ?_
    refine gX_51 X hP 6 (by decide) rfl lk18 (dk DX4_tryTeams 17 rfl) ?_
    refine lv_iload_n hx hb (dk DX4_tryTeams 18 rfl) rfl (lv_at hl 2 rfl) ?_
    obtain ⟨hin, h⟩ := h
    refine ldX_54 X hP hin (dk DX4_tryTeams 19 rfl) ?_
    refine lv_iload hx hb (dk DX4_tryTeams 20 rfl) (lv_at hl 4 rfl) ?_
    refine lv_iload hx hb (dk DX4_tryTeams 21 rfl) (lv_at hl 5 rfl) ?_
    refine lv_iload_n hx hb (dk DX4_tryTeams 22 rfl) rfl (lv_at hl 3 rfl) ?_
    refine cXi (As := [.ref (q 1), .int ((S.2.1 54) x2.toNatClampNeg), .int x4, .int x5, .int x3]) (rest := []) X (m_X4_isDoneBy_51_1 (l := l) (dC := dC) (dI := dI) (q := q) (cI := cI) (cT := cT) (en := en) (sz := _) ((S.2.1 54) x2.toNatClampNeg) x4 x5 x3 S h) (cwV 5 X.2.2.2.2.1 (gxV 456 457 458 439 440 rfl rfl rfl rfl rfl) rfl rfl rfl q_X4_isDoneBy_51_1 ⟨Nat.le_of_ble_eq_true rfl, Nat.le_of_ble_eq_true rfl⟩) (rX_51 X hP) hP hD hS rfl hl.1 rfl (Nat.le_of_ble_eq_true rfl) (dk DX4_tryTeams 23 rfl) (fun r3 S2 H locs h hP hD hS => ?_)
    refine lv_if_eq (tgt := 74) hx hb (dk DX4_tryTeams 24 rfl) (by decide) (fun hc => ?_) (fun hc => ?_)
    · have h := h.1 hc
      obtain ⟨v4, ev4⟩ : ∃ y : Int32, y = x5 + 1 := ⟨_, rfl⟩
      have h := h v4 ev4
      refine lv_iinc (v := v4) (lv' := [(5, .int v4), (0, .ref (q 51)), (1, .ref (q 1)), (2, .int x2), (3, .int x3), (4, .int x4)]) hx hb (dk DX4_tryTeams 41 rfl) hl (k := 5) rfl (by rw [ev4]; rfl) (by decide) rfl (fun ls hl => ?_)
      refine lv_goto (tgt := 19) hx hb (dk DX4_tryTeams 42 rfl) (by decide) ?_
      exact hK1 x2 x3 x4 v4 S2 h _ _ hP hD hS ls (lv_sub hl [1, 2, 3, 4, 5, 0] rfl)
    · have h := h.2 hc
      refine lv_aload_n hx hb (dk DX4_tryTeams 25 rfl) rfl (lv_at hl 0 rfl) ?_
      refine lv_iload_n hx hb (dk DX4_tryTeams 26 rfl) rfl (lv_at hl 2 rfl) ?_
      refine lv_iload_n hx hb (dk DX4_tryTeams 27 rfl) rfl (lv_at hl 3 rfl) ?_
      refine lv_bipush (v := 100) hx hb (dk DX4_tryTeams 28 rfl) (by decide) ?_
      refine lv_aload_n hx hb (dk DX4_tryTeams 29 rfl) rfl (lv_at hl 0 rfl) ?_
      refine gX_51 X hP 6 (by decide) rfl lk18 (dk DX4_tryTeams 30 rfl) ?_
      refine lv_iload_n hx hb (dk DX4_tryTeams 31 rfl) rfl (lv_at hl 2 rfl) ?_
      obtain ⟨hin, h⟩ := h
      refine ldX_54 X hP hin (dk DX4_tryTeams 32 rfl) ?_
      refine lv_imul hx hb (dk DX4_tryTeams 33 rfl) ?_
      refine lv_bipush (v := 10) hx hb (dk DX4_tryTeams 34 rfl) (by decide) ?_
      refine lv_iload hx hb (dk DX4_tryTeams 35 rfl) (lv_at hl 4 rfl) ?_
      refine lv_imul hx hb (dk DX4_tryTeams 36 rfl) ?_
      refine lv_iadd hx hb (dk DX4_tryTeams 37 rfl) ?_
      refine lv_iload hx hb (dk DX4_tryTeams 38 rfl) (lv_at hl 5 rfl) ?_
      refine lv_iadd hx hb (dk DX4_tryTeams 39 rfl) ?_
      refine cXv (As := [.int x2, .int x3, .int (((100 * ((S2.2.1 54) x2.toNatClampNeg)) + (10 * x4)) + x5)]) (rest := []) X (m_X4_offer_51 (l := l) (dC := dC) (dI := dI) (q := q) (cI := cI) (cT := cT) (en := en) (sz := _) x2 x3 (((100 * ((S2.2.1 54) x2.toNatClampNeg)) + (10 * x4)) + x5) S2 h) (cwV 3 X.2.2.2.2.1 (gxV 459 460 461 439 452 rfl rfl rfl rfl rfl) rfl rfl rfl q_X4_offer_51 ⟨Nat.le_of_ble_eq_true rfl, Nat.le_of_ble_eq_true rfl⟩) (rX_51 X hP) hP hD hS rfl hl.1 rfl (Nat.le_of_ble_eq_true rfl) (dk DX4_tryTeams 40 rfl) (fun S5 H locs h hP hD hS => ?_)
      obtain ⟨v6, ev6⟩ : ∃ y : Int32, y = x5 + 1 := ⟨_, rfl⟩
      have h := h v6 ev6
      refine lv_iinc (v := v6) (lv' := [(5, .int v6), (0, .ref (q 51)), (1, .ref (q 1)), (2, .int x2), (3, .int x3), (4, .int x4)]) hx hb (dk DX4_tryTeams 41 rfl) hl (k := 5) rfl (by rw [ev6]; rfl) (by decide) rfl (fun ls hl => ?_)
      refine lv_goto (tgt := 19) hx hb (dk DX4_tryTeams 42 rfl) (by decide) ?_
      exact hK1 x2 x3 x4 v6 S5 h _ _ hP hD hS ls (lv_sub hl [1, 2, 3, 4, 5, 0] rfl)
set_option maxHeartbeats 4000000 in
set_option maxRecDepth 100000 in
theorem m_X4_tryTeams_51_1 {l : Launch} {dC : Nat → ClassId} {dI : Nat → Nat → Nat} {q : Nat → Nat} {cI cT : ClassId} {en : Nat → Nat} {sz : Nat} {Post : XS → Prop} (a1 : Int32) (a2 : Int32) (S : XS) (h : VC_X4_tryTeams_51_1 Post a1 a2 S) : Met l yX4_tryTeams ww_X4_tryTeams_51_1 ({ frames := 2, cells := 0, slots := 0, locals := 73 } : Room) (va_Pc [.ref (q 51), .ref (q 1), .int a1, .int a2] (preX dC dI q cI cT en S sz)) (va_Qv Post (atX dC dI q cI cT (va_A (wX q cI cT S) sz)) (va_A (wX q cI cT S) sz)) 0 0 (va_A (wX q cI cT S) sz) := by
  refine oX (cc := cX4_tryTeams) (maxL := 6) (ret := none) (Qc := fun A => va_Qv Post (atX dC dI q cI cT A) A) (own := RX4) (by decide) rfl (fun w h => List.mem_cons_of_mem _ (List.mem_append_right _ h)) rfl (Nat.le_of_ble_eq_true rfl) (fun p e s m below meth c A ls X hr hlocks hP hD hS hl => ?_)
  have hx := X.1
  have hb := X.2.1
  have hl : lv_has ls 6 [(0, .ref (q 51)), (1, .ref (q 1)), (2, .int a1), (3, .int a2)] := hl
  have lk63 := X.2.2.2.2.1 (.fieldLink RX4 63 "BreathOnLoan$State" "crew" "LBreathOnLoan$Crew;") (inX 425 rfl)
  have lk67 := X.2.2.2.2.1 (.fieldLink RX4 67 "BreathOnLoan$Crew" "count" "I") (inX 426 rfl)
  have lk18 := X.2.2.2.2.1 (.fieldLink RX4 18 "BreathOnLoan$Planner" "kindOf" "[I") (inX 415 rfl)
  generalize hargs : ([.ref (q 51), .ref (q 1), .int a1, .int a2] : List Value).toArray = args at X ⊢
  have h := h (fun hd S => match hd with | (.inl (x2, x3, x4)) => ∀ (H : Heap) (locs : List Loc), va_P (dC, dI) vwCl (wX q cI cT S) H → va_D A (wX q cI cT S) → va_S A s.heap H locs → ∀ ls : Array Slot, lv_has ls 6 [(0, .ref (q 51)), (1, .ref (q 1)), (2, .int x2), (3, .int x3), (4, .int x4)] → W p l e (headSpec ww_X4_tryTeams_51_1 ({ frames := 2, cells := 0, slots := 0, locals := 73 } : Room)).room s m args below meth c H locs 0 0 (MQ below (va_Qv Post (atX dC dI q cI cT A) A) args s 0 0 A) (F0 m 3 ls []) | (.inr (x2, x3, x4, x5)) => ∀ (H : Heap) (locs : List Loc), va_P (dC, dI) vwCl (wX q cI cT S) H → va_D A (wX q cI cT S) → va_S A s.heap H locs → ∀ ls : Array Slot, lv_has ls 6 [(0, .ref (q 51)), (1, .ref (q 1)), (2, .int x2), (3, .int x3), (4, .int x4), (5, .int x5)] → W p l e (headSpec ww_X4_tryTeams_51_1 ({ frames := 2, cells := 0, slots := 0, locals := 73 } : Room)).room s m args below meth c H locs 0 0 (MQ below (va_Qv Post (atX dC dI q cI cT A) A) args s 0 0 A) (F0 m 19 ls [])) ?_
  · skip
    refine lv_iconst (v := 0) hx hb (dk DX4_tryTeams 0 rfl) (by decide) ?_
    refine lv_istore (lv' := [(4, .int 0), (0, .ref (q 51)), (1, .ref (q 1)), (2, .int a1), (3, .int a2)]) hx hb (dk DX4_tryTeams 1 rfl) hl (by decide) rfl (fun ls hl => ?_)
    exact h _ _ hP hD hS ls (lv_sub hl [1, 2, 3, 4, 0] rfl)
  · rintro (⟨x2, x3, x4⟩ | ⟨x2, x3, x4, x5⟩) S hB
    · exact h_X4_tryTeams_51_1_0 X hr hlocks (hK0 := fun _ _ _ _ h => h) (hK1 := fun _ _ _ _ _ h => h) x2 x3 x4 S hB
    · exact h_X4_tryTeams_51_1_1 X hr hlocks (hK0 := fun _ _ _ _ h => h) (hK1 := fun _ _ _ _ _ h => h) x2 x3 x4 x5 S hB

def ww_X4_choose_51_1 : List Cond := .code yX4_choose cX4_choose 5 none :: (WdX ++ WsX)
theorem q_X4_choose_51_1 : yX4_choose.cls = RX4 ∧ yX4_choose.cls ≠ "java/lang/invoke/MethodHandle" ∧ yX4_choose.cls ≠ "java/lang/invoke/VarHandle" ∧ (parseMethodDescriptor yX4_choose.desc).map (fun d => d.parameters.length) = some 2 := by decide +kernel
abbrev Hd_X4_choose_51_1 : Type := (Int32 × Int32) ⊕ (Int32 × Int32) ⊕ (Int32 × Int32 × Int32)
def B_X4_choose_51_1 (Post : XS → Prop) (K : Hd_X4_choose_51_1 → XS → Prop) : Hd_X4_choose_51_1 → XS → Prop
  | (.inl (x2, x3)), S => (((S.1 224) ≤ x3 → ∀ v2 : Int32, v2 = (S.1 1632) → K (.inr (.inl (x2, v2))) S) ∧ (¬ (S.1 224) ≤ x3 → ((4 ≤ (S.1 1633) → ∀ v3 : Int32, v3 = (S.1 1632) → K (.inr (.inl (x2, v3))) S) ∧ (¬ 4 ≤ (S.1 1633) → ((((x2 >>> (x3 &&& 31)) &&& 1) = 0 → ∀ v4 : Int32, v4 = x3 + 1 → K (.inl (x2, v4)) S) ∧ (¬ ((x2 >>> (x3 &&& 31)) &&& 1) = 0 → vp_in (S.1 1633) 4 ∧ ∀ S5 : XS, S5 = xF S 54 (upd (S.2.1 54) (S.1 1633).toNatClampNeg x3) → ∀ v6 : Int32, v6 = (S5.1 1633) + 1 → ∀ S7 : XS, S7 = xI S5 1633 v6 → ∀ v8 : Int32, v8 = x3 + 1 → K (.inl (x2, v8)) S7))))))
  | (.inr (.inl (x2, x3))), S => ((x3 < 0 → Post S) ∧ (¬ x3 < 0 → VC_X4_emptyCells_51 (fun S9 => K (.inr (.inr (x2, x3, 0))) S9) x3 S))
  | (.inr (.inr (x2, x3, x4))), S => (((S.1 1633) ≤ x4 → ∀ v10 : Int32, v10 = x3 + (-1) → K (.inr (.inl (x2, v10))) S) ∧ (¬ (S.1 1633) ≤ x4 → (((S.1 1632) ≤ x3 → ∀ v11 : Int32, v11 = x3 + (-1) → K (.inr (.inl (x2, v11))) S) ∧ (¬ (S.1 1632) ≤ x3 → VC_X4_tryTeams_51_1 (fun S12 => ∀ v13 : Int32, v13 = x4 + 1 → K (.inr (.inr (x2, x3, v13))) S12) x4 x3 S))))
def VC_X4_choose_51_1 (Post : XS → Prop) (a1 : Int32) (S : XS) : Prop := ∀ K : Hd_X4_choose_51_1 → XS → Prop, (∀ h S, B_X4_choose_51_1 Post K h S → K h S) → ∀ S1 : XS, S1 = xI S 1633 0 → K (.inl (a1, 0)) S1
set_option maxHeartbeats 4000000 in
set_option maxRecDepth 100000 in
theorem h_X4_choose_51_1_0 {p : Program} {l : Launch} {e : Env} {s : State} {m : MethodId} {below : List Frame} {meth : Method} {c : Code} {dC : Nat → ClassId} {dI : Nat → Nat → Nat} {q : Nat → Nat} {cI cT : ClassId} {en : Nat → Nat} {A : Nat → Prop} {args : Array Value} {Post : XS → Prop} {K : Hd_X4_choose_51_1 → XS → Prop} (X : XX p s m args c cX4_choose 5 ww_X4_choose_51_1 RX4 dC dI cI cT en A) (hr : meth.sig.returnType = none) (hlocks : meth.locks = false) (hK0 : ∀ (x2 : Int32) (x3 : Int32) (S : XS), K (.inl (x2, x3)) S → ∀ (H : Heap) (locs : List Loc), va_P (dC, dI) vwCl (wX q cI cT S) H → va_D A (wX q cI cT S) → va_S A s.heap H locs → ∀ ls : Array Slot, lv_has ls 5 [(0, .ref (q 51)), (1, .ref (q 1)), (2, .int x2), (3, .int x3)] → W p l e (headSpec ww_X4_choose_51_1 ({ frames := 3, cells := 0, slots := 0, locals := 98 } : Room)).room s m args below meth c H locs 0 0 (MQ below (va_Qv Post (atX dC dI q cI cT A) A) args s 0 0 A) (F0 m 7 ls [])) (hK1 : ∀ (x2 : Int32) (x3 : Int32) (S : XS), K (.inr (.inl (x2, x3))) S → ∀ (H : Heap) (locs : List Loc), va_P (dC, dI) vwCl (wX q cI cT S) H → va_D A (wX q cI cT S) → va_S A s.heap H locs → ∀ ls : Array Slot, lv_has ls 5 [(0, .ref (q 51)), (1, .ref (q 1)), (2, .int x2), (3, .int x3)] → W p l e (headSpec ww_X4_choose_51_1 ({ frames := 3, cells := 0, slots := 0, locals := 98 } : Room)).room s m args below meth c H locs 0 0 (MQ below (va_Qv Post (atX dC dI q cI cT A) A) args s 0 0 A) (F0 m 65 ls [])) (hK2 : ∀ (x2 : Int32) (x3 : Int32) (x4 : Int32) (S : XS), K (.inr (.inr (x2, x3, x4))) S → ∀ (H : Heap) (locs : List Loc), va_P (dC, dI) vwCl (wX q cI cT S) H → va_D A (wX q cI cT S) → va_S A s.heap H locs → ∀ ls : Array Slot, lv_has ls 5 [(0, .ref (q 51)), (1, .ref (q 1)), (2, .int x2), (3, .int x3), (4, .int x4)] → W p l e (headSpec ww_X4_choose_51_1 ({ frames := 3, cells := 0, slots := 0, locals := 98 } : Room)).room s m args below meth c H locs 0 0 (MQ below (va_Qv Post (atX dC dI q cI cT A) A) args s 0 0 A) (F0 m 77 ls [])) (x2 : Int32) (x3 : Int32) (S : XS) (h : B_X4_choose_51_1 Post K (.inl (x2, x3)) S) : ∀ (H : Heap) (locs : List Loc), va_P (dC, dI) vwCl (wX q cI cT S) H → va_D A (wX q cI cT S) → va_S A s.heap H locs → ∀ ls : Array Slot, lv_has ls 5 [(0, .ref (q 51)), (1, .ref (q 1)), (2, .int x2), (3, .int x3)] → W p l e (headSpec ww_X4_choose_51_1 ({ frames := 3, cells := 0, slots := 0, locals := 98 } : Room)).room s m args below meth c H locs 0 0 (MQ below (va_Qv Post (atX dC dI q cI cT A) A) args s 0 0 A) (F0 m 7 ls []) := by
  have hx := X.1
  have hb := X.2.1
  intro H locs hP hD hS ls hl
  have lk75 := X.2.2.2.2.1 (.fieldLink RX4 75 "BreathOnLoan$Planner" "works" "I") (inX 436 rfl)
  have lk78 := X.2.2.2.2.1 (.fieldLink RX4 78 "BreathOnLoan$State" "wares" "LBreathOnLoan$Wares;") (inX 442 rfl)
  have lk82 := X.2.2.2.2.1 (.fieldLink RX4 82 "BreathOnLoan$Wares" "count" "I") (inX 463 rfl)
  have lk54 := X.2.2.2.2.1 (.fieldLink RX4 54 "BreathOnLoan$Planner" "hours" "I") (inX 424 rfl)
  have lk18 := X.2.2.2.2.1 (.fieldLink RX4 18 "BreathOnLoan$Planner" "kindOf" "[I") (inX 415 rfl)
  dsimp only [B_X4_choose_51_1] at h
  refine lv_iload_n hx hb (dk DX4_choose 5 rfl) rfl (lv_at hl 3 rfl) ?_
  refine lv_aload_n hx hb (dk DX4_choose 6 rfl) rfl (lv_at hl 1 rfl) ?_
  refine gX_1 X hP 1 (by decide) rfl lk78 (dk DX4_choose 7 rfl) ?_
  refine gX_7 X hP 0 (by decide) rfl lk82 (dk DX4_choose 8 rfl) ?_
  refine lv_icmp_ge (tgt := 60) hx hb (dk DX4_choose 9 rfl) (by decide) (fun hc => ?_) (fun hc => ?_)
  · have h := h.1 hc
    refine lv_aload_n hx hb (dk DX4_choose 34 rfl) rfl (lv_at hl 0 rfl) ?_
    refine gX_51 X hP 0 (by decide) rfl lk54 (dk DX4_choose 35 rfl) ?_
    refine lv_topi (fun v2 ev2 => ?_)
    have h := h v2 ev2
    refine lv_istore_n (lv' := [(3, .int v2), (0, .ref (q 51)), (1, .ref (q 1)), (2, .int x2)]) hx hb (dk DX4_choose 36 rfl) rfl hl (by decide) rfl (fun ls hl => ?_)
    exact hK1 x2 v2 S h _ _ hP hD hS ls (lv_sub hl [1, 2, 3, 0] rfl)
  · have h := h.2 hc
    refine lv_aload_n hx hb (dk DX4_choose 10 rfl) rfl (lv_at hl 0 rfl) ?_
    refine gX_51 X hP 1 (by decide) rfl lk75 (dk DX4_choose 11 rfl) ?_
    refine lv_iconst (v := 4) hx hb (dk DX4_choose 12 rfl) (by decide) ?_
    refine lv_icmp_ge (tgt := 60) hx hb (dk DX4_choose 13 rfl) (by decide) (fun hc => ?_) (fun hc => ?_)
    · have h := h.1 hc
      refine lv_aload_n hx hb (dk DX4_choose 34 rfl) rfl (lv_at hl 0 rfl) ?_
      refine gX_51 X hP 0 (by decide) rfl lk54 (dk DX4_choose 35 rfl) ?_
      refine lv_topi (fun v3 ev3 => ?_)
      have h := h v3 ev3
      refine lv_istore_n (lv' := [(3, .int v3), (0, .ref (q 51)), (1, .ref (q 1)), (2, .int x2)]) hx hb (dk DX4_choose 36 rfl) rfl hl (by decide) rfl (fun ls hl => ?_)
      exact hK1 x2 v3 S h _ _ hP hD hS ls (lv_sub hl [1, 2, 3, 0] rfl)
    · have h := h.2 hc
      refine lv_iload_n hx hb (dk DX4_choose 14 rfl) rfl (lv_at hl 2 rfl) ?_
      refine lv_iload_n hx hb (dk DX4_choose 15 rfl) rfl (lv_at hl 3 rfl) ?_
      refine lv_ishr hx hb (dk DX4_choose 16 rfl) ?_
      refine lv_iconst (v := 1) hx hb (dk DX4_choose 17 rfl) (by decide) ?_
      refine lv_iand hx hb (dk DX4_choose 18 rfl) ?_
      refine lv_if_eq (tgt := 54) hx hb (dk DX4_choose 19 rfl) (by decide) (fun hc => ?_) (fun hc => ?_)
      · have h := h.1 hc
        obtain ⟨v4, ev4⟩ : ∃ y : Int32, y = x3 + 1 := ⟨_, rfl⟩
        have h := h v4 ev4
        refine lv_iinc (v := v4) (lv' := [(3, .int v4), (0, .ref (q 51)), (1, .ref (q 1)), (2, .int x2)]) hx hb (dk DX4_choose 32 rfl) hl (k := 3) rfl (by rw [ev4]; rfl) (by decide) rfl (fun ls hl => ?_)
        refine lv_goto (tgt := 7) hx hb (dk DX4_choose 33 rfl) (by decide) ?_
        exact hK0 x2 v4 S h _ _ hP hD hS ls (lv_sub hl [1, 2, 3, 0] rfl)
      · have h := h.2 hc
        refine lv_aload_n hx hb (dk DX4_choose 20 rfl) rfl (lv_at hl 0 rfl) ?_
        refine gX_51 X hP 6 (by decide) rfl lk18 (dk DX4_choose 21 rfl) ?_
        refine lv_aload_n hx hb (dk DX4_choose 22 rfl) rfl (lv_at hl 0 rfl) ?_
        refine gX_51 X hP 1 (by decide) rfl lk75 (dk DX4_choose 23 rfl) ?_
        refine lv_iload_n hx hb (dk DX4_choose 24 rfl) rfl (lv_at hl 3 rfl) ?_
        obtain ⟨hin, h⟩ := h
        refine stX_54 X hP hD hS hin (dk DX4_choose 25 rfl) (fun S5 eS5 H locs hP hD hS => ?_)
        have h := h S5 eS5
        refine lv_aload_n hx hb (dk DX4_choose 26 rfl) rfl (lv_at hl 0 rfl) ?_
        refine lv_dup hx hb (dk DX4_choose 27 rfl) rfl ?_
        refine gX_51 X hP 1 (by decide) rfl lk75 (dk DX4_choose 28 rfl) ?_
        refine lv_iconst (v := 1) hx hb (dk DX4_choose 29 rfl) (by decide) ?_
        refine lv_iadd hx hb (dk DX4_choose 30 rfl) ?_
        refine lv_topi (fun v6 ev6 => ?_)
        have h := h v6 ev6
        refine pX_51_1 X hP hD hS lk75 (dk DX4_choose 31 rfl) (fun S7 eS7 H locs hP hD hS => ?_)
        have h := h S7 eS7
        obtain ⟨v8, ev8⟩ : ∃ y : Int32, y = x3 + 1 := ⟨_, rfl⟩
        have h := h v8 ev8
        refine lv_iinc (v := v8) (lv' := [(3, .int v8), (0, .ref (q 51)), (1, .ref (q 1)), (2, .int x2)]) hx hb (dk DX4_choose 32 rfl) hl (k := 3) rfl (by rw [ev8]; rfl) (by decide) rfl (fun ls hl => ?_)
        refine lv_goto (tgt := 7) hx hb (dk DX4_choose 33 rfl) (by decide) ?_
        exact hK0 x2 v8 S7 h _ _ hP hD hS ls (lv_sub hl [1, 2, 3, 0] rfl)
set_option maxHeartbeats 4000000 in
set_option maxRecDepth 100000 in
theorem h_X4_choose_51_1_1 {p : Program} {l : Launch} {e : Env} {s : State} {m : MethodId} {below : List Frame} {meth : Method} {c : Code} {dC : Nat → ClassId} {dI : Nat → Nat → Nat} {q : Nat → Nat} {cI cT : ClassId} {en : Nat → Nat} {A : Nat → Prop} {args : Array Value} {Post : XS → Prop} {K : Hd_X4_choose_51_1 → XS → Prop} (X : XX p s m args c cX4_choose 5 ww_X4_choose_51_1 RX4 dC dI cI cT en A) (hr : meth.sig.returnType = none) (hlocks : meth.locks = false) (hK0 : ∀ (x2 : Int32) (x3 : Int32) (S : XS), K (.inl (x2, x3)) S → ∀ (H : Heap) (locs : List Loc), va_P (dC, dI) vwCl (wX q cI cT S) H → va_D A (wX q cI cT S) → va_S A s.heap H locs → ∀ ls : Array Slot, lv_has ls 5 [(0, .ref (q 51)), (1, .ref (q 1)), (2, .int x2), (3, .int x3)] → W p l e (headSpec ww_X4_choose_51_1 ({ frames := 3, cells := 0, slots := 0, locals := 98 } : Room)).room s m args below meth c H locs 0 0 (MQ below (va_Qv Post (atX dC dI q cI cT A) A) args s 0 0 A) (F0 m 7 ls [])) (hK1 : ∀ (x2 : Int32) (x3 : Int32) (S : XS), K (.inr (.inl (x2, x3))) S → ∀ (H : Heap) (locs : List Loc), va_P (dC, dI) vwCl (wX q cI cT S) H → va_D A (wX q cI cT S) → va_S A s.heap H locs → ∀ ls : Array Slot, lv_has ls 5 [(0, .ref (q 51)), (1, .ref (q 1)), (2, .int x2), (3, .int x3)] → W p l e (headSpec ww_X4_choose_51_1 ({ frames := 3, cells := 0, slots := 0, locals := 98 } : Room)).room s m args below meth c H locs 0 0 (MQ below (va_Qv Post (atX dC dI q cI cT A) A) args s 0 0 A) (F0 m 65 ls [])) (hK2 : ∀ (x2 : Int32) (x3 : Int32) (x4 : Int32) (S : XS), K (.inr (.inr (x2, x3, x4))) S → ∀ (H : Heap) (locs : List Loc), va_P (dC, dI) vwCl (wX q cI cT S) H → va_D A (wX q cI cT S) → va_S A s.heap H locs → ∀ ls : Array Slot, lv_has ls 5 [(0, .ref (q 51)), (1, .ref (q 1)), (2, .int x2), (3, .int x3), (4, .int x4)] → W p l e (headSpec ww_X4_choose_51_1 ({ frames := 3, cells := 0, slots := 0, locals := 98 } : Room)).room s m args below meth c H locs 0 0 (MQ below (va_Qv Post (atX dC dI q cI cT A) A) args s 0 0 A) (F0 m 77 ls [])) (x2 : Int32) (x3 : Int32) (S : XS) (h : B_X4_choose_51_1 Post K (.inr (.inl (x2, x3))) S) : ∀ (H : Heap) (locs : List Loc), va_P (dC, dI) vwCl (wX q cI cT S) H → va_D A (wX q cI cT S) → va_S A s.heap H locs → ∀ ls : Array Slot, lv_has ls 5 [(0, .ref (q 51)), (1, .ref (q 1)), (2, .int x2), (3, .int x3)] → W p l e (headSpec ww_X4_choose_51_1 ({ frames := 3, cells := 0, slots := 0, locals := 98 } : Room)).room s m args below meth c H locs 0 0 (MQ below (va_Qv Post (atX dC dI q cI cT A) A) args s 0 0 A) (F0 m 65 ls []) := by
  have hx := X.1
  have hb := X.2.1
  intro H locs hP hD hS ls hl
  have lk75 := X.2.2.2.2.1 (.fieldLink RX4 75 "BreathOnLoan$Planner" "works" "I") (inX 436 rfl)
  have lk78 := X.2.2.2.2.1 (.fieldLink RX4 78 "BreathOnLoan$State" "wares" "LBreathOnLoan$Wares;") (inX 442 rfl)
  have lk82 := X.2.2.2.2.1 (.fieldLink RX4 82 "BreathOnLoan$Wares" "count" "I") (inX 463 rfl)
  have lk54 := X.2.2.2.2.1 (.fieldLink RX4 54 "BreathOnLoan$Planner" "hours" "I") (inX 424 rfl)
  have lk18 := X.2.2.2.2.1 (.fieldLink RX4 18 "BreathOnLoan$Planner" "kindOf" "[I") (inX 415 rfl)
  dsimp only [B_X4_choose_51_1] at h
  refine lv_iload_n hx hb (dk DX4_choose 37 rfl) rfl (lv_at hl 3 rfl) ?_
  refine lv_if_lt (tgt := 114) hx hb (dk DX4_choose 38 rfl) (by decide) (fun hc => ?_) (fun hc => ?_)
  · have h := h.1 hc
    exact W.vret hx hb hr (fun t ht hW => ⟨⟨_, rfl, h, by rw [ht]; exact hP, va_K.moved hW.alike X.2.2.2.2.2.2.1, hD⟩, hS.F ht⟩) hS.2.2 (dk DX4_choose 61 rfl)
  · have h := h.2 hc
    refine lv_aload_n hx hb (dk DX4_choose 39 rfl) rfl (lv_at hl 0 rfl) ?_
    refine lv_iload_n hx hb (dk DX4_choose 40 rfl) rfl (lv_at hl 3 rfl) ?_
    refine cXv (As := [.int x3]) (rest := []) X (m_X4_emptyCells_51 (l := l) (dC := dC) (dI := dI) (q := q) (cI := cI) (cT := cT) (en := en) (sz := _) x3 S h) (cwV 1 X.2.2.2.2.1 (gxV 464 465 466 439 435 rfl rfl rfl rfl rfl) rfl rfl rfl q_X4_emptyCells_51 ⟨Nat.le_of_ble_eq_true rfl, Nat.le_of_ble_eq_true rfl⟩) (rX_51 X hP) hP hD hS rfl hl.1 rfl (Nat.le_of_ble_eq_true rfl) (dk DX4_choose 41 rfl) (fun S9 H locs h hP hD hS => ?_)
    refine lv_iconst (v := 0) hx hb (dk DX4_choose 42 rfl) (by decide) ?_
    refine lv_istore (lv' := [(4, .int 0), (0, .ref (q 51)), (1, .ref (q 1)), (2, .int x2), (3, .int x3)]) hx hb (dk DX4_choose 43 rfl) hl (by decide) rfl (fun ls hl => ?_)
    exact hK2 x2 x3 0 S9 h _ _ hP hD hS ls (lv_sub hl [1, 2, 3, 4, 0] rfl)
set_option maxHeartbeats 4000000 in
set_option maxRecDepth 100000 in
theorem h_X4_choose_51_1_2 {p : Program} {l : Launch} {e : Env} {s : State} {m : MethodId} {below : List Frame} {meth : Method} {c : Code} {dC : Nat → ClassId} {dI : Nat → Nat → Nat} {q : Nat → Nat} {cI cT : ClassId} {en : Nat → Nat} {A : Nat → Prop} {args : Array Value} {Post : XS → Prop} {K : Hd_X4_choose_51_1 → XS → Prop} (X : XX p s m args c cX4_choose 5 ww_X4_choose_51_1 RX4 dC dI cI cT en A) (hr : meth.sig.returnType = none) (hlocks : meth.locks = false) (hK0 : ∀ (x2 : Int32) (x3 : Int32) (S : XS), K (.inl (x2, x3)) S → ∀ (H : Heap) (locs : List Loc), va_P (dC, dI) vwCl (wX q cI cT S) H → va_D A (wX q cI cT S) → va_S A s.heap H locs → ∀ ls : Array Slot, lv_has ls 5 [(0, .ref (q 51)), (1, .ref (q 1)), (2, .int x2), (3, .int x3)] → W p l e (headSpec ww_X4_choose_51_1 ({ frames := 3, cells := 0, slots := 0, locals := 98 } : Room)).room s m args below meth c H locs 0 0 (MQ below (va_Qv Post (atX dC dI q cI cT A) A) args s 0 0 A) (F0 m 7 ls [])) (hK1 : ∀ (x2 : Int32) (x3 : Int32) (S : XS), K (.inr (.inl (x2, x3))) S → ∀ (H : Heap) (locs : List Loc), va_P (dC, dI) vwCl (wX q cI cT S) H → va_D A (wX q cI cT S) → va_S A s.heap H locs → ∀ ls : Array Slot, lv_has ls 5 [(0, .ref (q 51)), (1, .ref (q 1)), (2, .int x2), (3, .int x3)] → W p l e (headSpec ww_X4_choose_51_1 ({ frames := 3, cells := 0, slots := 0, locals := 98 } : Room)).room s m args below meth c H locs 0 0 (MQ below (va_Qv Post (atX dC dI q cI cT A) A) args s 0 0 A) (F0 m 65 ls [])) (hK2 : ∀ (x2 : Int32) (x3 : Int32) (x4 : Int32) (S : XS), K (.inr (.inr (x2, x3, x4))) S → ∀ (H : Heap) (locs : List Loc), va_P (dC, dI) vwCl (wX q cI cT S) H → va_D A (wX q cI cT S) → va_S A s.heap H locs → ∀ ls : Array Slot, lv_has ls 5 [(0, .ref (q 51)), (1, .ref (q 1)), (2, .int x2), (3, .int x3), (4, .int x4)] → W p l e (headSpec ww_X4_choose_51_1 ({ frames := 3, cells := 0, slots := 0, locals := 98 } : Room)).room s m args below meth c H locs 0 0 (MQ below (va_Qv Post (atX dC dI q cI cT A) A) args s 0 0 A) (F0 m 77 ls [])) (x2 : Int32) (x3 : Int32) (x4 : Int32) (S : XS) (h : B_X4_choose_51_1 Post K (.inr (.inr (x2, x3, x4))) S) : ∀ (H : Heap) (locs : List Loc), va_P (dC, dI) vwCl (wX q cI cT S) H → va_D A (wX q cI cT S) → va_S A s.heap H locs → ∀ ls : Array Slot, lv_has ls 5 [(0, .ref (q 51)), (1, .ref (q 1)), (2, .int x2), (3, .int x3), (4, .int x4)] → W p l e (headSpec ww_X4_choose_51_1 ({ frames := 3, cells := 0, slots := 0, locals := 98 } : Room)).room s m args below meth c H locs 0 0 (MQ below (va_Qv Post (atX dC dI q cI cT A) A) args s 0 0 A) (F0 m 77 ls []) := by
  have hx := X.1
  have hb := X.2.1
  intro H locs hP hD hS ls hl
  have lk75 := X.2.2.2.2.1 (.fieldLink RX4 75 "BreathOnLoan$Planner" "works" "I") (inX 436 rfl)
  have lk78 := X.2.2.2.2.1 (.fieldLink RX4 78 "BreathOnLoan$State" "wares" "LBreathOnLoan$Wares;") (inX 442 rfl)
  have lk82 := X.2.2.2.2.1 (.fieldLink RX4 82 "BreathOnLoan$Wares" "count" "I") (inX 463 rfl)
  have lk54 := X.2.2.2.2.1 (.fieldLink RX4 54 "BreathOnLoan$Planner" "hours" "I") (inX 424 rfl)
  have lk18 := X.2.2.2.2.1 (.fieldLink RX4 18 "BreathOnLoan$Planner" "kindOf" "[I") (inX 415 rfl)
  dsimp only [B_X4_choose_51_1] at h
  refine lv_iload hx hb (dk DX4_choose 44 rfl) (lv_at hl 4 rfl) ?_
  refine lv_aload_n hx hb (dk DX4_choose 45 rfl) rfl (lv_at hl 0 rfl) ?_
  refine gX_51 X hP 1 (by decide) rfl lk75 (dk DX4_choose 46 rfl) ?_
  refine lv_icmp_ge (tgt := 108) hx hb (dk DX4_choose 47 rfl) (by decide) (fun hc => ?_) (fun hc => ?_)
  · have h := h.1 hc
    obtain ⟨v10, ev10⟩ : ∃ y : Int32, y = x3 + (-1) := ⟨_, rfl⟩
    have h := h v10 ev10
    refine lv_iinc (v := v10) (lv' := [(3, .int v10), (0, .ref (q 51)), (1, .ref (q 1)), (2, .int x2), (4, .int x4)]) hx hb (dk DX4_choose 59 rfl) hl (k := 3) rfl (by rw [ev10]; rfl) (by decide) rfl (fun ls hl => ?_)
    refine lv_goto (tgt := 65) hx hb (dk DX4_choose 60 rfl) (by decide) ?_
    exact hK1 x2 v10 S h _ _ hP hD hS ls (lv_sub hl [1, 2, 3, 0] rfl)
  · have h := h.2 hc
    refine lv_iload_n hx hb (dk DX4_choose 48 rfl) rfl (lv_at hl 3 rfl) ?_
    refine lv_aload_n hx hb (dk DX4_choose 49 rfl) rfl (lv_at hl 0 rfl) ?_
    refine gX_51 X hP 0 (by decide) rfl lk54 (dk DX4_choose 50 rfl) ?_
    refine lv_icmp_ge (tgt := 108) hx hb (dk DX4_choose 51 rfl) (by decide) (fun hc => ?_) (fun hc => ?_)
    · have h := h.1 hc
      obtain ⟨v11, ev11⟩ : ∃ y : Int32, y = x3 + (-1) := ⟨_, rfl⟩
      have h := h v11 ev11
      refine lv_iinc (v := v11) (lv' := [(3, .int v11), (0, .ref (q 51)), (1, .ref (q 1)), (2, .int x2), (4, .int x4)]) hx hb (dk DX4_choose 59 rfl) hl (k := 3) rfl (by rw [ev11]; rfl) (by decide) rfl (fun ls hl => ?_)
      refine lv_goto (tgt := 65) hx hb (dk DX4_choose 60 rfl) (by decide) ?_
      exact hK1 x2 v11 S h _ _ hP hD hS ls (lv_sub hl [1, 2, 3, 0] rfl)
    · have h := h.2 hc
      refine lv_aload_n hx hb (dk DX4_choose 52 rfl) rfl (lv_at hl 0 rfl) ?_
      refine lv_aload_n hx hb (dk DX4_choose 53 rfl) rfl (lv_at hl 1 rfl) ?_
      refine lv_iload hx hb (dk DX4_choose 54 rfl) (lv_at hl 4 rfl) ?_
      refine lv_iload_n hx hb (dk DX4_choose 55 rfl) rfl (lv_at hl 3 rfl) ?_
      refine cXv (As := [.ref (q 1), .int x4, .int x3]) (rest := []) X (m_X4_tryTeams_51_1 (l := l) (dC := dC) (dI := dI) (q := q) (cI := cI) (cT := cT) (en := en) (sz := _) x4 x3 S h) (cwV 3 X.2.2.2.2.1 (gxV 467 468 469 439 462 rfl rfl rfl rfl rfl) rfl rfl rfl q_X4_tryTeams_51_1 ⟨Nat.le_of_ble_eq_true rfl, Nat.le_of_ble_eq_true rfl⟩) (rX_51 X hP) hP hD hS rfl hl.1 rfl (Nat.le_of_ble_eq_true rfl) (dk DX4_choose 56 rfl) (fun S12 H locs h hP hD hS => ?_)
      obtain ⟨v13, ev13⟩ : ∃ y : Int32, y = x4 + 1 := ⟨_, rfl⟩
      have h := h v13 ev13
      refine lv_iinc (v := v13) (lv' := [(4, .int v13), (0, .ref (q 51)), (1, .ref (q 1)), (2, .int x2), (3, .int x3)]) hx hb (dk DX4_choose 57 rfl) hl (k := 4) rfl (by rw [ev13]; rfl) (by decide) rfl (fun ls hl => ?_)
      refine lv_goto (tgt := 77) hx hb (dk DX4_choose 58 rfl) (by decide) ?_
      exact hK2 x2 x3 v13 S12 h _ _ hP hD hS ls (lv_sub hl [1, 2, 3, 4, 0] rfl)
set_option maxHeartbeats 4000000 in
set_option maxRecDepth 100000 in
theorem m_X4_choose_51_1 {l : Launch} {dC : Nat → ClassId} {dI : Nat → Nat → Nat} {q : Nat → Nat} {cI cT : ClassId} {en : Nat → Nat} {sz : Nat} {Post : XS → Prop} (a1 : Int32) (S : XS) (h : VC_X4_choose_51_1 Post a1 S) : Met l yX4_choose ww_X4_choose_51_1 ({ frames := 3, cells := 0, slots := 0, locals := 98 } : Room) (va_Pc [.ref (q 51), .ref (q 1), .int a1] (preX dC dI q cI cT en S sz)) (va_Qv Post (atX dC dI q cI cT (va_A (wX q cI cT S) sz)) (va_A (wX q cI cT S) sz)) 0 0 (va_A (wX q cI cT S) sz) := by
  refine oX (cc := cX4_choose) (maxL := 5) (ret := none) (Qc := fun A => va_Qv Post (atX dC dI q cI cT A) A) (own := RX4) (by decide) rfl (fun w h => List.mem_cons_of_mem _ (List.mem_append_right _ h)) rfl (Nat.le_of_ble_eq_true rfl) (fun p e s m below meth c A ls X hr hlocks hP hD hS hl => ?_)
  have hx := X.1
  have hb := X.2.1
  have hl : lv_has ls 5 [(0, .ref (q 51)), (1, .ref (q 1)), (2, .int a1)] := hl
  have lk75 := X.2.2.2.2.1 (.fieldLink RX4 75 "BreathOnLoan$Planner" "works" "I") (inX 436 rfl)
  have lk78 := X.2.2.2.2.1 (.fieldLink RX4 78 "BreathOnLoan$State" "wares" "LBreathOnLoan$Wares;") (inX 442 rfl)
  have lk82 := X.2.2.2.2.1 (.fieldLink RX4 82 "BreathOnLoan$Wares" "count" "I") (inX 463 rfl)
  have lk54 := X.2.2.2.2.1 (.fieldLink RX4 54 "BreathOnLoan$Planner" "hours" "I") (inX 424 rfl)
  have lk18 := X.2.2.2.2.1 (.fieldLink RX4 18 "BreathOnLoan$Planner" "kindOf" "[I") (inX 415 rfl)
  generalize hargs : ([.ref (q 51), .ref (q 1), .int a1] : List Value).toArray = args at X ⊢
  have h := h (fun hd S => match hd with | (.inl (x2, x3)) => ∀ (H : Heap) (locs : List Loc), va_P (dC, dI) vwCl (wX q cI cT S) H → va_D A (wX q cI cT S) → va_S A s.heap H locs → ∀ ls : Array Slot, lv_has ls 5 [(0, .ref (q 51)), (1, .ref (q 1)), (2, .int x2), (3, .int x3)] → W p l e (headSpec ww_X4_choose_51_1 ({ frames := 3, cells := 0, slots := 0, locals := 98 } : Room)).room s m args below meth c H locs 0 0 (MQ below (va_Qv Post (atX dC dI q cI cT A) A) args s 0 0 A) (F0 m 7 ls []) | (.inr (.inl (x2, x3))) => ∀ (H : Heap) (locs : List Loc), va_P (dC, dI) vwCl (wX q cI cT S) H → va_D A (wX q cI cT S) → va_S A s.heap H locs → ∀ ls : Array Slot, lv_has ls 5 [(0, .ref (q 51)), (1, .ref (q 1)), (2, .int x2), (3, .int x3)] → W p l e (headSpec ww_X4_choose_51_1 ({ frames := 3, cells := 0, slots := 0, locals := 98 } : Room)).room s m args below meth c H locs 0 0 (MQ below (va_Qv Post (atX dC dI q cI cT A) A) args s 0 0 A) (F0 m 65 ls []) | (.inr (.inr (x2, x3, x4))) => ∀ (H : Heap) (locs : List Loc), va_P (dC, dI) vwCl (wX q cI cT S) H → va_D A (wX q cI cT S) → va_S A s.heap H locs → ∀ ls : Array Slot, lv_has ls 5 [(0, .ref (q 51)), (1, .ref (q 1)), (2, .int x2), (3, .int x3), (4, .int x4)] → W p l e (headSpec ww_X4_choose_51_1 ({ frames := 3, cells := 0, slots := 0, locals := 98 } : Room)).room s m args below meth c H locs 0 0 (MQ below (va_Qv Post (atX dC dI q cI cT A) A) args s 0 0 A) (F0 m 77 ls [])) ?_
  · skip
    refine lv_aload_n hx hb (dk DX4_choose 0 rfl) rfl (lv_at hl 0 rfl) ?_
    refine lv_iconst (v := 0) hx hb (dk DX4_choose 1 rfl) (by decide) ?_
    refine pX_51_1 X hP hD hS lk75 (dk DX4_choose 2 rfl) (fun S1 eS1 H locs hP hD hS => ?_)
    have h := h S1 eS1
    refine lv_iconst (v := 0) hx hb (dk DX4_choose 3 rfl) (by decide) ?_
    refine lv_istore_n (lv' := [(3, .int 0), (0, .ref (q 51)), (1, .ref (q 1)), (2, .int a1)]) hx hb (dk DX4_choose 4 rfl) rfl hl (by decide) rfl (fun ls hl => ?_)
    exact h _ _ hP hD hS ls (lv_sub hl [1, 2, 3, 0] rfl)
  · rintro (⟨x2, x3⟩ | ⟨x2, x3⟩ | ⟨x2, x3, x4⟩) S hB
    · exact h_X4_choose_51_1_0 X hr hlocks (hK0 := fun _ _ _ h => h) (hK1 := fun _ _ _ h => h) (hK2 := fun _ _ _ _ h => h) x2 x3 S hB
    · exact h_X4_choose_51_1_1 X hr hlocks (hK0 := fun _ _ _ h => h) (hK1 := fun _ _ _ h => h) (hK2 := fun _ _ _ _ h => h) x2 x3 S hB
    · exact h_X4_choose_51_1_2 X hr hlocks (hK0 := fun _ _ _ h => h) (hK1 := fun _ _ _ h => h) (hK2 := fun _ _ _ _ h => h) x2 x3 x4 S hB

def ww_X4_answer_51 : List Cond := .code yX4_answer cX4_answer 4 (some .int) :: (WdX ++ WsX)
theorem q_X4_answer_51 : yX4_answer.cls = RX4 ∧ yX4_answer.cls ≠ "java/lang/invoke/MethodHandle" ∧ yX4_answer.cls ≠ "java/lang/invoke/VarHandle" ∧ (parseMethodDescriptor yX4_answer.desc).map (fun d => d.parameters.length) = some 1 := by decide +kernel
abbrev Hd_X4_answer_51 : Type := (Int32 × Int32 × Int32)
def B_X4_answer_51 (Post : Int32 → XS → Prop) (K : Hd_X4_answer_51 → XS → Prop) : Hd_X4_answer_51 → XS → Prop
  | (x1, x2, x3), S => ((x1 ≤ x3 → vp_in x2 400 ∧ Post ((S.2.1 57) x2.toNatClampNeg) S) ∧ (¬ x1 ≤ x3 → vp_in x2 400 ∧ ∀ v2 : Int32, v2 = (S.2.1 58) x2.toNatClampNeg → ∀ v3 : Int32, v3 = x3 + 1 → K (x1, v2, v3) S))
def VC_X4_answer_51 (Post : Int32 → XS → Prop) (a0 : Int32) (S : XS) : Prop := ∀ K : Hd_X4_answer_51 → XS → Prop, (∀ h S, B_X4_answer_51 Post K h S → K h S) → VC_X4_cellOf (fun r1 => ((¬ a0 = (-1) → ((¬ a0 = (-2) → ((a0 < 0 → Post (-1000000) S) ∧ (¬ a0 < 0 → vp_in r1 400 ∧ ((a0 < ((S.2.1 56) r1.toNatClampNeg) → K (a0, r1, 0) S) ∧ (¬ a0 < ((S.2.1 56) r1.toNatClampNeg) → Post (-1000000) S))))) ∧ (a0 = (-2) → vp_in r1 400 ∧ Post ((S.2.1 56) r1.toNatClampNeg) S))) ∧ (a0 = (-1) → vp_in r1 400 ∧ Post ((S.2.1 55) r1.toNatClampNeg) S))) (((1 : Int32) <<< ((S.1 1633) &&& 31)) - 1) 0
set_option maxHeartbeats 4000000 in
set_option maxRecDepth 100000 in
theorem h_X4_answer_51_0 {p : Program} {l : Launch} {e : Env} {s : State} {m : MethodId} {below : List Frame} {meth : Method} {c : Code} {dC : Nat → ClassId} {dI : Nat → Nat → Nat} {q : Nat → Nat} {cI cT : ClassId} {en : Nat → Nat} {A : Nat → Prop} {args : Array Value} {Post : Int32 → XS → Prop} {K : Hd_X4_answer_51 → XS → Prop} (X : XX p s m args c cX4_answer 4 ww_X4_answer_51 RX4 dC dI cI cT en A) (hr : meth.sig.returnType = (some .int)) (hlocks : meth.locks = false) (hK0 : ∀ (x1 : Int32) (x2 : Int32) (x3 : Int32) (S : XS), K (x1, x2, x3) S → ∀ (H : Heap) (locs : List Loc), va_P (dC, dI) vwCl (wX q cI cT S) H → va_D A (wX q cI cT S) → va_S A s.heap H locs → ∀ ls : Array Slot, lv_has ls 4 [(0, .ref (q 51)), (1, .int x1), (2, .int x2), (3, .int x3)] → W p l e (headSpec ww_X4_answer_51 ({ frames := 1, cells := 0, slots := 0, locals := 21 } : Room)).room s m args below meth c H locs 0 0 (MQ below (va_Qi Post (atX dC dI q cI cT A) A) args s 0 0 A) (F0 m 57 ls [])) (x1 : Int32) (x2 : Int32) (x3 : Int32) (S : XS) (h : B_X4_answer_51 Post K (x1, x2, x3) S) : ∀ (H : Heap) (locs : List Loc), va_P (dC, dI) vwCl (wX q cI cT S) H → va_D A (wX q cI cT S) → va_S A s.heap H locs → ∀ ls : Array Slot, lv_has ls 4 [(0, .ref (q 51)), (1, .int x1), (2, .int x2), (3, .int x3)] → W p l e (headSpec ww_X4_answer_51 ({ frames := 1, cells := 0, slots := 0, locals := 21 } : Room)).room s m args below meth c H locs 0 0 (MQ below (va_Qi Post (atX dC dI q cI cT A) A) args s 0 0 A) (F0 m 57 ls []) := by
  have hx := X.1
  have hb := X.2.1
  intro H locs hP hD hS ls hl
  have lk75 := X.2.2.2.2.1 (.fieldLink RX4 75 "BreathOnLoan$Planner" "works" "I") (inX 436 rfl)
  have lk24 := X.2.2.2.2.1 (.fieldLink RX4 24 "BreathOnLoan$Planner" "count" "[I") (inX 417 rfl)
  have lk21 := X.2.2.2.2.1 (.fieldLink RX4 21 "BreathOnLoan$Planner" "left" "[I") (inX 416 rfl)
  have lk27 := X.2.2.2.2.1 (.fieldLink RX4 27 "BreathOnLoan$Planner" "pick" "[I") (inX 418 rfl)
  have lk30 := X.2.2.2.2.1 (.fieldLink RX4 30 "BreathOnLoan$Planner" "after" "[I") (inX 419 rfl)
  dsimp only [B_X4_answer_51] at h
  refine lv_iload_n hx hb (dk DX4_answer 37 rfl) rfl (lv_at hl 3 rfl) ?_
  refine lv_iload_n hx hb (dk DX4_answer 38 rfl) rfl (lv_at hl 1 rfl) ?_
  refine lv_icmp_ge (tgt := 75) hx hb (dk DX4_answer 39 rfl) (by decide) (fun hc => ?_) (fun hc => ?_)
  · have h := h.1 hc
    refine lv_aload_n hx hb (dk DX4_answer 47 rfl) rfl (lv_at hl 0 rfl) ?_
    refine gX_51 X hP 9 (by decide) rfl lk27 (dk DX4_answer 48 rfl) ?_
    refine lv_iload_n hx hb (dk DX4_answer 49 rfl) rfl (lv_at hl 2 rfl) ?_
    obtain ⟨hin, h⟩ := h
    refine ldX_57 X hP hin (dk DX4_answer 50 rfl) ?_
    exact W.iret (v := (S.2.1 57) x2.toNatClampNeg) hx hb hr (fun t ht hW => ⟨⟨_, _, rfl, h, by rw [ht]; exact hP, va_K.moved hW.alike X.2.2.2.2.2.2.1, hD⟩, hS.F ht⟩) hS.2.2 (dk DX4_answer 51 rfl)
  · have h := h.2 hc
    refine lv_aload_n hx hb (dk DX4_answer 40 rfl) rfl (lv_at hl 0 rfl) ?_
    refine gX_51 X hP 10 (by decide) rfl lk30 (dk DX4_answer 41 rfl) ?_
    refine lv_iload_n hx hb (dk DX4_answer 42 rfl) rfl (lv_at hl 2 rfl) ?_
    obtain ⟨hin, h⟩ := h
    refine ldX_58 X hP hin (dk DX4_answer 43 rfl) ?_
    refine lv_topi (fun v2 ev2 => ?_)
    have h := h v2 ev2
    refine lv_istore_n (lv' := [(2, .int v2), (0, .ref (q 51)), (1, .int x1), (3, .int x3)]) hx hb (dk DX4_answer 44 rfl) rfl hl (by decide) rfl (fun ls hl => ?_)
    obtain ⟨v3, ev3⟩ : ∃ y : Int32, y = x3 + 1 := ⟨_, rfl⟩
    have h := h v3 ev3
    refine lv_iinc (v := v3) (lv' := [(3, .int v3), (2, .int v2), (0, .ref (q 51)), (1, .int x1)]) hx hb (dk DX4_answer 45 rfl) hl (k := 3) rfl (by rw [ev3]; rfl) (by decide) rfl (fun ls hl => ?_)
    refine lv_goto (tgt := 57) hx hb (dk DX4_answer 46 rfl) (by decide) ?_
    exact hK0 x1 v2 v3 S h _ _ hP hD hS ls (lv_sub hl [2, 3, 1, 0] rfl)
set_option maxHeartbeats 4000000 in
set_option maxRecDepth 100000 in
theorem m_X4_answer_51 {l : Launch} {dC : Nat → ClassId} {dI : Nat → Nat → Nat} {q : Nat → Nat} {cI cT : ClassId} {en : Nat → Nat} {sz : Nat} {Post : Int32 → XS → Prop} (a0 : Int32) (S : XS) (h : VC_X4_answer_51 Post a0 S) : Met l yX4_answer ww_X4_answer_51 ({ frames := 1, cells := 0, slots := 0, locals := 21 } : Room) (va_Pc [.ref (q 51), .int a0] (preX dC dI q cI cT en S sz)) (va_Qi Post (atX dC dI q cI cT (va_A (wX q cI cT S) sz)) (va_A (wX q cI cT S) sz)) 0 0 (va_A (wX q cI cT S) sz) := by
  refine oX (cc := cX4_answer) (maxL := 4) (ret := (some .int)) (Qc := fun A => va_Qi Post (atX dC dI q cI cT A) A) (own := RX4) (by decide) rfl (fun w h => List.mem_cons_of_mem _ (List.mem_append_right _ h)) rfl (Nat.le_of_ble_eq_true rfl) (fun p e s m below meth c A ls X hr hlocks hP hD hS hl => ?_)
  have hx := X.1
  have hb := X.2.1
  have hl : lv_has ls 4 [(0, .ref (q 51)), (1, .int a0)] := hl
  have lk75 := X.2.2.2.2.1 (.fieldLink RX4 75 "BreathOnLoan$Planner" "works" "I") (inX 436 rfl)
  have lk24 := X.2.2.2.2.1 (.fieldLink RX4 24 "BreathOnLoan$Planner" "count" "[I") (inX 417 rfl)
  have lk21 := X.2.2.2.2.1 (.fieldLink RX4 21 "BreathOnLoan$Planner" "left" "[I") (inX 416 rfl)
  have lk27 := X.2.2.2.2.1 (.fieldLink RX4 27 "BreathOnLoan$Planner" "pick" "[I") (inX 418 rfl)
  have lk30 := X.2.2.2.2.1 (.fieldLink RX4 30 "BreathOnLoan$Planner" "after" "[I") (inX 419 rfl)
  generalize hargs : ([.ref (q 51), .int a0] : List Value).toArray = args at X ⊢
  have h := h (fun hd S => match hd with | (x1, x2, x3) => ∀ (H : Heap) (locs : List Loc), va_P (dC, dI) vwCl (wX q cI cT S) H → va_D A (wX q cI cT S) → va_S A s.heap H locs → ∀ ls : Array Slot, lv_has ls 4 [(0, .ref (q 51)), (1, .int x1), (2, .int x2), (3, .int x3)] → W p l e (headSpec ww_X4_answer_51 ({ frames := 1, cells := 0, slots := 0, locals := 21 } : Room)).room s m args below meth c H locs 0 0 (MQ below (va_Qi Post (atX dC dI q cI cT A) A) args s 0 0 A) (F0 m 57 ls [])) ?_
  · skip
    refine lv_iconst (v := 1) hx hb (dk DX4_answer 0 rfl) (by decide) ?_
    refine lv_aload_n hx hb (dk DX4_answer 1 rfl) rfl (lv_at hl 0 rfl) ?_
    refine gX_51 X hP 1 (by decide) rfl lk75 (dk DX4_answer 2 rfl) ?_
    refine lv_ishl hx hb (dk DX4_answer 3 rfl) ?_
    refine lv_iconst (v := 1) hx hb (dk DX4_answer 4 rfl) (by decide) ?_
    refine lv_isub hx hb (dk DX4_answer 5 rfl) ?_
    refine lv_iconst (v := 0) hx hb (dk DX4_answer 6 rfl) (by decide) ?_
    refine cSi (As := [.int (((1 : Int32) <<< ((S.1 1633) &&& 31)) - 1), .int 0]) (rest := []) ⟨X.1, X.2.1, X.2.2.1, X.2.2.2.1, X.2.2.2.2.1⟩ (m_X4_cellOf (l := l) (((1 : Int32) <<< ((S.1 1633) &&& 31)) - 1) 0 h) (va_cwS 2 X.2.2.2.2.1 (gxS 437 438 439 434 rfl rfl rfl rfl) rfl rfl rfl q_X4_cellOf ⟨Nat.le_of_ble_eq_true rfl, Nat.le_of_ble_eq_true rfl⟩) rfl hl.1 rfl (Nat.le_of_ble_eq_true rfl) (dk DX4_answer 7 rfl) (fun r1 h => ?_)
    refine lv_istore_n (lv' := [(2, .int r1), (0, .ref (q 51)), (1, .int a0)]) hx hb (dk DX4_answer 8 rfl) rfl hl (by decide) rfl (fun ls hl => ?_)
    refine lv_iload_n hx hb (dk DX4_answer 9 rfl) rfl (lv_at hl 2 rfl) ?_
    refine lv_iconst (v := (-1)) hx hb (dk DX4_answer 10 rfl) (by decide) ?_
    refine lv_icmp_ne (tgt := 25) hx hb (dk DX4_answer 11 rfl) (by decide) (fun hc => ?_) (fun hc => ?_)
    · have h := h.1 hc
      refine lv_iload_n hx hb (dk DX4_answer 17 rfl) rfl (lv_at hl 2 rfl) ?_
      refine lv_bipush (v := (-2)) hx hb (dk DX4_answer 18 rfl) (by decide) ?_
      refine lv_icmp_ne (tgt := 38) hx hb (dk DX4_answer 19 rfl) (by decide) (fun hc => ?_) (fun hc => ?_)
      · have h := h.1 hc
        refine lv_iload_n hx hb (dk DX4_answer 25 rfl) rfl (lv_at hl 2 rfl) ?_
        refine lv_if_lt (tgt := 52) hx hb (dk DX4_answer 26 rfl) (by decide) (fun hc => ?_) (fun hc => ?_)
        · have h := h.1 hc
          refine lv_ldc (v := (-1000000)) hx hb X.2.2.2.1 (X.2.2.2.2.1 (.constant RX4 96 (-1000000)) (inX 472 rfl)) (dk DX4_answer 33 rfl) ?_
          exact W.iret (v := (-1000000)) hx hb hr (fun t ht hW => ⟨⟨_, _, rfl, h, by rw [ht]; exact hP, va_K.moved hW.alike X.2.2.2.2.2.2.1, hD⟩, hS.F ht⟩) hS.2.2 (dk DX4_answer 34 rfl)
        · have h := h.2 hc
          refine lv_iload_n hx hb (dk DX4_answer 27 rfl) rfl (lv_at hl 2 rfl) ?_
          refine lv_aload_n hx hb (dk DX4_answer 28 rfl) rfl (lv_at hl 1 rfl) ?_
          refine gX_51 X hP 8 (by decide) rfl lk24 (dk DX4_answer 29 rfl) ?_
          refine lv_iload_n hx hb (dk DX4_answer 30 rfl) rfl (lv_at hl 0 rfl) ?_
          obtain ⟨hin, h⟩ := h
          refine ldX_56 X hP hin (dk DX4_answer 31 rfl) ?_
          refine lv_icmp_lt (tgt := 55) hx hb (dk DX4_answer 32 rfl) (by decide) (fun hc => ?_) (fun hc => ?_)
          · have h := h.1 hc
            refine lv_iconst (v := 0) hx hb (dk DX4_answer 35 rfl) (by decide) ?_
            refine lv_istore_n (lv' := [(3, .int 0), (2, .int r1), (0, .ref (q 51)), (1, .int a0)]) hx hb (dk DX4_answer 36 rfl) rfl hl (by decide) rfl (fun ls hl => ?_)
            exact h _ _ hP hD hS ls (lv_sub hl [2, 3, 1, 0] rfl)
          · have h := h.2 hc
            refine lv_ldc (v := (-1000000)) hx hb X.2.2.2.1 (X.2.2.2.2.1 (.constant RX4 96 (-1000000)) (inX 472 rfl)) (dk DX4_answer 33 rfl) ?_
            exact W.iret (v := (-1000000)) hx hb hr (fun t ht hW => ⟨⟨_, _, rfl, h, by rw [ht]; exact hP, va_K.moved hW.alike X.2.2.2.2.2.2.1, hD⟩, hS.F ht⟩) hS.2.2 (dk DX4_answer 34 rfl)
      · have h := h.2 hc
        refine lv_aload_n hx hb (dk DX4_answer 20 rfl) rfl (lv_at hl 1 rfl) ?_
        refine gX_51 X hP 8 (by decide) rfl lk24 (dk DX4_answer 21 rfl) ?_
        refine lv_iload_n hx hb (dk DX4_answer 22 rfl) rfl (lv_at hl 0 rfl) ?_
        obtain ⟨hin, h⟩ := h
        refine ldX_56 X hP hin (dk DX4_answer 23 rfl) ?_
        exact W.iret (v := (S.2.1 56) r1.toNatClampNeg) hx hb hr (fun t ht hW => ⟨⟨_, _, rfl, h, by rw [ht]; exact hP, va_K.moved hW.alike X.2.2.2.2.2.2.1, hD⟩, hS.F ht⟩) hS.2.2 (dk DX4_answer 24 rfl)
    · have h := h.2 hc
      refine lv_aload_n hx hb (dk DX4_answer 12 rfl) rfl (lv_at hl 1 rfl) ?_
      refine gX_51 X hP 7 (by decide) rfl lk21 (dk DX4_answer 13 rfl) ?_
      refine lv_iload_n hx hb (dk DX4_answer 14 rfl) rfl (lv_at hl 0 rfl) ?_
      obtain ⟨hin, h⟩ := h
      refine ldX_55 X hP hin (dk DX4_answer 15 rfl) ?_
      exact W.iret (v := (S.2.1 55) r1.toNatClampNeg) hx hb hr (fun t ht hW => ⟨⟨_, _, rfl, h, by rw [ht]; exact hP, va_K.moved hW.alike X.2.2.2.2.2.2.1, hD⟩, hS.F ht⟩) hS.2.2 (dk DX4_answer 16 rfl)
  · rintro ⟨x1, x2, x3⟩ S hB
    exact h_X4_answer_51_0 X hr hlocks (hK0 := fun _ _ _ _ h => h) x1 x2 x3 S hB

