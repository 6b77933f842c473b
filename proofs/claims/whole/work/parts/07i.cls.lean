-- X4_emptyCells_51 X4_isDoneBy_51_1 X4_isBetter_51
def ww_X4_emptyCells_51 : List Cond := .code yX4_emptyCells cX4_emptyCells 4 none :: (WdX ++ WsX)
theorem q_X4_emptyCells_51 : yX4_emptyCells.cls = RX4 ∧ yX4_emptyCells.cls ≠ "java/lang/invoke/MethodHandle" ∧ yX4_emptyCells.cls ≠ "java/lang/invoke/VarHandle" ∧ (parseMethodDescriptor yX4_emptyCells.desc).map (fun d => d.parameters.length) = some 1 := by decide +kernel
abbrev Hd_X4_emptyCells_51 : Type := (Int32 × Int32)
def B_X4_emptyCells_51 (Post : XS → Prop) (K : Hd_X4_emptyCells_51 → XS → Prop) : Hd_X4_emptyCells_51 → XS → Prop
  | (x1, x2), S => ((((1 : Int32) <<< ((S.1 1633) &&& 31)) ≤ x2 → Post S) ∧ (¬ ((1 : Int32) <<< ((S.1 1633) &&& 31)) ≤ x2 → VC_X4_cellOf (fun r1 => vp_in r1 400 ∧ ∀ S2 : XS, S2 = xF S 55 (upd (S.2.1 55) r1.toNatClampNeg 0) → vp_in r1 400 ∧ ∀ S3 : XS, S3 = xF S2 56 (upd (S2.2.1 56) r1.toNatClampNeg 0) → vp_in r1 400 ∧ ∀ S4 : XS, S4 = xF S3 57 (upd (S3.2.1 57) r1.toNatClampNeg (-1)) → vp_in r1 400 ∧ ∀ S5 : XS, S5 = xF S4 58 (upd (S4.2.1 58) r1.toNatClampNeg r1) → ∀ v6 : Int32, v6 = x2 + 1 → K (x1, v6) S5) x2 x1))
def VC_X4_emptyCells_51 (Post : XS → Prop) (a0 : Int32) (S : XS) : Prop := ∀ K : Hd_X4_emptyCells_51 → XS → Prop, (∀ h S, B_X4_emptyCells_51 Post K h S → K h S) → K (a0, 0) S
set_option maxHeartbeats 4000000 in
set_option maxRecDepth 100000 in
theorem h_X4_emptyCells_51_0 {p : Program} {l : Launch} {e : Env} {s : State} {m : MethodId} {below : List Frame} {meth : Method} {c : Code} {dC : Nat → ClassId} {dI : Nat → Nat → Nat} {q : Nat → Nat} {cI cT : ClassId} {en : Nat → Nat} {A : Nat → Prop} {args : Array Value} {Post : XS → Prop} {K : Hd_X4_emptyCells_51 → XS → Prop} (X : XX p s m args c cX4_emptyCells 4 ww_X4_emptyCells_51 RX4 dC dI cI cT en A) (hr : meth.sig.returnType = none) (hlocks : meth.locks = false) (hK0 : ∀ (x1 : Int32) (x2 : Int32) (S : XS), K (x1, x2) S → ∀ (H : Heap) (locs : List Loc), va_P (dC, dI) vwCl (wX q cI cT S) H → va_D A (wX q cI cT S) → va_S A s.heap H locs → ∀ ls : Array Slot, lv_has ls 4 [(0, .ref (q 51)), (1, .int x1), (2, .int x2)] → W p l e (headSpec ww_X4_emptyCells_51 ({ frames := 1, cells := 0, slots := 0, locals := 21 } : Room)).room s m args below meth c H locs 0 0 (MQ below (va_Qv Post (atX dC dI q cI cT A) A) args s 0 0 A) (F0 m 2 ls [])) (x1 : Int32) (x2 : Int32) (S : XS) (h : B_X4_emptyCells_51 Post K (x1, x2) S) : ∀ (H : Heap) (locs : List Loc), va_P (dC, dI) vwCl (wX q cI cT S) H → va_D A (wX q cI cT S) → va_S A s.heap H locs → ∀ ls : Array Slot, lv_has ls 4 [(0, .ref (q 51)), (1, .int x1), (2, .int x2)] → W p l e (headSpec ww_X4_emptyCells_51 ({ frames := 1, cells := 0, slots := 0, locals := 21 } : Room)).room s m args below meth c H locs 0 0 (MQ below (va_Qv Post (atX dC dI q cI cT A) A) args s 0 0 A) (F0 m 2 ls []) := by
  have hx := X.1
  have hb := X.2.1
  intro H locs hP hD hS ls hl
  have lk75 := X.2.2.2.2.1 (.fieldLink RX4 75 "BreathOnLoan$Planner" "works" "I") (inX 436 rfl)
  have lk21 := X.2.2.2.2.1 (.fieldLink RX4 21 "BreathOnLoan$Planner" "left" "[I") (inX 416 rfl)
  have lk24 := X.2.2.2.2.1 (.fieldLink RX4 24 "BreathOnLoan$Planner" "count" "[I") (inX 417 rfl)
  have lk27 := X.2.2.2.2.1 (.fieldLink RX4 27 "BreathOnLoan$Planner" "pick" "[I") (inX 418 rfl)
  have lk30 := X.2.2.2.2.1 (.fieldLink RX4 30 "BreathOnLoan$Planner" "after" "[I") (inX 419 rfl)
  dsimp only [B_X4_emptyCells_51] at h
  refine lv_iload_n hx hb (dk DX4_emptyCells 2 rfl) rfl (lv_at hl 2 rfl) ?_
  refine lv_iconst (v := 1) hx hb (dk DX4_emptyCells 3 rfl) (by decide) ?_
  refine lv_aload_n hx hb (dk DX4_emptyCells 4 rfl) rfl (lv_at hl 0 rfl) ?_
  refine gX_51 X hP 1 (by decide) rfl lk75 (dk DX4_emptyCells 5 rfl) ?_
  refine lv_ishl hx hb (dk DX4_emptyCells 6 rfl) ?_
  refine lv_icmp_ge (tgt := 52) hx hb (dk DX4_emptyCells 7 rfl) (by decide) (fun hc => ?_) (fun hc => ?_)
  · have h := h.1 hc
    exact W.vret hx hb hr (fun t ht hW => ⟨⟨_, rfl, h, by rw [ht]; exact hP, va_K.moved hW.alike X.2.2.2.2.2.2.1, hD⟩, hS.F ht⟩) hS.2.2 (dk DX4_emptyCells 34 rfl)
  · have h := h.2 hc
    refine lv_iload_n hx hb (dk DX4_emptyCells 8 rfl) rfl (lv_at hl 2 rfl) ?_
    refine lv_iload_n hx hb (dk DX4_emptyCells 9 rfl) rfl (lv_at hl 1 rfl) ?_
    refine cSi (As := [.int x2, .int x1]) (rest := []) ⟨X.1, X.2.1, X.2.2.1, X.2.2.2.1, X.2.2.2.2.1⟩ (m_X4_cellOf (l := l) x2 x1 h) (va_cwS 2 X.2.2.2.2.1 (gxS 437 438 439 434 rfl rfl rfl rfl) rfl rfl rfl q_X4_cellOf ⟨Nat.le_of_ble_eq_true rfl, Nat.le_of_ble_eq_true rfl⟩) rfl hl.1 rfl (Nat.le_of_ble_eq_true rfl) (dk DX4_emptyCells 10 rfl) (fun r1 h => ?_)
    refine lv_istore_n (lv' := [(3, .int r1), (0, .ref (q 51)), (1, .int x1), (2, .int x2)]) hx hb (dk DX4_emptyCells 11 rfl) rfl hl (by decide) rfl (fun ls hl => ?_)
    refine lv_aload_n hx hb (dk DX4_emptyCells 12 rfl) rfl (lv_at hl 1 rfl) ?_
    refine gX_51 X hP 7 (by decide) rfl lk21 (dk DX4_emptyCells 13 rfl) ?_
    refine lv_iload_n hx hb (dk DX4_emptyCells 14 rfl) rfl (lv_at hl 0 rfl) ?_
    refine lv_iconst (v := 0) hx hb (dk DX4_emptyCells 15 rfl) (by decide) ?_
    obtain ⟨hin, h⟩ := h
    refine stX_55 X hP hD hS hin (dk DX4_emptyCells 16 rfl) (fun S2 eS2 H locs hP hD hS => ?_)
    have h := h S2 eS2
    refine lv_aload_n hx hb (dk DX4_emptyCells 17 rfl) rfl (lv_at hl 1 rfl) ?_
    refine gX_51 X hP 8 (by decide) rfl lk24 (dk DX4_emptyCells 18 rfl) ?_
    refine lv_iload_n hx hb (dk DX4_emptyCells 19 rfl) rfl (lv_at hl 0 rfl) ?_
    refine lv_iconst (v := 0) hx hb (dk DX4_emptyCells 20 rfl) (by decide) ?_
    obtain ⟨hin, h⟩ := h
    refine stX_56 X hP hD hS hin (dk DX4_emptyCells 21 rfl) (fun S3 eS3 H locs hP hD hS => ?_)
    have h := h S3 eS3
    refine lv_aload_n hx hb (dk DX4_emptyCells 22 rfl) rfl (lv_at hl 1 rfl) ?_
    refine gX_51 X hP 9 (by decide) rfl lk27 (dk DX4_emptyCells 23 rfl) ?_
    refine lv_iload_n hx hb (dk DX4_emptyCells 24 rfl) rfl (lv_at hl 0 rfl) ?_
    refine lv_iconst (v := (-1)) hx hb (dk DX4_emptyCells 25 rfl) (by decide) ?_
    obtain ⟨hin, h⟩ := h
    refine stX_57 X hP hD hS hin (dk DX4_emptyCells 26 rfl) (fun S4 eS4 H locs hP hD hS => ?_)
    have h := h S4 eS4
    refine lv_aload_n hx hb (dk DX4_emptyCells 27 rfl) rfl (lv_at hl 1 rfl) ?_
    refine gX_51 X hP 10 (by decide) rfl lk30 (dk DX4_emptyCells 28 rfl) ?_
    refine lv_iload_n hx hb (dk DX4_emptyCells 29 rfl) rfl (lv_at hl 0 rfl) ?_
    refine lv_iload_n hx hb (dk DX4_emptyCells 30 rfl) rfl (lv_at hl 0 rfl) ?_
    obtain ⟨hin, h⟩ := h
    refine stX_58 X hP hD hS hin (dk DX4_emptyCells 31 rfl) (fun S5 eS5 H locs hP hD hS => ?_)
    have h := h S5 eS5
    obtain ⟨v6, ev6⟩ : ∃ y : Int32, y = x2 + 1 := ⟨_, rfl⟩
    have h := h v6 ev6
    refine lv_iinc (v := v6) (lv' := [(2, .int v6), (3, .int r1), (0, .ref (q 51)), (1, .int x1)]) hx hb (dk DX4_emptyCells 32 rfl) hl (k := 3) rfl (by rw [ev6]; rfl) (by decide) rfl (fun ls hl => ?_)
    refine lv_goto (tgt := 2) hx hb (dk DX4_emptyCells 33 rfl) (by decide) ?_
    exact hK0 x1 v6 S5 h _ _ hP hD hS ls (lv_sub hl [2, 3, 0] rfl)
set_option maxHeartbeats 4000000 in
set_option maxRecDepth 100000 in
theorem m_X4_emptyCells_51 {l : Launch} {dC : Nat → ClassId} {dI : Nat → Nat → Nat} {q : Nat → Nat} {cI cT : ClassId} {en : Nat → Nat} {sz : Nat} {Post : XS → Prop} (a0 : Int32) (S : XS) (h : VC_X4_emptyCells_51 Post a0 S) : Met l yX4_emptyCells ww_X4_emptyCells_51 ({ frames := 1, cells := 0, slots := 0, locals := 21 } : Room) (va_Pc [.ref (q 51), .int a0] (preX dC dI q cI cT en S sz)) (va_Qv Post (atX dC dI q cI cT (va_A (wX q cI cT S) sz)) (va_A (wX q cI cT S) sz)) 0 0 (va_A (wX q cI cT S) sz) := by
  refine oX (cc := cX4_emptyCells) (maxL := 4) (ret := none) (Qc := fun A => va_Qv Post (atX dC dI q cI cT A) A) (own := RX4) (by decide) rfl (fun w h => List.mem_cons_of_mem _ (List.mem_append_right _ h)) rfl (Nat.le_of_ble_eq_true rfl) (fun p e s m below meth c A ls X hr hlocks hP hD hS hl => ?_)
  have hx := X.1
  have hb := X.2.1
  have hl : lv_has ls 4 [(0, .ref (q 51)), (1, .int a0)] := hl
  have lk75 := X.2.2.2.2.1 (.fieldLink RX4 75 "BreathOnLoan$Planner" "works" "I") (inX 436 rfl)
  have lk21 := X.2.2.2.2.1 (.fieldLink RX4 21 "BreathOnLoan$Planner" "left" "[I") (inX 416 rfl)
  have lk24 := X.2.2.2.2.1 (.fieldLink RX4 24 "BreathOnLoan$Planner" "count" "[I") (inX 417 rfl)
  have lk27 := X.2.2.2.2.1 (.fieldLink RX4 27 "BreathOnLoan$Planner" "pick" "[I") (inX 418 rfl)
  have lk30 := X.2.2.2.2.1 (.fieldLink RX4 30 "BreathOnLoan$Planner" "after" "[I") (inX 419 rfl)
  generalize hargs : ([.ref (q 51), .int a0] : List Value).toArray = args at X ⊢
  have h := h (fun hd S => match hd with | (x1, x2) => ∀ (H : Heap) (locs : List Loc), va_P (dC, dI) vwCl (wX q cI cT S) H → va_D A (wX q cI cT S) → va_S A s.heap H locs → ∀ ls : Array Slot, lv_has ls 4 [(0, .ref (q 51)), (1, .int x1), (2, .int x2)] → W p l e (headSpec ww_X4_emptyCells_51 ({ frames := 1, cells := 0, slots := 0, locals := 21 } : Room)).room s m args below meth c H locs 0 0 (MQ below (va_Qv Post (atX dC dI q cI cT A) A) args s 0 0 A) (F0 m 2 ls [])) ?_
  · skip
    refine lv_iconst (v := 0) hx hb (dk DX4_emptyCells 0 rfl) (by decide) ?_
    refine lv_istore_n (lv' := [(2, .int 0), (0, .ref (q 51)), (1, .int a0)]) hx hb (dk DX4_emptyCells 1 rfl) rfl hl (by decide) rfl (fun ls hl => ?_)
    exact h _ _ hP hD hS ls (lv_sub hl [1, 2, 0] rfl)
  · rintro ⟨x1, x2⟩ S hB
    exact h_X4_emptyCells_51_0 X hr hlocks (hK0 := fun _ _ _ h => h) x1 x2 S hB

def ww_X4_isDoneBy_51_1 : List Cond := .code yX4_isDoneBy cX4_isDoneBy 14 (some .boolean) :: (WdX ++ WsX)
theorem q_X4_isDoneBy_51_1 : yX4_isDoneBy.cls = RX4 ∧ yX4_isDoneBy.cls ≠ "java/lang/invoke/MethodHandle" ∧ yX4_isDoneBy.cls ≠ "java/lang/invoke/VarHandle" ∧ (parseMethodDescriptor yX4_isDoneBy.desc).map (fun d => d.parameters.length) = some 5 := by decide +kernel
abbrev Hd_X4_isDoneBy_51_1 : Type := (Int32 × Int32 × Int32 × Int32 × Int32 × Int32) ⊕ (Int32 × Int32 × Int32 × Int32 × Int32 × Int32 × Int32 × Int32 × Int32) ⊕ (Int32 × Int32 × Int32 × Int32 × Int32 × Int32 × Int32 × Int32 × Int32 × Int32 × Int32 × Int32 × Int32 × Int32 × Int32)
def B_X4_isDoneBy_51_1 (Post : Int32 → XS → Prop) (K : Hd_X4_isDoneBy_51_1 → XS → Prop) : Hd_X4_isDoneBy_51_1 → XS → Prop
  | (.inl (x2, x3, x4, x5, x6, t0)), S => vp_in x2 6 ∧ ∀ v2 : Int32, v2 = (S.2.1 8) x2.toNatClampNeg → vp_in x2 6 ∧ ∀ v3 : Int32, v3 = (S.2.1 10) x2.toNatClampNeg → ∀ S4 : XS, S4 = xI S 1635 v3 → K (.inr (.inl (x2, x3, x4, x5, x6, t0, v2, 0, x5))) S4
  | (.inr (.inl (x2, x3, x4, x5, x6, x7, x8, x9, x10))), S => (((S.1 1632) ≤ x10 → Post 0 S) ∧ (¬ (S.1 1632) ≤ x10 → vp_in x10 24 ∧ ∀ v5 : Int32, v5 = (if (if ((S.2.1 52) x10.toNatClampNeg) < x7 then ((S.2.1 52) x10.toNatClampNeg) else x7) < x8 then (if ((S.2.1 52) x10.toNatClampNeg) < x7 then ((S.2.1 52) x10.toNatClampNeg) else x7) else x8) → ∀ v6 : Int32, v6 = (if x6 < v5 then x6 else v5) → ∀ v7 : Int32, v7 = v5 - v6 → vp_in ((x10 * 6) + x3) 144 ∧ vp_in ((x10 * 6) + x4) 144 ∧ ∀ v8 : Int32, v8 = (S.1 1635) - ((v6 * ((S.2.1 53) ((x10 * 6) + x3).toNatClampNeg)) + (v7 * ((S.2.1 53) ((x10 * 6) + x4).toNatClampNeg))) → ∀ S9 : XS, S9 = xI S 1635 v8 → ((v6 ≤ 0 → ((v7 ≤ 0 → K (.inr (.inr (x2, x3, x4, x5, x6, x7, x8, x9, x10, v5, v6, v7, x9, 0, 0))) S9) ∧ (¬ v7 ≤ 0 → K (.inr (.inr (x2, x3, x4, x5, x6, x7, x8, x9, x10, v5, v6, v7, x9, 0, (1 : Int32) <<< (x4 &&& 31)))) S9))) ∧ (¬ v6 ≤ 0 → ((v7 ≤ 0 → K (.inr (.inr (x2, x3, x4, x5, x6, x7, x8, x9, x10, v5, v6, v7, x9, (1 : Int32) <<< (x3 &&& 31), 0))) S9) ∧ (¬ v7 ≤ 0 → K (.inr (.inr (x2, x3, x4, x5, x6, x7, x8, x9, x10, v5, v6, v7, x9, (1 : Int32) <<< (x3 &&& 31), (1 : Int32) <<< (x4 &&& 31)))) S9))))))
  | (.inr (.inr (x2, x3, x4, x5, x6, x7, x8, x9, x10, x11, x12, x13, t0, t1, t2))), S => ∀ v10 : Int32, v10 = t0 ||| (t1 ||| t2) → ∀ v11 : Int32, v11 = x8 - x11 → ((¬ v11 = 0 → ∀ v12 : Int32, v12 = x10 + 1 → K (.inr (.inl (x2, x3, x4, x5, x6, x7, v11, v10, v12))) S) ∧ (v11 = 0 → ∀ S13 : XS, S13 = xI S 1634 x10 → vp_in x2 6 ∧ VC_X1_voicesOf_2 (fun r15 S14 => ((¬ (((S13.2.1 9) x2.toNatClampNeg) &&& (r15 ^^^ (-1))) = 0 → Post 0 S14) ∧ ((((S13.2.1 9) x2.toNatClampNeg) &&& (r15 ^^^ (-1))) = 0 → Post 1 S14))) v10 S13))
def VC_X4_isDoneBy_51_1 (Post : Int32 → XS → Prop) (a1 : Int32) (a2 : Int32) (a3 : Int32) (a4 : Int32) (S : XS) : Prop := ∀ K : Hd_X4_isDoneBy_51_1 → XS → Prop, (∀ h S, B_X4_isDoneBy_51_1 Post K h S → K h S) → vp_in a2 6 ∧ ∀ v1 : Int32, v1 = (S.2.1 3) a2.toNatClampNeg → ((¬ a3 = a2 → vp_in a3 6 ∧ K (.inl (a1, a2, a3, a4, v1, v1 + ((S.2.1 3) a3.toNatClampNeg))) S) ∧ (a3 = a2 → K (.inl (a1, a2, a3, a4, v1, v1)) S))
set_option maxHeartbeats 4000000 in
set_option maxRecDepth 100000 in
theorem h_X4_isDoneBy_51_1_0 {p : Program} {l : Launch} {e : Env} {s : State} {m : MethodId} {below : List Frame} {meth : Method} {c : Code} {dC : Nat → ClassId} {dI : Nat → Nat → Nat} {q : Nat → Nat} {cI cT : ClassId} {en : Nat → Nat} {A : Nat → Prop} {args : Array Value} {Post : Int32 → XS → Prop} {K : Hd_X4_isDoneBy_51_1 → XS → Prop} (X : XX p s m args c cX4_isDoneBy 14 ww_X4_isDoneBy_51_1 RX4 dC dI cI cT en A) (hr : meth.sig.returnType = (some .boolean)) (hlocks : meth.locks = false) (hK0 : ∀ (x2 : Int32) (x3 : Int32) (x4 : Int32) (x5 : Int32) (x6 : Int32) (t0 : Int32) (S : XS), K (.inl (x2, x3, x4, x5, x6, t0)) S → ∀ (H : Heap) (locs : List Loc), va_P (dC, dI) vwCl (wX q cI cT S) H → va_D A (wX q cI cT S) → va_S A s.heap H locs → ∀ ls : Array Slot, lv_has ls 14 [(0, .ref (q 51)), (1, .ref (q 1)), (2, .int x2), (3, .int x3), (4, .int x4), (5, .int x5), (6, .int x6)] → W p l e (headSpec ww_X4_isDoneBy_51_1 ({ frames := 1, cells := 0, slots := 0, locals := 40 } : Room)).room s m args below meth c H locs 0 0 (MQ below (va_Qi Post (atX dC dI q cI cT A) A) args s 0 0 A) (F0 m 35 ls [.int t0])) (hK1 : ∀ (x2 : Int32) (x3 : Int32) (x4 : Int32) (x5 : Int32) (x6 : Int32) (x7 : Int32) (x8 : Int32) (x9 : Int32) (x10 : Int32) (S : XS), K (.inr (.inl (x2, x3, x4, x5, x6, x7, x8, x9, x10))) S → ∀ (H : Heap) (locs : List Loc), va_P (dC, dI) vwCl (wX q cI cT S) H → va_D A (wX q cI cT S) → va_S A s.heap H locs → ∀ ls : Array Slot, lv_has ls 14 [(0, .ref (q 51)), (1, .ref (q 1)), (2, .int x2), (3, .int x3), (4, .int x4), (5, .int x5), (6, .int x6), (7, .int x7), (8, .int x8), (9, .int x9), (10, .int x10)] → W p l e (headSpec ww_X4_isDoneBy_51_1 ({ frames := 1, cells := 0, slots := 0, locals := 40 } : Room)).room s m args below meth c H locs 0 0 (MQ below (va_Qi Post (atX dC dI q cI cT A) A) args s 0 0 A) (F0 m 68 ls [])) (hK2 : ∀ (x2 : Int32) (x3 : Int32) (x4 : Int32) (x5 : Int32) (x6 : Int32) (x7 : Int32) (x8 : Int32) (x9 : Int32) (x10 : Int32) (x11 : Int32) (x12 : Int32) (x13 : Int32) (t0 : Int32) (t1 : Int32) (t2 : Int32) (S : XS), K (.inr (.inr (x2, x3, x4, x5, x6, x7, x8, x9, x10, x11, x12, x13, t0, t1, t2))) S → ∀ (H : Heap) (locs : List Loc), va_P (dC, dI) vwCl (wX q cI cT S) H → va_D A (wX q cI cT S) → va_S A s.heap H locs → ∀ ls : Array Slot, lv_has ls 14 [(0, .ref (q 51)), (1, .ref (q 1)), (2, .int x2), (3, .int x3), (4, .int x4), (5, .int x5), (6, .int x6), (7, .int x7), (8, .int x8), (9, .int x9), (10, .int x10), (11, .int x11), (12, .int x12), (13, .int x13)] → W p l e (headSpec ww_X4_isDoneBy_51_1 ({ frames := 1, cells := 0, slots := 0, locals := 40 } : Room)).room s m args below meth c H locs 0 0 (MQ below (va_Qi Post (atX dC dI q cI cT A) A) args s 0 0 A) (F0 m 180 ls [.int t2, .int t1, .int t0])) (x2 : Int32) (x3 : Int32) (x4 : Int32) (x5 : Int32) (x6 : Int32) (t0 : Int32) (S : XS) (h : B_X4_isDoneBy_51_1 Post K (.inl (x2, x3, x4, x5, x6, t0)) S) : ∀ (H : Heap) (locs : List Loc), va_P (dC, dI) vwCl (wX q cI cT S) H → va_D A (wX q cI cT S) → va_S A s.heap H locs → ∀ ls : Array Slot, lv_has ls 14 [(0, .ref (q 51)), (1, .ref (q 1)), (2, .int x2), (3, .int x3), (4, .int x4), (5, .int x5), (6, .int x6)] → W p l e (headSpec ww_X4_isDoneBy_51_1 ({ frames := 1, cells := 0, slots := 0, locals := 40 } : Room)).room s m args below meth c H locs 0 0 (MQ below (va_Qi Post (atX dC dI q cI cT A) A) args s 0 0 A) (F0 m 35 ls [.int t0]) := by
  have hx := X.1
  have hb := X.2.1
  intro H locs hP hD hS ls hl
  have lk63 := X.2.2.2.2.1 (.fieldLink RX4 63 "BreathOnLoan$State" "crew" "LBreathOnLoan$Crew;") (inX 425 rfl)
  have lk105 := X.2.2.2.2.1 (.fieldLink RX4 105 "BreathOnLoan$Crew" "lungs" "[I") (inX 441 rfl)
  have lk78 := X.2.2.2.2.1 (.fieldLink RX4 78 "BreathOnLoan$State" "wares" "LBreathOnLoan$Wares;") (inX 442 rfl)
  have lk108 := X.2.2.2.2.1 (.fieldLink RX4 108 "BreathOnLoan$Wares" "want" "[I") (inX 443 rfl)
  have lk111 := X.2.2.2.2.1 (.fieldLink RX4 111 "BreathOnLoan$Wares" "worth" "[I") (inX 444 rfl)
  have lk114 := X.2.2.2.2.1 (.fieldLink RX4 114 "BreathOnLoan$Planner" "runLeft" "I") (inX 445 rfl)
  have lk54 := X.2.2.2.2.1 (.fieldLink RX4 54 "BreathOnLoan$Planner" "hours" "I") (inX 424 rfl)
  have lk11 := X.2.2.2.2.1 (.fieldLink RX4 11 "BreathOnLoan$Planner" "smokes" "[I") (inX 413 rfl)
  have lk15 := X.2.2.2.2.1 (.fieldLink RX4 15 "BreathOnLoan$Planner" "prices" "[I") (inX 414 rfl)
  have lk117 := X.2.2.2.2.1 (.fieldLink RX4 117 "BreathOnLoan$Planner" "runEnd" "I") (inX 446 rfl)
  have lk120 := X.2.2.2.2.1 (.fieldLink RX4 120 "BreathOnLoan$Wares" "voices" "[I") (inX 447 rfl)
  dsimp only [B_X4_isDoneBy_51_1] at h
  refine lv_istore (lv' := [(7, .int t0), (0, .ref (q 51)), (1, .ref (q 1)), (2, .int x2), (3, .int x3), (4, .int x4), (5, .int x5), (6, .int x6)]) hx hb (dk DX4_isDoneBy 18 rfl) hl (by decide) rfl (fun ls hl => ?_)
  refine lv_aload_n hx hb (dk DX4_isDoneBy 19 rfl) rfl (lv_at hl 2 rfl) ?_
  refine gX_1 X hP 1 (by decide) rfl lk78 (dk DX4_isDoneBy 20 rfl) ?_
  refine gX_7 X hP 1 (by decide) rfl lk108 (dk DX4_isDoneBy 21 rfl) ?_
  refine lv_iload_n hx hb (dk DX4_isDoneBy 22 rfl) rfl (lv_at hl 3 rfl) ?_
  obtain ⟨hin, h⟩ := h
  refine ldX_8 X hP hin (dk DX4_isDoneBy 23 rfl) ?_
  refine lv_topi (fun v2 ev2 => ?_)
  have h := h v2 ev2
  refine lv_istore (lv' := [(8, .int v2), (7, .int t0), (0, .ref (q 51)), (1, .ref (q 1)), (2, .int x2), (3, .int x3), (4, .int x4), (5, .int x5), (6, .int x6)]) hx hb (dk DX4_isDoneBy 24 rfl) hl (by decide) rfl (fun ls hl => ?_)
  refine lv_iconst (v := 0) hx hb (dk DX4_isDoneBy 25 rfl) (by decide) ?_
  refine lv_istore (lv' := [(9, .int 0), (8, .int v2), (7, .int t0), (0, .ref (q 51)), (1, .ref (q 1)), (2, .int x2), (3, .int x3), (4, .int x4), (5, .int x5), (6, .int x6)]) hx hb (dk DX4_isDoneBy 26 rfl) hl (by decide) rfl (fun ls hl => ?_)
  refine lv_aload_n hx hb (dk DX4_isDoneBy 27 rfl) rfl (lv_at hl 3 rfl) ?_
  refine lv_aload_n hx hb (dk DX4_isDoneBy 28 rfl) rfl (lv_at hl 4 rfl) ?_
  refine gX_1 X hP 1 (by decide) rfl lk78 (dk DX4_isDoneBy 29 rfl) ?_
  refine gX_7 X hP 3 (by decide) rfl lk111 (dk DX4_isDoneBy 30 rfl) ?_
  refine lv_iload_n hx hb (dk DX4_isDoneBy 31 rfl) rfl (lv_at hl 5 rfl) ?_
  obtain ⟨hin, h⟩ := h
  refine ldX_10 X hP hin (dk DX4_isDoneBy 32 rfl) ?_
  refine lv_topi (fun v3 ev3 => ?_)
  have h := h v3 ev3
  refine pX_51_3 X hP hD hS lk114 (dk DX4_isDoneBy 33 rfl) (fun S4 eS4 H locs hP hD hS => ?_)
  have h := h S4 eS4
  refine lv_iload hx hb (dk DX4_isDoneBy 34 rfl) (lv_at hl 8 rfl) ?_
  refine lv_istore (lv' := [(10, .int x5), (9, .int 0), (8, .int v2), (7, .int t0), (0, .ref (q 51)), (1, .ref (q 1)), (2, .int x2), (3, .int x3), (4, .int x4), (5, .int x5), (6, .int x6)]) hx hb (dk DX4_isDoneBy 35 rfl) hl (by decide) rfl (fun ls hl => ?_)
  exact hK1 x2 x3 x4 x5 x6 t0 v2 0 x5 S4 h _ _ hP hD hS ls (lv_sub hl [4, 5, 6, 7, 8, 9, 10, 3, 2, 1, 0] rfl)
set_option maxHeartbeats 4000000 in
set_option maxRecDepth 100000 in
theorem h_X4_isDoneBy_51_1_1 {p : Program} {l : Launch} {e : Env} {s : State} {m : MethodId} {below : List Frame} {meth : Method} {c : Code} {dC : Nat → ClassId} {dI : Nat → Nat → Nat} {q : Nat → Nat} {cI cT : ClassId} {en : Nat → Nat} {A : Nat → Prop} {args : Array Value} {Post : Int32 → XS → Prop} {K : Hd_X4_isDoneBy_51_1 → XS → Prop} (X : XX p s m args c cX4_isDoneBy 14 ww_X4_isDoneBy_51_1 RX4 dC dI cI cT en A) (hr : meth.sig.returnType = (some .boolean)) (hlocks : meth.locks = false) (hK0 : ∀ (x2 : Int32) (x3 : Int32) (x4 : Int32) (x5 : Int32) (x6 : Int32) (t0 : Int32) (S : XS), K (.inl (x2, x3, x4, x5, x6, t0)) S → ∀ (H : Heap) (locs : List Loc), va_P (dC, dI) vwCl (wX q cI cT S) H → va_D A (wX q cI cT S) → va_S A s.heap H locs → ∀ ls : Array Slot, lv_has ls 14 [(0, .ref (q 51)), (1, .ref (q 1)), (2, .int x2), (3, .int x3), (4, .int x4), (5, .int x5), (6, .int x6)] → W p l e (headSpec ww_X4_isDoneBy_51_1 ({ frames := 1, cells := 0, slots := 0, locals := 40 } : Room)).room s m args below meth c H locs 0 0 (MQ below (va_Qi Post (atX dC dI q cI cT A) A) args s 0 0 A) (F0 m 35 ls [.int t0])) (hK1 : ∀ (x2 : Int32) (x3 : Int32) (x4 : Int32) (x5 : Int32) (x6 : Int32) (x7 : Int32) (x8 : Int32) (x9 : Int32) (x10 : Int32) (S : XS), K (.inr (.inl (x2, x3, x4, x5, x6, x7, x8, x9, x10))) S → ∀ (H : Heap) (locs : List Loc), va_P (dC, dI) vwCl (wX q cI cT S) H → va_D A (wX q cI cT S) → va_S A s.heap H locs → ∀ ls : Array Slot, lv_has ls 14 [(0, .ref (q 51)), (1, .ref (q 1)), (2, .int x2), (3, .int x3), (4, .int x4), (5, .int x5), (6, .int x6), (7, .int x7), (8, .int x8), (9, .int x9), (10, .int x10)] → W p l e (headSpec ww_X4_isDoneBy_51_1 ({ frames := 1, cells := 0, slots := 0, locals := 40 } : Room)).room s m args below meth c H locs 0 0 (MQ below (va_Qi Post (atX dC dI q cI cT A) A) args s 0 0 A) (F0 m 68 ls [])) (hK2 : ∀ (x2 : Int32) (x3 : Int32) (x4 : Int32) (x5 : Int32) (x6 : Int32) (x7 : Int32) (x8 : Int32) (x9 : Int32) (x10 : Int32) (x11 : Int32) (x12 : Int32) (x13 : Int32) (t0 : Int32) (t1 : Int32) (t2 : Int32) (S : XS), K (.inr (.inr (x2, x3, x4, x5, x6, x7, x8, x9, x10, x11, x12, x13, t0, t1, t2))) S → ∀ (H : Heap) (locs : List Loc), va_P (dC, dI) vwCl (wX q cI cT S) H → va_D A (wX q cI cT S) → va_S A s.heap H locs → ∀ ls : Array Slot, lv_has ls 14 [(0, .ref (q 51)), (1, .ref (q 1)), (2, .int x2), (3, .int x3), (4, .int x4), (5, .int x5), (6, .int x6), (7, .int x7), (8, .int x8), (9, .int x9), (10, .int x10), (11, .int x11), (12, .int x12), (13, .int x13)] → W p l e (headSpec ww_X4_isDoneBy_51_1 ({ frames := 1, cells := 0, slots := 0, locals := 40 } : Room)).room s m args below meth c H locs 0 0 (MQ below (va_Qi Post (atX dC dI q cI cT A) A) args s 0 0 A) (F0 m 180 ls [.int t2, .int t1, .int t0])) (x2 : Int32) (x3 : Int32) (x4 : Int32) (x5 : Int32) (x6 : Int32) (x7 : Int32) (x8 : Int32) (x9 : Int32) (x10 : Int32) (S : XS) (h : B_X4_isDoneBy_51_1 Post K (.inr (.inl (x2, x3, x4, x5, x6, x7, x8, x9, x10))) S) : ∀ (H : Heap) (locs : List Loc), va_P (dC, dI) vwCl (wX q cI cT S) H → va_D A (wX q cI cT S) → va_S A s.heap H locs → ∀ ls : Array Slot, lv_has ls 14 [(0, .ref (q 51)), (1, .ref (q 1)), (2, .int x2), (3, .int x3), (4, .int x4), (5, .int x5), (6, .int x6), (7, .int x7), (8, .int x8), (9, .int x9), (10, .int x10)] → W p l e (headSpec ww_X4_isDoneBy_51_1 ({ frames := 1, cells := 0, slots := 0, locals := 40 } : Room)).room s m args below meth c H locs 0 0 (MQ below (va_Qi Post (atX dC dI q cI cT A) A) args s 0 0 A) (F0 m 68 ls []) := by
  have hx := X.1
  have hb := X.2.1
  intro H locs hP hD hS ls hl
  have lk63 := X.2.2.2.2.1 (.fieldLink RX4 63 "BreathOnLoan$State" "crew" "LBreathOnLoan$Crew;") (inX 425 rfl)
  have lk105 := X.2.2.2.2.1 (.fieldLink RX4 105 "BreathOnLoan$Crew" "lungs" "[I") (inX 441 rfl)
  have lk78 := X.2.2.2.2.1 (.fieldLink RX4 78 "BreathOnLoan$State" "wares" "LBreathOnLoan$Wares;") (inX 442 rfl)
  have lk108 := X.2.2.2.2.1 (.fieldLink RX4 108 "BreathOnLoan$Wares" "want" "[I") (inX 443 rfl)
  have lk111 := X.2.2.2.2.1 (.fieldLink RX4 111 "BreathOnLoan$Wares" "worth" "[I") (inX 444 rfl)
  have lk114 := X.2.2.2.2.1 (.fieldLink RX4 114 "BreathOnLoan$Planner" "runLeft" "I") (inX 445 rfl)
  have lk54 := X.2.2.2.2.1 (.fieldLink RX4 54 "BreathOnLoan$Planner" "hours" "I") (inX 424 rfl)
  have lk11 := X.2.2.2.2.1 (.fieldLink RX4 11 "BreathOnLoan$Planner" "smokes" "[I") (inX 413 rfl)
  have lk15 := X.2.2.2.2.1 (.fieldLink RX4 15 "BreathOnLoan$Planner" "prices" "[I") (inX 414 rfl)
  have lk117 := X.2.2.2.2.1 (.fieldLink RX4 117 "BreathOnLoan$Planner" "runEnd" "I") (inX 446 rfl)
  have lk120 := X.2.2.2.2.1 (.fieldLink RX4 120 "BreathOnLoan$Wares" "voices" "[I") (inX 447 rfl)
  dsimp only [B_X4_isDoneBy_51_1] at h
  refine lv_iload hx hb (dk DX4_isDoneBy 36 rfl) (lv_at hl 10 rfl) ?_
  refine lv_aload_n hx hb (dk DX4_isDoneBy 37 rfl) rfl (lv_at hl 0 rfl) ?_
  refine gX_51 X hP 0 (by decide) rfl lk54 (dk DX4_isDoneBy 38 rfl) ?_
  refine lv_icmp_ge (tgt := 238) hx hb (dk DX4_isDoneBy 39 rfl) (by decide) (fun hc => ?_) (fun hc => ?_)
  · have h := h.1 hc
    refine lv_iconst (v := 0) hx hb (dk DX4_isDoneBy 129 rfl) (by decide) ?_
    exact W.zret (v := 0) hx hb hr (by decide) (fun t ht hW => ⟨⟨_, _, rfl, h, by rw [ht]; exact hP, va_K.moved hW.alike X.2.2.2.2.2.2.1, hD⟩, hS.F ht⟩) hS.2.2 (dk DX4_isDoneBy 130 rfl)
  · have h := h.2 hc
    refine lv_iload hx hb (dk DX4_isDoneBy 40 rfl) (lv_at hl 8 rfl) ?_
    refine lv_iload hx hb (dk DX4_isDoneBy 41 rfl) (lv_at hl 7 rfl) ?_
    refine lv_aload_n hx hb (dk DX4_isDoneBy 42 rfl) rfl (lv_at hl 0 rfl) ?_
    refine gX_51 X hP 4 (by decide) rfl lk11 (dk DX4_isDoneBy 43 rfl) ?_
    refine lv_iload hx hb (dk DX4_isDoneBy 44 rfl) (lv_at hl 10 rfl) ?_
    obtain ⟨hin, h⟩ := h
    refine ldX_52 X hP hin (dk DX4_isDoneBy 45 rfl) ?_
    refine va_mmin hx hb (X.2.2.1.trans hl.1.symm) X.2.2.2.1 (X.2.2.2.2.1 (.methodLink RX4 33 Lib.Math.min.name) (inX 420 rfl)) (X.2.2.2.2.1 (.static Lib.Math.min.name) (inX 20 rfl)) (X.2.2.2.2.1 (.initialized "java/lang/Math") (inX 21 rfl)) (X.2.2.2.2.1 (.code Lib.Math.min.name Lib.Math.min.code 2 (some .int)) (inX 22 rfl)) (Nat.le_of_ble_eq_true rfl) (Nat.le_of_ble_eq_true rfl) (Nat.zero_le _) (Nat.zero_le _) (dk DX4_isDoneBy 46 rfl) ?_
    refine va_mmin hx hb (X.2.2.1.trans hl.1.symm) X.2.2.2.1 (X.2.2.2.2.1 (.methodLink RX4 33 Lib.Math.min.name) (inX 420 rfl)) (X.2.2.2.2.1 (.static Lib.Math.min.name) (inX 20 rfl)) (X.2.2.2.2.1 (.initialized "java/lang/Math") (inX 21 rfl)) (X.2.2.2.2.1 (.code Lib.Math.min.name Lib.Math.min.code 2 (some .int)) (inX 22 rfl)) (Nat.le_of_ble_eq_true rfl) (Nat.le_of_ble_eq_true rfl) (Nat.zero_le _) (Nat.zero_le _) (dk DX4_isDoneBy 47 rfl) ?_
    refine lv_topi (fun v5 ev5 => ?_)
    have h := h v5 ev5
    refine lv_istore (lv' := [(11, .int v5), (0, .ref (q 51)), (1, .ref (q 1)), (2, .int x2), (3, .int x3), (4, .int x4), (5, .int x5), (6, .int x6), (7, .int x7), (8, .int x8), (9, .int x9), (10, .int x10)]) hx hb (dk DX4_isDoneBy 48 rfl) hl (by decide) rfl (fun ls hl => ?_)
    refine lv_iload hx hb (dk DX4_isDoneBy 49 rfl) (lv_at hl 0 rfl) ?_
    refine lv_iload hx hb (dk DX4_isDoneBy 50 rfl) (lv_at hl 7 rfl) ?_
    refine va_mmin hx hb (X.2.2.1.trans hl.1.symm) X.2.2.2.1 (X.2.2.2.2.1 (.methodLink RX4 33 Lib.Math.min.name) (inX 420 rfl)) (X.2.2.2.2.1 (.static Lib.Math.min.name) (inX 20 rfl)) (X.2.2.2.2.1 (.initialized "java/lang/Math") (inX 21 rfl)) (X.2.2.2.2.1 (.code Lib.Math.min.name Lib.Math.min.code 2 (some .int)) (inX 22 rfl)) (Nat.le_of_ble_eq_true rfl) (Nat.le_of_ble_eq_true rfl) (Nat.zero_le _) (Nat.zero_le _) (dk DX4_isDoneBy 51 rfl) ?_
    refine lv_topi (fun v6 ev6 => ?_)
    have h := h v6 ev6
    refine lv_istore (lv' := [(12, .int v6), (11, .int v5), (0, .ref (q 51)), (1, .ref (q 1)), (2, .int x2), (3, .int x3), (4, .int x4), (5, .int x5), (6, .int x6), (7, .int x7), (8, .int x8), (9, .int x9), (10, .int x10)]) hx hb (dk DX4_isDoneBy 52 rfl) hl (by decide) rfl (fun ls hl => ?_)
    refine lv_iload hx hb (dk DX4_isDoneBy 53 rfl) (lv_at hl 1 rfl) ?_
    refine lv_iload hx hb (dk DX4_isDoneBy 54 rfl) (lv_at hl 0 rfl) ?_
    refine lv_isub hx hb (dk DX4_isDoneBy 55 rfl) ?_
    refine lv_topi (fun v7 ev7 => ?_)
    have h := h v7 ev7
    refine lv_istore (lv' := [(13, .int v7), (12, .int v6), (11, .int v5), (0, .ref (q 51)), (1, .ref (q 1)), (2, .int x2), (3, .int x3), (4, .int x4), (5, .int x5), (6, .int x6), (7, .int x7), (8, .int x8), (9, .int x9), (10, .int x10)]) hx hb (dk DX4_isDoneBy 56 rfl) hl (by decide) rfl (fun ls hl => ?_)
    refine lv_aload_n hx hb (dk DX4_isDoneBy 57 rfl) rfl (lv_at hl 3 rfl) ?_
    refine lv_dup hx hb (dk DX4_isDoneBy 58 rfl) rfl ?_
    refine gX_51 X hP 3 (by decide) rfl lk114 (dk DX4_isDoneBy 59 rfl) ?_
    refine lv_iload hx hb (dk DX4_isDoneBy 60 rfl) (lv_at hl 1 rfl) ?_
    refine lv_aload_n hx hb (dk DX4_isDoneBy 61 rfl) rfl (lv_at hl 3 rfl) ?_
    refine gX_51 X hP 5 (by decide) rfl lk15 (dk DX4_isDoneBy 62 rfl) ?_
    refine lv_iload hx hb (dk DX4_isDoneBy 63 rfl) (lv_at hl 13 rfl) ?_
    refine lv_bipush (v := 6) hx hb (dk DX4_isDoneBy 64 rfl) (by decide) ?_
    refine lv_imul hx hb (dk DX4_isDoneBy 65 rfl) ?_
    refine lv_iload_n hx hb (dk DX4_isDoneBy 66 rfl) rfl (lv_at hl 6 rfl) ?_
    refine lv_iadd hx hb (dk DX4_isDoneBy 67 rfl) ?_
    obtain ⟨hin, h⟩ := h
    refine ldX_53 X hP hin (dk DX4_isDoneBy 68 rfl) ?_
    refine lv_imul hx hb (dk DX4_isDoneBy 69 rfl) ?_
    refine lv_iload hx hb (dk DX4_isDoneBy 70 rfl) (lv_at hl 0 rfl) ?_
    refine lv_aload_n hx hb (dk DX4_isDoneBy 71 rfl) rfl (lv_at hl 3 rfl) ?_
    refine gX_51 X hP 5 (by decide) rfl lk15 (dk DX4_isDoneBy 72 rfl) ?_
    refine lv_iload hx hb (dk DX4_isDoneBy 73 rfl) (lv_at hl 13 rfl) ?_
    refine lv_bipush (v := 6) hx hb (dk DX4_isDoneBy 74 rfl) (by decide) ?_
    refine lv_imul hx hb (dk DX4_isDoneBy 75 rfl) ?_
    refine lv_iload hx hb (dk DX4_isDoneBy 76 rfl) (lv_at hl 7 rfl) ?_
    refine lv_iadd hx hb (dk DX4_isDoneBy 77 rfl) ?_
    obtain ⟨hin, h⟩ := h
    refine ldX_53 X hP hin (dk DX4_isDoneBy 78 rfl) ?_
    refine lv_imul hx hb (dk DX4_isDoneBy 79 rfl) ?_
    refine lv_iadd hx hb (dk DX4_isDoneBy 80 rfl) ?_
    refine lv_isub hx hb (dk DX4_isDoneBy 81 rfl) ?_
    refine lv_topi (fun v8 ev8 => ?_)
    have h := h v8 ev8
    refine pX_51_3 X hP hD hS lk114 (dk DX4_isDoneBy 82 rfl) (fun S9 eS9 H locs hP hD hS => ?_)
    have h := h S9 eS9
    refine lv_iload hx hb (dk DX4_isDoneBy 83 rfl) (lv_at hl 12 rfl) ?_
    refine lv_iload hx hb (dk DX4_isDoneBy 84 rfl) (lv_at hl 1 rfl) ?_
    refine lv_if_le (tgt := 166) hx hb (dk DX4_isDoneBy 85 rfl) (by decide) (fun hc => ?_) (fun hc => ?_)
    · have h := h.1 hc
      refine lv_iconst (v := 0) hx hb (dk DX4_isDoneBy 90 rfl) (by decide) ?_
      refine lv_iload hx hb (dk DX4_isDoneBy 91 rfl) (lv_at hl 0 rfl) ?_
      refine lv_if_le (tgt := 179) hx hb (dk DX4_isDoneBy 92 rfl) (by decide) (fun hc => ?_) (fun hc => ?_)
      · have h := h.1 hc
        refine lv_iconst (v := 0) hx hb (dk DX4_isDoneBy 97 rfl) (by decide) ?_
        exact hK2 x2 x3 x4 x5 x6 x7 x8 x9 x10 v5 v6 v7 x9 0 0 S9 h _ _ hP hD hS ls (lv_sub hl [3, 4, 5, 6, 7, 8, 9, 10, 11, 12, 13, 2, 1, 0] rfl)
      · have h := h.2 hc
        refine lv_iconst (v := 1) hx hb (dk DX4_isDoneBy 93 rfl) (by decide) ?_
        refine lv_iload hx hb (dk DX4_isDoneBy 94 rfl) (lv_at hl 7 rfl) ?_
        refine lv_ishl hx hb (dk DX4_isDoneBy 95 rfl) ?_
        refine lv_goto (tgt := 180) hx hb (dk DX4_isDoneBy 96 rfl) (by decide) ?_
        exact hK2 x2 x3 x4 x5 x6 x7 x8 x9 x10 v5 v6 v7 x9 0 ((1 : Int32) <<< (x4 &&& 31)) S9 h _ _ hP hD hS ls (lv_sub hl [3, 4, 5, 6, 7, 8, 9, 10, 11, 12, 13, 2, 1, 0] rfl)
    · have h := h.2 hc
      refine lv_iconst (v := 1) hx hb (dk DX4_isDoneBy 86 rfl) (by decide) ?_
      refine lv_iload_n hx hb (dk DX4_isDoneBy 87 rfl) rfl (lv_at hl 6 rfl) ?_
      refine lv_ishl hx hb (dk DX4_isDoneBy 88 rfl) ?_
      refine lv_goto (tgt := 167) hx hb (dk DX4_isDoneBy 89 rfl) (by decide) ?_
      refine lv_iload hx hb (dk DX4_isDoneBy 91 rfl) (lv_at hl 0 rfl) ?_
      refine lv_if_le (tgt := 179) hx hb (dk DX4_isDoneBy 92 rfl) (by decide) (fun hc => ?_) (fun hc => ?_)
      · have h := h.1 hc
        refine lv_iconst (v := 0) hx hb (dk DX4_isDoneBy 97 rfl) (by decide) ?_
        exact hK2 x2 x3 x4 x5 x6 x7 x8 x9 x10 v5 v6 v7 x9 ((1 : Int32) <<< (x3 &&& 31)) 0 S9 h _ _ hP hD hS ls (lv_sub hl [3, 4, 5, 6, 7, 8, 9, 10, 11, 12, 13, 2, 1, 0] rfl)
      · have h := h.2 hc
        refine lv_iconst (v := 1) hx hb (dk DX4_isDoneBy 93 rfl) (by decide) ?_
        refine lv_iload hx hb (dk DX4_isDoneBy 94 rfl) (lv_at hl 7 rfl) ?_
        refine lv_ishl hx hb (dk DX4_isDoneBy 95 rfl) ?_
        refine lv_goto (tgt := 180) hx hb (dk DX4_isDoneBy 96 rfl) (by decide) ?_
        exact hK2 x2 x3 x4 x5 x6 x7 x8 x9 x10 v5 v6 v7 x9 ((1 : Int32) <<< (x3 &&& 31)) ((1 : Int32) <<< (x4 &&& 31)) S9 h _ _ hP hD hS ls (lv_sub hl [3, 4, 5, 6, 7, 8, 9, 10, 11, 12, 13, 2, 1, 0] rfl)
set_option maxHeartbeats 4000000 in
set_option maxRecDepth 100000 in
theorem h_X4_isDoneBy_51_1_2 {p : Program} {l : Launch} {e : Env} {s : State} {m : MethodId} {below : List Frame} {meth : Method} {c : Code} {dC : Nat → ClassId} {dI : Nat → Nat → Nat} {q : Nat → Nat} {cI cT : ClassId} {en : Nat → Nat} {A : Nat → Prop} {args : Array Value} {Post : Int32 → XS → Prop} {K : Hd_X4_isDoneBy_51_1 → XS → Prop} (X : XX p s m args c cX4_isDoneBy 14 ww_X4_isDoneBy_51_1 RX4 dC dI cI cT en A) (hr : meth.sig.returnType = (some .boolean)) (hlocks : meth.locks = false) (hK0 : ∀ (x2 : Int32) (x3 : Int32) (x4 : Int32) (x5 : Int32) (x6 : Int32) (t0 : Int32) (S : XS), K (.inl (x2, x3, x4, x5, x6, t0)) S → ∀ (H : Heap) (locs : List Loc), va_P (dC, dI) vwCl (wX q cI cT S) H → va_D A (wX q cI cT S) → va_S A s.heap H locs → ∀ ls : Array Slot, lv_has ls 14 [(0, .ref (q 51)), (1, .ref (q 1)), (2, .int x2), (3, .int x3), (4, .int x4), (5, .int x5), (6, .int x6)] → W p l e (headSpec ww_X4_isDoneBy_51_1 ({ frames := 1, cells := 0, slots := 0, locals := 40 } : Room)).room s m args below meth c H locs 0 0 (MQ below (va_Qi Post (atX dC dI q cI cT A) A) args s 0 0 A) (F0 m 35 ls [.int t0])) (hK1 : ∀ (x2 : Int32) (x3 : Int32) (x4 : Int32) (x5 : Int32) (x6 : Int32) (x7 : Int32) (x8 : Int32) (x9 : Int32) (x10 : Int32) (S : XS), K (.inr (.inl (x2, x3, x4, x5, x6, x7, x8, x9, x10))) S → ∀ (H : Heap) (locs : List Loc), va_P (dC, dI) vwCl (wX q cI cT S) H → va_D A (wX q cI cT S) → va_S A s.heap H locs → ∀ ls : Array Slot, lv_has ls 14 [(0, .ref (q 51)), (1, .ref (q 1)), (2, .int x2), (3, .int x3), (4, .int x4), (5, .int x5), (6, .int x6), (7, .int x7), (8, .int x8), (9, .int x9), (10, .int x10)] → W p l e (headSpec ww_X4_isDoneBy_51_1 ({ frames := 1, cells := 0, slots := 0, locals := 40 } : Room)).room s m args below meth c H locs 0 0 (MQ below (va_Qi Post (atX dC dI q cI cT A) A) args s 0 0 A) (F0 m 68 ls [])) (hK2 : ∀ (x2 : Int32) (x3 : Int32) (x4 : Int32) (x5 : Int32) (x6 : Int32) (x7 : Int32) (x8 : Int32) (x9 : Int32) (x10 : Int32) (x11 : Int32) (x12 : Int32) (x13 : Int32) (t0 : Int32) (t1 : Int32) (t2 : Int32) (S : XS), K (.inr (.inr (x2, x3, x4, x5, x6, x7, x8, x9, x10, x11, x12, x13, t0, t1, t2))) S → ∀ (H : Heap) (locs : List Loc), va_P (dC, dI) vwCl (wX q cI cT S) H → va_D A (wX q cI cT S) → va_S A s.heap H locs → ∀ ls : Array Slot, lv_has ls 14 [(0, .ref (q 51)), (1, .ref (q 1)), (2, .int x2), (3, .int x3), (4, .int x4), (5, .int x5), (6, .int x6), (7, .int x7), (8, .int x8), (9, .int x9), (10, .int x10), (11, .int x11), (12, .int x12), (13, .int x13)] → W p l e (headSpec ww_X4_isDoneBy_51_1 ({ frames := 1, cells := 0, slots := 0, locals := 40 } : Room)).room s m args below meth c H locs 0 0 (MQ below (va_Qi Post (atX dC dI q cI cT A) A) args s 0 0 A) (F0 m 180 ls [.int t2, .int t1, .int t0])) (x2 : Int32) (x3 : Int32) (x4 : Int32) (x5 : Int32) (x6 : Int32) (x7 : Int32) (x8 : Int32) (x9 : Int32) (x10 : Int32) (x11 : Int32) (x12 : Int32) (x13 : Int32) (t0 : Int32) (t1 : Int32) (t2 : Int32) (S : XS) (h : B_X4_isDoneBy_51_1 Post K (.inr (.inr (x2, x3, x4, x5, x6, x7, x8, x9, x10, x11, x12, x13, t0, t1, t2))) S) : ∀ (H : Heap) (locs : List Loc), va_P (dC, dI) vwCl (wX q cI cT S) H → va_D A (wX q cI cT S) → va_S A s.heap H locs → ∀ ls : Array Slot, lv_has ls 14 [(0, .ref (q 51)), (1, .ref (q 1)), (2, .int x2), (3, .int x3), (4, .int x4), (5, .int x5), (6, .int x6), (7, .int x7), (8, .int x8), (9, .int x9), (10, .int x10), (11, .int x11), (12, .int x12), (13, .int x13)] → W p l e (headSpec ww_X4_isDoneBy_51_1 ({ frames := 1, cells := 0, slots := 0, locals := 40 } : Room)).room s m args below meth c H locs 0 0 (MQ below (va_Qi Post (atX dC dI q cI cT A) A) args s 0 0 A) (F0 m 180 ls [.int t2, .int t1, .int t0]) := by
  have hx := X.1
  have hb := X.2.1
  intro H locs hP hD hS ls hl
  have lk63 := X.2.2.2.2.1 (.fieldLink RX4 63 "BreathOnLoan$State" "crew" "LBreathOnLoan$Crew;") (inX 425 rfl)
  have lk105 := X.2.2.2.2.1 (.fieldLink RX4 105 "BreathOnLoan$Crew" "lungs" "[I") (inX 441 rfl)
  have lk78 := X.2.2.2.2.1 (.fieldLink RX4 78 "BreathOnLoan$State" "wares" "LBreathOnLoan$Wares;") (inX 442 rfl)
  have lk108 := X.2.2.2.2.1 (.fieldLink RX4 108 "BreathOnLoan$Wares" "want" "[I") (inX 443 rfl)
  have lk111 := X.2.2.2.2.1 (.fieldLink RX4 111 "BreathOnLoan$Wares" "worth" "[I") (inX 444 rfl)
  have lk114 := X.2.2.2.2.1 (.fieldLink RX4 114 "BreathOnLoan$Planner" "runLeft" "I") (inX 445 rfl)
  have lk54 := X.2.2.2.2.1 (.fieldLink RX4 54 "BreathOnLoan$Planner" "hours" "I") (inX 424 rfl)
  have lk11 := X.2.2.2.2.1 (.fieldLink RX4 11 "BreathOnLoan$Planner" "smokes" "[I") (inX 413 rfl)
  have lk15 := X.2.2.2.2.1 (.fieldLink RX4 15 "BreathOnLoan$Planner" "prices" "[I") (inX 414 rfl)
  have lk117 := X.2.2.2.2.1 (.fieldLink RX4 117 "BreathOnLoan$Planner" "runEnd" "I") (inX 446 rfl)
  have lk120 := X.2.2.2.2.1 (.fieldLink RX4 120 "BreathOnLoan$Wares" "voices" "[I") (inX 447 rfl)
  dsimp only [B_X4_isDoneBy_51_1] at h
  refine lv_ior hx hb (dk DX4_isDoneBy 98 rfl) ?_
  refine lv_ior hx hb (dk DX4_isDoneBy 99 rfl) ?_
  refine lv_topi (fun v10 ev10 => ?_)
  have h := h v10 ev10
  refine lv_istore (lv' := [(9, .int v10), (0, .ref (q 51)), (1, .ref (q 1)), (2, .int x2), (3, .int x3), (4, .int x4), (5, .int x5), (6, .int x6), (7, .int x7), (8, .int x8), (10, .int x10), (11, .int x11), (12, .int x12), (13, .int x13)]) hx hb (dk DX4_isDoneBy 100 rfl) hl (by decide) rfl (fun ls hl => ?_)
  refine lv_iload hx hb (dk DX4_isDoneBy 101 rfl) (lv_at hl 9 rfl) ?_
  refine lv_iload hx hb (dk DX4_isDoneBy 102 rfl) (lv_at hl 11 rfl) ?_
  refine lv_isub hx hb (dk DX4_isDoneBy 103 rfl) ?_
  refine lv_topi (fun v11 ev11 => ?_)
  have h := h v11 ev11
  refine lv_istore (lv' := [(8, .int v11), (9, .int v10), (0, .ref (q 51)), (1, .ref (q 1)), (2, .int x2), (3, .int x3), (4, .int x4), (5, .int x5), (6, .int x6), (7, .int x7), (10, .int x10), (11, .int x11), (12, .int x12), (13, .int x13)]) hx hb (dk DX4_isDoneBy 104 rfl) hl (by decide) rfl (fun ls hl => ?_)
  refine lv_iload hx hb (dk DX4_isDoneBy 105 rfl) (lv_at hl 0 rfl) ?_
  refine lv_if_ne (tgt := 232) hx hb (dk DX4_isDoneBy 106 rfl) (by decide) (fun hc => ?_) (fun hc => ?_)
  · have h := h.1 hc
    obtain ⟨v12, ev12⟩ : ∃ y : Int32, y = x10 + 1 := ⟨_, rfl⟩
    have h := h v12 ev12
    refine lv_iinc (v := v12) (lv' := [(10, .int v12), (8, .int v11), (9, .int v10), (0, .ref (q 51)), (1, .ref (q 1)), (2, .int x2), (3, .int x3), (4, .int x4), (5, .int x5), (6, .int x6), (7, .int x7), (11, .int x11), (12, .int x12), (13, .int x13)]) hx hb (dk DX4_isDoneBy 127 rfl) hl (k := 10) rfl (by rw [ev12]; rfl) (by decide) rfl (fun ls hl => ?_)
    refine lv_goto (tgt := 68) hx hb (dk DX4_isDoneBy 128 rfl) (by decide) ?_
    exact hK1 x2 x3 x4 x5 x6 x7 v11 v10 v12 S h _ _ hP hD hS ls (lv_sub hl [3, 4, 5, 6, 7, 8, 9, 10, 1, 2, 0] rfl)
  · have h := h.2 hc
    refine lv_aload_n hx hb (dk DX4_isDoneBy 107 rfl) rfl (lv_at hl 2 rfl) ?_
    refine lv_iload hx hb (dk DX4_isDoneBy 108 rfl) (lv_at hl 10 rfl) ?_
    refine pX_51_2 X hP hD hS lk117 (dk DX4_isDoneBy 109 rfl) (fun S13 eS13 H locs hP hD hS => ?_)
    have h := h S13 eS13
    refine lv_aload_n hx hb (dk DX4_isDoneBy 110 rfl) rfl (lv_at hl 3 rfl) ?_
    refine gX_1 X hP 1 (by decide) rfl lk78 (dk DX4_isDoneBy 111 rfl) ?_
    refine gX_7 X hP 2 (by decide) rfl lk120 (dk DX4_isDoneBy 112 rfl) ?_
    refine lv_iload_n hx hb (dk DX4_isDoneBy 113 rfl) rfl (lv_at hl 4 rfl) ?_
    obtain ⟨hin, h⟩ := h
    refine ldX_9 X hP hin (dk DX4_isDoneBy 114 rfl) ?_
    refine lv_aload_n hx hb (dk DX4_isDoneBy 115 rfl) rfl (lv_at hl 3 rfl) ?_
    refine gX_1 X hP 0 (by decide) rfl lk63 (dk DX4_isDoneBy 116 rfl) ?_
    refine lv_iload hx hb (dk DX4_isDoneBy 117 rfl) (lv_at hl 1 rfl) ?_
    refine cXi (As := [.int v10]) (rest := [.int ((S13.2.1 9) x2.toNatClampNeg)]) X (m_X1_voicesOf_2 (l := l) (dC := dC) (dI := dI) (q := q) (cI := cI) (cT := cT) (en := en) (sz := _) v10 S13 h) (cwV 1 X.2.2.2.2.1 (gxV 448 449 450 42 43 rfl rfl rfl rfl rfl) rfl rfl rfl q_X1_voicesOf_2 ⟨Nat.le_of_ble_eq_true rfl, Nat.le_of_ble_eq_true rfl⟩) (rX_2 X hP) hP hD hS rfl hl.1 rfl (Nat.le_of_ble_eq_true rfl) (dk DX4_isDoneBy 118 rfl) (fun r15 S14 H locs h hP hD hS => ?_)
    refine lv_iconst (v := (-1)) hx hb (dk DX4_isDoneBy 119 rfl) (by decide) ?_
    refine lv_ixor hx hb (dk DX4_isDoneBy 120 rfl) ?_
    refine lv_iand hx hb (dk DX4_isDoneBy 121 rfl) ?_
    refine lv_if_ne (tgt := 230) hx hb (dk DX4_isDoneBy 122 rfl) (by decide) (fun hc => ?_) (fun hc => ?_)
    · have h := h.1 hc
      refine lv_iconst (v := 0) hx hb (dk DX4_isDoneBy 125 rfl) (by decide) ?_
      exact W.zret (v := 0) hx hb hr (by decide) (fun t ht hW => ⟨⟨_, _, rfl, h, by rw [ht]; exact hP, va_K.moved hW.alike X.2.2.2.2.2.2.1, hD⟩, hS.F ht⟩) hS.2.2 (dk DX4_isDoneBy 126 rfl)
    · have h := h.2 hc
      refine lv_iconst (v := 1) hx hb (dk DX4_isDoneBy 123 rfl) (by decide) ?_
      refine lv_goto (tgt := 231) hx hb (dk DX4_isDoneBy 124 rfl) (by decide) ?_
      exact W.zret (v := 1) hx hb hr (by decide) (fun t ht hW => ⟨⟨_, _, rfl, h, by rw [ht]; exact hP, va_K.moved hW.alike X.2.2.2.2.2.2.1, hD⟩, hS.F ht⟩) hS.2.2 (dk DX4_isDoneBy 126 rfl)
set_option maxHeartbeats 4000000 in
set_option maxRecDepth 100000 in
theorem m_X4_isDoneBy_51_1 {l : Launch} {dC : Nat → ClassId} {dI : Nat → Nat → Nat} {q : Nat → Nat} {cI cT : ClassId} {en : Nat → Nat} {sz : Nat} {Post : Int32 → XS → Prop} (a1 : Int32) (a2 : Int32) (a3 : Int32) (a4 : Int32) (S : XS) (h : VC_X4_isDoneBy_51_1 Post a1 a2 a3 a4 S) : Met l yX4_isDoneBy ww_X4_isDoneBy_51_1 ({ frames := 1, cells := 0, slots := 0, locals := 40 } : Room) (va_Pc [.ref (q 51), .ref (q 1), .int a1, .int a2, .int a3, .int a4] (preX dC dI q cI cT en S sz)) (va_Qi Post (atX dC dI q cI cT (va_A (wX q cI cT S) sz)) (va_A (wX q cI cT S) sz)) 0 0 (va_A (wX q cI cT S) sz) := by
  refine oX (cc := cX4_isDoneBy) (maxL := 14) (ret := (some .boolean)) (Qc := fun A => va_Qi Post (atX dC dI q cI cT A) A) (own := RX4) (by decide) rfl (fun w h => List.mem_cons_of_mem _ (List.mem_append_right _ h)) rfl (Nat.le_of_ble_eq_true rfl) (fun p e s m below meth c A ls X hr hlocks hP hD hS hl => ?_)
  have hx := X.1
  have hb := X.2.1
  have hl : lv_has ls 14 [(0, .ref (q 51)), (1, .ref (q 1)), (2, .int a1), (3, .int a2), (4, .int a3), (5, .int a4)] := hl
  have lk63 := X.2.2.2.2.1 (.fieldLink RX4 63 "BreathOnLoan$State" "crew" "LBreathOnLoan$Crew;") (inX 425 rfl)
  have lk105 := X.2.2.2.2.1 (.fieldLink RX4 105 "BreathOnLoan$Crew" "lungs" "[I") (inX 441 rfl)
  have lk78 := X.2.2.2.2.1 (.fieldLink RX4 78 "BreathOnLoan$State" "wares" "LBreathOnLoan$Wares;") (inX 442 rfl)
  have lk108 := X.2.2.2.2.1 (.fieldLink RX4 108 "BreathOnLoan$Wares" "want" "[I") (inX 443 rfl)
  have lk111 := X.2.2.2.2.1 (.fieldLink RX4 111 "BreathOnLoan$Wares" "worth" "[I") (inX 444 rfl)
  have lk114 := X.2.2.2.2.1 (.fieldLink RX4 114 "BreathOnLoan$Planner" "runLeft" "I") (inX 445 rfl)
  have lk54 := X.2.2.2.2.1 (.fieldLink RX4 54 "BreathOnLoan$Planner" "hours" "I") (inX 424 rfl)
  have lk11 := X.2.2.2.2.1 (.fieldLink RX4 11 "BreathOnLoan$Planner" "smokes" "[I") (inX 413 rfl)
  have lk15 := X.2.2.2.2.1 (.fieldLink RX4 15 "BreathOnLoan$Planner" "prices" "[I") (inX 414 rfl)
  have lk117 := X.2.2.2.2.1 (.fieldLink RX4 117 "BreathOnLoan$Planner" "runEnd" "I") (inX 446 rfl)
  have lk120 := X.2.2.2.2.1 (.fieldLink RX4 120 "BreathOnLoan$Wares" "voices" "[I") (inX 447 rfl)
  generalize hargs : ([.ref (q 51), .ref (q 1), .int a1, .int a2, .int a3, .int a4] : List Value).toArray = args at X ⊢
  have h := h (fun hd S => match hd with | (.inl (x2, x3, x4, x5, x6, t0)) => ∀ (H : Heap) (locs : List Loc), va_P (dC, dI) vwCl (wX q cI cT S) H → va_D A (wX q cI cT S) → va_S A s.heap H locs → ∀ ls : Array Slot, lv_has ls 14 [(0, .ref (q 51)), (1, .ref (q 1)), (2, .int x2), (3, .int x3), (4, .int x4), (5, .int x5), (6, .int x6)] → W p l e (headSpec ww_X4_isDoneBy_51_1 ({ frames := 1, cells := 0, slots := 0, locals := 40 } : Room)).room s m args below meth c H locs 0 0 (MQ below (va_Qi Post (atX dC dI q cI cT A) A) args s 0 0 A) (F0 m 35 ls [.int t0]) | (.inr (.inl (x2, x3, x4, x5, x6, x7, x8, x9, x10))) => ∀ (H : Heap) (locs : List Loc), va_P (dC, dI) vwCl (wX q cI cT S) H → va_D A (wX q cI cT S) → va_S A s.heap H locs → ∀ ls : Array Slot, lv_has ls 14 [(0, .ref (q 51)), (1, .ref (q 1)), (2, .int x2), (3, .int x3), (4, .int x4), (5, .int x5), (6, .int x6), (7, .int x7), (8, .int x8), (9, .int x9), (10, .int x10)] → W p l e (headSpec ww_X4_isDoneBy_51_1 ({ frames := 1, cells := 0, slots := 0, locals := 40 } : Room)).room s m args below meth c H locs 0 0 (MQ below (va_Qi Post (atX dC dI q cI cT A) A) args s 0 0 A) (F0 m 68 ls []) | (.inr (.inr (x2, x3, x4, x5, x6, x7, x8, x9, x10, x11, x12, x13, t0, t1, t2))) => ∀ (H : Heap) (locs : List Loc), va_P (dC, dI) vwCl (wX q cI cT S) H → va_D A (wX q cI cT S) → va_S A s.heap H locs → ∀ ls : Array Slot, lv_has ls 14 [(0, .ref (q 51)), (1, .ref (q 1)), (2, .int x2), (3, .int x3), (4, .int x4), (5, .int x5), (6, .int x6), (7, .int x7), (8, .int x8), (9, .int x9), (10, .int x10), (11, .int x11), (12, .int x12), (13, .int x13)] → W p l e (headSpec ww_X4_isDoneBy_51_1 ({ frames := 1, cells := 0, slots := 0, locals := 40 } : Room)).room s m args below meth c H locs 0 0 (MQ below (va_Qi Post (atX dC dI q cI cT A) A) args s 0 0 A) (F0 m 180 ls [.int t2, .int t1, .int t0])) ?_
  · skip
    refine lv_aload_n hx hb (dk DX4_isDoneBy 0 rfl) rfl (lv_at hl 1 rfl) ?_
    refine gX_1 X hP 0 (by decide) rfl lk63 (dk DX4_isDoneBy 1 rfl) ?_
    refine gX_2 X hP 1 (by decide) rfl lk105 (dk DX4_isDoneBy 2 rfl) ?_
    refine lv_iload_n hx hb (dk DX4_isDoneBy 3 rfl) rfl (lv_at hl 3 rfl) ?_
    obtain ⟨hin, h⟩ := h
    refine ldX_3 X hP hin (dk DX4_isDoneBy 4 rfl) ?_
    refine lv_topi (fun v1 ev1 => ?_)
    have h := h v1 ev1
    refine lv_istore (lv' := [(6, .int v1), (0, .ref (q 51)), (1, .ref (q 1)), (2, .int a1), (3, .int a2), (4, .int a3), (5, .int a4)]) hx hb (dk DX4_isDoneBy 5 rfl) hl (by decide) rfl (fun ls hl => ?_)
    refine lv_iload hx hb (dk DX4_isDoneBy 6 rfl) (lv_at hl 5 rfl) ?_
    refine lv_iload_n hx hb (dk DX4_isDoneBy 7 rfl) rfl (lv_at hl 4 rfl) ?_
    refine lv_icmp_ne (tgt := 22) hx hb (dk DX4_isDoneBy 8 rfl) (by decide) (fun hc => ?_) (fun hc => ?_)
    · have h := h.1 hc
      refine lv_iload hx hb (dk DX4_isDoneBy 11 rfl) (lv_at hl 0 rfl) ?_
      refine lv_aload_n hx hb (dk DX4_isDoneBy 12 rfl) rfl (lv_at hl 2 rfl) ?_
      refine gX_1 X hP 0 (by decide) rfl lk63 (dk DX4_isDoneBy 13 rfl) ?_
      refine gX_2 X hP 1 (by decide) rfl lk105 (dk DX4_isDoneBy 14 rfl) ?_
      refine lv_iload hx hb (dk DX4_isDoneBy 15 rfl) (lv_at hl 5 rfl) ?_
      obtain ⟨hin, h⟩ := h
      refine ldX_3 X hP hin (dk DX4_isDoneBy 16 rfl) ?_
      refine lv_iadd hx hb (dk DX4_isDoneBy 17 rfl) ?_
      exact h _ _ hP hD hS ls (lv_sub hl [1, 2, 3, 4, 5, 6, 0] rfl)
    · have h := h.2 hc
      refine lv_iload hx hb (dk DX4_isDoneBy 9 rfl) (lv_at hl 0 rfl) ?_
      refine lv_goto (tgt := 35) hx hb (dk DX4_isDoneBy 10 rfl) (by decide) ?_
      exact h _ _ hP hD hS ls (lv_sub hl [1, 2, 3, 4, 5, 6, 0] rfl)
  · rintro (⟨x2, x3, x4, x5, x6, t0⟩ | ⟨x2, x3, x4, x5, x6, x7, x8, x9, x10⟩ | ⟨x2, x3, x4, x5, x6, x7, x8, x9, x10, x11, x12, x13, t0, t1, t2⟩) S hB
    · exact h_X4_isDoneBy_51_1_0 X hr hlocks (hK0 := fun _ _ _ _ _ _ _ h => h) (hK1 := fun _ _ _ _ _ _ _ _ _ _ h => h) (hK2 := fun _ _ _ _ _ _ _ _ _ _ _ _ _ _ _ _ h => h) x2 x3 x4 x5 x6 t0 S hB
    · exact h_X4_isDoneBy_51_1_1 X hr hlocks (hK0 := fun _ _ _ _ _ _ _ h => h) (hK1 := fun _ _ _ _ _ _ _ _ _ _ h => h) (hK2 := fun _ _ _ _ _ _ _ _ _ _ _ _ _ _ _ _ h => h) x2 x3 x4 x5 x6 x7 x8 x9 x10 S hB
    · exact h_X4_isDoneBy_51_1_2 X hr hlocks (hK0 := fun _ _ _ _ _ _ _ h => h) (hK1 := fun _ _ _ _ _ _ _ _ _ _ h => h) (hK2 := fun _ _ _ _ _ _ _ _ _ _ _ _ _ _ _ _ h => h) x2 x3 x4 x5 x6 x7 x8 x9 x10 x11 x12 x13 t0 t1 t2 S hB

def ww_X4_isBetter_51 : List Cond := .code yX4_isBetter cX4_isBetter 5 (some .boolean) :: (WdX ++ WsX)
theorem q_X4_isBetter_51 : yX4_isBetter.cls = RX4 ∧ yX4_isBetter.cls ≠ "java/lang/invoke/MethodHandle" ∧ yX4_isBetter.cls ≠ "java/lang/invoke/VarHandle" ∧ (parseMethodDescriptor yX4_isBetter.desc).map (fun d => d.parameters.length) = some 4 := by decide +kernel
def VC_X4_isBetter_51 (Post : Int32 → XS → Prop) (a0 : Int32) (a1 : Int32) (a2 : Int32) (a3 : Int32) (S : XS) : Prop := vp_in a0 400 ∧ ((a1 = ((S.2.1 55) a0.toNatClampNeg) → vp_in a0 400 ∧ ((a2 = ((S.2.1 56) a0.toNatClampNeg) → vp_in a0 400 ∧ ((((S.2.1 57) a0.toNatClampNeg) ≤ a3 → Post 0 S) ∧ (¬ ((S.2.1 57) a0.toNatClampNeg) ≤ a3 → Post 1 S))) ∧ (¬ a2 = ((S.2.1 56) a0.toNatClampNeg) → vp_in a0 400 ∧ ((((S.2.1 56) a0.toNatClampNeg) ≤ a2 → Post 0 S) ∧ (¬ ((S.2.1 56) a0.toNatClampNeg) ≤ a2 → Post 1 S))))) ∧ (¬ a1 = ((S.2.1 55) a0.toNatClampNeg) → vp_in a0 400 ∧ ((a1 ≤ ((S.2.1 55) a0.toNatClampNeg) → Post 0 S) ∧ (¬ a1 ≤ ((S.2.1 55) a0.toNatClampNeg) → Post 1 S))))
set_option maxHeartbeats 4000000 in
set_option maxRecDepth 100000 in
theorem m_X4_isBetter_51 {l : Launch} {dC : Nat → ClassId} {dI : Nat → Nat → Nat} {q : Nat → Nat} {cI cT : ClassId} {en : Nat → Nat} {sz : Nat} {Post : Int32 → XS → Prop} (a0 : Int32) (a1 : Int32) (a2 : Int32) (a3 : Int32) (S : XS) (h : VC_X4_isBetter_51 Post a0 a1 a2 a3 S) : Met l yX4_isBetter ww_X4_isBetter_51 ({ frames := 0, cells := 0, slots := 0, locals := 0 } : Room) (va_Pc [.ref (q 51), .int a0, .int a1, .int a2, .int a3] (preX dC dI q cI cT en S sz)) (va_Qi Post (atX dC dI q cI cT (va_A (wX q cI cT S) sz)) (va_A (wX q cI cT S) sz)) 0 0 (va_A (wX q cI cT S) sz) := by
  refine oX (cc := cX4_isBetter) (maxL := 5) (ret := (some .boolean)) (Qc := fun A => va_Qi Post (atX dC dI q cI cT A) A) (own := RX4) (by decide) rfl (fun w h => List.mem_cons_of_mem _ (List.mem_append_right _ h)) rfl (Nat.le_of_ble_eq_true rfl) (fun p e s m below meth c A ls X hr hlocks hP hD hS hl => ?_)
  have hx := X.1
  have hb := X.2.1
  have hl : lv_has ls 5 [(0, .ref (q 51)), (1, .int a0), (2, .int a1), (3, .int a2), (4, .int a3)] := hl
  have lk21 := X.2.2.2.2.1 (.fieldLink RX4 21 "BreathOnLoan$Planner" "left" "[I") (inX 416 rfl)
  have lk24 := X.2.2.2.2.1 (.fieldLink RX4 24 "BreathOnLoan$Planner" "count" "[I") (inX 417 rfl)
  have lk27 := X.2.2.2.2.1 (.fieldLink RX4 27 "BreathOnLoan$Planner" "pick" "[I") (inX 418 rfl)
  dsimp only [VC_X4_isBetter_51] at h
  refine lv_iload_n hx hb (dk DX4_isBetter 0 rfl) rfl (lv_at hl 2 rfl) ?_
  refine lv_aload_n hx hb (dk DX4_isBetter 1 rfl) rfl (lv_at hl 0 rfl) ?_
  refine gX_51 X hP 7 (by decide) rfl lk21 (dk DX4_isBetter 2 rfl) ?_
  refine lv_iload_n hx hb (dk DX4_isBetter 3 rfl) rfl (lv_at hl 1 rfl) ?_
  obtain ⟨hin, h⟩ := h
  refine ldX_55 X hP hin (dk DX4_isBetter 4 rfl) ?_
  refine lv_icmp_eq (tgt := 26) hx hb (dk DX4_isBetter 5 rfl) (by decide) (fun hc => ?_) (fun hc => ?_)
  · have h := h.1 hc
    refine lv_iload_n hx hb (dk DX4_isBetter 16 rfl) rfl (lv_at hl 3 rfl) ?_
    refine lv_aload_n hx hb (dk DX4_isBetter 17 rfl) rfl (lv_at hl 0 rfl) ?_
    refine gX_51 X hP 8 (by decide) rfl lk24 (dk DX4_isBetter 18 rfl) ?_
    refine lv_iload_n hx hb (dk DX4_isBetter 19 rfl) rfl (lv_at hl 1 rfl) ?_
    obtain ⟨hin, h⟩ := h
    refine ldX_56 X hP hin (dk DX4_isBetter 20 rfl) ?_
    refine lv_icmp_eq (tgt := 52) hx hb (dk DX4_isBetter 21 rfl) (by decide) (fun hc => ?_) (fun hc => ?_)
    · have h := h.1 hc
      refine lv_iload hx hb (dk DX4_isBetter 32 rfl) (lv_at hl 4 rfl) ?_
      refine lv_aload_n hx hb (dk DX4_isBetter 33 rfl) rfl (lv_at hl 0 rfl) ?_
      refine gX_51 X hP 9 (by decide) rfl lk27 (dk DX4_isBetter 34 rfl) ?_
      refine lv_iload_n hx hb (dk DX4_isBetter 35 rfl) rfl (lv_at hl 1 rfl) ?_
      obtain ⟨hin, h⟩ := h
      refine ldX_57 X hP hin (dk DX4_isBetter 36 rfl) ?_
      refine lv_icmp_ge (tgt := 67) hx hb (dk DX4_isBetter 37 rfl) (by decide) (fun hc => ?_) (fun hc => ?_)
      · have h := h.1 hc
        refine lv_iconst (v := 0) hx hb (dk DX4_isBetter 40 rfl) (by decide) ?_
        exact W.zret (v := 0) hx hb hr (by decide) (fun t ht hW => ⟨⟨_, _, rfl, h, by rw [ht]; exact hP, va_K.moved hW.alike X.2.2.2.2.2.2.1, hD⟩, hS.F ht⟩) hS.2.2 (dk DX4_isBetter 41 rfl)
      · have h := h.2 hc
        refine lv_iconst (v := 1) hx hb (dk DX4_isBetter 38 rfl) (by decide) ?_
        refine lv_goto (tgt := 68) hx hb (dk DX4_isBetter 39 rfl) (by decide) ?_
        exact W.zret (v := 1) hx hb hr (by decide) (fun t ht hW => ⟨⟨_, _, rfl, h, by rw [ht]; exact hP, va_K.moved hW.alike X.2.2.2.2.2.2.1, hD⟩, hS.F ht⟩) hS.2.2 (dk DX4_isBetter 41 rfl)
    · have h := h.2 hc
      refine lv_iload_n hx hb (dk DX4_isBetter 22 rfl) rfl (lv_at hl 3 rfl) ?_
      refine lv_aload_n hx hb (dk DX4_isBetter 23 rfl) rfl (lv_at hl 0 rfl) ?_
      refine gX_51 X hP 8 (by decide) rfl lk24 (dk DX4_isBetter 24 rfl) ?_
      refine lv_iload_n hx hb (dk DX4_isBetter 25 rfl) rfl (lv_at hl 1 rfl) ?_
      obtain ⟨hin, h⟩ := h
      refine ldX_56 X hP hin (dk DX4_isBetter 26 rfl) ?_
      refine lv_icmp_ge (tgt := 50) hx hb (dk DX4_isBetter 27 rfl) (by decide) (fun hc => ?_) (fun hc => ?_)
      · have h := h.1 hc
        refine lv_iconst (v := 0) hx hb (dk DX4_isBetter 30 rfl) (by decide) ?_
        exact W.zret (v := 0) hx hb hr (by decide) (fun t ht hW => ⟨⟨_, _, rfl, h, by rw [ht]; exact hP, va_K.moved hW.alike X.2.2.2.2.2.2.1, hD⟩, hS.F ht⟩) hS.2.2 (dk DX4_isBetter 31 rfl)
      · have h := h.2 hc
        refine lv_iconst (v := 1) hx hb (dk DX4_isBetter 28 rfl) (by decide) ?_
        refine lv_goto (tgt := 51) hx hb (dk DX4_isBetter 29 rfl) (by decide) ?_
        exact W.zret (v := 1) hx hb hr (by decide) (fun t ht hW => ⟨⟨_, _, rfl, h, by rw [ht]; exact hP, va_K.moved hW.alike X.2.2.2.2.2.2.1, hD⟩, hS.F ht⟩) hS.2.2 (dk DX4_isBetter 31 rfl)
  · have h := h.2 hc
    refine lv_iload_n hx hb (dk DX4_isBetter 6 rfl) rfl (lv_at hl 2 rfl) ?_
    refine lv_aload_n hx hb (dk DX4_isBetter 7 rfl) rfl (lv_at hl 0 rfl) ?_
    refine gX_51 X hP 7 (by decide) rfl lk21 (dk DX4_isBetter 8 rfl) ?_
    refine lv_iload_n hx hb (dk DX4_isBetter 9 rfl) rfl (lv_at hl 1 rfl) ?_
    obtain ⟨hin, h⟩ := h
    refine ldX_55 X hP hin (dk DX4_isBetter 10 rfl) ?_
    refine lv_icmp_le (tgt := 24) hx hb (dk DX4_isBetter 11 rfl) (by decide) (fun hc => ?_) (fun hc => ?_)
    · have h := h.1 hc
      refine lv_iconst (v := 0) hx hb (dk DX4_isBetter 14 rfl) (by decide) ?_
      exact W.zret (v := 0) hx hb hr (by decide) (fun t ht hW => ⟨⟨_, _, rfl, h, by rw [ht]; exact hP, va_K.moved hW.alike X.2.2.2.2.2.2.1, hD⟩, hS.F ht⟩) hS.2.2 (dk DX4_isBetter 15 rfl)
    · have h := h.2 hc
      refine lv_iconst (v := 1) hx hb (dk DX4_isBetter 12 rfl) (by decide) ?_
      refine lv_goto (tgt := 25) hx hb (dk DX4_isBetter 13 rfl) (by decide) ?_
      exact W.zret (v := 1) hx hb hr (by decide) (fun t ht hW => ⟨⟨_, _, rfl, h, by rw [ht]; exact hP, va_K.moved hW.alike X.2.2.2.2.2.2.1, hD⟩, hS.F ht⟩) hS.2.2 (dk DX4_isBetter 15 rfl)

