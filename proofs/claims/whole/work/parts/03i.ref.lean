-- clause readText text fault by clip two
def ww_clause : List Cond := .code yX12_clause cX12_clause 6 (some .int) :: (WdM ++ wsX120)
theorem q_clause : yX12_clause.cls = RX12 ∧ yX12_clause.cls ≠ "java/lang/invoke/MethodHandle" ∧ yX12_clause.cls ≠ "java/lang/invoke/VarHandle" ∧ (parseMethodDescriptor yX12_clause.desc).map (fun d => d.parameters.length) = some 0 := by decide +kernel
abbrev Hd_clause : Type := (Int32) ⊕ (Int32 × Int32) ⊕ (Int32 × Int32 × Int32 × Int32 × Int32) ⊕ (Int32 × Int32 × Int32 × Int32 × Int32)
def B_clause (Post : Int32 → MS → Prop) (K : Hd_clause → MS → Prop) : Hd_clause → MS → Prop
  | (.inl x1), S => vp_in (S.1 12) 2720 ∧ ∀ v3 : Int32, v3 = (S.2.2.1 2) (S.1 12).toNatClampNeg → ((¬ v3 = 24 → ((4 ≤ x1 → K (.inr (.inl (x1, v3))) S) ∧ (¬ 4 ≤ x1 → ∀ v4 : Int32, v4 = (S.1 21) ||| ((1 : Int32) <<< (x1 &&& 31)) → ∀ S5 : MS, S5 = sI S 21 v4 → K (.inr (.inl (x1, v3))) S5))) ∧ (v3 = 24 → Post 6 S))
  | (.inr (.inl (x1, x2))), S => ∀ S6 : MS, S6 = sI S 20 x1 → VC_nextToken (fun S7 => ∀ v8 : Int32, v8 = ((S7.1 12) + 1) + (3 * x2) → vp_in v8 2720 ∧ ∀ S9 : MS, S9 = sF S7 2 (upd (S7.2.2.1 2) v8.toNatClampNeg x1) → ∀ v10 : Int32, v10 = (S9.1 14) → ((4 ≤ x1 → VC_line (fun r12 S11 => K (.inr (.inr (.inl (x1, x2, v8, v10, r12)))) S11) x1 v8 S9) ∧ (¬ 4 ≤ x1 → VC_parsed (fun r14 S13 => K (.inr (.inr (.inl (x1, x2, v8, v10, r14)))) S13) 0 S9))) S6
  | (.inr (.inr (.inl (x1, x2, x3, x4, t0)))), S => ((t0 = 0 → ((4 ≤ x1 → K (.inr (.inr (.inr (x1, x2, x3, x4, t0)))) S) ∧ (¬ 4 ≤ x1 → vp_in (x3 + 1) 2720 ∧ ∀ S15 : MS, S15 = sF S 2 (upd (S.2.2.1 2) (x3 + 1).toNatClampNeg x4) → ∀ v16 : Int32, v16 = (S15.1 14) → vp_in (x3 + 2) 2720 ∧ ∀ S17 : MS, S17 = sF S15 2 (upd (S15.2.2.1 2) (x3 + 2).toNatClampNeg v16) → K (.inr (.inr (.inr (x1, x2, x3, x4, t0)))) S17))) ∧ (¬ t0 = 0 → Post t0 S))
  | (.inr (.inr (.inr (x1, x2, x3, x4, x5)))), S => vp_in (S.1 12) 2720 ∧ ∀ v18 : Int32, v18 = ((S.2.2.1 2) (S.1 12).toNatClampNeg) + 1 → vp_in (S.1 12) 2720 ∧ ∀ S19 : MS, S19 = sF S 2 (upd (S.2.2.1 2) (S.1 12).toNatClampNeg v18) → (((S19.1 9) = 59 → VC_nextToken (fun S20 => Post 0 S20) S19) ∧ (¬ (S19.1 9) = 59 → Post 1 S19))
def VC_clause (Post : Int32 → MS → Prop) (S : MS) : Prop := ∀ K : Hd_clause → MS → Prop, (∀ h S, B_clause Post K h S → K h S) → VC_sortOf (fun r2 S1 => ((0 ≤ r2 → ((4 ≤ r2 → K (.inl r2) S1) ∧ (¬ 4 ≤ r2 → ((¬ (((S1.1 21) >>> (r2 &&& 31)) &&& 1) = 1 → K (.inl r2) S1) ∧ ((((S1.1 21) >>> (r2 &&& 31)) &&& 1) = 1 → Post 4 S1))))) ∧ (¬ 0 ≤ r2 → Post 1 S1))) S
set_option maxHeartbeats 4000000 in
set_option maxRecDepth 100000 in
theorem h_clause_0 {p : Program} {l : Launch} {e : Env} {s : State} {m : MethodId} {below : List Frame} {meth : Method} {c : Code} {dC : Nat → ClassId} {dI : Nat → Nat → Nat} {q : Nat → Nat} {cI cJ cZ : ClassId} {A : Nat → Prop} {args : Array Value} {Post : Int32 → MS → Prop} {K : Hd_clause → MS → Prop} (X : XM p s m args c cX12_clause 6 ww_clause dC dI cI cJ cZ A) (hr : meth.sig.returnType = (some .int)) (hlocks : meth.locks = false) (hK0 : ∀ (x1 : Int32) (S : MS), K (.inl x1) S → ∀ (H : Heap) (locs : List Loc), va_P (dC, dI) vwCl (wM q cI cJ cZ S) H → va_D A (wM q cI cJ cZ S) → va_S A s.heap H locs → ∀ ls : Array Slot, lv_has ls 6 [(0, .ref (q 0)), (1, .int x1)] → W p l e (headSpec ww_clause ({ frames := 6, cells := 0, slots := 0, locals := 136 } : Room)).room s m args below meth c H locs 0 0 (MQ below (va_Qi Post (atM dC dI q cI cJ cZ A) A) args s 0 0 A) (F0 m 30 ls [])) (hK1 : ∀ (x1 : Int32) (x2 : Int32) (S : MS), K (.inr (.inl (x1, x2))) S → ∀ (H : Heap) (locs : List Loc), va_P (dC, dI) vwCl (wM q cI cJ cZ S) H → va_D A (wM q cI cJ cZ S) → va_S A s.heap H locs → ∀ ls : Array Slot, lv_has ls 6 [(0, .ref (q 0)), (1, .int x1), (2, .int x2)] → W p l e (headSpec ww_clause ({ frames := 6, cells := 0, slots := 0, locals := 136 } : Room)).room s m args below meth c H locs 0 0 (MQ below (va_Qi Post (atM dC dI q cI cJ cZ A) A) args s 0 0 A) (F0 m 66 ls [])) (hK2 : ∀ (x1 : Int32) (x2 : Int32) (x3 : Int32) (x4 : Int32) (t0 : Int32) (S : MS), K (.inr (.inr (.inl (x1, x2, x3, x4, t0)))) S → ∀ (H : Heap) (locs : List Loc), va_P (dC, dI) vwCl (wM q cI cJ cZ S) H → va_D A (wM q cI cJ cZ S) → va_S A s.heap H locs → ∀ ls : Array Slot, lv_has ls 6 [(0, .ref (q 0)), (1, .int x1), (2, .int x2), (3, .int x3), (4, .int x4)] → W p l e (headSpec ww_clause ({ frames := 6, cells := 0, slots := 0, locals := 136 } : Room)).room s m args below meth c H locs 0 0 (MQ below (va_Qi Post (atM dC dI q cI cJ cZ A) A) args s 0 0 A) (F0 m 118 ls [.int t0])) (hK3 : ∀ (x1 : Int32) (x2 : Int32) (x3 : Int32) (x4 : Int32) (x5 : Int32) (S : MS), K (.inr (.inr (.inr (x1, x2, x3, x4, x5)))) S → ∀ (H : Heap) (locs : List Loc), va_P (dC, dI) vwCl (wM q cI cJ cZ S) H → va_D A (wM q cI cJ cZ S) → va_S A s.heap H locs → ∀ ls : Array Slot, lv_has ls 6 [(0, .ref (q 0)), (1, .int x1), (2, .int x2), (3, .int x3), (4, .int x4), (5, .int x5)] → W p l e (headSpec ww_clause ({ frames := 6, cells := 0, slots := 0, locals := 136 } : Room)).room s m args below meth c H locs 0 0 (MQ below (va_Qi Post (atM dC dI q cI cJ cZ A) A) args s 0 0 A) (F0 m 155 ls [])) (x1 : Int32) (S : MS) (h : B_clause Post K (.inl x1) S) : ∀ (H : Heap) (locs : List Loc), va_P (dC, dI) vwCl (wM q cI cJ cZ S) H → va_D A (wM q cI cJ cZ S) → va_S A s.heap H locs → ∀ ls : Array Slot, lv_has ls 6 [(0, .ref (q 0)), (1, .int x1)] → W p l e (headSpec ww_clause ({ frames := 6, cells := 0, slots := 0, locals := 136 } : Room)).room s m args below meth c H locs 0 0 (MQ below (va_Qi Post (atM dC dI q cI cJ cZ A) A) args s 0 0 A) (F0 m 30 ls []) := by
  have hx := X.1
  have hb := X.2.1
  intro H locs hP hD hS ls hl
  have lk233 := X.2.2.2.2.1 (.fieldLink RX12 233 "BreathOnLoanModel" "once" "I") (inW 188 rfl)
  have lk16 := X.2.2.2.2.1 (.fieldLink RX12 16 "BreathOnLoanModel" "texts" "[I") (inW 7 rfl)
  have lk127 := X.2.2.2.2.1 (.fieldLink RX12 127 "BreathOnLoanModel" "text0" "I") (inW 92 rfl)
  have lk218 := X.2.2.2.2.1 (.fieldLink RX12 218 "BreathOnLoanModel" "sort0" "I") (inW 136 rfl)
  have lk130 := X.2.2.2.2.1 (.fieldLink RX12 130 "BreathOnLoanModel" "written" "I") (inW 93 rfl)
  have lk102 := X.2.2.2.2.1 (.fieldLink RX12 102 "BreathOnLoanModel" "token" "I") (inW 71 rfl)
  dsimp only [B_clause] at h
  refine lv_aload_n hx hb (dk DX12_clause 20 rfl) rfl (lv_at hl 0 rfl) ?_
  refine gM X hP 2 (by decide) rfl lk16 (dk DX12_clause 21 rfl) ?_
  refine lv_aload_n hx hb (dk DX12_clause 22 rfl) rfl (lv_at hl 0 rfl) ?_
  refine gM X hP 12 (by decide) rfl lk127 (dk DX12_clause 23 rfl) ?_
  obtain ⟨hin, h⟩ := h
  refine ldM X hP 3 rfl hin (dk DX12_clause 24 rfl) ?_
  refine lv_topi (fun v3 ev3 => ?_)
  have h := h v3 ev3
  refine lv_istore_n (lv' := [(2, .int v3), (0, .ref (q 0)), (1, .int x1)]) hx hb (dk DX12_clause 25 rfl) rfl hl (by decide) rfl (fun ls hl => ?_)
  refine lv_iload_n hx hb (dk DX12_clause 26 rfl) rfl (lv_at hl 0 rfl) ?_
  refine lv_bipush (v := 24) hx hb (dk DX12_clause 27 rfl) (by decide) ?_
  refine lv_icmp_ne (tgt := 49) hx hb (dk DX12_clause 28 rfl) (by decide) (fun hc => ?_) (fun hc => ?_)
  · have h := h.1 hc
    refine lv_iload_n hx hb (dk DX12_clause 31 rfl) rfl (lv_at hl 2 rfl) ?_
    refine lv_iconst (v := 4) hx hb (dk DX12_clause 32 rfl) (by decide) ?_
    refine lv_icmp_ge (tgt := 66) hx hb (dk DX12_clause 33 rfl) (by decide) (fun hc => ?_) (fun hc => ?_)
    · have h := h.1 hc
      exact hK1 x1 v3 S h _ _ hP hD hS ls (lv_sub hl [1, 2, 0] rfl)
    · have h := h.2 hc
      refine lv_aload_n hx hb (dk DX12_clause 34 rfl) rfl (lv_at hl 1 rfl) ?_
      refine lv_dup hx hb (dk DX12_clause 35 rfl) rfl ?_
      refine gM X hP 21 (by decide) rfl lk233 (dk DX12_clause 36 rfl) ?_
      refine lv_iconst (v := 1) hx hb (dk DX12_clause 37 rfl) (by decide) ?_
      refine lv_iload_n hx hb (dk DX12_clause 38 rfl) rfl (lv_at hl 2 rfl) ?_
      refine lv_ishl hx hb (dk DX12_clause 39 rfl) ?_
      refine lv_ior hx hb (dk DX12_clause 40 rfl) ?_
      refine lv_topi (fun v4 ev4 => ?_)
      have h := h v4 ev4
      refine pM_21 X hP hD hS lk233 (dk DX12_clause 41 rfl) (fun S5 eS5 H locs hP hD hS => ?_)
      have h := h S5 eS5
      exact hK1 x1 v3 S5 h _ _ hP hD hS ls (lv_sub hl [1, 2, 0] rfl)
  · have h := h.2 hc
    refine lv_bipush (v := 6) hx hb (dk DX12_clause 29 rfl) (by decide) ?_
    exact W.iret (v := 6) hx hb hr (fun t ht hW => ⟨⟨_, _, rfl, h, by rw [ht]; exact hP, va_K.moved hW.alike X.2.2.2.2.2.2.1, hD⟩, hS.F ht⟩) hS.2.2 (dk DX12_clause 30 rfl)
set_option maxHeartbeats 4000000 in
set_option maxRecDepth 100000 in
theorem h_clause_1 {p : Program} {l : Launch} {e : Env} {s : State} {m : MethodId} {below : List Frame} {meth : Method} {c : Code} {dC : Nat → ClassId} {dI : Nat → Nat → Nat} {q : Nat → Nat} {cI cJ cZ : ClassId} {A : Nat → Prop} {args : Array Value} {Post : Int32 → MS → Prop} {K : Hd_clause → MS → Prop} (X : XM p s m args c cX12_clause 6 ww_clause dC dI cI cJ cZ A) (hr : meth.sig.returnType = (some .int)) (hlocks : meth.locks = false) (hK0 : ∀ (x1 : Int32) (S : MS), K (.inl x1) S → ∀ (H : Heap) (locs : List Loc), va_P (dC, dI) vwCl (wM q cI cJ cZ S) H → va_D A (wM q cI cJ cZ S) → va_S A s.heap H locs → ∀ ls : Array Slot, lv_has ls 6 [(0, .ref (q 0)), (1, .int x1)] → W p l e (headSpec ww_clause ({ frames := 6, cells := 0, slots := 0, locals := 136 } : Room)).room s m args below meth c H locs 0 0 (MQ below (va_Qi Post (atM dC dI q cI cJ cZ A) A) args s 0 0 A) (F0 m 30 ls [])) (hK1 : ∀ (x1 : Int32) (x2 : Int32) (S : MS), K (.inr (.inl (x1, x2))) S → ∀ (H : Heap) (locs : List Loc), va_P (dC, dI) vwCl (wM q cI cJ cZ S) H → va_D A (wM q cI cJ cZ S) → va_S A s.heap H locs → ∀ ls : Array Slot, lv_has ls 6 [(0, .ref (q 0)), (1, .int x1), (2, .int x2)] → W p l e (headSpec ww_clause ({ frames := 6, cells := 0, slots := 0, locals := 136 } : Room)).room s m args below meth c H locs 0 0 (MQ below (va_Qi Post (atM dC dI q cI cJ cZ A) A) args s 0 0 A) (F0 m 66 ls [])) (hK2 : ∀ (x1 : Int32) (x2 : Int32) (x3 : Int32) (x4 : Int32) (t0 : Int32) (S : MS), K (.inr (.inr (.inl (x1, x2, x3, x4, t0)))) S → ∀ (H : Heap) (locs : List Loc), va_P (dC, dI) vwCl (wM q cI cJ cZ S) H → va_D A (wM q cI cJ cZ S) → va_S A s.heap H locs → ∀ ls : Array Slot, lv_has ls 6 [(0, .ref (q 0)), (1, .int x1), (2, .int x2), (3, .int x3), (4, .int x4)] → W p l e (headSpec ww_clause ({ frames := 6, cells := 0, slots := 0, locals := 136 } : Room)).room s m args below meth c H locs 0 0 (MQ below (va_Qi Post (atM dC dI q cI cJ cZ A) A) args s 0 0 A) (F0 m 118 ls [.int t0])) (hK3 : ∀ (x1 : Int32) (x2 : Int32) (x3 : Int32) (x4 : Int32) (x5 : Int32) (S : MS), K (.inr (.inr (.inr (x1, x2, x3, x4, x5)))) S → ∀ (H : Heap) (locs : List Loc), va_P (dC, dI) vwCl (wM q cI cJ cZ S) H → va_D A (wM q cI cJ cZ S) → va_S A s.heap H locs → ∀ ls : Array Slot, lv_has ls 6 [(0, .ref (q 0)), (1, .int x1), (2, .int x2), (3, .int x3), (4, .int x4), (5, .int x5)] → W p l e (headSpec ww_clause ({ frames := 6, cells := 0, slots := 0, locals := 136 } : Room)).room s m args below meth c H locs 0 0 (MQ below (va_Qi Post (atM dC dI q cI cJ cZ A) A) args s 0 0 A) (F0 m 155 ls [])) (x1 : Int32) (x2 : Int32) (S : MS) (h : B_clause Post K (.inr (.inl (x1, x2))) S) : ∀ (H : Heap) (locs : List Loc), va_P (dC, dI) vwCl (wM q cI cJ cZ S) H → va_D A (wM q cI cJ cZ S) → va_S A s.heap H locs → ∀ ls : Array Slot, lv_has ls 6 [(0, .ref (q 0)), (1, .int x1), (2, .int x2)] → W p l e (headSpec ww_clause ({ frames := 6, cells := 0, slots := 0, locals := 136 } : Room)).room s m args below meth c H locs 0 0 (MQ below (va_Qi Post (atM dC dI q cI cJ cZ A) A) args s 0 0 A) (F0 m 66 ls []) := by
  have hx := X.1
  have hb := X.2.1
  intro H locs hP hD hS ls hl
  have lk233 := X.2.2.2.2.1 (.fieldLink RX12 233 "BreathOnLoanModel" "once" "I") (inW 188 rfl)
  have lk16 := X.2.2.2.2.1 (.fieldLink RX12 16 "BreathOnLoanModel" "texts" "[I") (inW 7 rfl)
  have lk127 := X.2.2.2.2.1 (.fieldLink RX12 127 "BreathOnLoanModel" "text0" "I") (inW 92 rfl)
  have lk218 := X.2.2.2.2.1 (.fieldLink RX12 218 "BreathOnLoanModel" "sort0" "I") (inW 136 rfl)
  have lk130 := X.2.2.2.2.1 (.fieldLink RX12 130 "BreathOnLoanModel" "written" "I") (inW 93 rfl)
  have lk102 := X.2.2.2.2.1 (.fieldLink RX12 102 "BreathOnLoanModel" "token" "I") (inW 71 rfl)
  dsimp only [B_clause] at h
  refine lv_aload_n hx hb (dk DX12_clause 42 rfl) rfl (lv_at hl 0 rfl) ?_
  refine lv_iload_n hx hb (dk DX12_clause 43 rfl) rfl (lv_at hl 1 rfl) ?_
  refine pM_20 X hP hD hS lk218 (dk DX12_clause 44 rfl) (fun S6 eS6 H locs hP hD hS => ?_)
  have h := h S6 eS6
  refine lv_aload_n hx hb (dk DX12_clause 45 rfl) rfl (lv_at hl 0 rfl) ?_
  refine cMv (As := []) (rest := []) X (m_nextToken (l := l) (dC := dC) (dI := dI) (q := q) (cI := cI) (cJ := cJ) (cZ := cZ) (sz := _) S6 h) (cwV 0 X.2.2.2.2.1 (gwV 122 123 124 24 68 rfl rfl rfl rfl rfl) rfl rfl rfl q_nextToken ⟨Nat.le_of_ble_eq_true rfl, Nat.le_of_ble_eq_true rfl⟩) hP hD hS rfl hl.1 rfl (Nat.le_of_ble_eq_true rfl) (dk DX12_clause 46 rfl) (fun S7 H locs h hP hD hS => ?_)
  refine lv_aload_n hx hb (dk DX12_clause 47 rfl) rfl (lv_at hl 0 rfl) ?_
  refine gM X hP 12 (by decide) rfl lk127 (dk DX12_clause 48 rfl) ?_
  refine lv_iconst (v := 1) hx hb (dk DX12_clause 49 rfl) (by decide) ?_
  refine lv_iadd hx hb (dk DX12_clause 50 rfl) ?_
  refine lv_iconst (v := 3) hx hb (dk DX12_clause 51 rfl) (by decide) ?_
  refine lv_iload_n hx hb (dk DX12_clause 52 rfl) rfl (lv_at hl 2 rfl) ?_
  refine lv_imul hx hb (dk DX12_clause 53 rfl) ?_
  refine lv_iadd hx hb (dk DX12_clause 54 rfl) ?_
  refine lv_topi (fun v8 ev8 => ?_)
  have h := h v8 ev8
  refine lv_istore_n (lv' := [(3, .int v8), (0, .ref (q 0)), (1, .int x1), (2, .int x2)]) hx hb (dk DX12_clause 55 rfl) rfl hl (by decide) rfl (fun ls hl => ?_)
  refine lv_aload_n hx hb (dk DX12_clause 56 rfl) rfl (lv_at hl 1 rfl) ?_
  refine gM X hP 2 (by decide) rfl lk16 (dk DX12_clause 57 rfl) ?_
  refine lv_iload_n hx hb (dk DX12_clause 58 rfl) rfl (lv_at hl 0 rfl) ?_
  refine lv_iload_n hx hb (dk DX12_clause 59 rfl) rfl (lv_at hl 2 rfl) ?_
  obtain ⟨hin, h⟩ := h
  refine stM_2 X hP hD hS hin (dk DX12_clause 60 rfl) (fun S9 eS9 H locs hP hD hS => ?_)
  have h := h S9 eS9
  refine lv_aload_n hx hb (dk DX12_clause 61 rfl) rfl (lv_at hl 1 rfl) ?_
  refine gM X hP 14 (by decide) rfl lk130 (dk DX12_clause 62 rfl) ?_
  refine lv_topi (fun v10 ev10 => ?_)
  have h := h v10 ev10
  refine lv_istore (lv' := [(4, .int v10), (3, .int v8), (0, .ref (q 0)), (1, .int x1), (2, .int x2)]) hx hb (dk DX12_clause 63 rfl) hl (by decide) rfl (fun ls hl => ?_)
  refine lv_iload_n hx hb (dk DX12_clause 64 rfl) rfl (lv_at hl 3 rfl) ?_
  refine lv_iconst (v := 4) hx hb (dk DX12_clause 65 rfl) (by decide) ?_
  refine lv_icmp_ge (tgt := 112) hx hb (dk DX12_clause 66 rfl) (by decide) (fun hc => ?_) (fun hc => ?_)
  · have h := h.1 hc
    refine lv_aload_n hx hb (dk DX12_clause 71 rfl) rfl (lv_at hl 2 rfl) ?_
    refine lv_iload_n hx hb (dk DX12_clause 72 rfl) rfl (lv_at hl 3 rfl) ?_
    refine lv_iload_n hx hb (dk DX12_clause 73 rfl) rfl (lv_at hl 1 rfl) ?_
    refine cMi (As := [.int x1, .int v8]) (rest := []) X (m_line (l := l) (dC := dC) (dI := dI) (q := q) (cI := cI) (cJ := cJ) (cZ := cZ) (sz := _) x1 v8 S9 h) (cwV 2 X.2.2.2.2.1 (gwV 195 196 197 24 187 rfl rfl rfl rfl rfl) rfl rfl rfl q_line ⟨Nat.le_of_ble_eq_true rfl, Nat.le_of_ble_eq_true rfl⟩) hP hD hS rfl hl.1 rfl (Nat.le_of_ble_eq_true rfl) (dk DX12_clause 74 rfl) (fun r12 S11 H locs h hP hD hS => ?_)
    exact hK2 x1 x2 v8 v10 r12 S11 h _ _ hP hD hS ls (lv_sub hl [2, 3, 4, 1, 0] rfl)
  · have h := h.2 hc
    refine lv_aload_n hx hb (dk DX12_clause 67 rfl) rfl (lv_at hl 2 rfl) ?_
    refine lv_iconst (v := 0) hx hb (dk DX12_clause 68 rfl) (by decide) ?_
    refine cMi (As := [.int 0]) (rest := []) X (m_parsed (l := l) (dC := dC) (dI := dI) (q := q) (cI := cI) (cJ := cJ) (cZ := cZ) (sz := _) 0 S9 h) (cwV 1 X.2.2.2.2.1 (gwV 192 193 194 24 176 rfl rfl rfl rfl rfl) rfl rfl rfl q_parsed ⟨Nat.le_of_ble_eq_true rfl, Nat.le_of_ble_eq_true rfl⟩) hP hD hS rfl hl.1 rfl (Nat.le_of_ble_eq_true rfl) (dk DX12_clause 69 rfl) (fun r14 S13 H locs h hP hD hS => ?_)
    refine lv_goto (tgt := 118) hx hb (dk DX12_clause 70 rfl) (by decide) ?_
    exact hK2 x1 x2 v8 v10 r14 S13 h _ _ hP hD hS ls (lv_sub hl [2, 3, 4, 1, 0] rfl)
set_option maxHeartbeats 4000000 in
set_option maxRecDepth 100000 in
theorem h_clause_2 {p : Program} {l : Launch} {e : Env} {s : State} {m : MethodId} {below : List Frame} {meth : Method} {c : Code} {dC : Nat → ClassId} {dI : Nat → Nat → Nat} {q : Nat → Nat} {cI cJ cZ : ClassId} {A : Nat → Prop} {args : Array Value} {Post : Int32 → MS → Prop} {K : Hd_clause → MS → Prop} (X : XM p s m args c cX12_clause 6 ww_clause dC dI cI cJ cZ A) (hr : meth.sig.returnType = (some .int)) (hlocks : meth.locks = false) (hK0 : ∀ (x1 : Int32) (S : MS), K (.inl x1) S → ∀ (H : Heap) (locs : List Loc), va_P (dC, dI) vwCl (wM q cI cJ cZ S) H → va_D A (wM q cI cJ cZ S) → va_S A s.heap H locs → ∀ ls : Array Slot, lv_has ls 6 [(0, .ref (q 0)), (1, .int x1)] → W p l e (headSpec ww_clause ({ frames := 6, cells := 0, slots := 0, locals := 136 } : Room)).room s m args below meth c H locs 0 0 (MQ below (va_Qi Post (atM dC dI q cI cJ cZ A) A) args s 0 0 A) (F0 m 30 ls [])) (hK1 : ∀ (x1 : Int32) (x2 : Int32) (S : MS), K (.inr (.inl (x1, x2))) S → ∀ (H : Heap) (locs : List Loc), va_P (dC, dI) vwCl (wM q cI cJ cZ S) H → va_D A (wM q cI cJ cZ S) → va_S A s.heap H locs → ∀ ls : Array Slot, lv_has ls 6 [(0, .ref (q 0)), (1, .int x1), (2, .int x2)] → W p l e (headSpec ww_clause ({ frames := 6, cells := 0, slots := 0, locals := 136 } : Room)).room s m args below meth c H locs 0 0 (MQ below (va_Qi Post (atM dC dI q cI cJ cZ A) A) args s 0 0 A) (F0 m 66 ls [])) (hK2 : ∀ (x1 : Int32) (x2 : Int32) (x3 : Int32) (x4 : Int32) (t0 : Int32) (S : MS), K (.inr (.inr (.inl (x1, x2, x3, x4, t0)))) S → ∀ (H : Heap) (locs : List Loc), va_P (dC, dI) vwCl (wM q cI cJ cZ S) H → va_D A (wM q cI cJ cZ S) → va_S A s.heap H locs → ∀ ls : Array Slot, lv_has ls 6 [(0, .ref (q 0)), (1, .int x1), (2, .int x2), (3, .int x3), (4, .int x4)] → W p l e (headSpec ww_clause ({ frames := 6, cells := 0, slots := 0, locals := 136 } : Room)).room s m args below meth c H locs 0 0 (MQ below (va_Qi Post (atM dC dI q cI cJ cZ A) A) args s 0 0 A) (F0 m 118 ls [.int t0])) (hK3 : ∀ (x1 : Int32) (x2 : Int32) (x3 : Int32) (x4 : Int32) (x5 : Int32) (S : MS), K (.inr (.inr (.inr (x1, x2, x3, x4, x5)))) S → ∀ (H : Heap) (locs : List Loc), va_P (dC, dI) vwCl (wM q cI cJ cZ S) H → va_D A (wM q cI cJ cZ S) → va_S A s.heap H locs → ∀ ls : Array Slot, lv_has ls 6 [(0, .ref (q 0)), (1, .int x1), (2, .int x2), (3, .int x3), (4, .int x4), (5, .int x5)] → W p l e (headSpec ww_clause ({ frames := 6, cells := 0, slots := 0, locals := 136 } : Room)).room s m args below meth c H locs 0 0 (MQ below (va_Qi Post (atM dC dI q cI cJ cZ A) A) args s 0 0 A) (F0 m 155 ls [])) (x1 : Int32) (x2 : Int32) (x3 : Int32) (x4 : Int32) (t0 : Int32) (S : MS) (h : B_clause Post K (.inr (.inr (.inl (x1, x2, x3, x4, t0)))) S) : ∀ (H : Heap) (locs : List Loc), va_P (dC, dI) vwCl (wM q cI cJ cZ S) H → va_D A (wM q cI cJ cZ S) → va_S A s.heap H locs → ∀ ls : Array Slot, lv_has ls 6 [(0, .ref (q 0)), (1, .int x1), (2, .int x2), (3, .int x3), (4, .int x4)] → W p l e (headSpec ww_clause ({ frames := 6, cells := 0, slots := 0, locals := 136 } : Room)).room s m args below meth c H locs 0 0 (MQ below (va_Qi Post (atM dC dI q cI cJ cZ A) A) args s 0 0 A) (F0 m 118 ls [.int t0]) := by
  have hx := X.1
  have hb := X.2.1
  intro H locs hP hD hS ls hl
  have lk233 := X.2.2.2.2.1 (.fieldLink RX12 233 "BreathOnLoanModel" "once" "I") (inW 188 rfl)
  have lk16 := X.2.2.2.2.1 (.fieldLink RX12 16 "BreathOnLoanModel" "texts" "[I") (inW 7 rfl)
  have lk127 := X.2.2.2.2.1 (.fieldLink RX12 127 "BreathOnLoanModel" "text0" "I") (inW 92 rfl)
  have lk218 := X.2.2.2.2.1 (.fieldLink RX12 218 "BreathOnLoanModel" "sort0" "I") (inW 136 rfl)
  have lk130 := X.2.2.2.2.1 (.fieldLink RX12 130 "BreathOnLoanModel" "written" "I") (inW 93 rfl)
  have lk102 := X.2.2.2.2.1 (.fieldLink RX12 102 "BreathOnLoanModel" "token" "I") (inW 71 rfl)
  dsimp only [B_clause] at h
  refine lv_istore (lv' := [(5, .int t0), (0, .ref (q 0)), (1, .int x1), (2, .int x2), (3, .int x3), (4, .int x4)]) hx hb (dk DX12_clause 75 rfl) hl (by decide) rfl (fun ls hl => ?_)
  refine lv_iload hx hb (dk DX12_clause 76 rfl) (lv_at hl 0 rfl) ?_
  refine lv_if_eq (tgt := 128) hx hb (dk DX12_clause 77 rfl) (by decide) (fun hc => ?_) (fun hc => ?_)
  · have h := h.1 hc
    refine lv_iload_n hx hb (dk DX12_clause 80 rfl) rfl (lv_at hl 2 rfl) ?_
    refine lv_iconst (v := 4) hx hb (dk DX12_clause 81 rfl) (by decide) ?_
    refine lv_icmp_ge (tgt := 155) hx hb (dk DX12_clause 82 rfl) (by decide) (fun hc => ?_) (fun hc => ?_)
    · have h := h.1 hc
      exact hK3 x1 x2 x3 x4 t0 S h _ _ hP hD hS ls (lv_sub hl [1, 2, 3, 4, 5, 0] rfl)
    · have h := h.2 hc
      refine lv_aload_n hx hb (dk DX12_clause 83 rfl) rfl (lv_at hl 1 rfl) ?_
      refine gM X hP 2 (by decide) rfl lk16 (dk DX12_clause 84 rfl) ?_
      refine lv_iload_n hx hb (dk DX12_clause 85 rfl) rfl (lv_at hl 4 rfl) ?_
      refine lv_iconst (v := 1) hx hb (dk DX12_clause 86 rfl) (by decide) ?_
      refine lv_iadd hx hb (dk DX12_clause 87 rfl) ?_
      refine lv_iload hx hb (dk DX12_clause 88 rfl) (lv_at hl 5 rfl) ?_
      obtain ⟨hin, h⟩ := h
      refine stM_2 X hP hD hS hin (dk DX12_clause 89 rfl) (fun S15 eS15 H locs hP hD hS => ?_)
      have h := h S15 eS15
      refine lv_aload_n hx hb (dk DX12_clause 90 rfl) rfl (lv_at hl 1 rfl) ?_
      refine gM X hP 2 (by decide) rfl lk16 (dk DX12_clause 91 rfl) ?_
      refine lv_iload_n hx hb (dk DX12_clause 92 rfl) rfl (lv_at hl 4 rfl) ?_
      refine lv_iconst (v := 2) hx hb (dk DX12_clause 93 rfl) (by decide) ?_
      refine lv_iadd hx hb (dk DX12_clause 94 rfl) ?_
      refine lv_aload_n hx hb (dk DX12_clause 95 rfl) rfl (lv_at hl 1 rfl) ?_
      refine gM X hP 14 (by decide) rfl lk130 (dk DX12_clause 96 rfl) ?_
      refine lv_topi (fun v16 ev16 => ?_)
      have h := h v16 ev16
      obtain ⟨hin, h⟩ := h
      refine stM_2 X hP hD hS hin (dk DX12_clause 97 rfl) (fun S17 eS17 H locs hP hD hS => ?_)
      have h := h S17 eS17
      exact hK3 x1 x2 x3 x4 t0 S17 h _ _ hP hD hS ls (lv_sub hl [1, 2, 3, 4, 5, 0] rfl)
  · have h := h.2 hc
    refine lv_iload hx hb (dk DX12_clause 78 rfl) (lv_at hl 0 rfl) ?_
    exact W.iret (v := t0) hx hb hr (fun t ht hW => ⟨⟨_, _, rfl, h, by rw [ht]; exact hP, va_K.moved hW.alike X.2.2.2.2.2.2.1, hD⟩, hS.F ht⟩) hS.2.2 (dk DX12_clause 79 rfl)
set_option maxHeartbeats 4000000 in
set_option maxRecDepth 100000 in
theorem h_clause_3 {p : Program} {l : Launch} {e : Env} {s : State} {m : MethodId} {below : List Frame} {meth : Method} {c : Code} {dC : Nat → ClassId} {dI : Nat → Nat → Nat} {q : Nat → Nat} {cI cJ cZ : ClassId} {A : Nat → Prop} {args : Array Value} {Post : Int32 → MS → Prop} {K : Hd_clause → MS → Prop} (X : XM p s m args c cX12_clause 6 ww_clause dC dI cI cJ cZ A) (hr : meth.sig.returnType = (some .int)) (hlocks : meth.locks = false) (hK0 : ∀ (x1 : Int32) (S : MS), K (.inl x1) S → ∀ (H : Heap) (locs : List Loc), va_P (dC, dI) vwCl (wM q cI cJ cZ S) H → va_D A (wM q cI cJ cZ S) → va_S A s.heap H locs → ∀ ls : Array Slot, lv_has ls 6 [(0, .ref (q 0)), (1, .int x1)] → W p l e (headSpec ww_clause ({ frames := 6, cells := 0, slots := 0, locals := 136 } : Room)).room s m args below meth c H locs 0 0 (MQ below (va_Qi Post (atM dC dI q cI cJ cZ A) A) args s 0 0 A) (F0 m 30 ls [])) (hK1 : ∀ (x1 : Int32) (x2 : Int32) (S : MS), K (.inr (.inl (x1, x2))) S → ∀ (H : Heap) (locs : List Loc), va_P (dC, dI) vwCl (wM q cI cJ cZ S) H → va_D A (wM q cI cJ cZ S) → va_S A s.heap H locs → ∀ ls : Array Slot, lv_has ls 6 [(0, .ref (q 0)), (1, .int x1), (2, .int x2)] → W p l e (headSpec ww_clause ({ frames := 6, cells := 0, slots := 0, locals := 136 } : Room)).room s m args below meth c H locs 0 0 (MQ below (va_Qi Post (atM dC dI q cI cJ cZ A) A) args s 0 0 A) (F0 m 66 ls [])) (hK2 : ∀ (x1 : Int32) (x2 : Int32) (x3 : Int32) (x4 : Int32) (t0 : Int32) (S : MS), K (.inr (.inr (.inl (x1, x2, x3, x4, t0)))) S → ∀ (H : Heap) (locs : List Loc), va_P (dC, dI) vwCl (wM q cI cJ cZ S) H → va_D A (wM q cI cJ cZ S) → va_S A s.heap H locs → ∀ ls : Array Slot, lv_has ls 6 [(0, .ref (q 0)), (1, .int x1), (2, .int x2), (3, .int x3), (4, .int x4)] → W p l e (headSpec ww_clause ({ frames := 6, cells := 0, slots := 0, locals := 136 } : Room)).room s m args below meth c H locs 0 0 (MQ below (va_Qi Post (atM dC dI q cI cJ cZ A) A) args s 0 0 A) (F0 m 118 ls [.int t0])) (hK3 : ∀ (x1 : Int32) (x2 : Int32) (x3 : Int32) (x4 : Int32) (x5 : Int32) (S : MS), K (.inr (.inr (.inr (x1, x2, x3, x4, x5)))) S → ∀ (H : Heap) (locs : List Loc), va_P (dC, dI) vwCl (wM q cI cJ cZ S) H → va_D A (wM q cI cJ cZ S) → va_S A s.heap H locs → ∀ ls : Array Slot, lv_has ls 6 [(0, .ref (q 0)), (1, .int x1), (2, .int x2), (3, .int x3), (4, .int x4), (5, .int x5)] → W p l e (headSpec ww_clause ({ frames := 6, cells := 0, slots := 0, locals := 136 } : Room)).room s m args below meth c H locs 0 0 (MQ below (va_Qi Post (atM dC dI q cI cJ cZ A) A) args s 0 0 A) (F0 m 155 ls [])) (x1 : Int32) (x2 : Int32) (x3 : Int32) (x4 : Int32) (x5 : Int32) (S : MS) (h : B_clause Post K (.inr (.inr (.inr (x1, x2, x3, x4, x5)))) S) : ∀ (H : Heap) (locs : List Loc), va_P (dC, dI) vwCl (wM q cI cJ cZ S) H → va_D A (wM q cI cJ cZ S) → va_S A s.heap H locs → ∀ ls : Array Slot, lv_has ls 6 [(0, .ref (q 0)), (1, .int x1), (2, .int x2), (3, .int x3), (4, .int x4), (5, .int x5)] → W p l e (headSpec ww_clause ({ frames := 6, cells := 0, slots := 0, locals := 136 } : Room)).room s m args below meth c H locs 0 0 (MQ below (va_Qi Post (atM dC dI q cI cJ cZ A) A) args s 0 0 A) (F0 m 155 ls []) := by
  have hx := X.1
  have hb := X.2.1
  intro H locs hP hD hS ls hl
  have lk233 := X.2.2.2.2.1 (.fieldLink RX12 233 "BreathOnLoanModel" "once" "I") (inW 188 rfl)
  have lk16 := X.2.2.2.2.1 (.fieldLink RX12 16 "BreathOnLoanModel" "texts" "[I") (inW 7 rfl)
  have lk127 := X.2.2.2.2.1 (.fieldLink RX12 127 "BreathOnLoanModel" "text0" "I") (inW 92 rfl)
  have lk218 := X.2.2.2.2.1 (.fieldLink RX12 218 "BreathOnLoanModel" "sort0" "I") (inW 136 rfl)
  have lk130 := X.2.2.2.2.1 (.fieldLink RX12 130 "BreathOnLoanModel" "written" "I") (inW 93 rfl)
  have lk102 := X.2.2.2.2.1 (.fieldLink RX12 102 "BreathOnLoanModel" "token" "I") (inW 71 rfl)
  dsimp only [B_clause] at h
  refine lv_aload_n hx hb (dk DX12_clause 98 rfl) rfl (lv_at hl 0 rfl) ?_
  refine gM X hP 2 (by decide) rfl lk16 (dk DX12_clause 99 rfl) ?_
  refine lv_aload_n hx hb (dk DX12_clause 100 rfl) rfl (lv_at hl 0 rfl) ?_
  refine gM X hP 12 (by decide) rfl lk127 (dk DX12_clause 101 rfl) ?_
  refine lv_dup2_11 hx hb (dk DX12_clause 102 rfl) rfl rfl ?_
  obtain ⟨hin, h⟩ := h
  refine ldM X hP 3 rfl hin (dk DX12_clause 103 rfl) ?_
  refine lv_iconst (v := 1) hx hb (dk DX12_clause 104 rfl) (by decide) ?_
  refine lv_iadd hx hb (dk DX12_clause 105 rfl) ?_
  refine lv_topi (fun v18 ev18 => ?_)
  have h := h v18 ev18
  obtain ⟨hin, h⟩ := h
  refine stM_2 X hP hD hS hin (dk DX12_clause 106 rfl) (fun S19 eS19 H locs hP hD hS => ?_)
  have h := h S19 eS19
  refine lv_aload_n hx hb (dk DX12_clause 107 rfl) rfl (lv_at hl 0 rfl) ?_
  refine gM X hP 9 (by decide) rfl lk102 (dk DX12_clause 108 rfl) ?_
  refine lv_bipush (v := 59) hx hb (dk DX12_clause 109 rfl) (by decide) ?_
  refine lv_icmp_eq (tgt := 179) hx hb (dk DX12_clause 110 rfl) (by decide) (fun hc => ?_) (fun hc => ?_)
  · have h := h.1 hc
    refine lv_aload_n hx hb (dk DX12_clause 113 rfl) rfl (lv_at hl 0 rfl) ?_
    refine cMv (As := []) (rest := []) X (m_nextToken (l := l) (dC := dC) (dI := dI) (q := q) (cI := cI) (cJ := cJ) (cZ := cZ) (sz := _) S19 h) (cwV 0 X.2.2.2.2.1 (gwV 122 123 124 24 68 rfl rfl rfl rfl rfl) rfl rfl rfl q_nextToken ⟨Nat.le_of_ble_eq_true rfl, Nat.le_of_ble_eq_true rfl⟩) hP hD hS rfl hl.1 rfl (Nat.le_of_ble_eq_true rfl) (dk DX12_clause 114 rfl) (fun S20 H locs h hP hD hS => ?_)
    refine lv_iconst (v := 0) hx hb (dk DX12_clause 115 rfl) (by decide) ?_
    exact W.iret (v := 0) hx hb hr (fun t ht hW => ⟨⟨_, _, rfl, h, by rw [ht]; exact hP, va_K.moved hW.alike X.2.2.2.2.2.2.1, hD⟩, hS.F ht⟩) hS.2.2 (dk DX12_clause 116 rfl)
  · have h := h.2 hc
    refine lv_iconst (v := 1) hx hb (dk DX12_clause 111 rfl) (by decide) ?_
    exact W.iret (v := 1) hx hb hr (fun t ht hW => ⟨⟨_, _, rfl, h, by rw [ht]; exact hP, va_K.moved hW.alike X.2.2.2.2.2.2.1, hD⟩, hS.F ht⟩) hS.2.2 (dk DX12_clause 112 rfl)
set_option maxHeartbeats 4000000 in
set_option maxRecDepth 100000 in
theorem m_clause {l : Launch} {dC : Nat → ClassId} {dI : Nat → Nat → Nat} {q : Nat → Nat} {cI cJ cZ : ClassId} {sz : Nat} {Post : Int32 → MS → Prop} (S : MS) (h : VC_clause Post S) : Met l yX12_clause ww_clause ({ frames := 6, cells := 0, slots := 0, locals := 136 } : Room) (va_Pc [.ref (q 0)] (preM dC dI q cI cJ cZ S sz)) (va_Qi Post (atM dC dI q cI cJ cZ (va_A (wM q cI cJ cZ S) sz)) (va_A (wM q cI cJ cZ S) sz)) 0 0 (va_A (wM q cI cJ cZ S) sz) := by
  refine oM (cc := cX12_clause) (maxL := 6) (ret := (some .int)) (Qc := fun A => va_Qi Post (atM dC dI q cI cJ cZ A) A) (by decide) rfl (fun w h => List.mem_cons_of_mem _ (List.mem_append_right _ h)) rfl (Nat.le_of_ble_eq_true rfl) (fun p e s m below meth c A ls X hr hlocks hP hD hS hl => ?_)
  have hx := X.1
  have hb := X.2.1
  have hl : lv_has ls 6 [(0, .ref (q 0))] := hl
  have lk233 := X.2.2.2.2.1 (.fieldLink RX12 233 "BreathOnLoanModel" "once" "I") (inW 188 rfl)
  have lk16 := X.2.2.2.2.1 (.fieldLink RX12 16 "BreathOnLoanModel" "texts" "[I") (inW 7 rfl)
  have lk127 := X.2.2.2.2.1 (.fieldLink RX12 127 "BreathOnLoanModel" "text0" "I") (inW 92 rfl)
  have lk218 := X.2.2.2.2.1 (.fieldLink RX12 218 "BreathOnLoanModel" "sort0" "I") (inW 136 rfl)
  have lk130 := X.2.2.2.2.1 (.fieldLink RX12 130 "BreathOnLoanModel" "written" "I") (inW 93 rfl)
  have lk102 := X.2.2.2.2.1 (.fieldLink RX12 102 "BreathOnLoanModel" "token" "I") (inW 71 rfl)
  generalize hargs : ([.ref (q 0)] : List Value).toArray = args at X ⊢
  have h := h (fun hd S => match hd with | (.inl x1) => ∀ (H : Heap) (locs : List Loc), va_P (dC, dI) vwCl (wM q cI cJ cZ S) H → va_D A (wM q cI cJ cZ S) → va_S A s.heap H locs → ∀ ls : Array Slot, lv_has ls 6 [(0, .ref (q 0)), (1, .int x1)] → W p l e (headSpec ww_clause ({ frames := 6, cells := 0, slots := 0, locals := 136 } : Room)).room s m args below meth c H locs 0 0 (MQ below (va_Qi Post (atM dC dI q cI cJ cZ A) A) args s 0 0 A) (F0 m 30 ls []) | (.inr (.inl (x1, x2))) => ∀ (H : Heap) (locs : List Loc), va_P (dC, dI) vwCl (wM q cI cJ cZ S) H → va_D A (wM q cI cJ cZ S) → va_S A s.heap H locs → ∀ ls : Array Slot, lv_has ls 6 [(0, .ref (q 0)), (1, .int x1), (2, .int x2)] → W p l e (headSpec ww_clause ({ frames := 6, cells := 0, slots := 0, locals := 136 } : Room)).room s m args below meth c H locs 0 0 (MQ below (va_Qi Post (atM dC dI q cI cJ cZ A) A) args s 0 0 A) (F0 m 66 ls []) | (.inr (.inr (.inl (x1, x2, x3, x4, t0)))) => ∀ (H : Heap) (locs : List Loc), va_P (dC, dI) vwCl (wM q cI cJ cZ S) H → va_D A (wM q cI cJ cZ S) → va_S A s.heap H locs → ∀ ls : Array Slot, lv_has ls 6 [(0, .ref (q 0)), (1, .int x1), (2, .int x2), (3, .int x3), (4, .int x4)] → W p l e (headSpec ww_clause ({ frames := 6, cells := 0, slots := 0, locals := 136 } : Room)).room s m args below meth c H locs 0 0 (MQ below (va_Qi Post (atM dC dI q cI cJ cZ A) A) args s 0 0 A) (F0 m 118 ls [.int t0]) | (.inr (.inr (.inr (x1, x2, x3, x4, x5)))) => ∀ (H : Heap) (locs : List Loc), va_P (dC, dI) vwCl (wM q cI cJ cZ S) H → va_D A (wM q cI cJ cZ S) → va_S A s.heap H locs → ∀ ls : Array Slot, lv_has ls 6 [(0, .ref (q 0)), (1, .int x1), (2, .int x2), (3, .int x3), (4, .int x4), (5, .int x5)] → W p l e (headSpec ww_clause ({ frames := 6, cells := 0, slots := 0, locals := 136 } : Room)).room s m args below meth c H locs 0 0 (MQ below (va_Qi Post (atM dC dI q cI cJ cZ A) A) args s 0 0 A) (F0 m 155 ls [])) ?_
  · skip
    refine lv_aload_n hx hb (dk DX12_clause 0 rfl) rfl (lv_at hl 0 rfl) ?_
    refine cMi (As := []) (rest := []) X (m_sortOf (l := l) (dC := dC) (dI := dI) (q := q) (cI := cI) (cJ := cJ) (cZ := cZ) (sz := _) S h) (cwV 0 X.2.2.2.2.1 (gwV 189 190 191 24 177 rfl rfl rfl rfl rfl) rfl rfl rfl q_sortOf ⟨Nat.le_of_ble_eq_true rfl, Nat.le_of_ble_eq_true rfl⟩) hP hD hS rfl hl.1 rfl (Nat.le_of_ble_eq_true rfl) (dk DX12_clause 1 rfl) (fun r2 S1 H locs h hP hD hS => ?_)
    refine lv_istore_n (lv' := [(1, .int r2), (0, .ref (q 0))]) hx hb (dk DX12_clause 2 rfl) rfl hl (by decide) rfl (fun ls hl => ?_)
    refine lv_iload_n hx hb (dk DX12_clause 3 rfl) rfl (lv_at hl 0 rfl) ?_
    refine lv_if_ge (tgt := 11) hx hb (dk DX12_clause 4 rfl) (by decide) (fun hc => ?_) (fun hc => ?_)
    · have h := h.1 hc
      refine lv_iload_n hx hb (dk DX12_clause 7 rfl) rfl (lv_at hl 0 rfl) ?_
      refine lv_iconst (v := 4) hx hb (dk DX12_clause 8 rfl) (by decide) ?_
      refine lv_icmp_ge (tgt := 30) hx hb (dk DX12_clause 9 rfl) (by decide) (fun hc => ?_) (fun hc => ?_)
      · have h := h.1 hc
        exact h _ _ hP hD hS ls (lv_sub hl [1, 0] rfl)
      · have h := h.2 hc
        refine lv_aload_n hx hb (dk DX12_clause 10 rfl) rfl (lv_at hl 1 rfl) ?_
        refine gM X hP 21 (by decide) rfl lk233 (dk DX12_clause 11 rfl) ?_
        refine lv_iload_n hx hb (dk DX12_clause 12 rfl) rfl (lv_at hl 0 rfl) ?_
        refine lv_ishr hx hb (dk DX12_clause 13 rfl) ?_
        refine lv_iconst (v := 1) hx hb (dk DX12_clause 14 rfl) (by decide) ?_
        refine lv_iand hx hb (dk DX12_clause 15 rfl) ?_
        refine lv_iconst (v := 1) hx hb (dk DX12_clause 16 rfl) (by decide) ?_
        refine lv_icmp_ne (tgt := 30) hx hb (dk DX12_clause 17 rfl) (by decide) (fun hc => ?_) (fun hc => ?_)
        · have h := h.1 hc
          exact h _ _ hP hD hS ls (lv_sub hl [1, 0] rfl)
        · have h := h.2 hc
          refine lv_iconst (v := 4) hx hb (dk DX12_clause 18 rfl) (by decide) ?_
          exact W.iret (v := 4) hx hb hr (fun t ht hW => ⟨⟨_, _, rfl, h, by rw [ht]; exact hP, va_K.moved hW.alike X.2.2.2.2.2.2.1, hD⟩, hS.F ht⟩) hS.2.2 (dk DX12_clause 19 rfl)
    · have h := h.2 hc
      refine lv_iconst (v := 1) hx hb (dk DX12_clause 5 rfl) (by decide) ?_
      exact W.iret (v := 1) hx hb hr (fun t ht hW => ⟨⟨_, _, rfl, h, by rw [ht]; exact hP, va_K.moved hW.alike X.2.2.2.2.2.2.1, hD⟩, hS.F ht⟩) hS.2.2 (dk DX12_clause 6 rfl)
  · rintro (x1 | ⟨x1, x2⟩ | ⟨x1, x2, x3, x4, t0⟩ | ⟨x1, x2, x3, x4, x5⟩) S hB
    · exact h_clause_0 X hr hlocks (hK0 := fun _ _ h => h) (hK1 := fun _ _ _ h => h) (hK2 := fun _ _ _ _ _ _ h => h) (hK3 := fun _ _ _ _ _ _ h => h) x1 S hB
    · exact h_clause_1 X hr hlocks (hK0 := fun _ _ h => h) (hK1 := fun _ _ _ h => h) (hK2 := fun _ _ _ _ _ _ h => h) (hK3 := fun _ _ _ _ _ _ h => h) x1 x2 S hB
    · exact h_clause_2 X hr hlocks (hK0 := fun _ _ h => h) (hK1 := fun _ _ _ h => h) (hK2 := fun _ _ _ _ _ _ h => h) (hK3 := fun _ _ _ _ _ _ h => h) x1 x2 x3 x4 t0 S hB
    · exact h_clause_3 X hr hlocks (hK0 := fun _ _ h => h) (hK1 := fun _ _ _ h => h) (hK2 := fun _ _ _ _ _ _ h => h) (hK3 := fun _ _ _ _ _ _ h => h) x1 x2 x3 x4 x5 S hB

def ww_readText : List Cond := .code yX12_readText cX12_readText 2 (some .int) :: (WdM ++ wsX120)
theorem q_readText : yX12_readText.cls = RX12 ∧ yX12_readText.cls ≠ "java/lang/invoke/MethodHandle" ∧ yX12_readText.cls ≠ "java/lang/invoke/VarHandle" ∧ (parseMethodDescriptor yX12_readText.desc).map (fun d => d.parameters.length) = some 0 := by decide +kernel
abbrev Hd_readText : Type := Unit
def B_readText (Post : Int32 → MS → Prop) (K : Hd_readText → MS → Prop) : Hd_readText → MS → Prop
  | (), S => (((S.1 9) = 0 → Post 0 S) ∧ (¬ (S.1 9) = 0 → VC_clause (fun r10 S9 => ((r10 = 0 → K () S9) ∧ (¬ r10 = 0 → Post r10 S9))) S))
def VC_readText (Post : Int32 → MS → Prop) (S : MS) : Prop := ∀ K : Hd_readText → MS → Prop, (∀ h S, B_readText Post K h S → K h S) → vp_in (4 : Int32) 3890 ∧ ∀ v1 : Int32, v1 = 680 * ((S.2.2.1 0) (4 : Int32).toNatClampNeg) → ∀ S2 : MS, S2 = sI S 12 v1 → vp_in (S2.1 12) 2720 ∧ ∀ S3 : MS, S3 = sF S2 2 (upd (S2.2.2.1 2) (S2.1 12).toNatClampNeg 0) → ∀ S4 : MS, S4 = sI S3 14 0 → ∀ S5 : MS, S5 = sI S4 18 0 → ∀ S6 : MS, S6 = sI S5 21 0 → ∀ S7 : MS, S7 = sI S6 7 0 → VC_nextToken (fun S8 => K () S8) S7
set_option maxHeartbeats 4000000 in
set_option maxRecDepth 100000 in
theorem h_readText_0 {p : Program} {l : Launch} {e : Env} {s : State} {m : MethodId} {below : List Frame} {meth : Method} {c : Code} {dC : Nat → ClassId} {dI : Nat → Nat → Nat} {q : Nat → Nat} {cI cJ cZ : ClassId} {A : Nat → Prop} {args : Array Value} {Post : Int32 → MS → Prop} {K : Hd_readText → MS → Prop} (X : XM p s m args c cX12_readText 2 ww_readText dC dI cI cJ cZ A) (hr : meth.sig.returnType = (some .int)) (hlocks : meth.locks = false) (hK0 : ∀ (S : MS), K () S → ∀ (H : Heap) (locs : List Loc), va_P (dC, dI) vwCl (wM q cI cJ cZ S) H → va_D A (wM q cI cJ cZ S) → va_S A s.heap H locs → ∀ ls : Array Slot, lv_has ls 2 [(0, .ref (q 0))] → W p l e (headSpec ww_readText ({ frames := 7, cells := 0, slots := 0, locals := 161 } : Room)).room s m args below meth c H locs 0 0 (MQ below (va_Qi Post (atM dC dI q cI cJ cZ A) A) args s 0 0 A) (F0 m 48 ls [])) (S : MS) (h : B_readText Post K () S) : ∀ (H : Heap) (locs : List Loc), va_P (dC, dI) vwCl (wM q cI cJ cZ S) H → va_D A (wM q cI cJ cZ S) → va_S A s.heap H locs → ∀ ls : Array Slot, lv_has ls 2 [(0, .ref (q 0))] → W p l e (headSpec ww_readText ({ frames := 7, cells := 0, slots := 0, locals := 161 } : Room)).room s m args below meth c H locs 0 0 (MQ below (va_Qi Post (atM dC dI q cI cJ cZ A) A) args s 0 0 A) (F0 m 48 ls []) := by
  have hx := X.1
  have hb := X.2.1
  intro H locs hP hD hS ls hl
  have lk7 := X.2.2.2.2.1 (.fieldLink RX12 7 "BreathOnLoanModel" "a" "[I") (inW 5 rfl)
  have lk127 := X.2.2.2.2.1 (.fieldLink RX12 127 "BreathOnLoanModel" "text0" "I") (inW 92 rfl)
  have lk16 := X.2.2.2.2.1 (.fieldLink RX12 16 "BreathOnLoanModel" "texts" "[I") (inW 7 rfl)
  have lk130 := X.2.2.2.2.1 (.fieldLink RX12 130 "BreathOnLoanModel" "written" "I") (inW 93 rfl)
  have lk143 := X.2.2.2.2.1 (.fieldLink RX12 143 "BreathOnLoanModel" "opens" "I") (inW 98 rfl)
  have lk233 := X.2.2.2.2.1 (.fieldLink RX12 233 "BreathOnLoanModel" "once" "I") (inW 188 rfl)
  have lk93 := X.2.2.2.2.1 (.fieldLink RX12 93 "BreathOnLoanModel" "at" "I") (inW 69 rfl)
  have lk102 := X.2.2.2.2.1 (.fieldLink RX12 102 "BreathOnLoanModel" "token" "I") (inW 71 rfl)
  dsimp only [B_readText] at h
  refine lv_aload_n hx hb (dk DX12_readText 28 rfl) rfl (lv_at hl 0 rfl) ?_
  refine gM X hP 9 (by decide) rfl lk102 (dk DX12_readText 29 rfl) ?_
  refine lv_if_eq (tgt := 69) hx hb (dk DX12_readText 30 rfl) (by decide) (fun hc => ?_) (fun hc => ?_)
  · have h := h.1 hc
    refine lv_iconst (v := 0) hx hb (dk DX12_readText 39 rfl) (by decide) ?_
    exact W.iret (v := 0) hx hb hr (fun t ht hW => ⟨⟨_, _, rfl, h, by rw [ht]; exact hP, va_K.moved hW.alike X.2.2.2.2.2.2.1, hD⟩, hS.F ht⟩) hS.2.2 (dk DX12_readText 40 rfl)
  · have h := h.2 hc
    refine lv_aload_n hx hb (dk DX12_readText 31 rfl) rfl (lv_at hl 0 rfl) ?_
    refine cMi (As := []) (rest := []) X (m_clause (l := l) (dC := dC) (dI := dI) (q := q) (cI := cI) (cJ := cJ) (cZ := cZ) (sz := _) S h) (cwV 0 X.2.2.2.2.1 (gwV 199 200 201 24 198 rfl rfl rfl rfl rfl) rfl rfl rfl q_clause ⟨Nat.le_of_ble_eq_true rfl, Nat.le_of_ble_eq_true rfl⟩) hP hD hS rfl hl.1 rfl (Nat.le_of_ble_eq_true rfl) (dk DX12_readText 32 rfl) (fun r10 S9 H locs h hP hD hS => ?_)
    refine lv_istore_n (lv' := [(1, .int r10), (0, .ref (q 0))]) hx hb (dk DX12_readText 33 rfl) rfl hl (by decide) rfl (fun ls hl => ?_)
    refine lv_iload_n hx hb (dk DX12_readText 34 rfl) rfl (lv_at hl 0 rfl) ?_
    refine lv_if_eq (tgt := 66) hx hb (dk DX12_readText 35 rfl) (by decide) (fun hc => ?_) (fun hc => ?_)
    · have h := h.1 hc
      refine lv_goto (tgt := 48) hx hb (dk DX12_readText 38 rfl) (by decide) ?_
      exact hK0 S9 h _ _ hP hD hS ls (lv_sub hl [1] rfl)
    · have h := h.2 hc
      refine lv_iload_n hx hb (dk DX12_readText 36 rfl) rfl (lv_at hl 0 rfl) ?_
      exact W.iret (v := r10) hx hb hr (fun t ht hW => ⟨⟨_, _, rfl, h, by rw [ht]; exact hP, va_K.moved hW.alike X.2.2.2.2.2.2.1, hD⟩, hS.F ht⟩) hS.2.2 (dk DX12_readText 37 rfl)
set_option maxHeartbeats 4000000 in
set_option maxRecDepth 100000 in
theorem m_readText {l : Launch} {dC : Nat → ClassId} {dI : Nat → Nat → Nat} {q : Nat → Nat} {cI cJ cZ : ClassId} {sz : Nat} {Post : Int32 → MS → Prop} (S : MS) (h : VC_readText Post S) : Met l yX12_readText ww_readText ({ frames := 7, cells := 0, slots := 0, locals := 161 } : Room) (va_Pc [.ref (q 0)] (preM dC dI q cI cJ cZ S sz)) (va_Qi Post (atM dC dI q cI cJ cZ (va_A (wM q cI cJ cZ S) sz)) (va_A (wM q cI cJ cZ S) sz)) 0 0 (va_A (wM q cI cJ cZ S) sz) := by
  refine oM (cc := cX12_readText) (maxL := 2) (ret := (some .int)) (Qc := fun A => va_Qi Post (atM dC dI q cI cJ cZ A) A) (by decide) rfl (fun w h => List.mem_cons_of_mem _ (List.mem_append_right _ h)) rfl (Nat.le_of_ble_eq_true rfl) (fun p e s m below meth c A ls X hr hlocks hP hD hS hl => ?_)
  have hx := X.1
  have hb := X.2.1
  have hl : lv_has ls 2 [(0, .ref (q 0))] := hl
  have lk7 := X.2.2.2.2.1 (.fieldLink RX12 7 "BreathOnLoanModel" "a" "[I") (inW 5 rfl)
  have lk127 := X.2.2.2.2.1 (.fieldLink RX12 127 "BreathOnLoanModel" "text0" "I") (inW 92 rfl)
  have lk16 := X.2.2.2.2.1 (.fieldLink RX12 16 "BreathOnLoanModel" "texts" "[I") (inW 7 rfl)
  have lk130 := X.2.2.2.2.1 (.fieldLink RX12 130 "BreathOnLoanModel" "written" "I") (inW 93 rfl)
  have lk143 := X.2.2.2.2.1 (.fieldLink RX12 143 "BreathOnLoanModel" "opens" "I") (inW 98 rfl)
  have lk233 := X.2.2.2.2.1 (.fieldLink RX12 233 "BreathOnLoanModel" "once" "I") (inW 188 rfl)
  have lk93 := X.2.2.2.2.1 (.fieldLink RX12 93 "BreathOnLoanModel" "at" "I") (inW 69 rfl)
  have lk102 := X.2.2.2.2.1 (.fieldLink RX12 102 "BreathOnLoanModel" "token" "I") (inW 71 rfl)
  generalize hargs : ([.ref (q 0)] : List Value).toArray = args at X ⊢
  have h := h (fun hd S => match hd with | () => ∀ (H : Heap) (locs : List Loc), va_P (dC, dI) vwCl (wM q cI cJ cZ S) H → va_D A (wM q cI cJ cZ S) → va_S A s.heap H locs → ∀ ls : Array Slot, lv_has ls 2 [(0, .ref (q 0))] → W p l e (headSpec ww_readText ({ frames := 7, cells := 0, slots := 0, locals := 161 } : Room)).room s m args below meth c H locs 0 0 (MQ below (va_Qi Post (atM dC dI q cI cJ cZ A) A) args s 0 0 A) (F0 m 48 ls [])) ?_
  · skip
    refine lv_aload_n hx hb (dk DX12_readText 0 rfl) rfl (lv_at hl 0 rfl) ?_
    refine lv_sipush (v := 680) hx hb (dk DX12_readText 1 rfl) (by decide) ?_
    refine lv_aload_n hx hb (dk DX12_readText 2 rfl) rfl (lv_at hl 0 rfl) ?_
    refine gM X hP 0 (by decide) rfl lk7 (dk DX12_readText 3 rfl) ?_
    refine lv_iconst (v := 4) hx hb (dk DX12_readText 4 rfl) (by decide) ?_
    obtain ⟨hin, h⟩ := h
    refine ldM X hP 1 rfl hin (dk DX12_readText 5 rfl) ?_
    refine lv_imul hx hb (dk DX12_readText 6 rfl) ?_
    refine lv_topi (fun v1 ev1 => ?_)
    have h := h v1 ev1
    refine pM_12 X hP hD hS lk127 (dk DX12_readText 7 rfl) (fun S2 eS2 H locs hP hD hS => ?_)
    have h := h S2 eS2
    refine lv_aload_n hx hb (dk DX12_readText 8 rfl) rfl (lv_at hl 0 rfl) ?_
    refine gM X hP 2 (by decide) rfl lk16 (dk DX12_readText 9 rfl) ?_
    refine lv_aload_n hx hb (dk DX12_readText 10 rfl) rfl (lv_at hl 0 rfl) ?_
    refine gM X hP 12 (by decide) rfl lk127 (dk DX12_readText 11 rfl) ?_
    refine lv_iconst (v := 0) hx hb (dk DX12_readText 12 rfl) (by decide) ?_
    obtain ⟨hin, h⟩ := h
    refine stM_2 X hP hD hS hin (dk DX12_readText 13 rfl) (fun S3 eS3 H locs hP hD hS => ?_)
    have h := h S3 eS3
    refine lv_aload_n hx hb (dk DX12_readText 14 rfl) rfl (lv_at hl 0 rfl) ?_
    refine lv_iconst (v := 0) hx hb (dk DX12_readText 15 rfl) (by decide) ?_
    refine pM_14 X hP hD hS lk130 (dk DX12_readText 16 rfl) (fun S4 eS4 H locs hP hD hS => ?_)
    have h := h S4 eS4
    refine lv_aload_n hx hb (dk DX12_readText 17 rfl) rfl (lv_at hl 0 rfl) ?_
    refine lv_iconst (v := 0) hx hb (dk DX12_readText 18 rfl) (by decide) ?_
    refine pM_18 X hP hD hS lk143 (dk DX12_readText 19 rfl) (fun S5 eS5 H locs hP hD hS => ?_)
    have h := h S5 eS5
    refine lv_aload_n hx hb (dk DX12_readText 20 rfl) rfl (lv_at hl 0 rfl) ?_
    refine lv_iconst (v := 0) hx hb (dk DX12_readText 21 rfl) (by decide) ?_
    refine pM_21 X hP hD hS lk233 (dk DX12_readText 22 rfl) (fun S6 eS6 H locs hP hD hS => ?_)
    have h := h S6 eS6
    refine lv_aload_n hx hb (dk DX12_readText 23 rfl) rfl (lv_at hl 0 rfl) ?_
    refine lv_iconst (v := 0) hx hb (dk DX12_readText 24 rfl) (by decide) ?_
    refine pM_7 X hP hD hS lk93 (dk DX12_readText 25 rfl) (fun S7 eS7 H locs hP hD hS => ?_)
    have h := h S7 eS7
    refine lv_aload_n hx hb (dk DX12_readText 26 rfl) rfl (lv_at hl 0 rfl) ?_
    refine cMv (As := []) (rest := []) X (m_nextToken (l := l) (dC := dC) (dI := dI) (q := q) (cI := cI) (cJ := cJ) (cZ := cZ) (sz := _) S7 h) (cwV 0 X.2.2.2.2.1 (gwV 122 123 124 24 68 rfl rfl rfl rfl rfl) rfl rfl rfl q_nextToken ⟨Nat.le_of_ble_eq_true rfl, Nat.le_of_ble_eq_true rfl⟩) hP hD hS rfl hl.1 rfl (Nat.le_of_ble_eq_true rfl) (dk DX12_readText 27 rfl) (fun S8 H locs h hP hD hS => ?_)
    exact h _ _ hP hD hS ls (lv_sub hl [0] rfl)
  · rintro ⟨⟩ S hB
    exact h_readText_0 X hr hlocks (hK0 := fun _ h => h)  S hB

def ww_text : List Cond := .code yX12_text cX12_text 1 (some .int) :: (WdM ++ wsX120)
theorem q_text : yX12_text.cls = RX12 ∧ yX12_text.cls ≠ "java/lang/invoke/MethodHandle" ∧ yX12_text.cls ≠ "java/lang/invoke/VarHandle" ∧ (parseMethodDescriptor yX12_text.desc).map (fun d => d.parameters.length) = some 0 := by decide +kernel
abbrev Hd_text : Type := (Int32)
def B_text (Post : Int32 → MS → Prop) (K : Hd_text → MS → Prop) : Hd_text → MS → Prop
  | t1, S => ∀ S4 : MS, S4 = sI S 6 t1 → ∀ S5 : MS, S5 = sI S4 4 0 → (((S5.1 5) = 0 → vp_in (4 : Int32) 3890 ∧ ∀ v6 : Int32, v6 = ((S5.2.2.1 0) (4 : Int32).toNatClampNeg) + 1 → vp_in (4 : Int32) 3890 ∧ ∀ S7 : MS, S7 = sF S5 0 (upd (S5.2.2.1 0) (4 : Int32).toNatClampNeg v6) → vp_in (4 : Int32) 3890 ∧ Post (((S7.2.2.1 0) (4 : Int32).toNatClampNeg) - 1) S7) ∧ (¬ (S5.1 5) = 0 → Post (-1) S5))
def VC_text (Post : Int32 → MS → Prop) (S : MS) : Prop := ∀ K : Hd_text → MS → Prop, (∀ h S, B_text Post K h S → K h S) → vp_in (4 : Int32) 3890 ∧ ((¬ ((S.2.2.1 0) (4 : Int32).toNatClampNeg) = 4 → VC_readText (fun r2 S1 => ∀ S3 : MS, S3 = sI S1 5 r2 → ((¬ (S3.1 5) = 0 → K (S3.1 8) S3) ∧ ((S3.1 5) = 0 → K (-1) S3))) S) ∧ (((S.2.2.1 0) (4 : Int32).toNatClampNeg) = 4 → Post (-1) S))
set_option maxHeartbeats 4000000 in
set_option maxRecDepth 100000 in
theorem h_text_0 {p : Program} {l : Launch} {e : Env} {s : State} {m : MethodId} {below : List Frame} {meth : Method} {c : Code} {dC : Nat → ClassId} {dI : Nat → Nat → Nat} {q : Nat → Nat} {cI cJ cZ : ClassId} {A : Nat → Prop} {args : Array Value} {Post : Int32 → MS → Prop} {K : Hd_text → MS → Prop} (X : XM p s m args c cX12_text 1 ww_text dC dI cI cJ cZ A) (hr : meth.sig.returnType = (some .int)) (hlocks : meth.locks = false) (hK0 : ∀ (t1 : Int32) (S : MS), K t1 S → ∀ (H : Heap) (locs : List Loc), va_P (dC, dI) vwCl (wM q cI cJ cZ S) H → va_D A (wM q cI cJ cZ S) → va_S A s.heap H locs → ∀ ls : Array Slot, lv_has ls 1 [(0, .ref (q 0))] → W p l e (headSpec ww_text ({ frames := 8, cells := 0, slots := 0, locals := 182 } : Room)).room s m args below meth c H locs 0 0 (MQ below (va_Qi Post (atM dC dI q cI cJ cZ A) A) args s 0 0 A) (F0 m 36 ls [.int t1, .ref (q 0)])) (t1 : Int32) (S : MS) (h : B_text Post K t1 S) : ∀ (H : Heap) (locs : List Loc), va_P (dC, dI) vwCl (wM q cI cJ cZ S) H → va_D A (wM q cI cJ cZ S) → va_S A s.heap H locs → ∀ ls : Array Slot, lv_has ls 1 [(0, .ref (q 0))] → W p l e (headSpec ww_text ({ frames := 8, cells := 0, slots := 0, locals := 182 } : Room)).room s m args below meth c H locs 0 0 (MQ below (va_Qi Post (atM dC dI q cI cJ cZ A) A) args s 0 0 A) (F0 m 36 ls [.int t1, .ref (q 0)]) := by
  have hx := X.1
  have hb := X.2.1
  intro H locs hP hD hS ls hl
  have lk7 := X.2.2.2.2.1 (.fieldLink RX12 7 "BreathOnLoanModel" "a" "[I") (inW 5 rfl)
  have lk22 := X.2.2.2.2.1 (.fieldLink RX12 22 "BreathOnLoanModel" "fault" "I") (inW 9 rfl)
  have lk99 := X.2.2.2.2.1 (.fieldLink RX12 99 "BreathOnLoanModel" "place" "I") (inW 70 rfl)
  have lk26 := X.2.2.2.2.1 (.fieldLink RX12 26 "BreathOnLoanModel" "faultPlace" "I") (inW 10 rfl)
  have lk86 := X.2.2.2.2.1 (.fieldLink RX12 86 "BreathOnLoanModel" "taped" "I") (inW 59 rfl)
  dsimp only [B_text] at h
  refine pM_6 X hP hD hS lk26 (dk DX12_text 20 rfl) (fun S4 eS4 H locs hP hD hS => ?_)
  have h := h S4 eS4
  refine lv_aload_n hx hb (dk DX12_text 21 rfl) rfl (lv_at hl 0 rfl) ?_
  refine lv_iconst (v := 0) hx hb (dk DX12_text 22 rfl) (by decide) ?_
  refine pM_4 X hP hD hS lk86 (dk DX12_text 23 rfl) (fun S5 eS5 H locs hP hD hS => ?_)
  have h := h S5 eS5
  refine lv_aload_n hx hb (dk DX12_text 24 rfl) rfl (lv_at hl 0 rfl) ?_
  refine gM X hP 5 (by decide) rfl lk22 (dk DX12_text 25 rfl) ?_
  refine lv_if_eq (tgt := 53) hx hb (dk DX12_text 26 rfl) (by decide) (fun hc => ?_) (fun hc => ?_)
  · have h := h.1 hc
    refine lv_aload_n hx hb (dk DX12_text 29 rfl) rfl (lv_at hl 0 rfl) ?_
    refine gM X hP 0 (by decide) rfl lk7 (dk DX12_text 30 rfl) ?_
    refine lv_iconst (v := 4) hx hb (dk DX12_text 31 rfl) (by decide) ?_
    refine lv_dup2_11 hx hb (dk DX12_text 32 rfl) rfl rfl ?_
    obtain ⟨hin, h⟩ := h
    refine ldM X hP 1 rfl hin (dk DX12_text 33 rfl) ?_
    refine lv_iconst (v := 1) hx hb (dk DX12_text 34 rfl) (by decide) ?_
    refine lv_iadd hx hb (dk DX12_text 35 rfl) ?_
    refine lv_topi (fun v6 ev6 => ?_)
    have h := h v6 ev6
    obtain ⟨hin, h⟩ := h
    refine stM_0 X hP hD hS hin (dk DX12_text 36 rfl) (fun S7 eS7 H locs hP hD hS => ?_)
    have h := h S7 eS7
    refine lv_aload_n hx hb (dk DX12_text 37 rfl) rfl (lv_at hl 0 rfl) ?_
    refine gM X hP 0 (by decide) rfl lk7 (dk DX12_text 38 rfl) ?_
    refine lv_iconst (v := 4) hx hb (dk DX12_text 39 rfl) (by decide) ?_
    obtain ⟨hin, h⟩ := h
    refine ldM X hP 1 rfl hin (dk DX12_text 40 rfl) ?_
    refine lv_iconst (v := 1) hx hb (dk DX12_text 41 rfl) (by decide) ?_
    refine lv_isub hx hb (dk DX12_text 42 rfl) ?_
    exact W.iret (v := ((S7.2.2.1 0) (4 : Int32).toNatClampNeg) - 1) hx hb hr (fun t ht hW => ⟨⟨_, _, rfl, h, by rw [ht]; exact hP, va_K.moved hW.alike X.2.2.2.2.2.2.1, hD⟩, hS.F ht⟩) hS.2.2 (dk DX12_text 43 rfl)
  · have h := h.2 hc
    refine lv_iconst (v := (-1)) hx hb (dk DX12_text 27 rfl) (by decide) ?_
    exact W.iret (v := (-1)) hx hb hr (fun t ht hW => ⟨⟨_, _, rfl, h, by rw [ht]; exact hP, va_K.moved hW.alike X.2.2.2.2.2.2.1, hD⟩, hS.F ht⟩) hS.2.2 (dk DX12_text 28 rfl)
set_option maxHeartbeats 4000000 in
set_option maxRecDepth 100000 in
theorem m_text {l : Launch} {dC : Nat → ClassId} {dI : Nat → Nat → Nat} {q : Nat → Nat} {cI cJ cZ : ClassId} {sz : Nat} {Post : Int32 → MS → Prop} (S : MS) (h : VC_text Post S) : Met l yX12_text ww_text ({ frames := 8, cells := 0, slots := 0, locals := 182 } : Room) (va_Pc [.ref (q 0)] (preM dC dI q cI cJ cZ S sz)) (va_Qi Post (atM dC dI q cI cJ cZ (va_A (wM q cI cJ cZ S) sz)) (va_A (wM q cI cJ cZ S) sz)) 0 0 (va_A (wM q cI cJ cZ S) sz) := by
  refine oM (cc := cX12_text) (maxL := 1) (ret := (some .int)) (Qc := fun A => va_Qi Post (atM dC dI q cI cJ cZ A) A) (by decide) rfl (fun w h => List.mem_cons_of_mem _ (List.mem_append_right _ h)) rfl (Nat.le_of_ble_eq_true rfl) (fun p e s m below meth c A ls X hr hlocks hP hD hS hl => ?_)
  have hx := X.1
  have hb := X.2.1
  have hl : lv_has ls 1 [(0, .ref (q 0))] := hl
  have lk7 := X.2.2.2.2.1 (.fieldLink RX12 7 "BreathOnLoanModel" "a" "[I") (inW 5 rfl)
  have lk22 := X.2.2.2.2.1 (.fieldLink RX12 22 "BreathOnLoanModel" "fault" "I") (inW 9 rfl)
  have lk99 := X.2.2.2.2.1 (.fieldLink RX12 99 "BreathOnLoanModel" "place" "I") (inW 70 rfl)
  have lk26 := X.2.2.2.2.1 (.fieldLink RX12 26 "BreathOnLoanModel" "faultPlace" "I") (inW 10 rfl)
  have lk86 := X.2.2.2.2.1 (.fieldLink RX12 86 "BreathOnLoanModel" "taped" "I") (inW 59 rfl)
  generalize hargs : ([.ref (q 0)] : List Value).toArray = args at X ⊢
  have h := h (fun hd S => match hd with | t1 => ∀ (H : Heap) (locs : List Loc), va_P (dC, dI) vwCl (wM q cI cJ cZ S) H → va_D A (wM q cI cJ cZ S) → va_S A s.heap H locs → ∀ ls : Array Slot, lv_has ls 1 [(0, .ref (q 0))] → W p l e (headSpec ww_text ({ frames := 8, cells := 0, slots := 0, locals := 182 } : Room)).room s m args below meth c H locs 0 0 (MQ below (va_Qi Post (atM dC dI q cI cJ cZ A) A) args s 0 0 A) (F0 m 36 ls [.int t1, .ref (q 0)])) ?_
  · skip
    refine lv_aload_n hx hb (dk DX12_text 0 rfl) rfl (lv_at hl 0 rfl) ?_
    refine gM X hP 0 (by decide) rfl lk7 (dk DX12_text 1 rfl) ?_
    refine lv_iconst (v := 4) hx hb (dk DX12_text 2 rfl) (by decide) ?_
    obtain ⟨hin, h⟩ := h
    refine ldM X hP 1 rfl hin (dk DX12_text 3 rfl) ?_
    refine lv_iconst (v := 4) hx hb (dk DX12_text 4 rfl) (by decide) ?_
    refine lv_icmp_ne (tgt := 12) hx hb (dk DX12_text 5 rfl) (by decide) (fun hc => ?_) (fun hc => ?_)
    · have h := h.1 hc
      refine lv_aload_n hx hb (dk DX12_text 8 rfl) rfl (lv_at hl 0 rfl) ?_
      refine lv_aload_n hx hb (dk DX12_text 9 rfl) rfl (lv_at hl 0 rfl) ?_
      refine cMi (As := []) (rest := [.ref (q 0)]) X (m_readText (l := l) (dC := dC) (dI := dI) (q := q) (cI := cI) (cJ := cJ) (cZ := cZ) (sz := _) S h) (cwV 0 X.2.2.2.2.1 (gwV 203 204 205 24 202 rfl rfl rfl rfl rfl) rfl rfl rfl q_readText ⟨Nat.le_of_ble_eq_true rfl, Nat.le_of_ble_eq_true rfl⟩) hP hD hS rfl hl.1 rfl (Nat.le_of_ble_eq_true rfl) (dk DX12_text 10 rfl) (fun r2 S1 H locs h hP hD hS => ?_)
      refine pM_5 X hP hD hS lk22 (dk DX12_text 11 rfl) (fun S3 eS3 H locs hP hD hS => ?_)
      have h := h S3 eS3
      refine lv_aload_n hx hb (dk DX12_text 12 rfl) rfl (lv_at hl 0 rfl) ?_
      refine lv_aload_n hx hb (dk DX12_text 13 rfl) rfl (lv_at hl 0 rfl) ?_
      refine gM X hP 5 (by decide) rfl lk22 (dk DX12_text 14 rfl) ?_
      refine lv_if_ne (tgt := 32) hx hb (dk DX12_text 15 rfl) (by decide) (fun hc => ?_) (fun hc => ?_)
      · have h := h.1 hc
        refine lv_aload_n hx hb (dk DX12_text 18 rfl) rfl (lv_at hl 0 rfl) ?_
        refine gM X hP 8 (by decide) rfl lk99 (dk DX12_text 19 rfl) ?_
        exact h _ _ hP hD hS ls (lv_sub hl [0] rfl)
      · have h := h.2 hc
        refine lv_iconst (v := (-1)) hx hb (dk DX12_text 16 rfl) (by decide) ?_
        refine lv_goto (tgt := 36) hx hb (dk DX12_text 17 rfl) (by decide) ?_
        exact h _ _ hP hD hS ls (lv_sub hl [0] rfl)
    · have h := h.2 hc
      refine lv_iconst (v := (-1)) hx hb (dk DX12_text 6 rfl) (by decide) ?_
      exact W.iret (v := (-1)) hx hb hr (fun t ht hW => ⟨⟨_, _, rfl, h, by rw [ht]; exact hP, va_K.moved hW.alike X.2.2.2.2.2.2.1, hD⟩, hS.F ht⟩) hS.2.2 (dk DX12_text 7 rfl)
  · rintro t1 S hB
    exact h_text_0 X hr hlocks (hK0 := fun _ _ h => h) t1 S hB

def ww_fault : List Cond := .code yX12_fault cX12_fault 2 (some .int) :: (WdM ++ wsX120)
theorem q_fault : yX12_fault.cls = RX12 ∧ yX12_fault.cls ≠ "java/lang/invoke/MethodHandle" ∧ yX12_fault.cls ≠ "java/lang/invoke/VarHandle" ∧ (parseMethodDescriptor yX12_fault.desc).map (fun d => d.parameters.length) = some 1 := by decide +kernel
def VC_fault (Post : Int32 → MS → Prop) (a0 : Int32) (S : MS) : Prop := ((¬ a0 = 0 → ((¬ a0 = 1 → Post (-1) S) ∧ (a0 = 1 → Post (S.1 6) S))) ∧ (a0 = 0 → Post (S.1 5) S))
set_option maxHeartbeats 4000000 in
set_option maxRecDepth 100000 in
theorem m_fault {l : Launch} {dC : Nat → ClassId} {dI : Nat → Nat → Nat} {q : Nat → Nat} {cI cJ cZ : ClassId} {sz : Nat} {Post : Int32 → MS → Prop} (a0 : Int32) (S : MS) (h : VC_fault Post a0 S) : Met l yX12_fault ww_fault ({ frames := 0, cells := 0, slots := 0, locals := 0 } : Room) (va_Pc [.ref (q 0), .int a0] (preM dC dI q cI cJ cZ S sz)) (va_Qi Post (atM dC dI q cI cJ cZ (va_A (wM q cI cJ cZ S) sz)) (va_A (wM q cI cJ cZ S) sz)) 0 0 (va_A (wM q cI cJ cZ S) sz) := by
  refine oM (cc := cX12_fault) (maxL := 2) (ret := (some .int)) (Qc := fun A => va_Qi Post (atM dC dI q cI cJ cZ A) A) (by decide) rfl (fun w h => List.mem_cons_of_mem _ (List.mem_append_right _ h)) rfl (Nat.le_of_ble_eq_true rfl) (fun p e s m below meth c A ls X hr hlocks hP hD hS hl => ?_)
  have hx := X.1
  have hb := X.2.1
  have hl : lv_has ls 2 [(0, .ref (q 0)), (1, .int a0)] := hl
  have lk26 := X.2.2.2.2.1 (.fieldLink RX12 26 "BreathOnLoanModel" "faultPlace" "I") (inW 10 rfl)
  have lk22 := X.2.2.2.2.1 (.fieldLink RX12 22 "BreathOnLoanModel" "fault" "I") (inW 9 rfl)
  dsimp only [VC_fault] at h
  refine lv_iload_n hx hb (dk DX12_fault 0 rfl) rfl (lv_at hl 1 rfl) ?_
  refine lv_if_ne (tgt := 11) hx hb (dk DX12_fault 1 rfl) (by decide) (fun hc => ?_) (fun hc => ?_)
  · have h := h.1 hc
    refine lv_iload_n hx hb (dk DX12_fault 5 rfl) rfl (lv_at hl 1 rfl) ?_
    refine lv_iconst (v := 1) hx hb (dk DX12_fault 6 rfl) (by decide) ?_
    refine lv_icmp_ne (tgt := 23) hx hb (dk DX12_fault 7 rfl) (by decide) (fun hc => ?_) (fun hc => ?_)
    · have h := h.1 hc
      refine lv_iconst (v := (-1)) hx hb (dk DX12_fault 11 rfl) (by decide) ?_
      exact W.iret (v := (-1)) hx hb hr (fun t ht hW => ⟨⟨_, _, rfl, h, by rw [ht]; exact hP, va_K.moved hW.alike X.2.2.2.2.2.2.1, hD⟩, hS.F ht⟩) hS.2.2 (dk DX12_fault 12 rfl)
    · have h := h.2 hc
      refine lv_aload_n hx hb (dk DX12_fault 8 rfl) rfl (lv_at hl 0 rfl) ?_
      refine gM X hP 6 (by decide) rfl lk26 (dk DX12_fault 9 rfl) ?_
      refine lv_goto (tgt := 24) hx hb (dk DX12_fault 10 rfl) (by decide) ?_
      exact W.iret (v := (S.1 6)) hx hb hr (fun t ht hW => ⟨⟨_, _, rfl, h, by rw [ht]; exact hP, va_K.moved hW.alike X.2.2.2.2.2.2.1, hD⟩, hS.F ht⟩) hS.2.2 (dk DX12_fault 12 rfl)
  · have h := h.2 hc
    refine lv_aload_n hx hb (dk DX12_fault 2 rfl) rfl (lv_at hl 0 rfl) ?_
    refine gM X hP 5 (by decide) rfl lk22 (dk DX12_fault 3 rfl) ?_
    refine lv_goto (tgt := 24) hx hb (dk DX12_fault 4 rfl) (by decide) ?_
    exact W.iret (v := (S.1 5)) hx hb hr (fun t ht hW => ⟨⟨_, _, rfl, h, by rw [ht]; exact hP, va_K.moved hW.alike X.2.2.2.2.2.2.1, hD⟩, hS.F ht⟩) hS.2.2 (dk DX12_fault 12 rfl)

def ww_by : List Cond := .code yX12_by cX12_by 2 (some .boolean) :: (WdM ++ wsX120)
theorem q_by : yX12_by.cls = RX12 ∧ yX12_by.cls ≠ "java/lang/invoke/MethodHandle" ∧ yX12_by.cls ≠ "java/lang/invoke/VarHandle" ∧ (parseMethodDescriptor yX12_by.desc).map (fun d => d.parameters.length) = some 1 := by decide +kernel
def VC_by (Post : Int32 → MS → Prop) (a0 : Int32) (S : MS) : Prop := vp_in (4 : Int32) 3890 ∧ VC_isIn (fun r1 => ((¬ r1 = 0 → vp_in (5 : Int32) 3890 ∧ ∀ S2 : MS, S2 = sF S 0 (upd (S.2.2.1 0) (5 : Int32).toNatClampNeg a0) → Post 1 S2) ∧ (r1 = 0 → Post 0 S))) a0 (-1) (((S.2.2.1 0) (4 : Int32).toNatClampNeg) - 1)
set_option maxHeartbeats 4000000 in
set_option maxRecDepth 100000 in
theorem m_by {l : Launch} {dC : Nat → ClassId} {dI : Nat → Nat → Nat} {q : Nat → Nat} {cI cJ cZ : ClassId} {sz : Nat} {Post : Int32 → MS → Prop} (a0 : Int32) (S : MS) (h : VC_by Post a0 S) : Met l yX12_by ww_by ({ frames := 1, cells := 0, slots := 0, locals := 22 } : Room) (va_Pc [.ref (q 0), .int a0] (preM dC dI q cI cJ cZ S sz)) (va_Qi Post (atM dC dI q cI cJ cZ (va_A (wM q cI cJ cZ S) sz)) (va_A (wM q cI cJ cZ S) sz)) 0 0 (va_A (wM q cI cJ cZ S) sz) := by
  refine oM (cc := cX12_by) (maxL := 2) (ret := (some .boolean)) (Qc := fun A => va_Qi Post (atM dC dI q cI cJ cZ A) A) (by decide) rfl (fun w h => List.mem_cons_of_mem _ (List.mem_append_right _ h)) rfl (Nat.le_of_ble_eq_true rfl) (fun p e s m below meth c A ls X hr hlocks hP hD hS hl => ?_)
  have hx := X.1
  have hb := X.2.1
  have hl : lv_has ls 2 [(0, .ref (q 0)), (1, .int a0)] := hl
  have lk7 := X.2.2.2.2.1 (.fieldLink RX12 7 "BreathOnLoanModel" "a" "[I") (inW 5 rfl)
  dsimp only [VC_by] at h
  refine lv_iload_n hx hb (dk DX12_by 0 rfl) rfl (lv_at hl 1 rfl) ?_
  refine lv_iconst (v := (-1)) hx hb (dk DX12_by 1 rfl) (by decide) ?_
  refine lv_aload_n hx hb (dk DX12_by 2 rfl) rfl (lv_at hl 0 rfl) ?_
  refine gM X hP 0 (by decide) rfl lk7 (dk DX12_by 3 rfl) ?_
  refine lv_iconst (v := 4) hx hb (dk DX12_by 4 rfl) (by decide) ?_
  obtain ⟨hin, h⟩ := h
  refine ldM X hP 1 rfl hin (dk DX12_by 5 rfl) ?_
  refine lv_iconst (v := 1) hx hb (dk DX12_by 6 rfl) (by decide) ?_
  refine lv_isub hx hb (dk DX12_by 7 rfl) ?_
  refine cSi (As := [.int a0, .int (-1), .int (((S.2.2.1 0) (4 : Int32).toNatClampNeg) - 1)]) (rest := []) ⟨X.1, X.2.1, X.2.2.1, X.2.2.2.1, X.2.2.2.2.1⟩ (m_isIn (l := l) a0 (-1) (((S.2.2.1 0) (4 : Int32).toNatClampNeg) - 1) h) (va_cwS 3 X.2.2.2.2.1 (gwS 31 32 24 26 rfl rfl rfl rfl) rfl rfl rfl q_isIn ⟨Nat.le_of_ble_eq_true rfl, Nat.le_of_ble_eq_true rfl⟩) rfl hl.1 rfl (Nat.le_of_ble_eq_true rfl) (dk DX12_by 8 rfl) (fun r1 h => ?_)
  refine lv_if_ne (tgt := 18) hx hb (dk DX12_by 9 rfl) (by decide) (fun hc => ?_) (fun hc => ?_)
  · have h := h.1 hc
    refine lv_aload_n hx hb (dk DX12_by 12 rfl) rfl (lv_at hl 0 rfl) ?_
    refine gM X hP 0 (by decide) rfl lk7 (dk DX12_by 13 rfl) ?_
    refine lv_iconst (v := 5) hx hb (dk DX12_by 14 rfl) (by decide) ?_
    refine lv_iload_n hx hb (dk DX12_by 15 rfl) rfl (lv_at hl 1 rfl) ?_
    obtain ⟨hin, h⟩ := h
    refine stM_0 X hP hD hS hin (dk DX12_by 16 rfl) (fun S2 eS2 H locs hP hD hS => ?_)
    have h := h S2 eS2
    refine lv_iconst (v := 1) hx hb (dk DX12_by 17 rfl) (by decide) ?_
    exact W.zret (v := 1) hx hb hr (by decide) (fun t ht hW => ⟨⟨_, _, rfl, h, by rw [ht]; exact hP, va_K.moved hW.alike X.2.2.2.2.2.2.1, hD⟩, hS.F ht⟩) hS.2.2 (dk DX12_by 18 rfl)
  · have h := h.2 hc
    refine lv_iconst (v := 0) hx hb (dk DX12_by 10 rfl) (by decide) ?_
    exact W.zret (v := 0) hx hb hr (by decide) (fun t ht hW => ⟨⟨_, _, rfl, h, by rw [ht]; exact hP, va_K.moved hW.alike X.2.2.2.2.2.2.1, hD⟩, hS.F ht⟩) hS.2.2 (dk DX12_by 11 rfl)

def ww_clip : List Cond := .code yX12_clip cX12_clip 2 (some .long) :: (WdM ++ wsX120)
theorem q_clip : yX12_clip.cls ≠ "java/lang/invoke/MethodHandle" ∧ yX12_clip.cls ≠ "java/lang/invoke/VarHandle" ∧ (parseMethodDescriptor yX12_clip.desc).map (fun d => d.parameters.length) = some 1 := by decide +kernel
def VC_clip (Post : Int64 → Prop) (a0 : Int64) : Prop := (((lg_cmp a0 (1000000)) ≤ 0 → ((0 ≤ (lg_cmp a0 (-1000000)) → Post a0) ∧ (¬ 0 ≤ (lg_cmp a0 (-1000000)) → Post (-1000000)))) ∧ (¬ (lg_cmp a0 (1000000)) ≤ 0 → Post (1000000)))
set_option maxHeartbeats 4000000 in
set_option maxRecDepth 100000 in
theorem m_clip {l : Launch} {Post : Int64 → Prop} (a0 : Int64) (h : VC_clip Post a0) : Met l yX12_clip ww_clip ({ frames := 0, cells := 0, slots := 0, locals := 0 } : Room) (va_Pc [.long a0] (fun _ => True)) (vp_Sl Post) 0 0 (fun _ => False) := by
  refine oS (cc := cX12_clip) (maxL := 2) (ret := (some .long)) (Qc := vp_Sl Post) (by decide) rfl (Nat.le_of_ble_eq_true rfl) (fun p e s m below meth c ls X hr hlocks hl => ?_)
  have hx := X.1
  have hb := X.2.1
  have hl : lv_has ls 2 [(0, .long a0)] := hl
  dsimp only [VC_clip] at h
  refine lv_lload_n hx hb (dk DX12_clip 0 rfl) rfl (lv_at hl 0 rfl) ?_
  refine lv_ldc2 (v := (1000000)) hx hb X.2.2.2.1 (X.2.2.2.2 (.constantLong RX12 248 (1000000)) (inW 210 rfl)) (dk DX12_clip 1 rfl) ?_
  refine W.lcmp hx hb (dk DX12_clip 2 rfl) ?_
  refine lv_if_le (tgt := 14) hx hb (dk DX12_clip 3 rfl) (by decide) (fun hc => ?_) (fun hc => ?_)
  · have h := h.1 hc
    refine lv_lload_n hx hb (dk DX12_clip 6 rfl) rfl (lv_at hl 0 rfl) ?_
    refine lv_ldc2 (v := (-1000000)) hx hb X.2.2.2.1 (X.2.2.2.2 (.constantLong RX12 250 (-1000000)) (inW 211 rfl)) (dk DX12_clip 7 rfl) ?_
    refine W.lcmp hx hb (dk DX12_clip 8 rfl) ?_
    refine lv_if_ge (tgt := 28) hx hb (dk DX12_clip 9 rfl) (by decide) (fun hc => ?_) (fun hc => ?_)
    · have h := h.1 hc
      refine lv_lload_n hx hb (dk DX12_clip 12 rfl) rfl (lv_at hl 0 rfl) ?_
      exact W.lret (v := a0) hx hb hr (fun t ht hW => ⟨_, rfl, h, ht⟩) (fun _ h => by cases h) (dk DX12_clip 13 rfl)
    · have h := h.2 hc
      refine lv_ldc2 (v := (-1000000)) hx hb X.2.2.2.1 (X.2.2.2.2 (.constantLong RX12 250 (-1000000)) (inW 211 rfl)) (dk DX12_clip 10 rfl) ?_
      refine lv_goto (tgt := 29) hx hb (dk DX12_clip 11 rfl) (by decide) ?_
      exact W.lret (v := (-1000000)) hx hb hr (fun t ht hW => ⟨_, rfl, h, ht⟩) (fun _ h => by cases h) (dk DX12_clip 13 rfl)
  · have h := h.2 hc
    refine lv_ldc2 (v := (1000000)) hx hb X.2.2.2.1 (X.2.2.2.2 (.constantLong RX12 248 (1000000)) (inW 210 rfl)) (dk DX12_clip 4 rfl) ?_
    refine lv_goto (tgt := 29) hx hb (dk DX12_clip 5 rfl) (by decide) ?_
    exact W.lret (v := (1000000)) hx hb hr (fun t ht hW => ⟨_, rfl, h, ht⟩) (fun _ h => by cases h) (dk DX12_clip 13 rfl)

def ww_two : List Cond := .code yX12_two cX12_two 5 (some .long) :: (WdM ++ wsX120)
theorem q_two : yX12_two.cls ≠ "java/lang/invoke/MethodHandle" ∧ yX12_two.cls ≠ "java/lang/invoke/VarHandle" ∧ (parseMethodDescriptor yX12_two.desc).map (fun d => d.parameters.length) = some 3 := by decide +kernel
def VC_two (Post : Int64 → Prop) (a0 : Int32) (a1 : Int64) (a2 : Int64) : Prop := ((a0 = 3 → VC_clip (fun r1 => Post r1) (a1 + a2)) ∧ (a0 = 4 → VC_clip (fun r2 => Post r2) (a1 - a2)) ∧ (a0 = 5 → VC_clip (fun r3 => Post r3) (a1 * a2)) ∧ (¬ a0 = 3 → ¬ a0 = 4 → ¬ a0 = 5 → ((¬ (lg_cmp a2 0) = 0 → ¬ a2 = 0 ∧ VC_clip (fun r4 => Post r4) (a1 / a2)) ∧ ((lg_cmp a2 0) = 0 → Post 0))))
set_option maxHeartbeats 4000000 in
set_option maxRecDepth 100000 in
theorem m_two {l : Launch} {Post : Int64 → Prop} (a0 : Int32) (a1 : Int64) (a2 : Int64) (h : VC_two Post a0 a1 a2) : Met l yX12_two ww_two ({ frames := 1, cells := 0, slots := 0, locals := 21 } : Room) (va_Pc [.int a0, .long a1, .long a2] (fun _ => True)) (vp_Sl Post) 0 0 (fun _ => False) := by
  refine oS (cc := cX12_two) (maxL := 5) (ret := (some .long)) (Qc := vp_Sl Post) (by decide) rfl (Nat.le_of_ble_eq_true rfl) (fun p e s m below meth c ls X hr hlocks hl => ?_)
  have hx := X.1
  have hb := X.2.1
  have hl : lv_has ls 5 [(0, .int a0), (1, .long a1), (3, .long a2)] := hl
  dsimp only [VC_two] at h
  refine lv_iload_n hx hb (dk DX12_two 0 rfl) rfl (lv_at hl 0 rfl) ?_
  by_cases hc3 : a0 = 3
  · have h := h.1 hc3
    refine lv_tableIn (off := 27) (tgt := 28) hx hb (dk DX12_two 1 rfl) (by rw [hc3]; decide) (by rw [hc3]; decide) (by rw [hc3]; decide) (by decide) ?_
    refine lv_lload_n hx hb (dk DX12_two 2 rfl) rfl (lv_at hl 1 rfl) ?_
    refine lv_lload_n hx hb (dk DX12_two 3 rfl) rfl (lv_at hl 2 rfl) ?_
    refine lv_ladd hx hb (dk DX12_two 4 rfl) ?_
    refine cSl (As := [.long (a1 + a2)]) (rest := []) X (m_clip (l := l) (a1 + a2) h) (va_cwS 1 X.2.2.2.2 (gwS 213 214 24 209 rfl rfl rfl rfl) rfl rfl rfl q_clip ⟨Nat.le_of_ble_eq_true rfl, Nat.le_of_ble_eq_true rfl⟩) rfl hl.1 rfl (Nat.le_of_ble_eq_true rfl) (dk DX12_two 5 rfl) (fun r1 h => ?_)
    exact W.lret (v := r1) hx hb hr (fun t ht hW => ⟨_, rfl, h, ht⟩) (fun _ h => by cases h) (dk DX12_two 6 rfl)
  have h := h.2
  by_cases hc4 : a0 = 4
  · have h := h.1 hc4
    refine lv_tableIn (off := 34) (tgt := 35) hx hb (dk DX12_two 1 rfl) (by rw [hc4]; decide) (by rw [hc4]; decide) (by rw [hc4]; decide) (by decide) ?_
    refine lv_lload_n hx hb (dk DX12_two 7 rfl) rfl (lv_at hl 1 rfl) ?_
    refine lv_lload_n hx hb (dk DX12_two 8 rfl) rfl (lv_at hl 2 rfl) ?_
    refine lv_lsub hx hb (dk DX12_two 9 rfl) ?_
    refine cSl (As := [.long (a1 - a2)]) (rest := []) X (m_clip (l := l) (a1 - a2) h) (va_cwS 1 X.2.2.2.2 (gwS 213 214 24 209 rfl rfl rfl rfl) rfl rfl rfl q_clip ⟨Nat.le_of_ble_eq_true rfl, Nat.le_of_ble_eq_true rfl⟩) rfl hl.1 rfl (Nat.le_of_ble_eq_true rfl) (dk DX12_two 10 rfl) (fun r2 h => ?_)
    exact W.lret (v := r2) hx hb hr (fun t ht hW => ⟨_, rfl, h, ht⟩) (fun _ h => by cases h) (dk DX12_two 11 rfl)
  have h := h.2
  by_cases hc5 : a0 = 5
  · have h := h.1 hc5
    refine lv_tableIn (off := 41) (tgt := 42) hx hb (dk DX12_two 1 rfl) (by rw [hc5]; decide) (by rw [hc5]; decide) (by rw [hc5]; decide) (by decide) ?_
    refine lv_lload_n hx hb (dk DX12_two 12 rfl) rfl (lv_at hl 1 rfl) ?_
    refine lv_lload_n hx hb (dk DX12_two 13 rfl) rfl (lv_at hl 2 rfl) ?_
    refine lv_lmul hx hb (dk DX12_two 14 rfl) ?_
    refine cSl (As := [.long (a1 * a2)]) (rest := []) X (m_clip (l := l) (a1 * a2) h) (va_cwS 1 X.2.2.2.2 (gwS 213 214 24 209 rfl rfl rfl rfl) rfl rfl rfl q_clip ⟨Nat.le_of_ble_eq_true rfl, Nat.le_of_ble_eq_true rfl⟩) rfl hl.1 rfl (Nat.le_of_ble_eq_true rfl) (dk DX12_two 15 rfl) (fun r3 h => ?_)
    exact W.lret (v := r3) hx hb hr (fun t ht hW => ⟨_, rfl, h, ht⟩) (fun _ h => by cases h) (dk DX12_two 16 rfl)
  have h := h.2
  have h := h hc3 hc4 hc5
  refine lv_tableOut (tgt := 49) hx hb (dk DX12_two 1 rfl) (by have n3 := lv_neT hc3 (a := 3) (by decide); have n4 := lv_neT hc4 (a := 4) (by decide); have n5 := lv_neT hc5 (a := 5) (by decide); omega) (by decide) ?_
  refine lv_lload_n hx hb (dk DX12_two 17 rfl) rfl (lv_at hl 2 rfl) ?_
  refine lv_lconst (v := 0) hx hb (dk DX12_two 18 rfl) (by decide) ?_
  refine W.lcmp hx hb (dk DX12_two 19 rfl) ?_
  refine lv_if_ne (tgt := 59) hx hb (dk DX12_two 20 rfl) (by decide) (fun hc => ?_) (fun hc => ?_)
  · have h := h.1 hc
    refine lv_lload_n hx hb (dk DX12_two 23 rfl) rfl (lv_at hl 1 rfl) ?_
    refine lv_lload_n hx hb (dk DX12_two 24 rfl) rfl (lv_at hl 2 rfl) ?_
    obtain ⟨hz, h⟩ := h
    refine lv_ldiv hx hb (dk DX12_two 25 rfl) hz ?_
    refine cSl (As := [.long (a1 / a2)]) (rest := []) X (m_clip (l := l) (a1 / a2) h) (va_cwS 1 X.2.2.2.2 (gwS 213 214 24 209 rfl rfl rfl rfl) rfl rfl rfl q_clip ⟨Nat.le_of_ble_eq_true rfl, Nat.le_of_ble_eq_true rfl⟩) rfl hl.1 rfl (Nat.le_of_ble_eq_true rfl) (dk DX12_two 26 rfl) (fun r4 h => ?_)
    exact W.lret (v := r4) hx hb hr (fun t ht hW => ⟨_, rfl, h, ht⟩) (fun _ h => by cases h) (dk DX12_two 27 rfl)
  · have h := h.2 hc
    refine lv_lconst (v := 0) hx hb (dk DX12_two 21 rfl) (by decide) ?_
    refine lv_goto (tgt := 65) hx hb (dk DX12_two 22 rfl) (by decide) ?_
    exact W.lret (v := 0) hx hb hr (fun t ht hW => ⟨_, rfl, h, ht⟩) (fun _ h => by cases h) (dk DX12_two 27 rfl)

