-- beginOne compareOf betweenOf
def ww_beginOne : List Cond := .code yX12_beginOne cX12_beginOne 3 (some .int) :: (WdM ++ wsX120)
theorem q_beginOne : yX12_beginOne.cls = RX12 ∧ yX12_beginOne.cls ≠ "java/lang/invoke/MethodHandle" ∧ yX12_beginOne.cls ≠ "java/lang/invoke/VarHandle" ∧ (parseMethodDescriptor yX12_beginOne.desc).map (fun d => d.parameters.length) = some 1 := by decide +kernel
abbrev Hd_beginOne : Type := (Int32) ⊕ (Int32 × Int32) ⊕ (Int32 × Int32) ⊕ (Int32 × Int32 × Int32) ⊕ (Int32 × Int32 × Int32 × Int32) ⊕ (Int32 × Int32)
def B_beginOne (Post : Int32 → MS → Prop) (K : Hd_beginOne → MS → Prop) : Hd_beginOne → MS → Prop
  | (.inl x1), S => VC_nameOf (fun r2 S1 => ((r2 < 0 → K (.inr (.inl (x1, r2))) S1) ∧ (¬ r2 < 0 → VC_isOf (fun r4 S3 => ((¬ r4 = 0 → K (.inr (.inl (x1, r2))) S3) ∧ (r4 = 0 → Post 5 S3))) r2 S1))) S
  | (.inr (.inl (x1, x2))), S => (((S.1 9) = 1 → K (.inr (.inr (.inl (x1, x2)))) S) ∧ (¬ (S.1 9) = 1 → ((x2 < 0 → ((¬ (S.1 9) = 40 → ((¬ (S.1 9) = 45 → ((¬ (S.1 9) = 2 → K (.inr (.inr (.inr (.inr (.inr (x1, x2)))))) S) ∧ ((S.1 9) = 2 → ((¬ (lg_cmp (S.2.1) (26982)) = 0 → K (.inr (.inr (.inr (.inr (.inr (x1, x2)))))) S) ∧ ((lg_cmp (S.2.1) (26982)) = 0 → VC_opensBy (fun r6 S5 => Post r6 S5) 41 S))))) ∧ ((S.1 9) = 45 → VC_opensBy (fun r8 S7 => Post r8 S7) 2 S))) ∧ ((S.1 9) = 40 → VC_opensBy (fun r10 S9 => Post r10 S9) 40 S))) ∧ (¬ x2 < 0 → K (.inr (.inr (.inl (x1, x2)))) S))))
  | (.inr (.inr (.inl (x1, x2)))), S => ((¬ (S.1 9) = 1 → K (.inr (.inr (.inr (.inl (x1, x2, 1))))) S) ∧ ((S.1 9) = 1 → K (.inr (.inr (.inr (.inl (x1, x2, 0))))) S))
  | (.inr (.inr (.inr (.inl (x1, x2, t1))))), S => ((¬ (S.1 9) = 1 → K (.inr (.inr (.inr (.inr (.inl (x1, x2, t1, x2)))))) S) ∧ ((S.1 9) = 1 → K (.inr (.inr (.inr (.inr (.inl (x1, x2, t1, (S.1 10))))))) S))
  | (.inr (.inr (.inr (.inr (.inl (x1, x2, t1, t2)))))), S => VC_emit (fun S11 => VC_nextToken (fun S12 => VC_whole (fun S13 => Post 0 S13) S12) S11) t1 t2 S
  | (.inr (.inr (.inr (.inr (.inr (x1, x2)))))), S => VC_w3 (fun r14 => VC_isWord (fun r16 S15 => ((r16 = 0 → Post 1 S15) ∧ (¬ r16 = 0 → VC_isAskAhead (fun r18 S17 => ((r18 = 0 → Post 1 S17) ∧ (¬ r18 = 0 → VC_opensBy (fun r20 S19 => Post r20 S19) 20 S17))) x1 S15))) r14 S) 110 111 116
def VC_beginOne (Post : Int32 → MS → Prop) (a0 : Int32) (S : MS) : Prop := ∀ K : Hd_beginOne → MS → Prop, (∀ h S, B_beginOne Post K h S → K h S) → ((¬ (S.1 9) = 1 → K (.inl a0) S) ∧ ((S.1 9) = 1 → (((S.1 10) ≤ 9999 → K (.inl a0) S) ∧ (¬ (S.1 10) ≤ 9999 → Post 2 S))))
set_option maxHeartbeats 4000000 in
set_option maxRecDepth 100000 in
theorem h_beginOne_0 {p : Program} {l : Launch} {e : Env} {s : State} {m : MethodId} {below : List Frame} {meth : Method} {c : Code} {dC : Nat → ClassId} {dI : Nat → Nat → Nat} {q : Nat → Nat} {cI cJ cZ : ClassId} {A : Nat → Prop} {args : Array Value} {Post : Int32 → MS → Prop} {K : Hd_beginOne → MS → Prop} (X : XM p s m args c cX12_beginOne 3 ww_beginOne dC dI cI cJ cZ A) (hr : meth.sig.returnType = (some .int)) (hlocks : meth.locks = false) (hK0 : ∀ (x1 : Int32) (S : MS), K (.inl x1) S → ∀ (H : Heap) (locs : List Loc), va_P (dC, dI) vwCl (wM q cI cJ cZ S) H → va_D A (wM q cI cJ cZ S) → va_S A s.heap H locs → ∀ ls : Array Slot, lv_has ls 3 [(0, .ref (q 0)), (1, .int x1)] → W p l e (headSpec ww_beginOne ({ frames := 4, cells := 0, slots := 0, locals := 91 } : Room)).room s m args below meth c H locs 0 0 (MQ below (va_Qi Post (atM dC dI q cI cJ cZ A) A) args s 0 0 A) (F0 m 20 ls [])) (hK1 : ∀ (x1 : Int32) (x2 : Int32) (S : MS), K (.inr (.inl (x1, x2))) S → ∀ (H : Heap) (locs : List Loc), va_P (dC, dI) vwCl (wM q cI cJ cZ S) H → va_D A (wM q cI cJ cZ S) → va_S A s.heap H locs → ∀ ls : Array Slot, lv_has ls 3 [(0, .ref (q 0)), (1, .int x1), (2, .int x2)] → W p l e (headSpec ww_beginOne ({ frames := 4, cells := 0, slots := 0, locals := 91 } : Room)).room s m args below meth c H locs 0 0 (MQ below (va_Qi Post (atM dC dI q cI cJ cZ A) A) args s 0 0 A) (F0 m 39 ls [])) (hK2 : ∀ (x1 : Int32) (x2 : Int32) (S : MS), K (.inr (.inr (.inl (x1, x2)))) S → ∀ (H : Heap) (locs : List Loc), va_P (dC, dI) vwCl (wM q cI cJ cZ S) H → va_D A (wM q cI cJ cZ S) → va_S A s.heap H locs → ∀ ls : Array Slot, lv_has ls 3 [(0, .ref (q 0)), (1, .int x1), (2, .int x2)] → W p l e (headSpec ww_beginOne ({ frames := 4, cells := 0, slots := 0, locals := 91 } : Room)).room s m args below meth c H locs 0 0 (MQ below (va_Qi Post (atM dC dI q cI cJ cZ A) A) args s 0 0 A) (F0 m 51 ls [])) (hK3 : ∀ (x1 : Int32) (x2 : Int32) (t1 : Int32) (S : MS), K (.inr (.inr (.inr (.inl (x1, x2, t1))))) S → ∀ (H : Heap) (locs : List Loc), va_P (dC, dI) vwCl (wM q cI cJ cZ S) H → va_D A (wM q cI cJ cZ S) → va_S A s.heap H locs → ∀ ls : Array Slot, lv_has ls 3 [(0, .ref (q 0)), (1, .int x1), (2, .int x2)] → W p l e (headSpec ww_beginOne ({ frames := 4, cells := 0, slots := 0, locals := 91 } : Room)).room s m args below meth c H locs 0 0 (MQ below (va_Qi Post (atM dC dI q cI cJ cZ A) A) args s 0 0 A) (F0 m 65 ls [.int t1, .ref (q 0)])) (hK4 : ∀ (x1 : Int32) (x2 : Int32) (t1 : Int32) (t2 : Int32) (S : MS), K (.inr (.inr (.inr (.inr (.inl (x1, x2, t1, t2)))))) S → ∀ (H : Heap) (locs : List Loc), va_P (dC, dI) vwCl (wM q cI cJ cZ S) H → va_D A (wM q cI cJ cZ S) → va_S A s.heap H locs → ∀ ls : Array Slot, lv_has ls 3 [(0, .ref (q 0)), (1, .int x1), (2, .int x2)] → W p l e (headSpec ww_beginOne ({ frames := 4, cells := 0, slots := 0, locals := 91 } : Room)).room s m args below meth c H locs 0 0 (MQ below (va_Qi Post (atM dC dI q cI cJ cZ A) A) args s 0 0 A) (F0 m 81 ls [.int t2, .int t1, .ref (q 0)])) (hK5 : ∀ (x1 : Int32) (x2 : Int32) (S : MS), K (.inr (.inr (.inr (.inr (.inr (x1, x2)))))) S → ∀ (H : Heap) (locs : List Loc), va_P (dC, dI) vwCl (wM q cI cJ cZ S) H → va_D A (wM q cI cJ cZ S) → va_S A s.heap H locs → ∀ ls : Array Slot, lv_has ls 3 [(0, .ref (q 0)), (1, .int x1), (2, .int x2)] → W p l e (headSpec ww_beginOne ({ frames := 4, cells := 0, slots := 0, locals := 91 } : Room)).room s m args below meth c H locs 0 0 (MQ below (va_Qi Post (atM dC dI q cI cJ cZ A) A) args s 0 0 A) (F0 m 151 ls [])) (x1 : Int32) (S : MS) (h : B_beginOne Post K (.inl x1) S) : ∀ (H : Heap) (locs : List Loc), va_P (dC, dI) vwCl (wM q cI cJ cZ S) H → va_D A (wM q cI cJ cZ S) → va_S A s.heap H locs → ∀ ls : Array Slot, lv_has ls 3 [(0, .ref (q 0)), (1, .int x1)] → W p l e (headSpec ww_beginOne ({ frames := 4, cells := 0, slots := 0, locals := 91 } : Room)).room s m args below meth c H locs 0 0 (MQ below (va_Qi Post (atM dC dI q cI cJ cZ A) A) args s 0 0 A) (F0 m 20 ls []) := by
  have hx := X.1
  have hb := X.2.1
  intro H locs hP hD hS ls hl
  have lk102 := X.2.2.2.2.1 (.fieldLink RX12 102 "BreathOnLoanModel" "token" "I") (inW 71 rfl)
  have lk108 := X.2.2.2.2.1 (.fieldLink RX12 108 "BreathOnLoanModel" "number" "I") (inW 72 rfl)
  have lk115 := X.2.2.2.2.1 (.fieldLink RX12 115 "BreathOnLoanModel" "word" "J") (inW 74 rfl)
  dsimp only [B_beginOne] at h
  refine lv_aload_n hx hb (dk DX12_beginOne 10 rfl) rfl (lv_at hl 0 rfl) ?_
  refine cMi (As := []) (rest := []) X (m_nameOf (l := l) (dC := dC) (dI := dI) (q := q) (cI := cI) (cJ := cJ) (cZ := cZ) (sz := _) S h) (cwV 0 X.2.2.2.2.1 (gwV 138 139 140 24 134 rfl rfl rfl rfl rfl) rfl rfl rfl q_nameOf ⟨Nat.le_of_ble_eq_true rfl, Nat.le_of_ble_eq_true rfl⟩) hP hD hS rfl hl.1 rfl (Nat.le_of_ble_eq_true rfl) (dk DX12_beginOne 11 rfl) (fun r2 S1 H locs h hP hD hS => ?_)
  refine lv_istore_n (lv' := [(2, .int r2), (0, .ref (q 0)), (1, .int x1)]) hx hb (dk DX12_beginOne 12 rfl) rfl hl (by decide) rfl (fun ls hl => ?_)
  refine lv_iload_n hx hb (dk DX12_beginOne 13 rfl) rfl (lv_at hl 0 rfl) ?_
  refine lv_if_lt (tgt := 39) hx hb (dk DX12_beginOne 14 rfl) (by decide) (fun hc => ?_) (fun hc => ?_)
  · have h := h.1 hc
    exact hK1 x1 r2 S1 h _ _ hP hD hS ls (lv_sub hl [1, 2, 0] rfl)
  · have h := h.2 hc
    refine lv_aload_n hx hb (dk DX12_beginOne 15 rfl) rfl (lv_at hl 1 rfl) ?_
    refine lv_iload_n hx hb (dk DX12_beginOne 16 rfl) rfl (lv_at hl 0 rfl) ?_
    refine cMi (As := [.int r2]) (rest := []) X (m_isOf (l := l) (dC := dC) (dI := dI) (q := q) (cI := cI) (cJ := cJ) (cZ := cZ) (sz := _) r2 S1 h) (cwV 1 X.2.2.2.2.1 (gwV 141 142 143 24 135 rfl rfl rfl rfl rfl) rfl rfl rfl q_isOf ⟨Nat.le_of_ble_eq_true rfl, Nat.le_of_ble_eq_true rfl⟩) hP hD hS rfl hl.1 rfl (Nat.le_of_ble_eq_true rfl) (dk DX12_beginOne 17 rfl) (fun r4 S3 H locs h hP hD hS => ?_)
    refine lv_if_ne (tgt := 39) hx hb (dk DX12_beginOne 18 rfl) (by decide) (fun hc => ?_) (fun hc => ?_)
    · have h := h.1 hc
      exact hK1 x1 r2 S3 h _ _ hP hD hS ls (lv_sub hl [1, 2, 0] rfl)
    · have h := h.2 hc
      refine lv_iconst (v := 5) hx hb (dk DX12_beginOne 19 rfl) (by decide) ?_
      exact W.iret (v := 5) hx hb hr (fun t ht hW => ⟨⟨_, _, rfl, h, by rw [ht]; exact hP, va_K.moved hW.alike X.2.2.2.2.2.2.1, hD⟩, hS.F ht⟩) hS.2.2 (dk DX12_beginOne 20 rfl)
set_option maxHeartbeats 4000000 in
set_option maxRecDepth 100000 in
theorem h_beginOne_1 {p : Program} {l : Launch} {e : Env} {s : State} {m : MethodId} {below : List Frame} {meth : Method} {c : Code} {dC : Nat → ClassId} {dI : Nat → Nat → Nat} {q : Nat → Nat} {cI cJ cZ : ClassId} {A : Nat → Prop} {args : Array Value} {Post : Int32 → MS → Prop} {K : Hd_beginOne → MS → Prop} (X : XM p s m args c cX12_beginOne 3 ww_beginOne dC dI cI cJ cZ A) (hr : meth.sig.returnType = (some .int)) (hlocks : meth.locks = false) (hK0 : ∀ (x1 : Int32) (S : MS), K (.inl x1) S → ∀ (H : Heap) (locs : List Loc), va_P (dC, dI) vwCl (wM q cI cJ cZ S) H → va_D A (wM q cI cJ cZ S) → va_S A s.heap H locs → ∀ ls : Array Slot, lv_has ls 3 [(0, .ref (q 0)), (1, .int x1)] → W p l e (headSpec ww_beginOne ({ frames := 4, cells := 0, slots := 0, locals := 91 } : Room)).room s m args below meth c H locs 0 0 (MQ below (va_Qi Post (atM dC dI q cI cJ cZ A) A) args s 0 0 A) (F0 m 20 ls [])) (hK1 : ∀ (x1 : Int32) (x2 : Int32) (S : MS), K (.inr (.inl (x1, x2))) S → ∀ (H : Heap) (locs : List Loc), va_P (dC, dI) vwCl (wM q cI cJ cZ S) H → va_D A (wM q cI cJ cZ S) → va_S A s.heap H locs → ∀ ls : Array Slot, lv_has ls 3 [(0, .ref (q 0)), (1, .int x1), (2, .int x2)] → W p l e (headSpec ww_beginOne ({ frames := 4, cells := 0, slots := 0, locals := 91 } : Room)).room s m args below meth c H locs 0 0 (MQ below (va_Qi Post (atM dC dI q cI cJ cZ A) A) args s 0 0 A) (F0 m 39 ls [])) (hK2 : ∀ (x1 : Int32) (x2 : Int32) (S : MS), K (.inr (.inr (.inl (x1, x2)))) S → ∀ (H : Heap) (locs : List Loc), va_P (dC, dI) vwCl (wM q cI cJ cZ S) H → va_D A (wM q cI cJ cZ S) → va_S A s.heap H locs → ∀ ls : Array Slot, lv_has ls 3 [(0, .ref (q 0)), (1, .int x1), (2, .int x2)] → W p l e (headSpec ww_beginOne ({ frames := 4, cells := 0, slots := 0, locals := 91 } : Room)).room s m args below meth c H locs 0 0 (MQ below (va_Qi Post (atM dC dI q cI cJ cZ A) A) args s 0 0 A) (F0 m 51 ls [])) (hK3 : ∀ (x1 : Int32) (x2 : Int32) (t1 : Int32) (S : MS), K (.inr (.inr (.inr (.inl (x1, x2, t1))))) S → ∀ (H : Heap) (locs : List Loc), va_P (dC, dI) vwCl (wM q cI cJ cZ S) H → va_D A (wM q cI cJ cZ S) → va_S A s.heap H locs → ∀ ls : Array Slot, lv_has ls 3 [(0, .ref (q 0)), (1, .int x1), (2, .int x2)] → W p l e (headSpec ww_beginOne ({ frames := 4, cells := 0, slots := 0, locals := 91 } : Room)).room s m args below meth c H locs 0 0 (MQ below (va_Qi Post (atM dC dI q cI cJ cZ A) A) args s 0 0 A) (F0 m 65 ls [.int t1, .ref (q 0)])) (hK4 : ∀ (x1 : Int32) (x2 : Int32) (t1 : Int32) (t2 : Int32) (S : MS), K (.inr (.inr (.inr (.inr (.inl (x1, x2, t1, t2)))))) S → ∀ (H : Heap) (locs : List Loc), va_P (dC, dI) vwCl (wM q cI cJ cZ S) H → va_D A (wM q cI cJ cZ S) → va_S A s.heap H locs → ∀ ls : Array Slot, lv_has ls 3 [(0, .ref (q 0)), (1, .int x1), (2, .int x2)] → W p l e (headSpec ww_beginOne ({ frames := 4, cells := 0, slots := 0, locals := 91 } : Room)).room s m args below meth c H locs 0 0 (MQ below (va_Qi Post (atM dC dI q cI cJ cZ A) A) args s 0 0 A) (F0 m 81 ls [.int t2, .int t1, .ref (q 0)])) (hK5 : ∀ (x1 : Int32) (x2 : Int32) (S : MS), K (.inr (.inr (.inr (.inr (.inr (x1, x2)))))) S → ∀ (H : Heap) (locs : List Loc), va_P (dC, dI) vwCl (wM q cI cJ cZ S) H → va_D A (wM q cI cJ cZ S) → va_S A s.heap H locs → ∀ ls : Array Slot, lv_has ls 3 [(0, .ref (q 0)), (1, .int x1), (2, .int x2)] → W p l e (headSpec ww_beginOne ({ frames := 4, cells := 0, slots := 0, locals := 91 } : Room)).room s m args below meth c H locs 0 0 (MQ below (va_Qi Post (atM dC dI q cI cJ cZ A) A) args s 0 0 A) (F0 m 151 ls [])) (x1 : Int32) (x2 : Int32) (S : MS) (h : B_beginOne Post K (.inr (.inl (x1, x2))) S) : ∀ (H : Heap) (locs : List Loc), va_P (dC, dI) vwCl (wM q cI cJ cZ S) H → va_D A (wM q cI cJ cZ S) → va_S A s.heap H locs → ∀ ls : Array Slot, lv_has ls 3 [(0, .ref (q 0)), (1, .int x1), (2, .int x2)] → W p l e (headSpec ww_beginOne ({ frames := 4, cells := 0, slots := 0, locals := 91 } : Room)).room s m args below meth c H locs 0 0 (MQ below (va_Qi Post (atM dC dI q cI cJ cZ A) A) args s 0 0 A) (F0 m 39 ls []) := by
  have hx := X.1
  have hb := X.2.1
  intro H locs hP hD hS ls hl
  have lk102 := X.2.2.2.2.1 (.fieldLink RX12 102 "BreathOnLoanModel" "token" "I") (inW 71 rfl)
  have lk108 := X.2.2.2.2.1 (.fieldLink RX12 108 "BreathOnLoanModel" "number" "I") (inW 72 rfl)
  have lk115 := X.2.2.2.2.1 (.fieldLink RX12 115 "BreathOnLoanModel" "word" "J") (inW 74 rfl)
  dsimp only [B_beginOne] at h
  refine lv_aload_n hx hb (dk DX12_beginOne 21 rfl) rfl (lv_at hl 0 rfl) ?_
  refine gM X hP 9 (by decide) rfl lk102 (dk DX12_beginOne 22 rfl) ?_
  refine lv_iconst (v := 1) hx hb (dk DX12_beginOne 23 rfl) (by decide) ?_
  refine lv_icmp_eq (tgt := 51) hx hb (dk DX12_beginOne 24 rfl) (by decide) (fun hc => ?_) (fun hc => ?_)
  · have h := h.1 hc
    exact hK2 x1 x2 S h _ _ hP hD hS ls (lv_sub hl [0, 1, 2] rfl)
  · have h := h.2 hc
    refine lv_iload_n hx hb (dk DX12_beginOne 25 rfl) rfl (lv_at hl 2 rfl) ?_
    refine lv_if_lt (tgt := 94) hx hb (dk DX12_beginOne 26 rfl) (by decide) (fun hc => ?_) (fun hc => ?_)
    · have h := h.1 hc
      refine lv_aload_n hx hb (dk DX12_beginOne 50 rfl) rfl (lv_at hl 0 rfl) ?_
      refine gM X hP 9 (by decide) rfl lk102 (dk DX12_beginOne 51 rfl) ?_
      refine lv_bipush (v := 40) hx hb (dk DX12_beginOne 52 rfl) (by decide) ?_
      refine lv_icmp_ne (tgt := 110) hx hb (dk DX12_beginOne 53 rfl) (by decide) (fun hc => ?_) (fun hc => ?_)
      · have h := h.1 hc
        refine lv_aload_n hx hb (dk DX12_beginOne 58 rfl) rfl (lv_at hl 0 rfl) ?_
        refine gM X hP 9 (by decide) rfl lk102 (dk DX12_beginOne 59 rfl) ?_
        refine lv_bipush (v := 45) hx hb (dk DX12_beginOne 60 rfl) (by decide) ?_
        refine lv_icmp_ne (tgt := 125) hx hb (dk DX12_beginOne 61 rfl) (by decide) (fun hc => ?_) (fun hc => ?_)
        · have h := h.1 hc
          refine lv_aload_n hx hb (dk DX12_beginOne 66 rfl) rfl (lv_at hl 0 rfl) ?_
          refine gM X hP 9 (by decide) rfl lk102 (dk DX12_beginOne 67 rfl) ?_
          refine lv_iconst (v := 2) hx hb (dk DX12_beginOne 68 rfl) (by decide) ?_
          refine lv_icmp_ne (tgt := 151) hx hb (dk DX12_beginOne 69 rfl) (by decide) (fun hc => ?_) (fun hc => ?_)
          · have h := h.1 hc
            exact hK5 x1 x2 S h _ _ hP hD hS ls (lv_sub hl [0, 1, 2] rfl)
          · have h := h.2 hc
            refine lv_aload_n hx hb (dk DX12_beginOne 70 rfl) rfl (lv_at hl 0 rfl) ?_
            refine gM X hP 11 (by decide) rfl lk115 (dk DX12_beginOne 71 rfl) ?_
            refine lv_ldc2 (v := (26982)) hx hb X.2.2.2.1 (X.2.2.2.2.1 (.constantLong RX12 179 (26982)) (inW 137 rfl)) (dk DX12_beginOne 72 rfl) ?_
            refine W.lcmp hx hb (dk DX12_beginOne 73 rfl) ?_
            refine lv_if_ne (tgt := 151) hx hb (dk DX12_beginOne 74 rfl) (by decide) (fun hc => ?_) (fun hc => ?_)
            · have h := h.1 hc
              exact hK5 x1 x2 S h _ _ hP hD hS ls (lv_sub hl [0, 1, 2] rfl)
            · have h := h.2 hc
              refine lv_aload_n hx hb (dk DX12_beginOne 75 rfl) rfl (lv_at hl 0 rfl) ?_
              refine lv_bipush (v := 41) hx hb (dk DX12_beginOne 76 rfl) (by decide) ?_
              refine cMi (As := [.int 41]) (rest := []) X (m_opensBy (l := l) (dC := dC) (dI := dI) (q := q) (cI := cI) (cJ := cJ) (cZ := cZ) (sz := _) 41 S h) (cwV 1 X.2.2.2.2.1 (gwV 147 148 149 24 125 rfl rfl rfl rfl rfl) rfl rfl rfl q_opensBy ⟨Nat.le_of_ble_eq_true rfl, Nat.le_of_ble_eq_true rfl⟩) hP hD hS rfl hl.1 rfl (Nat.le_of_ble_eq_true rfl) (dk DX12_beginOne 77 rfl) (fun r6 S5 H locs h hP hD hS => ?_)
              exact W.iret (v := r6) hx hb hr (fun t ht hW => ⟨⟨_, _, rfl, h, by rw [ht]; exact hP, va_K.moved hW.alike X.2.2.2.2.2.2.1, hD⟩, hS.F ht⟩) hS.2.2 (dk DX12_beginOne 78 rfl)
        · have h := h.2 hc
          refine lv_aload_n hx hb (dk DX12_beginOne 62 rfl) rfl (lv_at hl 0 rfl) ?_
          refine lv_iconst (v := 2) hx hb (dk DX12_beginOne 63 rfl) (by decide) ?_
          refine cMi (As := [.int 2]) (rest := []) X (m_opensBy (l := l) (dC := dC) (dI := dI) (q := q) (cI := cI) (cJ := cJ) (cZ := cZ) (sz := _) 2 S h) (cwV 1 X.2.2.2.2.1 (gwV 147 148 149 24 125 rfl rfl rfl rfl rfl) rfl rfl rfl q_opensBy ⟨Nat.le_of_ble_eq_true rfl, Nat.le_of_ble_eq_true rfl⟩) hP hD hS rfl hl.1 rfl (Nat.le_of_ble_eq_true rfl) (dk DX12_beginOne 64 rfl) (fun r8 S7 H locs h hP hD hS => ?_)
          exact W.iret (v := r8) hx hb hr (fun t ht hW => ⟨⟨_, _, rfl, h, by rw [ht]; exact hP, va_K.moved hW.alike X.2.2.2.2.2.2.1, hD⟩, hS.F ht⟩) hS.2.2 (dk DX12_beginOne 65 rfl)
      · have h := h.2 hc
        refine lv_aload_n hx hb (dk DX12_beginOne 54 rfl) rfl (lv_at hl 0 rfl) ?_
        refine lv_bipush (v := 40) hx hb (dk DX12_beginOne 55 rfl) (by decide) ?_
        refine cMi (As := [.int 40]) (rest := []) X (m_opensBy (l := l) (dC := dC) (dI := dI) (q := q) (cI := cI) (cJ := cJ) (cZ := cZ) (sz := _) 40 S h) (cwV 1 X.2.2.2.2.1 (gwV 147 148 149 24 125 rfl rfl rfl rfl rfl) rfl rfl rfl q_opensBy ⟨Nat.le_of_ble_eq_true rfl, Nat.le_of_ble_eq_true rfl⟩) hP hD hS rfl hl.1 rfl (Nat.le_of_ble_eq_true rfl) (dk DX12_beginOne 56 rfl) (fun r10 S9 H locs h hP hD hS => ?_)
        exact W.iret (v := r10) hx hb hr (fun t ht hW => ⟨⟨_, _, rfl, h, by rw [ht]; exact hP, va_K.moved hW.alike X.2.2.2.2.2.2.1, hD⟩, hS.F ht⟩) hS.2.2 (dk DX12_beginOne 57 rfl)
    · have h := h.2 hc
      exact hK2 x1 x2 S h _ _ hP hD hS ls (lv_sub hl [0, 1, 2] rfl)
set_option maxHeartbeats 4000000 in
set_option maxRecDepth 100000 in
theorem h_beginOne_2 {p : Program} {l : Launch} {e : Env} {s : State} {m : MethodId} {below : List Frame} {meth : Method} {c : Code} {dC : Nat → ClassId} {dI : Nat → Nat → Nat} {q : Nat → Nat} {cI cJ cZ : ClassId} {A : Nat → Prop} {args : Array Value} {Post : Int32 → MS → Prop} {K : Hd_beginOne → MS → Prop} (X : XM p s m args c cX12_beginOne 3 ww_beginOne dC dI cI cJ cZ A) (hr : meth.sig.returnType = (some .int)) (hlocks : meth.locks = false) (hK0 : ∀ (x1 : Int32) (S : MS), K (.inl x1) S → ∀ (H : Heap) (locs : List Loc), va_P (dC, dI) vwCl (wM q cI cJ cZ S) H → va_D A (wM q cI cJ cZ S) → va_S A s.heap H locs → ∀ ls : Array Slot, lv_has ls 3 [(0, .ref (q 0)), (1, .int x1)] → W p l e (headSpec ww_beginOne ({ frames := 4, cells := 0, slots := 0, locals := 91 } : Room)).room s m args below meth c H locs 0 0 (MQ below (va_Qi Post (atM dC dI q cI cJ cZ A) A) args s 0 0 A) (F0 m 20 ls [])) (hK1 : ∀ (x1 : Int32) (x2 : Int32) (S : MS), K (.inr (.inl (x1, x2))) S → ∀ (H : Heap) (locs : List Loc), va_P (dC, dI) vwCl (wM q cI cJ cZ S) H → va_D A (wM q cI cJ cZ S) → va_S A s.heap H locs → ∀ ls : Array Slot, lv_has ls 3 [(0, .ref (q 0)), (1, .int x1), (2, .int x2)] → W p l e (headSpec ww_beginOne ({ frames := 4, cells := 0, slots := 0, locals := 91 } : Room)).room s m args below meth c H locs 0 0 (MQ below (va_Qi Post (atM dC dI q cI cJ cZ A) A) args s 0 0 A) (F0 m 39 ls [])) (hK2 : ∀ (x1 : Int32) (x2 : Int32) (S : MS), K (.inr (.inr (.inl (x1, x2)))) S → ∀ (H : Heap) (locs : List Loc), va_P (dC, dI) vwCl (wM q cI cJ cZ S) H → va_D A (wM q cI cJ cZ S) → va_S A s.heap H locs → ∀ ls : Array Slot, lv_has ls 3 [(0, .ref (q 0)), (1, .int x1), (2, .int x2)] → W p l e (headSpec ww_beginOne ({ frames := 4, cells := 0, slots := 0, locals := 91 } : Room)).room s m args below meth c H locs 0 0 (MQ below (va_Qi Post (atM dC dI q cI cJ cZ A) A) args s 0 0 A) (F0 m 51 ls [])) (hK3 : ∀ (x1 : Int32) (x2 : Int32) (t1 : Int32) (S : MS), K (.inr (.inr (.inr (.inl (x1, x2, t1))))) S → ∀ (H : Heap) (locs : List Loc), va_P (dC, dI) vwCl (wM q cI cJ cZ S) H → va_D A (wM q cI cJ cZ S) → va_S A s.heap H locs → ∀ ls : Array Slot, lv_has ls 3 [(0, .ref (q 0)), (1, .int x1), (2, .int x2)] → W p l e (headSpec ww_beginOne ({ frames := 4, cells := 0, slots := 0, locals := 91 } : Room)).room s m args below meth c H locs 0 0 (MQ below (va_Qi Post (atM dC dI q cI cJ cZ A) A) args s 0 0 A) (F0 m 65 ls [.int t1, .ref (q 0)])) (hK4 : ∀ (x1 : Int32) (x2 : Int32) (t1 : Int32) (t2 : Int32) (S : MS), K (.inr (.inr (.inr (.inr (.inl (x1, x2, t1, t2)))))) S → ∀ (H : Heap) (locs : List Loc), va_P (dC, dI) vwCl (wM q cI cJ cZ S) H → va_D A (wM q cI cJ cZ S) → va_S A s.heap H locs → ∀ ls : Array Slot, lv_has ls 3 [(0, .ref (q 0)), (1, .int x1), (2, .int x2)] → W p l e (headSpec ww_beginOne ({ frames := 4, cells := 0, slots := 0, locals := 91 } : Room)).room s m args below meth c H locs 0 0 (MQ below (va_Qi Post (atM dC dI q cI cJ cZ A) A) args s 0 0 A) (F0 m 81 ls [.int t2, .int t1, .ref (q 0)])) (hK5 : ∀ (x1 : Int32) (x2 : Int32) (S : MS), K (.inr (.inr (.inr (.inr (.inr (x1, x2)))))) S → ∀ (H : Heap) (locs : List Loc), va_P (dC, dI) vwCl (wM q cI cJ cZ S) H → va_D A (wM q cI cJ cZ S) → va_S A s.heap H locs → ∀ ls : Array Slot, lv_has ls 3 [(0, .ref (q 0)), (1, .int x1), (2, .int x2)] → W p l e (headSpec ww_beginOne ({ frames := 4, cells := 0, slots := 0, locals := 91 } : Room)).room s m args below meth c H locs 0 0 (MQ below (va_Qi Post (atM dC dI q cI cJ cZ A) A) args s 0 0 A) (F0 m 151 ls [])) (x1 : Int32) (x2 : Int32) (S : MS) (h : B_beginOne Post K (.inr (.inr (.inl (x1, x2)))) S) : ∀ (H : Heap) (locs : List Loc), va_P (dC, dI) vwCl (wM q cI cJ cZ S) H → va_D A (wM q cI cJ cZ S) → va_S A s.heap H locs → ∀ ls : Array Slot, lv_has ls 3 [(0, .ref (q 0)), (1, .int x1), (2, .int x2)] → W p l e (headSpec ww_beginOne ({ frames := 4, cells := 0, slots := 0, locals := 91 } : Room)).room s m args below meth c H locs 0 0 (MQ below (va_Qi Post (atM dC dI q cI cJ cZ A) A) args s 0 0 A) (F0 m 51 ls []) := by
  have hx := X.1
  have hb := X.2.1
  intro H locs hP hD hS ls hl
  have lk102 := X.2.2.2.2.1 (.fieldLink RX12 102 "BreathOnLoanModel" "token" "I") (inW 71 rfl)
  have lk108 := X.2.2.2.2.1 (.fieldLink RX12 108 "BreathOnLoanModel" "number" "I") (inW 72 rfl)
  have lk115 := X.2.2.2.2.1 (.fieldLink RX12 115 "BreathOnLoanModel" "word" "J") (inW 74 rfl)
  dsimp only [B_beginOne] at h
  refine lv_aload_n hx hb (dk DX12_beginOne 27 rfl) rfl (lv_at hl 0 rfl) ?_
  refine lv_aload_n hx hb (dk DX12_beginOne 28 rfl) rfl (lv_at hl 0 rfl) ?_
  refine gM X hP 9 (by decide) rfl lk102 (dk DX12_beginOne 29 rfl) ?_
  refine lv_iconst (v := 1) hx hb (dk DX12_beginOne 30 rfl) (by decide) ?_
  refine lv_icmp_ne (tgt := 64) hx hb (dk DX12_beginOne 31 rfl) (by decide) (fun hc => ?_) (fun hc => ?_)
  · have h := h.1 hc
    refine lv_iconst (v := 1) hx hb (dk DX12_beginOne 34 rfl) (by decide) ?_
    exact hK3 x1 x2 1 S h _ _ hP hD hS ls (lv_sub hl [0, 1, 2] rfl)
  · have h := h.2 hc
    refine lv_iconst (v := 0) hx hb (dk DX12_beginOne 32 rfl) (by decide) ?_
    refine lv_goto (tgt := 65) hx hb (dk DX12_beginOne 33 rfl) (by decide) ?_
    exact hK3 x1 x2 0 S h _ _ hP hD hS ls (lv_sub hl [0, 1, 2] rfl)
set_option maxHeartbeats 4000000 in
set_option maxRecDepth 100000 in
theorem h_beginOne_3 {p : Program} {l : Launch} {e : Env} {s : State} {m : MethodId} {below : List Frame} {meth : Method} {c : Code} {dC : Nat → ClassId} {dI : Nat → Nat → Nat} {q : Nat → Nat} {cI cJ cZ : ClassId} {A : Nat → Prop} {args : Array Value} {Post : Int32 → MS → Prop} {K : Hd_beginOne → MS → Prop} (X : XM p s m args c cX12_beginOne 3 ww_beginOne dC dI cI cJ cZ A) (hr : meth.sig.returnType = (some .int)) (hlocks : meth.locks = false) (hK0 : ∀ (x1 : Int32) (S : MS), K (.inl x1) S → ∀ (H : Heap) (locs : List Loc), va_P (dC, dI) vwCl (wM q cI cJ cZ S) H → va_D A (wM q cI cJ cZ S) → va_S A s.heap H locs → ∀ ls : Array Slot, lv_has ls 3 [(0, .ref (q 0)), (1, .int x1)] → W p l e (headSpec ww_beginOne ({ frames := 4, cells := 0, slots := 0, locals := 91 } : Room)).room s m args below meth c H locs 0 0 (MQ below (va_Qi Post (atM dC dI q cI cJ cZ A) A) args s 0 0 A) (F0 m 20 ls [])) (hK1 : ∀ (x1 : Int32) (x2 : Int32) (S : MS), K (.inr (.inl (x1, x2))) S → ∀ (H : Heap) (locs : List Loc), va_P (dC, dI) vwCl (wM q cI cJ cZ S) H → va_D A (wM q cI cJ cZ S) → va_S A s.heap H locs → ∀ ls : Array Slot, lv_has ls 3 [(0, .ref (q 0)), (1, .int x1), (2, .int x2)] → W p l e (headSpec ww_beginOne ({ frames := 4, cells := 0, slots := 0, locals := 91 } : Room)).room s m args below meth c H locs 0 0 (MQ below (va_Qi Post (atM dC dI q cI cJ cZ A) A) args s 0 0 A) (F0 m 39 ls [])) (hK2 : ∀ (x1 : Int32) (x2 : Int32) (S : MS), K (.inr (.inr (.inl (x1, x2)))) S → ∀ (H : Heap) (locs : List Loc), va_P (dC, dI) vwCl (wM q cI cJ cZ S) H → va_D A (wM q cI cJ cZ S) → va_S A s.heap H locs → ∀ ls : Array Slot, lv_has ls 3 [(0, .ref (q 0)), (1, .int x1), (2, .int x2)] → W p l e (headSpec ww_beginOne ({ frames := 4, cells := 0, slots := 0, locals := 91 } : Room)).room s m args below meth c H locs 0 0 (MQ below (va_Qi Post (atM dC dI q cI cJ cZ A) A) args s 0 0 A) (F0 m 51 ls [])) (hK3 : ∀ (x1 : Int32) (x2 : Int32) (t1 : Int32) (S : MS), K (.inr (.inr (.inr (.inl (x1, x2, t1))))) S → ∀ (H : Heap) (locs : List Loc), va_P (dC, dI) vwCl (wM q cI cJ cZ S) H → va_D A (wM q cI cJ cZ S) → va_S A s.heap H locs → ∀ ls : Array Slot, lv_has ls 3 [(0, .ref (q 0)), (1, .int x1), (2, .int x2)] → W p l e (headSpec ww_beginOne ({ frames := 4, cells := 0, slots := 0, locals := 91 } : Room)).room s m args below meth c H locs 0 0 (MQ below (va_Qi Post (atM dC dI q cI cJ cZ A) A) args s 0 0 A) (F0 m 65 ls [.int t1, .ref (q 0)])) (hK4 : ∀ (x1 : Int32) (x2 : Int32) (t1 : Int32) (t2 : Int32) (S : MS), K (.inr (.inr (.inr (.inr (.inl (x1, x2, t1, t2)))))) S → ∀ (H : Heap) (locs : List Loc), va_P (dC, dI) vwCl (wM q cI cJ cZ S) H → va_D A (wM q cI cJ cZ S) → va_S A s.heap H locs → ∀ ls : Array Slot, lv_has ls 3 [(0, .ref (q 0)), (1, .int x1), (2, .int x2)] → W p l e (headSpec ww_beginOne ({ frames := 4, cells := 0, slots := 0, locals := 91 } : Room)).room s m args below meth c H locs 0 0 (MQ below (va_Qi Post (atM dC dI q cI cJ cZ A) A) args s 0 0 A) (F0 m 81 ls [.int t2, .int t1, .ref (q 0)])) (hK5 : ∀ (x1 : Int32) (x2 : Int32) (S : MS), K (.inr (.inr (.inr (.inr (.inr (x1, x2)))))) S → ∀ (H : Heap) (locs : List Loc), va_P (dC, dI) vwCl (wM q cI cJ cZ S) H → va_D A (wM q cI cJ cZ S) → va_S A s.heap H locs → ∀ ls : Array Slot, lv_has ls 3 [(0, .ref (q 0)), (1, .int x1), (2, .int x2)] → W p l e (headSpec ww_beginOne ({ frames := 4, cells := 0, slots := 0, locals := 91 } : Room)).room s m args below meth c H locs 0 0 (MQ below (va_Qi Post (atM dC dI q cI cJ cZ A) A) args s 0 0 A) (F0 m 151 ls [])) (x1 : Int32) (x2 : Int32) (t1 : Int32) (S : MS) (h : B_beginOne Post K (.inr (.inr (.inr (.inl (x1, x2, t1))))) S) : ∀ (H : Heap) (locs : List Loc), va_P (dC, dI) vwCl (wM q cI cJ cZ S) H → va_D A (wM q cI cJ cZ S) → va_S A s.heap H locs → ∀ ls : Array Slot, lv_has ls 3 [(0, .ref (q 0)), (1, .int x1), (2, .int x2)] → W p l e (headSpec ww_beginOne ({ frames := 4, cells := 0, slots := 0, locals := 91 } : Room)).room s m args below meth c H locs 0 0 (MQ below (va_Qi Post (atM dC dI q cI cJ cZ A) A) args s 0 0 A) (F0 m 65 ls [.int t1, .ref (q 0)]) := by
  have hx := X.1
  have hb := X.2.1
  intro H locs hP hD hS ls hl
  have lk102 := X.2.2.2.2.1 (.fieldLink RX12 102 "BreathOnLoanModel" "token" "I") (inW 71 rfl)
  have lk108 := X.2.2.2.2.1 (.fieldLink RX12 108 "BreathOnLoanModel" "number" "I") (inW 72 rfl)
  have lk115 := X.2.2.2.2.1 (.fieldLink RX12 115 "BreathOnLoanModel" "word" "J") (inW 74 rfl)
  dsimp only [B_beginOne] at h
  refine lv_aload_n hx hb (dk DX12_beginOne 35 rfl) rfl (lv_at hl 0 rfl) ?_
  refine gM X hP 9 (by decide) rfl lk102 (dk DX12_beginOne 36 rfl) ?_
  refine lv_iconst (v := 1) hx hb (dk DX12_beginOne 37 rfl) (by decide) ?_
  refine lv_icmp_ne (tgt := 80) hx hb (dk DX12_beginOne 38 rfl) (by decide) (fun hc => ?_) (fun hc => ?_)
  · have h := h.1 hc
    refine lv_iload_n hx hb (dk DX12_beginOne 42 rfl) rfl (lv_at hl 2 rfl) ?_
    exact hK4 x1 x2 t1 x2 S h _ _ hP hD hS ls (lv_sub hl [0, 1, 2] rfl)
  · have h := h.2 hc
    refine lv_aload_n hx hb (dk DX12_beginOne 39 rfl) rfl (lv_at hl 0 rfl) ?_
    refine gM X hP 10 (by decide) rfl lk108 (dk DX12_beginOne 40 rfl) ?_
    refine lv_goto (tgt := 81) hx hb (dk DX12_beginOne 41 rfl) (by decide) ?_
    exact hK4 x1 x2 t1 (S.1 10) S h _ _ hP hD hS ls (lv_sub hl [0, 1, 2] rfl)
set_option maxHeartbeats 4000000 in
set_option maxRecDepth 100000 in
theorem h_beginOne_4 {p : Program} {l : Launch} {e : Env} {s : State} {m : MethodId} {below : List Frame} {meth : Method} {c : Code} {dC : Nat → ClassId} {dI : Nat → Nat → Nat} {q : Nat → Nat} {cI cJ cZ : ClassId} {A : Nat → Prop} {args : Array Value} {Post : Int32 → MS → Prop} {K : Hd_beginOne → MS → Prop} (X : XM p s m args c cX12_beginOne 3 ww_beginOne dC dI cI cJ cZ A) (hr : meth.sig.returnType = (some .int)) (hlocks : meth.locks = false) (hK0 : ∀ (x1 : Int32) (S : MS), K (.inl x1) S → ∀ (H : Heap) (locs : List Loc), va_P (dC, dI) vwCl (wM q cI cJ cZ S) H → va_D A (wM q cI cJ cZ S) → va_S A s.heap H locs → ∀ ls : Array Slot, lv_has ls 3 [(0, .ref (q 0)), (1, .int x1)] → W p l e (headSpec ww_beginOne ({ frames := 4, cells := 0, slots := 0, locals := 91 } : Room)).room s m args below meth c H locs 0 0 (MQ below (va_Qi Post (atM dC dI q cI cJ cZ A) A) args s 0 0 A) (F0 m 20 ls [])) (hK1 : ∀ (x1 : Int32) (x2 : Int32) (S : MS), K (.inr (.inl (x1, x2))) S → ∀ (H : Heap) (locs : List Loc), va_P (dC, dI) vwCl (wM q cI cJ cZ S) H → va_D A (wM q cI cJ cZ S) → va_S A s.heap H locs → ∀ ls : Array Slot, lv_has ls 3 [(0, .ref (q 0)), (1, .int x1), (2, .int x2)] → W p l e (headSpec ww_beginOne ({ frames := 4, cells := 0, slots := 0, locals := 91 } : Room)).room s m args below meth c H locs 0 0 (MQ below (va_Qi Post (atM dC dI q cI cJ cZ A) A) args s 0 0 A) (F0 m 39 ls [])) (hK2 : ∀ (x1 : Int32) (x2 : Int32) (S : MS), K (.inr (.inr (.inl (x1, x2)))) S → ∀ (H : Heap) (locs : List Loc), va_P (dC, dI) vwCl (wM q cI cJ cZ S) H → va_D A (wM q cI cJ cZ S) → va_S A s.heap H locs → ∀ ls : Array Slot, lv_has ls 3 [(0, .ref (q 0)), (1, .int x1), (2, .int x2)] → W p l e (headSpec ww_beginOne ({ frames := 4, cells := 0, slots := 0, locals := 91 } : Room)).room s m args below meth c H locs 0 0 (MQ below (va_Qi Post (atM dC dI q cI cJ cZ A) A) args s 0 0 A) (F0 m 51 ls [])) (hK3 : ∀ (x1 : Int32) (x2 : Int32) (t1 : Int32) (S : MS), K (.inr (.inr (.inr (.inl (x1, x2, t1))))) S → ∀ (H : Heap) (locs : List Loc), va_P (dC, dI) vwCl (wM q cI cJ cZ S) H → va_D A (wM q cI cJ cZ S) → va_S A s.heap H locs → ∀ ls : Array Slot, lv_has ls 3 [(0, .ref (q 0)), (1, .int x1), (2, .int x2)] → W p l e (headSpec ww_beginOne ({ frames := 4, cells := 0, slots := 0, locals := 91 } : Room)).room s m args below meth c H locs 0 0 (MQ below (va_Qi Post (atM dC dI q cI cJ cZ A) A) args s 0 0 A) (F0 m 65 ls [.int t1, .ref (q 0)])) (hK4 : ∀ (x1 : Int32) (x2 : Int32) (t1 : Int32) (t2 : Int32) (S : MS), K (.inr (.inr (.inr (.inr (.inl (x1, x2, t1, t2)))))) S → ∀ (H : Heap) (locs : List Loc), va_P (dC, dI) vwCl (wM q cI cJ cZ S) H → va_D A (wM q cI cJ cZ S) → va_S A s.heap H locs → ∀ ls : Array Slot, lv_has ls 3 [(0, .ref (q 0)), (1, .int x1), (2, .int x2)] → W p l e (headSpec ww_beginOne ({ frames := 4, cells := 0, slots := 0, locals := 91 } : Room)).room s m args below meth c H locs 0 0 (MQ below (va_Qi Post (atM dC dI q cI cJ cZ A) A) args s 0 0 A) (F0 m 81 ls [.int t2, .int t1, .ref (q 0)])) (hK5 : ∀ (x1 : Int32) (x2 : Int32) (S : MS), K (.inr (.inr (.inr (.inr (.inr (x1, x2)))))) S → ∀ (H : Heap) (locs : List Loc), va_P (dC, dI) vwCl (wM q cI cJ cZ S) H → va_D A (wM q cI cJ cZ S) → va_S A s.heap H locs → ∀ ls : Array Slot, lv_has ls 3 [(0, .ref (q 0)), (1, .int x1), (2, .int x2)] → W p l e (headSpec ww_beginOne ({ frames := 4, cells := 0, slots := 0, locals := 91 } : Room)).room s m args below meth c H locs 0 0 (MQ below (va_Qi Post (atM dC dI q cI cJ cZ A) A) args s 0 0 A) (F0 m 151 ls [])) (x1 : Int32) (x2 : Int32) (t1 : Int32) (t2 : Int32) (S : MS) (h : B_beginOne Post K (.inr (.inr (.inr (.inr (.inl (x1, x2, t1, t2)))))) S) : ∀ (H : Heap) (locs : List Loc), va_P (dC, dI) vwCl (wM q cI cJ cZ S) H → va_D A (wM q cI cJ cZ S) → va_S A s.heap H locs → ∀ ls : Array Slot, lv_has ls 3 [(0, .ref (q 0)), (1, .int x1), (2, .int x2)] → W p l e (headSpec ww_beginOne ({ frames := 4, cells := 0, slots := 0, locals := 91 } : Room)).room s m args below meth c H locs 0 0 (MQ below (va_Qi Post (atM dC dI q cI cJ cZ A) A) args s 0 0 A) (F0 m 81 ls [.int t2, .int t1, .ref (q 0)]) := by
  have hx := X.1
  have hb := X.2.1
  intro H locs hP hD hS ls hl
  have lk102 := X.2.2.2.2.1 (.fieldLink RX12 102 "BreathOnLoanModel" "token" "I") (inW 71 rfl)
  have lk108 := X.2.2.2.2.1 (.fieldLink RX12 108 "BreathOnLoanModel" "number" "I") (inW 72 rfl)
  have lk115 := X.2.2.2.2.1 (.fieldLink RX12 115 "BreathOnLoanModel" "word" "J") (inW 74 rfl)
  dsimp only [B_beginOne] at h
  refine cMv (As := [.int t1, .int t2]) (rest := []) X (m_emit (l := l) (dC := dC) (dI := dI) (q := q) (cI := cI) (cJ := cJ) (cZ := cZ) (sz := _) t1 t2 S h) (cwV 2 X.2.2.2.2.1 (gwV 101 102 103 24 91 rfl rfl rfl rfl rfl) rfl rfl rfl q_emit ⟨Nat.le_of_ble_eq_true rfl, Nat.le_of_ble_eq_true rfl⟩) hP hD hS rfl hl.1 rfl (Nat.le_of_ble_eq_true rfl) (dk DX12_beginOne 43 rfl) (fun S11 H locs h hP hD hS => ?_)
  refine lv_aload_n hx hb (dk DX12_beginOne 44 rfl) rfl (lv_at hl 0 rfl) ?_
  refine cMv (As := []) (rest := []) X (m_nextToken (l := l) (dC := dC) (dI := dI) (q := q) (cI := cI) (cJ := cJ) (cZ := cZ) (sz := _) S11 h) (cwV 0 X.2.2.2.2.1 (gwV 122 123 124 24 68 rfl rfl rfl rfl rfl) rfl rfl rfl q_nextToken ⟨Nat.le_of_ble_eq_true rfl, Nat.le_of_ble_eq_true rfl⟩) hP hD hS rfl hl.1 rfl (Nat.le_of_ble_eq_true rfl) (dk DX12_beginOne 45 rfl) (fun S12 H locs h hP hD hS => ?_)
  refine lv_aload_n hx hb (dk DX12_beginOne 46 rfl) rfl (lv_at hl 0 rfl) ?_
  refine cMv (As := []) (rest := []) X (m_whole (l := l) (dC := dC) (dI := dI) (q := q) (cI := cI) (cJ := cJ) (cZ := cZ) (sz := _) S12 h) (cwV 0 X.2.2.2.2.1 (gwV 144 145 146 24 104 rfl rfl rfl rfl rfl) rfl rfl rfl q_whole ⟨Nat.le_of_ble_eq_true rfl, Nat.le_of_ble_eq_true rfl⟩) hP hD hS rfl hl.1 rfl (Nat.le_of_ble_eq_true rfl) (dk DX12_beginOne 47 rfl) (fun S13 H locs h hP hD hS => ?_)
  refine lv_iconst (v := 0) hx hb (dk DX12_beginOne 48 rfl) (by decide) ?_
  exact W.iret (v := 0) hx hb hr (fun t ht hW => ⟨⟨_, _, rfl, h, by rw [ht]; exact hP, va_K.moved hW.alike X.2.2.2.2.2.2.1, hD⟩, hS.F ht⟩) hS.2.2 (dk DX12_beginOne 49 rfl)
set_option maxHeartbeats 4000000 in
set_option maxRecDepth 100000 in
theorem h_beginOne_5 {p : Program} {l : Launch} {e : Env} {s : State} {m : MethodId} {below : List Frame} {meth : Method} {c : Code} {dC : Nat → ClassId} {dI : Nat → Nat → Nat} {q : Nat → Nat} {cI cJ cZ : ClassId} {A : Nat → Prop} {args : Array Value} {Post : Int32 → MS → Prop} {K : Hd_beginOne → MS → Prop} (X : XM p s m args c cX12_beginOne 3 ww_beginOne dC dI cI cJ cZ A) (hr : meth.sig.returnType = (some .int)) (hlocks : meth.locks = false) (hK0 : ∀ (x1 : Int32) (S : MS), K (.inl x1) S → ∀ (H : Heap) (locs : List Loc), va_P (dC, dI) vwCl (wM q cI cJ cZ S) H → va_D A (wM q cI cJ cZ S) → va_S A s.heap H locs → ∀ ls : Array Slot, lv_has ls 3 [(0, .ref (q 0)), (1, .int x1)] → W p l e (headSpec ww_beginOne ({ frames := 4, cells := 0, slots := 0, locals := 91 } : Room)).room s m args below meth c H locs 0 0 (MQ below (va_Qi Post (atM dC dI q cI cJ cZ A) A) args s 0 0 A) (F0 m 20 ls [])) (hK1 : ∀ (x1 : Int32) (x2 : Int32) (S : MS), K (.inr (.inl (x1, x2))) S → ∀ (H : Heap) (locs : List Loc), va_P (dC, dI) vwCl (wM q cI cJ cZ S) H → va_D A (wM q cI cJ cZ S) → va_S A s.heap H locs → ∀ ls : Array Slot, lv_has ls 3 [(0, .ref (q 0)), (1, .int x1), (2, .int x2)] → W p l e (headSpec ww_beginOne ({ frames := 4, cells := 0, slots := 0, locals := 91 } : Room)).room s m args below meth c H locs 0 0 (MQ below (va_Qi Post (atM dC dI q cI cJ cZ A) A) args s 0 0 A) (F0 m 39 ls [])) (hK2 : ∀ (x1 : Int32) (x2 : Int32) (S : MS), K (.inr (.inr (.inl (x1, x2)))) S → ∀ (H : Heap) (locs : List Loc), va_P (dC, dI) vwCl (wM q cI cJ cZ S) H → va_D A (wM q cI cJ cZ S) → va_S A s.heap H locs → ∀ ls : Array Slot, lv_has ls 3 [(0, .ref (q 0)), (1, .int x1), (2, .int x2)] → W p l e (headSpec ww_beginOne ({ frames := 4, cells := 0, slots := 0, locals := 91 } : Room)).room s m args below meth c H locs 0 0 (MQ below (va_Qi Post (atM dC dI q cI cJ cZ A) A) args s 0 0 A) (F0 m 51 ls [])) (hK3 : ∀ (x1 : Int32) (x2 : Int32) (t1 : Int32) (S : MS), K (.inr (.inr (.inr (.inl (x1, x2, t1))))) S → ∀ (H : Heap) (locs : List Loc), va_P (dC, dI) vwCl (wM q cI cJ cZ S) H → va_D A (wM q cI cJ cZ S) → va_S A s.heap H locs → ∀ ls : Array Slot, lv_has ls 3 [(0, .ref (q 0)), (1, .int x1), (2, .int x2)] → W p l e (headSpec ww_beginOne ({ frames := 4, cells := 0, slots := 0, locals := 91 } : Room)).room s m args below meth c H locs 0 0 (MQ below (va_Qi Post (atM dC dI q cI cJ cZ A) A) args s 0 0 A) (F0 m 65 ls [.int t1, .ref (q 0)])) (hK4 : ∀ (x1 : Int32) (x2 : Int32) (t1 : Int32) (t2 : Int32) (S : MS), K (.inr (.inr (.inr (.inr (.inl (x1, x2, t1, t2)))))) S → ∀ (H : Heap) (locs : List Loc), va_P (dC, dI) vwCl (wM q cI cJ cZ S) H → va_D A (wM q cI cJ cZ S) → va_S A s.heap H locs → ∀ ls : Array Slot, lv_has ls 3 [(0, .ref (q 0)), (1, .int x1), (2, .int x2)] → W p l e (headSpec ww_beginOne ({ frames := 4, cells := 0, slots := 0, locals := 91 } : Room)).room s m args below meth c H locs 0 0 (MQ below (va_Qi Post (atM dC dI q cI cJ cZ A) A) args s 0 0 A) (F0 m 81 ls [.int t2, .int t1, .ref (q 0)])) (hK5 : ∀ (x1 : Int32) (x2 : Int32) (S : MS), K (.inr (.inr (.inr (.inr (.inr (x1, x2)))))) S → ∀ (H : Heap) (locs : List Loc), va_P (dC, dI) vwCl (wM q cI cJ cZ S) H → va_D A (wM q cI cJ cZ S) → va_S A s.heap H locs → ∀ ls : Array Slot, lv_has ls 3 [(0, .ref (q 0)), (1, .int x1), (2, .int x2)] → W p l e (headSpec ww_beginOne ({ frames := 4, cells := 0, slots := 0, locals := 91 } : Room)).room s m args below meth c H locs 0 0 (MQ below (va_Qi Post (atM dC dI q cI cJ cZ A) A) args s 0 0 A) (F0 m 151 ls [])) (x1 : Int32) (x2 : Int32) (S : MS) (h : B_beginOne Post K (.inr (.inr (.inr (.inr (.inr (x1, x2)))))) S) : ∀ (H : Heap) (locs : List Loc), va_P (dC, dI) vwCl (wM q cI cJ cZ S) H → va_D A (wM q cI cJ cZ S) → va_S A s.heap H locs → ∀ ls : Array Slot, lv_has ls 3 [(0, .ref (q 0)), (1, .int x1), (2, .int x2)] → W p l e (headSpec ww_beginOne ({ frames := 4, cells := 0, slots := 0, locals := 91 } : Room)).room s m args below meth c H locs 0 0 (MQ below (va_Qi Post (atM dC dI q cI cJ cZ A) A) args s 0 0 A) (F0 m 151 ls []) := by
  have hx := X.1
  have hb := X.2.1
  intro H locs hP hD hS ls hl
  have lk102 := X.2.2.2.2.1 (.fieldLink RX12 102 "BreathOnLoanModel" "token" "I") (inW 71 rfl)
  have lk108 := X.2.2.2.2.1 (.fieldLink RX12 108 "BreathOnLoanModel" "number" "I") (inW 72 rfl)
  have lk115 := X.2.2.2.2.1 (.fieldLink RX12 115 "BreathOnLoanModel" "word" "J") (inW 74 rfl)
  dsimp only [B_beginOne] at h
  refine lv_aload_n hx hb (dk DX12_beginOne 79 rfl) rfl (lv_at hl 0 rfl) ?_
  refine lv_bipush (v := 110) hx hb (dk DX12_beginOne 80 rfl) (by decide) ?_
  refine lv_bipush (v := 111) hx hb (dk DX12_beginOne 81 rfl) (by decide) ?_
  refine lv_bipush (v := 116) hx hb (dk DX12_beginOne 82 rfl) (by decide) ?_
  refine cSl (As := [.int 110, .int 111, .int 116]) (rest := [.ref (q 0)]) ⟨X.1, X.2.1, X.2.2.1, X.2.2.2.1, X.2.2.2.2.1⟩ (m_w3 (l := l) 110 111 116 h) (va_cwS 3 X.2.2.2.2.1 (gwS 84 85 24 82 rfl rfl rfl rfl) rfl rfl rfl q_w3 ⟨Nat.le_of_ble_eq_true rfl, Nat.le_of_ble_eq_true rfl⟩) rfl hl.1 rfl (Nat.le_of_ble_eq_true rfl) (dk DX12_beginOne 83 rfl) (fun r14 h => ?_)
  refine cMi (As := [.long r14]) (rest := []) X (m_isWord (l := l) (dC := dC) (dI := dI) (q := q) (cI := cI) (cJ := cJ) (cZ := cZ) (sz := _) r14 S h) (cwV 1 X.2.2.2.2.1 (gwV 150 151 152 24 90 rfl rfl rfl rfl rfl) rfl rfl rfl q_isWord ⟨Nat.le_of_ble_eq_true rfl, Nat.le_of_ble_eq_true rfl⟩) hP hD hS rfl hl.1 rfl (Nat.le_of_ble_eq_true rfl) (dk DX12_beginOne 84 rfl) (fun r16 S15 H locs h hP hD hS => ?_)
  refine lv_if_eq (tgt := 184) hx hb (dk DX12_beginOne 85 rfl) (by decide) (fun hc => ?_) (fun hc => ?_)
  · have h := h.1 hc
    refine lv_iconst (v := 1) hx hb (dk DX12_beginOne 94 rfl) (by decide) ?_
    exact W.iret (v := 1) hx hb hr (fun t ht hW => ⟨⟨_, _, rfl, h, by rw [ht]; exact hP, va_K.moved hW.alike X.2.2.2.2.2.2.1, hD⟩, hS.F ht⟩) hS.2.2 (dk DX12_beginOne 95 rfl)
  · have h := h.2 hc
    refine lv_aload_n hx hb (dk DX12_beginOne 86 rfl) rfl (lv_at hl 0 rfl) ?_
    refine lv_iload_n hx hb (dk DX12_beginOne 87 rfl) rfl (lv_at hl 1 rfl) ?_
    refine cMi (As := [.int x1]) (rest := []) X (m_isAskAhead (l := l) (dC := dC) (dI := dI) (q := q) (cI := cI) (cJ := cJ) (cZ := cZ) (sz := _) x1 S15 h) (cwV 1 X.2.2.2.2.1 (gwV 153 154 155 24 115 rfl rfl rfl rfl rfl) rfl rfl rfl q_isAskAhead ⟨Nat.le_of_ble_eq_true rfl, Nat.le_of_ble_eq_true rfl⟩) hP hD hS rfl hl.1 rfl (Nat.le_of_ble_eq_true rfl) (dk DX12_beginOne 88 rfl) (fun r18 S17 H locs h hP hD hS => ?_)
    refine lv_if_eq (tgt := 184) hx hb (dk DX12_beginOne 89 rfl) (by decide) (fun hc => ?_) (fun hc => ?_)
    · have h := h.1 hc
      refine lv_iconst (v := 1) hx hb (dk DX12_beginOne 94 rfl) (by decide) ?_
      exact W.iret (v := 1) hx hb hr (fun t ht hW => ⟨⟨_, _, rfl, h, by rw [ht]; exact hP, va_K.moved hW.alike X.2.2.2.2.2.2.1, hD⟩, hS.F ht⟩) hS.2.2 (dk DX12_beginOne 95 rfl)
    · have h := h.2 hc
      refine lv_aload_n hx hb (dk DX12_beginOne 90 rfl) rfl (lv_at hl 0 rfl) ?_
      refine lv_bipush (v := 20) hx hb (dk DX12_beginOne 91 rfl) (by decide) ?_
      refine cMi (As := [.int 20]) (rest := []) X (m_opensBy (l := l) (dC := dC) (dI := dI) (q := q) (cI := cI) (cJ := cJ) (cZ := cZ) (sz := _) 20 S17 h) (cwV 1 X.2.2.2.2.1 (gwV 147 148 149 24 125 rfl rfl rfl rfl rfl) rfl rfl rfl q_opensBy ⟨Nat.le_of_ble_eq_true rfl, Nat.le_of_ble_eq_true rfl⟩) hP hD hS rfl hl.1 rfl (Nat.le_of_ble_eq_true rfl) (dk DX12_beginOne 92 rfl) (fun r20 S19 H locs h hP hD hS => ?_)
      refine lv_goto (tgt := 185) hx hb (dk DX12_beginOne 93 rfl) (by decide) ?_
      exact W.iret (v := r20) hx hb hr (fun t ht hW => ⟨⟨_, _, rfl, h, by rw [ht]; exact hP, va_K.moved hW.alike X.2.2.2.2.2.2.1, hD⟩, hS.F ht⟩) hS.2.2 (dk DX12_beginOne 95 rfl)
set_option maxHeartbeats 4000000 in
set_option maxRecDepth 100000 in
theorem m_beginOne {l : Launch} {dC : Nat → ClassId} {dI : Nat → Nat → Nat} {q : Nat → Nat} {cI cJ cZ : ClassId} {sz : Nat} {Post : Int32 → MS → Prop} (a0 : Int32) (S : MS) (h : VC_beginOne Post a0 S) : Met l yX12_beginOne ww_beginOne ({ frames := 4, cells := 0, slots := 0, locals := 91 } : Room) (va_Pc [.ref (q 0), .int a0] (preM dC dI q cI cJ cZ S sz)) (va_Qi Post (atM dC dI q cI cJ cZ (va_A (wM q cI cJ cZ S) sz)) (va_A (wM q cI cJ cZ S) sz)) 0 0 (va_A (wM q cI cJ cZ S) sz) := by
  refine oM (cc := cX12_beginOne) (maxL := 3) (ret := (some .int)) (Qc := fun A => va_Qi Post (atM dC dI q cI cJ cZ A) A) (by decide) rfl (fun w h => List.mem_cons_of_mem _ (List.mem_append_right _ h)) rfl (Nat.le_of_ble_eq_true rfl) (fun p e s m below meth c A ls X hr hlocks hP hD hS hl => ?_)
  have hx := X.1
  have hb := X.2.1
  have hl : lv_has ls 3 [(0, .ref (q 0)), (1, .int a0)] := hl
  have lk102 := X.2.2.2.2.1 (.fieldLink RX12 102 "BreathOnLoanModel" "token" "I") (inW 71 rfl)
  have lk108 := X.2.2.2.2.1 (.fieldLink RX12 108 "BreathOnLoanModel" "number" "I") (inW 72 rfl)
  have lk115 := X.2.2.2.2.1 (.fieldLink RX12 115 "BreathOnLoanModel" "word" "J") (inW 74 rfl)
  generalize hargs : ([.ref (q 0), .int a0] : List Value).toArray = args at X ⊢
  have h := h (fun hd S => match hd with | (.inl x1) => ∀ (H : Heap) (locs : List Loc), va_P (dC, dI) vwCl (wM q cI cJ cZ S) H → va_D A (wM q cI cJ cZ S) → va_S A s.heap H locs → ∀ ls : Array Slot, lv_has ls 3 [(0, .ref (q 0)), (1, .int x1)] → W p l e (headSpec ww_beginOne ({ frames := 4, cells := 0, slots := 0, locals := 91 } : Room)).room s m args below meth c H locs 0 0 (MQ below (va_Qi Post (atM dC dI q cI cJ cZ A) A) args s 0 0 A) (F0 m 20 ls []) | (.inr (.inl (x1, x2))) => ∀ (H : Heap) (locs : List Loc), va_P (dC, dI) vwCl (wM q cI cJ cZ S) H → va_D A (wM q cI cJ cZ S) → va_S A s.heap H locs → ∀ ls : Array Slot, lv_has ls 3 [(0, .ref (q 0)), (1, .int x1), (2, .int x2)] → W p l e (headSpec ww_beginOne ({ frames := 4, cells := 0, slots := 0, locals := 91 } : Room)).room s m args below meth c H locs 0 0 (MQ below (va_Qi Post (atM dC dI q cI cJ cZ A) A) args s 0 0 A) (F0 m 39 ls []) | (.inr (.inr (.inl (x1, x2)))) => ∀ (H : Heap) (locs : List Loc), va_P (dC, dI) vwCl (wM q cI cJ cZ S) H → va_D A (wM q cI cJ cZ S) → va_S A s.heap H locs → ∀ ls : Array Slot, lv_has ls 3 [(0, .ref (q 0)), (1, .int x1), (2, .int x2)] → W p l e (headSpec ww_beginOne ({ frames := 4, cells := 0, slots := 0, locals := 91 } : Room)).room s m args below meth c H locs 0 0 (MQ below (va_Qi Post (atM dC dI q cI cJ cZ A) A) args s 0 0 A) (F0 m 51 ls []) | (.inr (.inr (.inr (.inl (x1, x2, t1))))) => ∀ (H : Heap) (locs : List Loc), va_P (dC, dI) vwCl (wM q cI cJ cZ S) H → va_D A (wM q cI cJ cZ S) → va_S A s.heap H locs → ∀ ls : Array Slot, lv_has ls 3 [(0, .ref (q 0)), (1, .int x1), (2, .int x2)] → W p l e (headSpec ww_beginOne ({ frames := 4, cells := 0, slots := 0, locals := 91 } : Room)).room s m args below meth c H locs 0 0 (MQ below (va_Qi Post (atM dC dI q cI cJ cZ A) A) args s 0 0 A) (F0 m 65 ls [.int t1, .ref (q 0)]) | (.inr (.inr (.inr (.inr (.inl (x1, x2, t1, t2)))))) => ∀ (H : Heap) (locs : List Loc), va_P (dC, dI) vwCl (wM q cI cJ cZ S) H → va_D A (wM q cI cJ cZ S) → va_S A s.heap H locs → ∀ ls : Array Slot, lv_has ls 3 [(0, .ref (q 0)), (1, .int x1), (2, .int x2)] → W p l e (headSpec ww_beginOne ({ frames := 4, cells := 0, slots := 0, locals := 91 } : Room)).room s m args below meth c H locs 0 0 (MQ below (va_Qi Post (atM dC dI q cI cJ cZ A) A) args s 0 0 A) (F0 m 81 ls [.int t2, .int t1, .ref (q 0)]) | (.inr (.inr (.inr (.inr (.inr (x1, x2)))))) => ∀ (H : Heap) (locs : List Loc), va_P (dC, dI) vwCl (wM q cI cJ cZ S) H → va_D A (wM q cI cJ cZ S) → va_S A s.heap H locs → ∀ ls : Array Slot, lv_has ls 3 [(0, .ref (q 0)), (1, .int x1), (2, .int x2)] → W p l e (headSpec ww_beginOne ({ frames := 4, cells := 0, slots := 0, locals := 91 } : Room)).room s m args below meth c H locs 0 0 (MQ below (va_Qi Post (atM dC dI q cI cJ cZ A) A) args s 0 0 A) (F0 m 151 ls [])) ?_
  · skip
    refine lv_aload_n hx hb (dk DX12_beginOne 0 rfl) rfl (lv_at hl 0 rfl) ?_
    refine gM X hP 9 (by decide) rfl lk102 (dk DX12_beginOne 1 rfl) ?_
    refine lv_iconst (v := 1) hx hb (dk DX12_beginOne 2 rfl) (by decide) ?_
    refine lv_icmp_ne (tgt := 20) hx hb (dk DX12_beginOne 3 rfl) (by decide) (fun hc => ?_) (fun hc => ?_)
    · have h := h.1 hc
      exact h _ _ hP hD hS ls (lv_sub hl [0, 1] rfl)
    · have h := h.2 hc
      refine lv_aload_n hx hb (dk DX12_beginOne 4 rfl) rfl (lv_at hl 0 rfl) ?_
      refine gM X hP 10 (by decide) rfl lk108 (dk DX12_beginOne 5 rfl) ?_
      refine lv_sipush (v := 9999) hx hb (dk DX12_beginOne 6 rfl) (by decide) ?_
      refine lv_icmp_le (tgt := 20) hx hb (dk DX12_beginOne 7 rfl) (by decide) (fun hc => ?_) (fun hc => ?_)
      · have h := h.1 hc
        exact h _ _ hP hD hS ls (lv_sub hl [0, 1] rfl)
      · have h := h.2 hc
        refine lv_iconst (v := 2) hx hb (dk DX12_beginOne 8 rfl) (by decide) ?_
        exact W.iret (v := 2) hx hb hr (fun t ht hW => ⟨⟨_, _, rfl, h, by rw [ht]; exact hP, va_K.moved hW.alike X.2.2.2.2.2.2.1, hD⟩, hS.F ht⟩) hS.2.2 (dk DX12_beginOne 9 rfl)
  · rintro (x1 | ⟨x1, x2⟩ | ⟨x1, x2⟩ | ⟨x1, x2, t1⟩ | ⟨x1, x2, t1, t2⟩ | ⟨x1, x2⟩) S hB
    · exact h_beginOne_0 X hr hlocks (hK0 := fun _ _ h => h) (hK1 := fun _ _ _ h => h) (hK2 := fun _ _ _ h => h) (hK3 := fun _ _ _ _ h => h) (hK4 := fun _ _ _ _ _ h => h) (hK5 := fun _ _ _ h => h) x1 S hB
    · exact h_beginOne_1 X hr hlocks (hK0 := fun _ _ h => h) (hK1 := fun _ _ _ h => h) (hK2 := fun _ _ _ h => h) (hK3 := fun _ _ _ _ h => h) (hK4 := fun _ _ _ _ _ h => h) (hK5 := fun _ _ _ h => h) x1 x2 S hB
    · exact h_beginOne_2 X hr hlocks (hK0 := fun _ _ h => h) (hK1 := fun _ _ _ h => h) (hK2 := fun _ _ _ h => h) (hK3 := fun _ _ _ _ h => h) (hK4 := fun _ _ _ _ _ h => h) (hK5 := fun _ _ _ h => h) x1 x2 S hB
    · exact h_beginOne_3 X hr hlocks (hK0 := fun _ _ h => h) (hK1 := fun _ _ _ h => h) (hK2 := fun _ _ _ h => h) (hK3 := fun _ _ _ _ h => h) (hK4 := fun _ _ _ _ _ h => h) (hK5 := fun _ _ _ h => h) x1 x2 t1 S hB
    · exact h_beginOne_4 X hr hlocks (hK0 := fun _ _ h => h) (hK1 := fun _ _ _ h => h) (hK2 := fun _ _ _ h => h) (hK3 := fun _ _ _ _ h => h) (hK4 := fun _ _ _ _ _ h => h) (hK5 := fun _ _ _ h => h) x1 x2 t1 t2 S hB
    · exact h_beginOne_5 X hr hlocks (hK0 := fun _ _ h => h) (hK1 := fun _ _ _ h => h) (hK2 := fun _ _ _ h => h) (hK3 := fun _ _ _ _ h => h) (hK4 := fun _ _ _ _ _ h => h) (hK5 := fun _ _ _ h => h) x1 x2 S hB

def ww_compareOf : List Cond := .code yX12_compareOf cX12_compareOf 1 (some .int) :: (WdM ++ wsX120)
theorem q_compareOf : yX12_compareOf.cls = RX12 ∧ yX12_compareOf.cls ≠ "java/lang/invoke/MethodHandle" ∧ yX12_compareOf.cls ≠ "java/lang/invoke/VarHandle" ∧ (parseMethodDescriptor yX12_compareOf.desc).map (fun d => d.parameters.length) = some 0 := by decide +kernel
def VC_compareOf (Post : Int32 → MS → Prop) (S : MS) : Prop := ((¬ (S.1 9) = 60 → ((¬ (S.1 9) = 4 → ((¬ (S.1 9) = 62 → ((¬ (S.1 9) = 5 → ((¬ (S.1 9) = 61 → ((¬ (S.1 9) = 35 → Post (-1) S) ∧ ((S.1 9) = 35 → Post 15 S))) ∧ ((S.1 9) = 61 → Post 14 S))) ∧ ((S.1 9) = 5 → Post 13 S))) ∧ ((S.1 9) = 62 → Post 12 S))) ∧ ((S.1 9) = 4 → Post 11 S))) ∧ ((S.1 9) = 60 → Post 10 S))
set_option maxHeartbeats 4000000 in
set_option maxRecDepth 100000 in
theorem m_compareOf {l : Launch} {dC : Nat → ClassId} {dI : Nat → Nat → Nat} {q : Nat → Nat} {cI cJ cZ : ClassId} {sz : Nat} {Post : Int32 → MS → Prop} (S : MS) (h : VC_compareOf Post S) : Met l yX12_compareOf ww_compareOf ({ frames := 0, cells := 0, slots := 0, locals := 0 } : Room) (va_Pc [.ref (q 0)] (preM dC dI q cI cJ cZ S sz)) (va_Qi Post (atM dC dI q cI cJ cZ (va_A (wM q cI cJ cZ S) sz)) (va_A (wM q cI cJ cZ S) sz)) 0 0 (va_A (wM q cI cJ cZ S) sz) := by
  refine oM (cc := cX12_compareOf) (maxL := 1) (ret := (some .int)) (Qc := fun A => va_Qi Post (atM dC dI q cI cJ cZ A) A) (by decide) rfl (fun w h => List.mem_cons_of_mem _ (List.mem_append_right _ h)) rfl (Nat.le_of_ble_eq_true rfl) (fun p e s m below meth c A ls X hr hlocks hP hD hS hl => ?_)
  have hx := X.1
  have hb := X.2.1
  have hl : lv_has ls 1 [(0, .ref (q 0))] := hl
  have lk102 := X.2.2.2.2.1 (.fieldLink RX12 102 "BreathOnLoanModel" "token" "I") (inW 71 rfl)
  dsimp only [VC_compareOf] at h
  refine lv_aload_n hx hb (dk DX12_compareOf 0 rfl) rfl (lv_at hl 0 rfl) ?_
  refine gM X hP 9 (by decide) rfl lk102 (dk DX12_compareOf 1 rfl) ?_
  refine lv_bipush (v := 60) hx hb (dk DX12_compareOf 2 rfl) (by decide) ?_
  refine lv_icmp_ne (tgt := 14) hx hb (dk DX12_compareOf 3 rfl) (by decide) (fun hc => ?_) (fun hc => ?_)
  · have h := h.1 hc
    refine lv_aload_n hx hb (dk DX12_compareOf 6 rfl) rfl (lv_at hl 0 rfl) ?_
    refine gM X hP 9 (by decide) rfl lk102 (dk DX12_compareOf 7 rfl) ?_
    refine lv_iconst (v := 4) hx hb (dk DX12_compareOf 8 rfl) (by decide) ?_
    refine lv_icmp_ne (tgt := 27) hx hb (dk DX12_compareOf 9 rfl) (by decide) (fun hc => ?_) (fun hc => ?_)
    · have h := h.1 hc
      refine lv_aload_n hx hb (dk DX12_compareOf 12 rfl) rfl (lv_at hl 0 rfl) ?_
      refine gM X hP 9 (by decide) rfl lk102 (dk DX12_compareOf 13 rfl) ?_
      refine lv_bipush (v := 62) hx hb (dk DX12_compareOf 14 rfl) (by decide) ?_
      refine lv_icmp_ne (tgt := 41) hx hb (dk DX12_compareOf 15 rfl) (by decide) (fun hc => ?_) (fun hc => ?_)
      · have h := h.1 hc
        refine lv_aload_n hx hb (dk DX12_compareOf 18 rfl) rfl (lv_at hl 0 rfl) ?_
        refine gM X hP 9 (by decide) rfl lk102 (dk DX12_compareOf 19 rfl) ?_
        refine lv_iconst (v := 5) hx hb (dk DX12_compareOf 20 rfl) (by decide) ?_
        refine lv_icmp_ne (tgt := 54) hx hb (dk DX12_compareOf 21 rfl) (by decide) (fun hc => ?_) (fun hc => ?_)
        · have h := h.1 hc
          refine lv_aload_n hx hb (dk DX12_compareOf 24 rfl) rfl (lv_at hl 0 rfl) ?_
          refine gM X hP 9 (by decide) rfl lk102 (dk DX12_compareOf 25 rfl) ?_
          refine lv_bipush (v := 61) hx hb (dk DX12_compareOf 26 rfl) (by decide) ?_
          refine lv_icmp_ne (tgt := 68) hx hb (dk DX12_compareOf 27 rfl) (by decide) (fun hc => ?_) (fun hc => ?_)
          · have h := h.1 hc
            refine lv_aload_n hx hb (dk DX12_compareOf 30 rfl) rfl (lv_at hl 0 rfl) ?_
            refine gM X hP 9 (by decide) rfl lk102 (dk DX12_compareOf 31 rfl) ?_
            refine lv_bipush (v := 35) hx hb (dk DX12_compareOf 32 rfl) (by decide) ?_
            refine lv_icmp_ne (tgt := 82) hx hb (dk DX12_compareOf 33 rfl) (by decide) (fun hc => ?_) (fun hc => ?_)
            · have h := h.1 hc
              refine lv_iconst (v := (-1)) hx hb (dk DX12_compareOf 36 rfl) (by decide) ?_
              exact W.iret (v := (-1)) hx hb hr (fun t ht hW => ⟨⟨_, _, rfl, h, by rw [ht]; exact hP, va_K.moved hW.alike X.2.2.2.2.2.2.1, hD⟩, hS.F ht⟩) hS.2.2 (dk DX12_compareOf 37 rfl)
            · have h := h.2 hc
              refine lv_bipush (v := 15) hx hb (dk DX12_compareOf 34 rfl) (by decide) ?_
              refine lv_goto (tgt := 83) hx hb (dk DX12_compareOf 35 rfl) (by decide) ?_
              exact W.iret (v := 15) hx hb hr (fun t ht hW => ⟨⟨_, _, rfl, h, by rw [ht]; exact hP, va_K.moved hW.alike X.2.2.2.2.2.2.1, hD⟩, hS.F ht⟩) hS.2.2 (dk DX12_compareOf 37 rfl)
          · have h := h.2 hc
            refine lv_bipush (v := 14) hx hb (dk DX12_compareOf 28 rfl) (by decide) ?_
            refine lv_goto (tgt := 83) hx hb (dk DX12_compareOf 29 rfl) (by decide) ?_
            exact W.iret (v := 14) hx hb hr (fun t ht hW => ⟨⟨_, _, rfl, h, by rw [ht]; exact hP, va_K.moved hW.alike X.2.2.2.2.2.2.1, hD⟩, hS.F ht⟩) hS.2.2 (dk DX12_compareOf 37 rfl)
        · have h := h.2 hc
          refine lv_bipush (v := 13) hx hb (dk DX12_compareOf 22 rfl) (by decide) ?_
          refine lv_goto (tgt := 83) hx hb (dk DX12_compareOf 23 rfl) (by decide) ?_
          exact W.iret (v := 13) hx hb hr (fun t ht hW => ⟨⟨_, _, rfl, h, by rw [ht]; exact hP, va_K.moved hW.alike X.2.2.2.2.2.2.1, hD⟩, hS.F ht⟩) hS.2.2 (dk DX12_compareOf 37 rfl)
      · have h := h.2 hc
        refine lv_bipush (v := 12) hx hb (dk DX12_compareOf 16 rfl) (by decide) ?_
        refine lv_goto (tgt := 83) hx hb (dk DX12_compareOf 17 rfl) (by decide) ?_
        exact W.iret (v := 12) hx hb hr (fun t ht hW => ⟨⟨_, _, rfl, h, by rw [ht]; exact hP, va_K.moved hW.alike X.2.2.2.2.2.2.1, hD⟩, hS.F ht⟩) hS.2.2 (dk DX12_compareOf 37 rfl)
    · have h := h.2 hc
      refine lv_bipush (v := 11) hx hb (dk DX12_compareOf 10 rfl) (by decide) ?_
      refine lv_goto (tgt := 83) hx hb (dk DX12_compareOf 11 rfl) (by decide) ?_
      exact W.iret (v := 11) hx hb hr (fun t ht hW => ⟨⟨_, _, rfl, h, by rw [ht]; exact hP, va_K.moved hW.alike X.2.2.2.2.2.2.1, hD⟩, hS.F ht⟩) hS.2.2 (dk DX12_compareOf 37 rfl)
  · have h := h.2 hc
    refine lv_bipush (v := 10) hx hb (dk DX12_compareOf 4 rfl) (by decide) ?_
    refine lv_goto (tgt := 83) hx hb (dk DX12_compareOf 5 rfl) (by decide) ?_
    exact W.iret (v := 10) hx hb hr (fun t ht hW => ⟨⟨_, _, rfl, h, by rw [ht]; exact hP, va_K.moved hW.alike X.2.2.2.2.2.2.1, hD⟩, hS.F ht⟩) hS.2.2 (dk DX12_compareOf 37 rfl)

def ww_betweenOf : List Cond := .code yX12_betweenOf cX12_betweenOf 2 (some .int) :: (WdM ++ wsX120)
theorem q_betweenOf : yX12_betweenOf.cls = RX12 ∧ yX12_betweenOf.cls ≠ "java/lang/invoke/MethodHandle" ∧ yX12_betweenOf.cls ≠ "java/lang/invoke/VarHandle" ∧ (parseMethodDescriptor yX12_betweenOf.desc).map (fun d => d.parameters.length) = some 1 := by decide +kernel
def VC_betweenOf (Post : Int32 → MS → Prop) (a0 : Int32) (S : MS) : Prop := ((¬ (S.1 9) = 43 → ((¬ (S.1 9) = 45 → ((¬ (S.1 9) = 42 → ((¬ (S.1 9) = 47 → VC_kindOpen (fun r2 S1 => ((r2 = 41 → VC_isCompared (fun r4 S3 => ((¬ r4 = 0 → VC_w3 (fun r5 => VC_isWord (fun r7 S6 => ((r7 = 0 → ((¬ (S6.1 9) = 2 → Post (-1) S6) ∧ ((S6.1 9) = 2 → ((¬ (lg_cmp (S6.2.1) (28530)) = 0 → Post (-1) S6) ∧ ((lg_cmp (S6.2.1) (28530)) = 0 → Post 22 S6))))) ∧ (¬ r7 = 0 → Post 21 S6))) r5 S3) 97 110 100) ∧ (r4 = 0 → VC_compareOf (fun r9 S8 => Post r9 S8) S3))) S1) ∧ (¬ r2 = 41 → Post (-1) S1))) a0 S) ∧ ((S.1 9) = 47 → Post 6 S))) ∧ ((S.1 9) = 42 → Post 5 S))) ∧ ((S.1 9) = 45 → Post 4 S))) ∧ ((S.1 9) = 43 → Post 3 S))
set_option maxHeartbeats 4000000 in
set_option maxRecDepth 100000 in
theorem m_betweenOf {l : Launch} {dC : Nat → ClassId} {dI : Nat → Nat → Nat} {q : Nat → Nat} {cI cJ cZ : ClassId} {sz : Nat} {Post : Int32 → MS → Prop} (a0 : Int32) (S : MS) (h : VC_betweenOf Post a0 S) : Met l yX12_betweenOf ww_betweenOf ({ frames := 2, cells := 0, slots := 0, locals := 43 } : Room) (va_Pc [.ref (q 0), .int a0] (preM dC dI q cI cJ cZ S sz)) (va_Qi Post (atM dC dI q cI cJ cZ (va_A (wM q cI cJ cZ S) sz)) (va_A (wM q cI cJ cZ S) sz)) 0 0 (va_A (wM q cI cJ cZ S) sz) := by
  refine oM (cc := cX12_betweenOf) (maxL := 2) (ret := (some .int)) (Qc := fun A => va_Qi Post (atM dC dI q cI cJ cZ A) A) (by decide) rfl (fun w h => List.mem_cons_of_mem _ (List.mem_append_right _ h)) rfl (Nat.le_of_ble_eq_true rfl) (fun p e s m below meth c A ls X hr hlocks hP hD hS hl => ?_)
  have hx := X.1
  have hb := X.2.1
  have hl : lv_has ls 2 [(0, .ref (q 0)), (1, .int a0)] := hl
  have lk102 := X.2.2.2.2.1 (.fieldLink RX12 102 "BreathOnLoanModel" "token" "I") (inW 71 rfl)
  have lk115 := X.2.2.2.2.1 (.fieldLink RX12 115 "BreathOnLoanModel" "word" "J") (inW 74 rfl)
  dsimp only [VC_betweenOf] at h
  refine lv_aload_n hx hb (dk DX12_betweenOf 0 rfl) rfl (lv_at hl 0 rfl) ?_
  refine gM X hP 9 (by decide) rfl lk102 (dk DX12_betweenOf 1 rfl) ?_
  refine lv_bipush (v := 43) hx hb (dk DX12_betweenOf 2 rfl) (by decide) ?_
  refine lv_icmp_ne (tgt := 11) hx hb (dk DX12_betweenOf 3 rfl) (by decide) (fun hc => ?_) (fun hc => ?_)
  · have h := h.1 hc
    refine lv_aload_n hx hb (dk DX12_betweenOf 6 rfl) rfl (lv_at hl 0 rfl) ?_
    refine gM X hP 9 (by decide) rfl lk102 (dk DX12_betweenOf 7 rfl) ?_
    refine lv_bipush (v := 45) hx hb (dk DX12_betweenOf 8 rfl) (by decide) ?_
    refine lv_icmp_ne (tgt := 22) hx hb (dk DX12_betweenOf 9 rfl) (by decide) (fun hc => ?_) (fun hc => ?_)
    · have h := h.1 hc
      refine lv_aload_n hx hb (dk DX12_betweenOf 12 rfl) rfl (lv_at hl 0 rfl) ?_
      refine gM X hP 9 (by decide) rfl lk102 (dk DX12_betweenOf 13 rfl) ?_
      refine lv_bipush (v := 42) hx hb (dk DX12_betweenOf 14 rfl) (by decide) ?_
      refine lv_icmp_ne (tgt := 33) hx hb (dk DX12_betweenOf 15 rfl) (by decide) (fun hc => ?_) (fun hc => ?_)
      · have h := h.1 hc
        refine lv_aload_n hx hb (dk DX12_betweenOf 18 rfl) rfl (lv_at hl 0 rfl) ?_
        refine gM X hP 9 (by decide) rfl lk102 (dk DX12_betweenOf 19 rfl) ?_
        refine lv_bipush (v := 47) hx hb (dk DX12_betweenOf 20 rfl) (by decide) ?_
        refine lv_icmp_ne (tgt := 45) hx hb (dk DX12_betweenOf 21 rfl) (by decide) (fun hc => ?_) (fun hc => ?_)
        · have h := h.1 hc
          refine lv_aload_n hx hb (dk DX12_betweenOf 24 rfl) rfl (lv_at hl 0 rfl) ?_
          refine lv_iload_n hx hb (dk DX12_betweenOf 25 rfl) rfl (lv_at hl 1 rfl) ?_
          refine cMi (As := [.int a0]) (rest := []) X (m_kindOpen (l := l) (dC := dC) (dI := dI) (q := q) (cI := cI) (cJ := cJ) (cZ := cZ) (sz := _) a0 S h) (cwV 1 X.2.2.2.2.1 (gwV 116 117 118 24 110 rfl rfl rfl rfl rfl) rfl rfl rfl q_kindOpen ⟨Nat.le_of_ble_eq_true rfl, Nat.le_of_ble_eq_true rfl⟩) hP hD hS rfl hl.1 rfl (Nat.le_of_ble_eq_true rfl) (dk DX12_betweenOf 26 rfl) (fun r2 S1 H locs h hP hD hS => ?_)
          refine lv_bipush (v := 41) hx hb (dk DX12_betweenOf 27 rfl) (by decide) ?_
          refine lv_icmp_eq (tgt := 57) hx hb (dk DX12_betweenOf 28 rfl) (by decide) (fun hc => ?_) (fun hc => ?_)
          · have h := h.1 hc
            refine lv_aload_n hx hb (dk DX12_betweenOf 31 rfl) rfl (lv_at hl 0 rfl) ?_
            refine cMi (As := []) (rest := []) X (m_isCompared (l := l) (dC := dC) (dI := dI) (q := q) (cI := cI) (cJ := cJ) (cZ := cZ) (sz := _) S1 h) (cwV 0 X.2.2.2.2.1 (gwV 159 160 161 24 114 rfl rfl rfl rfl rfl) rfl rfl rfl q_isCompared ⟨Nat.le_of_ble_eq_true rfl, Nat.le_of_ble_eq_true rfl⟩) hP hD hS rfl hl.1 rfl (Nat.le_of_ble_eq_true rfl) (dk DX12_betweenOf 32 rfl) (fun r4 S3 H locs h hP hD hS => ?_)
            refine lv_if_ne (tgt := 69) hx hb (dk DX12_betweenOf 33 rfl) (by decide) (fun hc => ?_) (fun hc => ?_)
            · have h := h.1 hc
              refine lv_aload_n hx hb (dk DX12_betweenOf 37 rfl) rfl (lv_at hl 0 rfl) ?_
              refine lv_bipush (v := 97) hx hb (dk DX12_betweenOf 38 rfl) (by decide) ?_
              refine lv_bipush (v := 110) hx hb (dk DX12_betweenOf 39 rfl) (by decide) ?_
              refine lv_bipush (v := 100) hx hb (dk DX12_betweenOf 40 rfl) (by decide) ?_
              refine cSl (As := [.int 97, .int 110, .int 100]) (rest := [.ref (q 0)]) ⟨X.1, X.2.1, X.2.2.1, X.2.2.2.1, X.2.2.2.2.1⟩ (m_w3 (l := l) 97 110 100 h) (va_cwS 3 X.2.2.2.2.1 (gwS 84 85 24 82 rfl rfl rfl rfl) rfl rfl rfl q_w3 ⟨Nat.le_of_ble_eq_true rfl, Nat.le_of_ble_eq_true rfl⟩) rfl hl.1 rfl (Nat.le_of_ble_eq_true rfl) (dk DX12_betweenOf 41 rfl) (fun r5 h => ?_)
              refine cMi (As := [.long r5]) (rest := []) X (m_isWord (l := l) (dC := dC) (dI := dI) (q := q) (cI := cI) (cJ := cJ) (cZ := cZ) (sz := _) r5 S3 h) (cwV 1 X.2.2.2.2.1 (gwV 150 151 152 24 90 rfl rfl rfl rfl rfl) rfl rfl rfl q_isWord ⟨Nat.le_of_ble_eq_true rfl, Nat.le_of_ble_eq_true rfl⟩) hP hD hS rfl hl.1 rfl (Nat.le_of_ble_eq_true rfl) (dk DX12_betweenOf 42 rfl) (fun r7 S6 H locs h hP hD hS => ?_)
              refine lv_if_eq (tgt := 90) hx hb (dk DX12_betweenOf 43 rfl) (by decide) (fun hc => ?_) (fun hc => ?_)
              · have h := h.1 hc
                refine lv_aload_n hx hb (dk DX12_betweenOf 46 rfl) rfl (lv_at hl 0 rfl) ?_
                refine gM X hP 9 (by decide) rfl lk102 (dk DX12_betweenOf 47 rfl) ?_
                refine lv_iconst (v := 2) hx hb (dk DX12_betweenOf 48 rfl) (by decide) ?_
                refine lv_icmp_ne (tgt := 114) hx hb (dk DX12_betweenOf 49 rfl) (by decide) (fun hc => ?_) (fun hc => ?_)
                · have h := h.1 hc
                  refine lv_iconst (v := (-1)) hx hb (dk DX12_betweenOf 57 rfl) (by decide) ?_
                  exact W.iret (v := (-1)) hx hb hr (fun t ht hW => ⟨⟨_, _, rfl, h, by rw [ht]; exact hP, va_K.moved hW.alike X.2.2.2.2.2.2.1, hD⟩, hS.F ht⟩) hS.2.2 (dk DX12_betweenOf 58 rfl)
                · have h := h.2 hc
                  refine lv_aload_n hx hb (dk DX12_betweenOf 50 rfl) rfl (lv_at hl 0 rfl) ?_
                  refine gM X hP 11 (by decide) rfl lk115 (dk DX12_betweenOf 51 rfl) ?_
                  refine lv_ldc2 (v := (28530)) hx hb X.2.2.2.1 (X.2.2.2.2.1 (.constantLong RX12 196 (28530)) (inW 158 rfl)) (dk DX12_betweenOf 52 rfl) ?_
                  refine W.lcmp hx hb (dk DX12_betweenOf 53 rfl) ?_
                  refine lv_if_ne (tgt := 114) hx hb (dk DX12_betweenOf 54 rfl) (by decide) (fun hc => ?_) (fun hc => ?_)
                  · have h := h.1 hc
                    refine lv_iconst (v := (-1)) hx hb (dk DX12_betweenOf 57 rfl) (by decide) ?_
                    exact W.iret (v := (-1)) hx hb hr (fun t ht hW => ⟨⟨_, _, rfl, h, by rw [ht]; exact hP, va_K.moved hW.alike X.2.2.2.2.2.2.1, hD⟩, hS.F ht⟩) hS.2.2 (dk DX12_betweenOf 58 rfl)
                  · have h := h.2 hc
                    refine lv_bipush (v := 22) hx hb (dk DX12_betweenOf 55 rfl) (by decide) ?_
                    refine lv_goto (tgt := 115) hx hb (dk DX12_betweenOf 56 rfl) (by decide) ?_
                    exact W.iret (v := 22) hx hb hr (fun t ht hW => ⟨⟨_, _, rfl, h, by rw [ht]; exact hP, va_K.moved hW.alike X.2.2.2.2.2.2.1, hD⟩, hS.F ht⟩) hS.2.2 (dk DX12_betweenOf 58 rfl)
              · have h := h.2 hc
                refine lv_bipush (v := 21) hx hb (dk DX12_betweenOf 44 rfl) (by decide) ?_
                refine lv_goto (tgt := 115) hx hb (dk DX12_betweenOf 45 rfl) (by decide) ?_
                exact W.iret (v := 21) hx hb hr (fun t ht hW => ⟨⟨_, _, rfl, h, by rw [ht]; exact hP, va_K.moved hW.alike X.2.2.2.2.2.2.1, hD⟩, hS.F ht⟩) hS.2.2 (dk DX12_betweenOf 58 rfl)
            · have h := h.2 hc
              refine lv_aload_n hx hb (dk DX12_betweenOf 34 rfl) rfl (lv_at hl 0 rfl) ?_
              refine cMi (As := []) (rest := []) X (m_compareOf (l := l) (dC := dC) (dI := dI) (q := q) (cI := cI) (cJ := cJ) (cZ := cZ) (sz := _) S3 h) (cwV 0 X.2.2.2.2.1 (gwV 162 163 164 24 157 rfl rfl rfl rfl rfl) rfl rfl rfl q_compareOf ⟨Nat.le_of_ble_eq_true rfl, Nat.le_of_ble_eq_true rfl⟩) hP hD hS rfl hl.1 rfl (Nat.le_of_ble_eq_true rfl) (dk DX12_betweenOf 35 rfl) (fun r9 S8 H locs h hP hD hS => ?_)
              exact W.iret (v := r9) hx hb hr (fun t ht hW => ⟨⟨_, _, rfl, h, by rw [ht]; exact hP, va_K.moved hW.alike X.2.2.2.2.2.2.1, hD⟩, hS.F ht⟩) hS.2.2 (dk DX12_betweenOf 36 rfl)
          · have h := h.2 hc
            refine lv_iconst (v := (-1)) hx hb (dk DX12_betweenOf 29 rfl) (by decide) ?_
            exact W.iret (v := (-1)) hx hb hr (fun t ht hW => ⟨⟨_, _, rfl, h, by rw [ht]; exact hP, va_K.moved hW.alike X.2.2.2.2.2.2.1, hD⟩, hS.F ht⟩) hS.2.2 (dk DX12_betweenOf 30 rfl)
        · have h := h.2 hc
          refine lv_bipush (v := 6) hx hb (dk DX12_betweenOf 22 rfl) (by decide) ?_
          exact W.iret (v := 6) hx hb hr (fun t ht hW => ⟨⟨_, _, rfl, h, by rw [ht]; exact hP, va_K.moved hW.alike X.2.2.2.2.2.2.1, hD⟩, hS.F ht⟩) hS.2.2 (dk DX12_betweenOf 23 rfl)
      · have h := h.2 hc
        refine lv_iconst (v := 5) hx hb (dk DX12_betweenOf 16 rfl) (by decide) ?_
        exact W.iret (v := 5) hx hb hr (fun t ht hW => ⟨⟨_, _, rfl, h, by rw [ht]; exact hP, va_K.moved hW.alike X.2.2.2.2.2.2.1, hD⟩, hS.F ht⟩) hS.2.2 (dk DX12_betweenOf 17 rfl)
    · have h := h.2 hc
      refine lv_iconst (v := 4) hx hb (dk DX12_betweenOf 10 rfl) (by decide) ?_
      exact W.iret (v := 4) hx hb hr (fun t ht hW => ⟨⟨_, _, rfl, h, by rw [ht]; exact hP, va_K.moved hW.alike X.2.2.2.2.2.2.1, hD⟩, hS.F ht⟩) hS.2.2 (dk DX12_betweenOf 11 rfl)
  · have h := h.2 hc
    refine lv_iconst (v := 3) hx hb (dk DX12_betweenOf 4 rfl) (by decide) ?_
    exact W.iret (v := 3) hx hb hr (fun t ht hW => ⟨⟨_, _, rfl, h, by rw [ht]; exact hP, va_K.moved hW.alike X.2.2.2.2.2.2.1, hD⟩, hS.F ht⟩) hS.2.2 (dk DX12_betweenOf 5 rfl)

