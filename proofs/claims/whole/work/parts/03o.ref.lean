-- sell isPlayed played of piece
def ww_sell : List Cond := .code yX12_sell cX12_sell 6 (some .int) :: (WdM ++ wsX120)
theorem q_sell : yX12_sell.cls = RX12 ∧ yX12_sell.cls ≠ "java/lang/invoke/MethodHandle" ∧ yX12_sell.cls ≠ "java/lang/invoke/VarHandle" ∧ (parseMethodDescriptor yX12_sell.desc).map (fun d => d.parameters.length) = some 1 := by decide +kernel
abbrev Hd_sell : Type := (Int32 × Int32 × Int32) ⊕ (Int32 × Int32 × Int32 × Int32 × Int32) ⊕ (Int32 × Int32 × Int32 × Int32) ⊕ (Int32 × Int32 × Int32 × Int32 × Int32)
def B_sell (Post : Int32 → MS → Prop) (K : Hd_sell → MS → Prop) : Hd_sell → MS → Prop
  | (.inl (x1, x2, x3)), S => vp_in (0 : Int32) 3890 ∧ ((((S.2.2.1 0) (0 : Int32).toNatClampNeg) ≤ x3 → K (.inr (.inr (.inl (x1, x2, 0, 0)))) S) ∧ (¬ ((S.2.2.1 0) (0 : Int32).toNatClampNeg) ≤ x3 → VC_gave (fun r9 S8 => ((r9 ≤ 0 → K (.inr (.inl (x1, x2, x3, x3, 0))) S8) ∧ (¬ r9 ≤ 0 → VC_shareOf (fun r11 S10 => K (.inr (.inl (x1, x2, x3, x3, r11))) S10) x1 x3 S8))) x1 x3 S))
  | (.inr (.inl (x1, x2, x3, t1, t2))), S => vp_in t1 6 ∧ ∀ S12 : MS, S12 = sF S 25 (upd (S.2.2.1 25) t1.toNatClampNeg t2) → vp_in x3 6 ∧ ∀ v13 : Int32, v13 = x2 + ((S12.2.2.1 25) x3.toNatClampNeg) → ∀ v14 : Int32, v14 = x3 + 1 → K (.inl (x1, v13, v14)) S12
  | (.inr (.inr (.inl (x1, x2, x3, x4)))), S => vp_in (0 : Int32) 3890 ∧ ((((S.2.2.1 0) (0 : Int32).toNatClampNeg) ≤ x4 → Post x3 S) ∧ (¬ ((S.2.2.1 0) (0 : Int32).toNatClampNeg) ≤ x4 → ((x2 ≤ 0 → Post x3 S) ∧ (¬ x2 ≤ 0 → VC_pieceAt (fun r15 => vp_in r15 3890 ∧ vp_in ((40 + (3 * ((S.2.2.1 0) r15.toNatClampNeg))) + 2) 3890 ∧ vp_in x4 6 ∧ ¬ x2 = 0 ∧ ∀ v16 : Int32, v16 = (((S.2.2.1 0) ((40 + (3 * ((S.2.2.1 0) r15.toNatClampNeg))) + 2).toNatClampNeg) * ((S.2.2.1 25) x4.toNatClampNeg)) / x2 → VC_get (fun r18 S17 => (((r18 + v16) ≤ 999 → K (.inr (.inr (.inr (x1, x2, x3, x4, v16)))) S17) ∧ (¬ (r18 + v16) ≤ 999 → VC_get (fun r20 S19 => ∀ v21 : Int32, v21 = 999 - r20 → K (.inr (.inr (.inr (x1, x2, x3, x4, v21)))) S19) x4 2 S17))) x4 2 S) x1))))
  | (.inr (.inr (.inr (x1, x2, x3, x4, x5)))), S => VC_get (fun r23 S22 => VC_set (fun S24 => ∀ v25 : Int32, v25 = x3 + x5 → ∀ v26 : Int32, v26 = x4 + 1 → K (.inr (.inr (.inl (x1, x2, v25, v26)))) S24) x4 2 (r23 + x5) S22) x4 2 S
def VC_sell (Post : Int32 → MS → Prop) (a0 : Int32) (S : MS) : Prop := ∀ K : Hd_sell → MS → Prop, (∀ h S, B_sell Post K h S → K h S) → VC_isPiece (fun r2 S1 => ((r2 = 0 → Post (-1) S1) ∧ (¬ r2 = 0 → VC_pieceAt (fun r3 => vp_in (r3 + 1) 3890 ∧ ((¬ ((S1.2.2.1 0) (r3 + 1).toNatClampNeg) = 1 → Post (-1) S1) ∧ (((S1.2.2.1 0) (r3 + 1).toNatClampNeg) = 1 → VC_pieceAt (fun r4 => vp_in (r4 + 3) 3890 ∧ ((¬ ((S1.2.2.1 0) (r4 + 3).toNatClampNeg) = 1 → VC_keep (fun S5 => VC_pieceAt (fun r6 => vp_in (r6 + 3) 3890 ∧ ∀ S7 : MS, S7 = sF S5 0 (upd (S5.2.2.1 0) (r6 + 3).toNatClampNeg 1) → K (.inl (a0, 0, 0)) S7) a0) S1) ∧ (((S1.2.2.1 0) (r4 + 3).toNatClampNeg) = 1 → Post (-1) S1))) a0))) a0))) a0 S
set_option maxHeartbeats 4000000 in
set_option maxRecDepth 100000 in
theorem h_sell_0 {p : Program} {l : Launch} {e : Env} {s : State} {m : MethodId} {below : List Frame} {meth : Method} {c : Code} {dC : Nat → ClassId} {dI : Nat → Nat → Nat} {q : Nat → Nat} {cI cJ cZ : ClassId} {A : Nat → Prop} {args : Array Value} {Post : Int32 → MS → Prop} {K : Hd_sell → MS → Prop} (X : XM p s m args c cX12_sell 6 ww_sell dC dI cI cJ cZ A) (hr : meth.sig.returnType = (some .int)) (hlocks : meth.locks = false) (hK0 : ∀ (x1 : Int32) (x2 : Int32) (x3 : Int32) (S : MS), K (.inl (x1, x2, x3)) S → ∀ (H : Heap) (locs : List Loc), va_P (dC, dI) vwCl (wM q cI cJ cZ S) H → va_D A (wM q cI cJ cZ S) → va_S A s.heap H locs → ∀ ls : Array Slot, lv_has ls 6 [(0, .ref (q 0)), (1, .int x1), (2, .int x2), (3, .int x3)] → W p l e (headSpec ww_sell ({ frames := 5, cells := 0, slots := 0, locals := 119 } : Room)).room s m args below meth c H locs 0 0 (MQ below (va_Qi Post (atM dC dI q cI cJ cZ A) A) args s 0 0 A) (F0 m 60 ls [])) (hK1 : ∀ (x1 : Int32) (x2 : Int32) (x3 : Int32) (t1 : Int32) (t2 : Int32) (S : MS), K (.inr (.inl (x1, x2, x3, t1, t2))) S → ∀ (H : Heap) (locs : List Loc), va_P (dC, dI) vwCl (wM q cI cJ cZ S) H → va_D A (wM q cI cJ cZ S) → va_S A s.heap H locs → ∀ ls : Array Slot, lv_has ls 6 [(0, .ref (q 0)), (1, .int x1), (2, .int x2), (3, .int x3)] → W p l e (headSpec ww_sell ({ frames := 5, cells := 0, slots := 0, locals := 119 } : Room)).room s m args below meth c H locs 0 0 (MQ below (va_Qi Post (atM dC dI q cI cJ cZ A) A) args s 0 0 A) (F0 m 94 ls [.int t2, .int t1, .ref (q 9)])) (hK2 : ∀ (x1 : Int32) (x2 : Int32) (x3 : Int32) (x4 : Int32) (S : MS), K (.inr (.inr (.inl (x1, x2, x3, x4)))) S → ∀ (H : Heap) (locs : List Loc), va_P (dC, dI) vwCl (wM q cI cJ cZ S) H → va_D A (wM q cI cJ cZ S) → va_S A s.heap H locs → ∀ ls : Array Slot, lv_has ls 6 [(0, .ref (q 0)), (1, .int x1), (2, .int x2), (3, .int x3), (4, .int x4)] → W p l e (headSpec ww_sell ({ frames := 5, cells := 0, slots := 0, locals := 119 } : Room)).room s m args below meth c H locs 0 0 (MQ below (va_Qi Post (atM dC dI q cI cJ cZ A) A) args s 0 0 A) (F0 m 115 ls [])) (hK3 : ∀ (x1 : Int32) (x2 : Int32) (x3 : Int32) (x4 : Int32) (x5 : Int32) (S : MS), K (.inr (.inr (.inr (x1, x2, x3, x4, x5)))) S → ∀ (H : Heap) (locs : List Loc), va_P (dC, dI) vwCl (wM q cI cJ cZ S) H → va_D A (wM q cI cJ cZ S) → va_S A s.heap H locs → ∀ ls : Array Slot, lv_has ls 6 [(0, .ref (q 0)), (1, .int x1), (2, .int x2), (3, .int x3), (4, .int x4), (5, .int x5)] → W p l e (headSpec ww_sell ({ frames := 5, cells := 0, slots := 0, locals := 119 } : Room)).room s m args below meth c H locs 0 0 (MQ below (va_Qi Post (atM dC dI q cI cJ cZ A) A) args s 0 0 A) (F0 m 192 ls [])) (x1 : Int32) (x2 : Int32) (x3 : Int32) (S : MS) (h : B_sell Post K (.inl (x1, x2, x3)) S) : ∀ (H : Heap) (locs : List Loc), va_P (dC, dI) vwCl (wM q cI cJ cZ S) H → va_D A (wM q cI cJ cZ S) → va_S A s.heap H locs → ∀ ls : Array Slot, lv_has ls 6 [(0, .ref (q 0)), (1, .int x1), (2, .int x2), (3, .int x3)] → W p l e (headSpec ww_sell ({ frames := 5, cells := 0, slots := 0, locals := 119 } : Room)).room s m args below meth c H locs 0 0 (MQ below (va_Qi Post (atM dC dI q cI cJ cZ A) A) args s 0 0 A) (F0 m 60 ls []) := by
  have hx := X.1
  have hb := X.2.1
  intro H locs hP hD hS ls hl
  have lk7 := X.2.2.2.2.1 (.fieldLink RX12 7 "BreathOnLoanModel" "a" "[I") (inW 5 rfl)
  have lk43 := X.2.2.2.2.1 (.fieldLink RX12 43 "BreathOnLoanModel" "shares" "[I") (inW 17 rfl)
  dsimp only [B_sell] at h
  refine lv_iload_n hx hb (dk DX12_sell 38 rfl) rfl (lv_at hl 3 rfl) ?_
  refine lv_aload_n hx hb (dk DX12_sell 39 rfl) rfl (lv_at hl 0 rfl) ?_
  refine gM X hP 0 (by decide) rfl lk7 (dk DX12_sell 40 rfl) ?_
  refine lv_iconst (v := 0) hx hb (dk DX12_sell 41 rfl) (by decide) ?_
  obtain ⟨hin, h⟩ := h
  refine ldM X hP 1 rfl hin (dk DX12_sell 42 rfl) ?_
  refine lv_icmp_ge (tgt := 110) hx hb (dk DX12_sell 43 rfl) (by decide) (fun hc => ?_) (fun hc => ?_)
  · have h := h.1 hc
    refine lv_iconst (v := 0) hx hb (dk DX12_sell 68 rfl) (by decide) ?_
    refine lv_istore_n (lv' := [(3, .int 0), (0, .ref (q 0)), (1, .int x1), (2, .int x2)]) hx hb (dk DX12_sell 69 rfl) rfl hl (by decide) rfl (fun ls hl => ?_)
    refine lv_iconst (v := 0) hx hb (dk DX12_sell 70 rfl) (by decide) ?_
    refine lv_istore (lv' := [(4, .int 0), (3, .int 0), (0, .ref (q 0)), (1, .int x1), (2, .int x2)]) hx hb (dk DX12_sell 71 rfl) hl (by decide) rfl (fun ls hl => ?_)
    exact hK2 x1 x2 0 0 S h _ _ hP hD hS ls (lv_sub hl [2, 3, 4, 1, 0] rfl)
  · have h := h.2 hc
    refine lv_aload_n hx hb (dk DX12_sell 44 rfl) rfl (lv_at hl 0 rfl) ?_
    refine gM X hP 25 (by decide) rfl lk43 (dk DX12_sell 45 rfl) ?_
    refine lv_iload_n hx hb (dk DX12_sell 46 rfl) rfl (lv_at hl 3 rfl) ?_
    refine lv_aload_n hx hb (dk DX12_sell 47 rfl) rfl (lv_at hl 0 rfl) ?_
    refine lv_iload_n hx hb (dk DX12_sell 48 rfl) rfl (lv_at hl 1 rfl) ?_
    refine lv_iload_n hx hb (dk DX12_sell 49 rfl) rfl (lv_at hl 3 rfl) ?_
    refine cMi (As := [.int x1, .int x3]) (rest := [.int x3, .ref (q 9)]) X (m_gave (l := l) (dC := dC) (dI := dI) (q := q) (cI := cI) (cJ := cJ) (cZ := cZ) (sz := _) x1 x3 S h) (cwV 2 X.2.2.2.2.1 (gwV 240 241 242 24 39 rfl rfl rfl rfl rfl) rfl rfl rfl q_gave ⟨Nat.le_of_ble_eq_true rfl, Nat.le_of_ble_eq_true rfl⟩) hP hD hS rfl hl.1 rfl (Nat.le_of_ble_eq_true rfl) (dk DX12_sell 50 rfl) (fun r9 S8 H locs h hP hD hS => ?_)
    refine lv_if_le (tgt := 93) hx hb (dk DX12_sell 51 rfl) (by decide) (fun hc => ?_) (fun hc => ?_)
    · have h := h.1 hc
      refine lv_iconst (v := 0) hx hb (dk DX12_sell 57 rfl) (by decide) ?_
      exact hK1 x1 x2 x3 x3 0 S8 h _ _ hP hD hS ls (lv_sub hl [0, 1, 2, 3] rfl)
    · have h := h.2 hc
      refine lv_aload_n hx hb (dk DX12_sell 52 rfl) rfl (lv_at hl 0 rfl) ?_
      refine lv_iload_n hx hb (dk DX12_sell 53 rfl) rfl (lv_at hl 1 rfl) ?_
      refine lv_iload_n hx hb (dk DX12_sell 54 rfl) rfl (lv_at hl 3 rfl) ?_
      refine cMi (As := [.int x1, .int x3]) (rest := [.int x3, .ref (q 9)]) X (m_shareOf (l := l) (dC := dC) (dI := dI) (q := q) (cI := cI) (cJ := cJ) (cZ := cZ) (sz := _) x1 x3 S8 h) (cwV 2 X.2.2.2.2.1 (gwV 279 280 281 24 243 rfl rfl rfl rfl rfl) rfl rfl rfl q_shareOf ⟨Nat.le_of_ble_eq_true rfl, Nat.le_of_ble_eq_true rfl⟩) hP hD hS rfl hl.1 rfl (Nat.le_of_ble_eq_true rfl) (dk DX12_sell 55 rfl) (fun r11 S10 H locs h hP hD hS => ?_)
      refine lv_goto (tgt := 94) hx hb (dk DX12_sell 56 rfl) (by decide) ?_
      exact hK1 x1 x2 x3 x3 r11 S10 h _ _ hP hD hS ls (lv_sub hl [0, 1, 2, 3] rfl)
set_option maxHeartbeats 4000000 in
set_option maxRecDepth 100000 in
theorem h_sell_1 {p : Program} {l : Launch} {e : Env} {s : State} {m : MethodId} {below : List Frame} {meth : Method} {c : Code} {dC : Nat → ClassId} {dI : Nat → Nat → Nat} {q : Nat → Nat} {cI cJ cZ : ClassId} {A : Nat → Prop} {args : Array Value} {Post : Int32 → MS → Prop} {K : Hd_sell → MS → Prop} (X : XM p s m args c cX12_sell 6 ww_sell dC dI cI cJ cZ A) (hr : meth.sig.returnType = (some .int)) (hlocks : meth.locks = false) (hK0 : ∀ (x1 : Int32) (x2 : Int32) (x3 : Int32) (S : MS), K (.inl (x1, x2, x3)) S → ∀ (H : Heap) (locs : List Loc), va_P (dC, dI) vwCl (wM q cI cJ cZ S) H → va_D A (wM q cI cJ cZ S) → va_S A s.heap H locs → ∀ ls : Array Slot, lv_has ls 6 [(0, .ref (q 0)), (1, .int x1), (2, .int x2), (3, .int x3)] → W p l e (headSpec ww_sell ({ frames := 5, cells := 0, slots := 0, locals := 119 } : Room)).room s m args below meth c H locs 0 0 (MQ below (va_Qi Post (atM dC dI q cI cJ cZ A) A) args s 0 0 A) (F0 m 60 ls [])) (hK1 : ∀ (x1 : Int32) (x2 : Int32) (x3 : Int32) (t1 : Int32) (t2 : Int32) (S : MS), K (.inr (.inl (x1, x2, x3, t1, t2))) S → ∀ (H : Heap) (locs : List Loc), va_P (dC, dI) vwCl (wM q cI cJ cZ S) H → va_D A (wM q cI cJ cZ S) → va_S A s.heap H locs → ∀ ls : Array Slot, lv_has ls 6 [(0, .ref (q 0)), (1, .int x1), (2, .int x2), (3, .int x3)] → W p l e (headSpec ww_sell ({ frames := 5, cells := 0, slots := 0, locals := 119 } : Room)).room s m args below meth c H locs 0 0 (MQ below (va_Qi Post (atM dC dI q cI cJ cZ A) A) args s 0 0 A) (F0 m 94 ls [.int t2, .int t1, .ref (q 9)])) (hK2 : ∀ (x1 : Int32) (x2 : Int32) (x3 : Int32) (x4 : Int32) (S : MS), K (.inr (.inr (.inl (x1, x2, x3, x4)))) S → ∀ (H : Heap) (locs : List Loc), va_P (dC, dI) vwCl (wM q cI cJ cZ S) H → va_D A (wM q cI cJ cZ S) → va_S A s.heap H locs → ∀ ls : Array Slot, lv_has ls 6 [(0, .ref (q 0)), (1, .int x1), (2, .int x2), (3, .int x3), (4, .int x4)] → W p l e (headSpec ww_sell ({ frames := 5, cells := 0, slots := 0, locals := 119 } : Room)).room s m args below meth c H locs 0 0 (MQ below (va_Qi Post (atM dC dI q cI cJ cZ A) A) args s 0 0 A) (F0 m 115 ls [])) (hK3 : ∀ (x1 : Int32) (x2 : Int32) (x3 : Int32) (x4 : Int32) (x5 : Int32) (S : MS), K (.inr (.inr (.inr (x1, x2, x3, x4, x5)))) S → ∀ (H : Heap) (locs : List Loc), va_P (dC, dI) vwCl (wM q cI cJ cZ S) H → va_D A (wM q cI cJ cZ S) → va_S A s.heap H locs → ∀ ls : Array Slot, lv_has ls 6 [(0, .ref (q 0)), (1, .int x1), (2, .int x2), (3, .int x3), (4, .int x4), (5, .int x5)] → W p l e (headSpec ww_sell ({ frames := 5, cells := 0, slots := 0, locals := 119 } : Room)).room s m args below meth c H locs 0 0 (MQ below (va_Qi Post (atM dC dI q cI cJ cZ A) A) args s 0 0 A) (F0 m 192 ls [])) (x1 : Int32) (x2 : Int32) (x3 : Int32) (t1 : Int32) (t2 : Int32) (S : MS) (h : B_sell Post K (.inr (.inl (x1, x2, x3, t1, t2))) S) : ∀ (H : Heap) (locs : List Loc), va_P (dC, dI) vwCl (wM q cI cJ cZ S) H → va_D A (wM q cI cJ cZ S) → va_S A s.heap H locs → ∀ ls : Array Slot, lv_has ls 6 [(0, .ref (q 0)), (1, .int x1), (2, .int x2), (3, .int x3)] → W p l e (headSpec ww_sell ({ frames := 5, cells := 0, slots := 0, locals := 119 } : Room)).room s m args below meth c H locs 0 0 (MQ below (va_Qi Post (atM dC dI q cI cJ cZ A) A) args s 0 0 A) (F0 m 94 ls [.int t2, .int t1, .ref (q 9)]) := by
  have hx := X.1
  have hb := X.2.1
  intro H locs hP hD hS ls hl
  have lk7 := X.2.2.2.2.1 (.fieldLink RX12 7 "BreathOnLoanModel" "a" "[I") (inW 5 rfl)
  have lk43 := X.2.2.2.2.1 (.fieldLink RX12 43 "BreathOnLoanModel" "shares" "[I") (inW 17 rfl)
  dsimp only [B_sell] at h
  obtain ⟨hin, h⟩ := h
  refine stM_25 X hP hD hS hin (dk DX12_sell 58 rfl) (fun S12 eS12 H locs hP hD hS => ?_)
  have h := h S12 eS12
  refine lv_iload_n hx hb (dk DX12_sell 59 rfl) rfl (lv_at hl 2 rfl) ?_
  refine lv_aload_n hx hb (dk DX12_sell 60 rfl) rfl (lv_at hl 0 rfl) ?_
  refine gM X hP 25 (by decide) rfl lk43 (dk DX12_sell 61 rfl) ?_
  refine lv_iload_n hx hb (dk DX12_sell 62 rfl) rfl (lv_at hl 3 rfl) ?_
  obtain ⟨hin, h⟩ := h
  refine ldM X hP 9 rfl hin (dk DX12_sell 63 rfl) ?_
  refine lv_iadd hx hb (dk DX12_sell 64 rfl) ?_
  refine lv_topi (fun v13 ev13 => ?_)
  have h := h v13 ev13
  refine lv_istore_n (lv' := [(2, .int v13), (0, .ref (q 0)), (1, .int x1), (3, .int x3)]) hx hb (dk DX12_sell 65 rfl) rfl hl (by decide) rfl (fun ls hl => ?_)
  obtain ⟨v14, ev14⟩ : ∃ y : Int32, y = x3 + 1 := ⟨_, rfl⟩
  have h := h v14 ev14
  refine lv_iinc (v := v14) (lv' := [(3, .int v14), (2, .int v13), (0, .ref (q 0)), (1, .int x1)]) hx hb (dk DX12_sell 66 rfl) hl (k := 3) rfl (by rw [ev14]; rfl) (by decide) rfl (fun ls hl => ?_)
  refine lv_goto (tgt := 60) hx hb (dk DX12_sell 67 rfl) (by decide) ?_
  exact hK0 x1 v13 v14 S12 h _ _ hP hD hS ls (lv_sub hl [2, 3, 1, 0] rfl)
set_option maxHeartbeats 4000000 in
set_option maxRecDepth 100000 in
theorem h_sell_2 {p : Program} {l : Launch} {e : Env} {s : State} {m : MethodId} {below : List Frame} {meth : Method} {c : Code} {dC : Nat → ClassId} {dI : Nat → Nat → Nat} {q : Nat → Nat} {cI cJ cZ : ClassId} {A : Nat → Prop} {args : Array Value} {Post : Int32 → MS → Prop} {K : Hd_sell → MS → Prop} (X : XM p s m args c cX12_sell 6 ww_sell dC dI cI cJ cZ A) (hr : meth.sig.returnType = (some .int)) (hlocks : meth.locks = false) (hK0 : ∀ (x1 : Int32) (x2 : Int32) (x3 : Int32) (S : MS), K (.inl (x1, x2, x3)) S → ∀ (H : Heap) (locs : List Loc), va_P (dC, dI) vwCl (wM q cI cJ cZ S) H → va_D A (wM q cI cJ cZ S) → va_S A s.heap H locs → ∀ ls : Array Slot, lv_has ls 6 [(0, .ref (q 0)), (1, .int x1), (2, .int x2), (3, .int x3)] → W p l e (headSpec ww_sell ({ frames := 5, cells := 0, slots := 0, locals := 119 } : Room)).room s m args below meth c H locs 0 0 (MQ below (va_Qi Post (atM dC dI q cI cJ cZ A) A) args s 0 0 A) (F0 m 60 ls [])) (hK1 : ∀ (x1 : Int32) (x2 : Int32) (x3 : Int32) (t1 : Int32) (t2 : Int32) (S : MS), K (.inr (.inl (x1, x2, x3, t1, t2))) S → ∀ (H : Heap) (locs : List Loc), va_P (dC, dI) vwCl (wM q cI cJ cZ S) H → va_D A (wM q cI cJ cZ S) → va_S A s.heap H locs → ∀ ls : Array Slot, lv_has ls 6 [(0, .ref (q 0)), (1, .int x1), (2, .int x2), (3, .int x3)] → W p l e (headSpec ww_sell ({ frames := 5, cells := 0, slots := 0, locals := 119 } : Room)).room s m args below meth c H locs 0 0 (MQ below (va_Qi Post (atM dC dI q cI cJ cZ A) A) args s 0 0 A) (F0 m 94 ls [.int t2, .int t1, .ref (q 9)])) (hK2 : ∀ (x1 : Int32) (x2 : Int32) (x3 : Int32) (x4 : Int32) (S : MS), K (.inr (.inr (.inl (x1, x2, x3, x4)))) S → ∀ (H : Heap) (locs : List Loc), va_P (dC, dI) vwCl (wM q cI cJ cZ S) H → va_D A (wM q cI cJ cZ S) → va_S A s.heap H locs → ∀ ls : Array Slot, lv_has ls 6 [(0, .ref (q 0)), (1, .int x1), (2, .int x2), (3, .int x3), (4, .int x4)] → W p l e (headSpec ww_sell ({ frames := 5, cells := 0, slots := 0, locals := 119 } : Room)).room s m args below meth c H locs 0 0 (MQ below (va_Qi Post (atM dC dI q cI cJ cZ A) A) args s 0 0 A) (F0 m 115 ls [])) (hK3 : ∀ (x1 : Int32) (x2 : Int32) (x3 : Int32) (x4 : Int32) (x5 : Int32) (S : MS), K (.inr (.inr (.inr (x1, x2, x3, x4, x5)))) S → ∀ (H : Heap) (locs : List Loc), va_P (dC, dI) vwCl (wM q cI cJ cZ S) H → va_D A (wM q cI cJ cZ S) → va_S A s.heap H locs → ∀ ls : Array Slot, lv_has ls 6 [(0, .ref (q 0)), (1, .int x1), (2, .int x2), (3, .int x3), (4, .int x4), (5, .int x5)] → W p l e (headSpec ww_sell ({ frames := 5, cells := 0, slots := 0, locals := 119 } : Room)).room s m args below meth c H locs 0 0 (MQ below (va_Qi Post (atM dC dI q cI cJ cZ A) A) args s 0 0 A) (F0 m 192 ls [])) (x1 : Int32) (x2 : Int32) (x3 : Int32) (x4 : Int32) (S : MS) (h : B_sell Post K (.inr (.inr (.inl (x1, x2, x3, x4)))) S) : ∀ (H : Heap) (locs : List Loc), va_P (dC, dI) vwCl (wM q cI cJ cZ S) H → va_D A (wM q cI cJ cZ S) → va_S A s.heap H locs → ∀ ls : Array Slot, lv_has ls 6 [(0, .ref (q 0)), (1, .int x1), (2, .int x2), (3, .int x3), (4, .int x4)] → W p l e (headSpec ww_sell ({ frames := 5, cells := 0, slots := 0, locals := 119 } : Room)).room s m args below meth c H locs 0 0 (MQ below (va_Qi Post (atM dC dI q cI cJ cZ A) A) args s 0 0 A) (F0 m 115 ls []) := by
  have hx := X.1
  have hb := X.2.1
  intro H locs hP hD hS ls hl
  have lk7 := X.2.2.2.2.1 (.fieldLink RX12 7 "BreathOnLoanModel" "a" "[I") (inW 5 rfl)
  have lk43 := X.2.2.2.2.1 (.fieldLink RX12 43 "BreathOnLoanModel" "shares" "[I") (inW 17 rfl)
  dsimp only [B_sell] at h
  refine lv_iload hx hb (dk DX12_sell 72 rfl) (lv_at hl 4 rfl) ?_
  refine lv_aload_n hx hb (dk DX12_sell 73 rfl) rfl (lv_at hl 0 rfl) ?_
  refine gM X hP 0 (by decide) rfl lk7 (dk DX12_sell 74 rfl) ?_
  refine lv_iconst (v := 0) hx hb (dk DX12_sell 75 rfl) (by decide) ?_
  obtain ⟨hin, h⟩ := h
  refine ldM X hP 1 rfl hin (dk DX12_sell 76 rfl) ?_
  refine lv_icmp_ge (tgt := 220) hx hb (dk DX12_sell 77 rfl) (by decide) (fun hc => ?_) (fun hc => ?_)
  · have h := h.1 hc
    refine lv_iload_n hx hb (dk DX12_sell 133 rfl) rfl (lv_at hl 3 rfl) ?_
    exact W.iret (v := x3) hx hb hr (fun t ht hW => ⟨⟨_, _, rfl, h, by rw [ht]; exact hP, va_K.moved hW.alike X.2.2.2.2.2.2.1, hD⟩, hS.F ht⟩) hS.2.2 (dk DX12_sell 134 rfl)
  · have h := h.2 hc
    refine lv_iload_n hx hb (dk DX12_sell 78 rfl) rfl (lv_at hl 2 rfl) ?_
    refine lv_if_le (tgt := 220) hx hb (dk DX12_sell 79 rfl) (by decide) (fun hc => ?_) (fun hc => ?_)
    · have h := h.1 hc
      refine lv_iload_n hx hb (dk DX12_sell 133 rfl) rfl (lv_at hl 3 rfl) ?_
      exact W.iret (v := x3) hx hb hr (fun t ht hW => ⟨⟨_, _, rfl, h, by rw [ht]; exact hP, va_K.moved hW.alike X.2.2.2.2.2.2.1, hD⟩, hS.F ht⟩) hS.2.2 (dk DX12_sell 134 rfl)
    · have h := h.2 hc
      refine lv_aload_n hx hb (dk DX12_sell 80 rfl) rfl (lv_at hl 0 rfl) ?_
      refine gM X hP 0 (by decide) rfl lk7 (dk DX12_sell 81 rfl) ?_
      refine lv_bipush (v := 40) hx hb (dk DX12_sell 82 rfl) (by decide) ?_
      refine lv_iconst (v := 3) hx hb (dk DX12_sell 83 rfl) (by decide) ?_
      refine lv_aload_n hx hb (dk DX12_sell 84 rfl) rfl (lv_at hl 0 rfl) ?_
      refine gM X hP 0 (by decide) rfl lk7 (dk DX12_sell 85 rfl) ?_
      refine lv_iload_n hx hb (dk DX12_sell 86 rfl) rfl (lv_at hl 1 rfl) ?_
      refine cSi (As := [.int x1]) (rest := [.ref (q 1), .int 3, .int 40, .ref (q 1)]) ⟨X.1, X.2.1, X.2.2.1, X.2.2.2.1, X.2.2.2.2.1⟩ (m_pieceAt (l := l) x1 h) (va_cwS 1 X.2.2.2.2.1 (gwS 40 41 24 38 rfl rfl rfl rfl) rfl rfl rfl q_pieceAt ⟨Nat.le_of_ble_eq_true rfl, Nat.le_of_ble_eq_true rfl⟩) rfl hl.1 rfl (Nat.le_of_ble_eq_true rfl) (dk DX12_sell 87 rfl) (fun r15 h => ?_)
      obtain ⟨hin, h⟩ := h
      refine ldM X hP 1 rfl hin (dk DX12_sell 88 rfl) ?_
      refine lv_imul hx hb (dk DX12_sell 89 rfl) ?_
      refine lv_iadd hx hb (dk DX12_sell 90 rfl) ?_
      refine lv_iconst (v := 2) hx hb (dk DX12_sell 91 rfl) (by decide) ?_
      refine lv_iadd hx hb (dk DX12_sell 92 rfl) ?_
      obtain ⟨hin, h⟩ := h
      refine ldM X hP 1 rfl hin (dk DX12_sell 93 rfl) ?_
      refine lv_aload_n hx hb (dk DX12_sell 94 rfl) rfl (lv_at hl 0 rfl) ?_
      refine gM X hP 25 (by decide) rfl lk43 (dk DX12_sell 95 rfl) ?_
      refine lv_iload hx hb (dk DX12_sell 96 rfl) (lv_at hl 4 rfl) ?_
      obtain ⟨hin, h⟩ := h
      refine ldM X hP 9 rfl hin (dk DX12_sell 97 rfl) ?_
      refine lv_imul hx hb (dk DX12_sell 98 rfl) ?_
      refine lv_iload_n hx hb (dk DX12_sell 99 rfl) rfl (lv_at hl 2 rfl) ?_
      obtain ⟨hz, h⟩ := h
      refine lv_idiv hx hb (dk DX12_sell 100 rfl) hz ?_
      refine lv_topi (fun v16 ev16 => ?_)
      have h := h v16 ev16
      refine lv_istore (lv' := [(5, .int v16), (0, .ref (q 0)), (1, .int x1), (2, .int x2), (3, .int x3), (4, .int x4)]) hx hb (dk DX12_sell 101 rfl) hl (by decide) rfl (fun ls hl => ?_)
      refine lv_aload_n hx hb (dk DX12_sell 102 rfl) rfl (lv_at hl 1 rfl) ?_
      refine lv_iload hx hb (dk DX12_sell 103 rfl) (lv_at hl 5 rfl) ?_
      refine lv_iconst (v := 2) hx hb (dk DX12_sell 104 rfl) (by decide) ?_
      refine cMi (As := [.int x4, .int 2]) (rest := []) X (m_get (l := l) (dC := dC) (dI := dI) (q := q) (cI := cI) (cJ := cJ) (cZ := cZ) (sz := _) x4 2 S h) (cwV 2 X.2.2.2.2.1 (gwV 47 48 49 24 36 rfl rfl rfl rfl rfl) rfl rfl rfl q_get ⟨Nat.le_of_ble_eq_true rfl, Nat.le_of_ble_eq_true rfl⟩) hP hD hS rfl hl.1 rfl (Nat.le_of_ble_eq_true rfl) (dk DX12_sell 105 rfl) (fun r18 S17 H locs h hP hD hS => ?_)
      refine lv_iload hx hb (dk DX12_sell 106 rfl) (lv_at hl 0 rfl) ?_
      refine lv_iadd hx hb (dk DX12_sell 107 rfl) ?_
      refine lv_sipush (v := 999) hx hb (dk DX12_sell 108 rfl) (by decide) ?_
      refine lv_icmp_le (tgt := 192) hx hb (dk DX12_sell 109 rfl) (by decide) (fun hc => ?_) (fun hc => ?_)
      · have h := h.1 hc
        exact hK3 x1 x2 x3 x4 v16 S17 h _ _ hP hD hS ls (lv_sub hl [1, 2, 3, 4, 5, 0] rfl)
      · have h := h.2 hc
        refine lv_sipush (v := 999) hx hb (dk DX12_sell 110 rfl) (by decide) ?_
        refine lv_aload_n hx hb (dk DX12_sell 111 rfl) rfl (lv_at hl 1 rfl) ?_
        refine lv_iload hx hb (dk DX12_sell 112 rfl) (lv_at hl 5 rfl) ?_
        refine lv_iconst (v := 2) hx hb (dk DX12_sell 113 rfl) (by decide) ?_
        refine cMi (As := [.int x4, .int 2]) (rest := [.int 999]) X (m_get (l := l) (dC := dC) (dI := dI) (q := q) (cI := cI) (cJ := cJ) (cZ := cZ) (sz := _) x4 2 S17 h) (cwV 2 X.2.2.2.2.1 (gwV 47 48 49 24 36 rfl rfl rfl rfl rfl) rfl rfl rfl q_get ⟨Nat.le_of_ble_eq_true rfl, Nat.le_of_ble_eq_true rfl⟩) hP hD hS rfl hl.1 rfl (Nat.le_of_ble_eq_true rfl) (dk DX12_sell 114 rfl) (fun r20 S19 H locs h hP hD hS => ?_)
        refine lv_isub hx hb (dk DX12_sell 115 rfl) ?_
        refine lv_topi (fun v21 ev21 => ?_)
        have h := h v21 ev21
        refine lv_istore (lv' := [(5, .int v21), (0, .ref (q 0)), (1, .int x1), (2, .int x2), (3, .int x3), (4, .int x4)]) hx hb (dk DX12_sell 116 rfl) hl (by decide) rfl (fun ls hl => ?_)
        exact hK3 x1 x2 x3 x4 v21 S19 h _ _ hP hD hS ls (lv_sub hl [1, 2, 3, 4, 5, 0] rfl)
set_option maxHeartbeats 4000000 in
set_option maxRecDepth 100000 in
theorem h_sell_3 {p : Program} {l : Launch} {e : Env} {s : State} {m : MethodId} {below : List Frame} {meth : Method} {c : Code} {dC : Nat → ClassId} {dI : Nat → Nat → Nat} {q : Nat → Nat} {cI cJ cZ : ClassId} {A : Nat → Prop} {args : Array Value} {Post : Int32 → MS → Prop} {K : Hd_sell → MS → Prop} (X : XM p s m args c cX12_sell 6 ww_sell dC dI cI cJ cZ A) (hr : meth.sig.returnType = (some .int)) (hlocks : meth.locks = false) (hK0 : ∀ (x1 : Int32) (x2 : Int32) (x3 : Int32) (S : MS), K (.inl (x1, x2, x3)) S → ∀ (H : Heap) (locs : List Loc), va_P (dC, dI) vwCl (wM q cI cJ cZ S) H → va_D A (wM q cI cJ cZ S) → va_S A s.heap H locs → ∀ ls : Array Slot, lv_has ls 6 [(0, .ref (q 0)), (1, .int x1), (2, .int x2), (3, .int x3)] → W p l e (headSpec ww_sell ({ frames := 5, cells := 0, slots := 0, locals := 119 } : Room)).room s m args below meth c H locs 0 0 (MQ below (va_Qi Post (atM dC dI q cI cJ cZ A) A) args s 0 0 A) (F0 m 60 ls [])) (hK1 : ∀ (x1 : Int32) (x2 : Int32) (x3 : Int32) (t1 : Int32) (t2 : Int32) (S : MS), K (.inr (.inl (x1, x2, x3, t1, t2))) S → ∀ (H : Heap) (locs : List Loc), va_P (dC, dI) vwCl (wM q cI cJ cZ S) H → va_D A (wM q cI cJ cZ S) → va_S A s.heap H locs → ∀ ls : Array Slot, lv_has ls 6 [(0, .ref (q 0)), (1, .int x1), (2, .int x2), (3, .int x3)] → W p l e (headSpec ww_sell ({ frames := 5, cells := 0, slots := 0, locals := 119 } : Room)).room s m args below meth c H locs 0 0 (MQ below (va_Qi Post (atM dC dI q cI cJ cZ A) A) args s 0 0 A) (F0 m 94 ls [.int t2, .int t1, .ref (q 9)])) (hK2 : ∀ (x1 : Int32) (x2 : Int32) (x3 : Int32) (x4 : Int32) (S : MS), K (.inr (.inr (.inl (x1, x2, x3, x4)))) S → ∀ (H : Heap) (locs : List Loc), va_P (dC, dI) vwCl (wM q cI cJ cZ S) H → va_D A (wM q cI cJ cZ S) → va_S A s.heap H locs → ∀ ls : Array Slot, lv_has ls 6 [(0, .ref (q 0)), (1, .int x1), (2, .int x2), (3, .int x3), (4, .int x4)] → W p l e (headSpec ww_sell ({ frames := 5, cells := 0, slots := 0, locals := 119 } : Room)).room s m args below meth c H locs 0 0 (MQ below (va_Qi Post (atM dC dI q cI cJ cZ A) A) args s 0 0 A) (F0 m 115 ls [])) (hK3 : ∀ (x1 : Int32) (x2 : Int32) (x3 : Int32) (x4 : Int32) (x5 : Int32) (S : MS), K (.inr (.inr (.inr (x1, x2, x3, x4, x5)))) S → ∀ (H : Heap) (locs : List Loc), va_P (dC, dI) vwCl (wM q cI cJ cZ S) H → va_D A (wM q cI cJ cZ S) → va_S A s.heap H locs → ∀ ls : Array Slot, lv_has ls 6 [(0, .ref (q 0)), (1, .int x1), (2, .int x2), (3, .int x3), (4, .int x4), (5, .int x5)] → W p l e (headSpec ww_sell ({ frames := 5, cells := 0, slots := 0, locals := 119 } : Room)).room s m args below meth c H locs 0 0 (MQ below (va_Qi Post (atM dC dI q cI cJ cZ A) A) args s 0 0 A) (F0 m 192 ls [])) (x1 : Int32) (x2 : Int32) (x3 : Int32) (x4 : Int32) (x5 : Int32) (S : MS) (h : B_sell Post K (.inr (.inr (.inr (x1, x2, x3, x4, x5)))) S) : ∀ (H : Heap) (locs : List Loc), va_P (dC, dI) vwCl (wM q cI cJ cZ S) H → va_D A (wM q cI cJ cZ S) → va_S A s.heap H locs → ∀ ls : Array Slot, lv_has ls 6 [(0, .ref (q 0)), (1, .int x1), (2, .int x2), (3, .int x3), (4, .int x4), (5, .int x5)] → W p l e (headSpec ww_sell ({ frames := 5, cells := 0, slots := 0, locals := 119 } : Room)).room s m args below meth c H locs 0 0 (MQ below (va_Qi Post (atM dC dI q cI cJ cZ A) A) args s 0 0 A) (F0 m 192 ls []) := by
  have hx := X.1
  have hb := X.2.1
  intro H locs hP hD hS ls hl
  have lk7 := X.2.2.2.2.1 (.fieldLink RX12 7 "BreathOnLoanModel" "a" "[I") (inW 5 rfl)
  have lk43 := X.2.2.2.2.1 (.fieldLink RX12 43 "BreathOnLoanModel" "shares" "[I") (inW 17 rfl)
  dsimp only [B_sell] at h
  refine lv_aload_n hx hb (dk DX12_sell 117 rfl) rfl (lv_at hl 0 rfl) ?_
  refine lv_iload hx hb (dk DX12_sell 118 rfl) (lv_at hl 4 rfl) ?_
  refine lv_iconst (v := 2) hx hb (dk DX12_sell 119 rfl) (by decide) ?_
  refine lv_aload_n hx hb (dk DX12_sell 120 rfl) rfl (lv_at hl 0 rfl) ?_
  refine lv_iload hx hb (dk DX12_sell 121 rfl) (lv_at hl 4 rfl) ?_
  refine lv_iconst (v := 2) hx hb (dk DX12_sell 122 rfl) (by decide) ?_
  refine cMi (As := [.int x4, .int 2]) (rest := [.int 2, .int x4, .ref (q 0)]) X (m_get (l := l) (dC := dC) (dI := dI) (q := q) (cI := cI) (cJ := cJ) (cZ := cZ) (sz := _) x4 2 S h) (cwV 2 X.2.2.2.2.1 (gwV 47 48 49 24 36 rfl rfl rfl rfl rfl) rfl rfl rfl q_get ⟨Nat.le_of_ble_eq_true rfl, Nat.le_of_ble_eq_true rfl⟩) hP hD hS rfl hl.1 rfl (Nat.le_of_ble_eq_true rfl) (dk DX12_sell 123 rfl) (fun r23 S22 H locs h hP hD hS => ?_)
  refine lv_iload hx hb (dk DX12_sell 124 rfl) (lv_at hl 5 rfl) ?_
  refine lv_iadd hx hb (dk DX12_sell 125 rfl) ?_
  refine cMv (As := [.int x4, .int 2, .int (r23 + x5)]) (rest := []) X (m_set (l := l) (dC := dC) (dI := dI) (q := q) (cI := cI) (cJ := cJ) (cZ := cZ) (sz := _) x4 2 (r23 + x5) S22 h) (cwV 3 X.2.2.2.2.1 (gwV 43 44 45 24 37 rfl rfl rfl rfl rfl) rfl rfl rfl q_set ⟨Nat.le_of_ble_eq_true rfl, Nat.le_of_ble_eq_true rfl⟩) hP hD hS rfl hl.1 rfl (Nat.le_of_ble_eq_true rfl) (dk DX12_sell 126 rfl) (fun S24 H locs h hP hD hS => ?_)
  refine lv_iload_n hx hb (dk DX12_sell 127 rfl) rfl (lv_at hl 3 rfl) ?_
  refine lv_iload hx hb (dk DX12_sell 128 rfl) (lv_at hl 5 rfl) ?_
  refine lv_iadd hx hb (dk DX12_sell 129 rfl) ?_
  refine lv_topi (fun v25 ev25 => ?_)
  have h := h v25 ev25
  refine lv_istore_n (lv' := [(3, .int v25), (0, .ref (q 0)), (1, .int x1), (2, .int x2), (4, .int x4), (5, .int x5)]) hx hb (dk DX12_sell 130 rfl) rfl hl (by decide) rfl (fun ls hl => ?_)
  obtain ⟨v26, ev26⟩ : ∃ y : Int32, y = x4 + 1 := ⟨_, rfl⟩
  have h := h v26 ev26
  refine lv_iinc (v := v26) (lv' := [(4, .int v26), (3, .int v25), (0, .ref (q 0)), (1, .int x1), (2, .int x2), (5, .int x5)]) hx hb (dk DX12_sell 131 rfl) hl (k := 4) rfl (by rw [ev26]; rfl) (by decide) rfl (fun ls hl => ?_)
  refine lv_goto (tgt := 115) hx hb (dk DX12_sell 132 rfl) (by decide) ?_
  exact hK2 x1 x2 v25 v26 S24 h _ _ hP hD hS ls (lv_sub hl [2, 3, 4, 1, 0] rfl)
set_option maxHeartbeats 4000000 in
set_option maxRecDepth 100000 in
theorem m_sell {l : Launch} {dC : Nat → ClassId} {dI : Nat → Nat → Nat} {q : Nat → Nat} {cI cJ cZ : ClassId} {sz : Nat} {Post : Int32 → MS → Prop} (a0 : Int32) (S : MS) (h : VC_sell Post a0 S) : Met l yX12_sell ww_sell ({ frames := 5, cells := 0, slots := 0, locals := 119 } : Room) (va_Pc [.ref (q 0), .int a0] (preM dC dI q cI cJ cZ S sz)) (va_Qi Post (atM dC dI q cI cJ cZ (va_A (wM q cI cJ cZ S) sz)) (va_A (wM q cI cJ cZ S) sz)) 0 0 (va_A (wM q cI cJ cZ S) sz) := by
  refine oM (cc := cX12_sell) (maxL := 6) (ret := (some .int)) (Qc := fun A => va_Qi Post (atM dC dI q cI cJ cZ A) A) (by decide) rfl (fun w h => List.mem_cons_of_mem _ (List.mem_append_right _ h)) rfl (Nat.le_of_ble_eq_true rfl) (fun p e s m below meth c A ls X hr hlocks hP hD hS hl => ?_)
  have hx := X.1
  have hb := X.2.1
  have hl : lv_has ls 6 [(0, .ref (q 0)), (1, .int a0)] := hl
  have lk7 := X.2.2.2.2.1 (.fieldLink RX12 7 "BreathOnLoanModel" "a" "[I") (inW 5 rfl)
  have lk43 := X.2.2.2.2.1 (.fieldLink RX12 43 "BreathOnLoanModel" "shares" "[I") (inW 17 rfl)
  generalize hargs : ([.ref (q 0), .int a0] : List Value).toArray = args at X ⊢
  have h := h (fun hd S => match hd with | (.inl (x1, x2, x3)) => ∀ (H : Heap) (locs : List Loc), va_P (dC, dI) vwCl (wM q cI cJ cZ S) H → va_D A (wM q cI cJ cZ S) → va_S A s.heap H locs → ∀ ls : Array Slot, lv_has ls 6 [(0, .ref (q 0)), (1, .int x1), (2, .int x2), (3, .int x3)] → W p l e (headSpec ww_sell ({ frames := 5, cells := 0, slots := 0, locals := 119 } : Room)).room s m args below meth c H locs 0 0 (MQ below (va_Qi Post (atM dC dI q cI cJ cZ A) A) args s 0 0 A) (F0 m 60 ls []) | (.inr (.inl (x1, x2, x3, t1, t2))) => ∀ (H : Heap) (locs : List Loc), va_P (dC, dI) vwCl (wM q cI cJ cZ S) H → va_D A (wM q cI cJ cZ S) → va_S A s.heap H locs → ∀ ls : Array Slot, lv_has ls 6 [(0, .ref (q 0)), (1, .int x1), (2, .int x2), (3, .int x3)] → W p l e (headSpec ww_sell ({ frames := 5, cells := 0, slots := 0, locals := 119 } : Room)).room s m args below meth c H locs 0 0 (MQ below (va_Qi Post (atM dC dI q cI cJ cZ A) A) args s 0 0 A) (F0 m 94 ls [.int t2, .int t1, .ref (q 9)]) | (.inr (.inr (.inl (x1, x2, x3, x4)))) => ∀ (H : Heap) (locs : List Loc), va_P (dC, dI) vwCl (wM q cI cJ cZ S) H → va_D A (wM q cI cJ cZ S) → va_S A s.heap H locs → ∀ ls : Array Slot, lv_has ls 6 [(0, .ref (q 0)), (1, .int x1), (2, .int x2), (3, .int x3), (4, .int x4)] → W p l e (headSpec ww_sell ({ frames := 5, cells := 0, slots := 0, locals := 119 } : Room)).room s m args below meth c H locs 0 0 (MQ below (va_Qi Post (atM dC dI q cI cJ cZ A) A) args s 0 0 A) (F0 m 115 ls []) | (.inr (.inr (.inr (x1, x2, x3, x4, x5)))) => ∀ (H : Heap) (locs : List Loc), va_P (dC, dI) vwCl (wM q cI cJ cZ S) H → va_D A (wM q cI cJ cZ S) → va_S A s.heap H locs → ∀ ls : Array Slot, lv_has ls 6 [(0, .ref (q 0)), (1, .int x1), (2, .int x2), (3, .int x3), (4, .int x4), (5, .int x5)] → W p l e (headSpec ww_sell ({ frames := 5, cells := 0, slots := 0, locals := 119 } : Room)).room s m args below meth c H locs 0 0 (MQ below (va_Qi Post (atM dC dI q cI cJ cZ A) A) args s 0 0 A) (F0 m 192 ls [])) ?_
  · skip
    refine lv_aload_n hx hb (dk DX12_sell 0 rfl) rfl (lv_at hl 0 rfl) ?_
    refine lv_iload_n hx hb (dk DX12_sell 1 rfl) rfl (lv_at hl 1 rfl) ?_
    refine cMi (As := [.int a0]) (rest := []) X (m_isPiece (l := l) (dC := dC) (dI := dI) (q := q) (cI := cI) (cJ := cJ) (cZ := cZ) (sz := _) a0 S h) (cwV 1 X.2.2.2.2.1 (gwV 268 269 270 24 34 rfl rfl rfl rfl rfl) rfl rfl rfl q_isPiece ⟨Nat.le_of_ble_eq_true rfl, Nat.le_of_ble_eq_true rfl⟩) hP hD hS rfl hl.1 rfl (Nat.le_of_ble_eq_true rfl) (dk DX12_sell 2 rfl) (fun r2 S1 H locs h hP hD hS => ?_)
    refine lv_if_eq (tgt := 38) hx hb (dk DX12_sell 3 rfl) (by decide) (fun hc => ?_) (fun hc => ?_)
    · have h := h.1 hc
      refine lv_iconst (v := (-1)) hx hb (dk DX12_sell 22 rfl) (by decide) ?_
      exact W.iret (v := (-1)) hx hb hr (fun t ht hW => ⟨⟨_, _, rfl, h, by rw [ht]; exact hP, va_K.moved hW.alike X.2.2.2.2.2.2.1, hD⟩, hS.F ht⟩) hS.2.2 (dk DX12_sell 23 rfl)
    · have h := h.2 hc
      refine lv_aload_n hx hb (dk DX12_sell 4 rfl) rfl (lv_at hl 0 rfl) ?_
      refine gM X hP 0 (by decide) rfl lk7 (dk DX12_sell 5 rfl) ?_
      refine lv_iload_n hx hb (dk DX12_sell 6 rfl) rfl (lv_at hl 1 rfl) ?_
      refine cSi (As := [.int a0]) (rest := [.ref (q 1)]) ⟨X.1, X.2.1, X.2.2.1, X.2.2.2.1, X.2.2.2.2.1⟩ (m_pieceAt (l := l) a0 h) (va_cwS 1 X.2.2.2.2.1 (gwS 40 41 24 38 rfl rfl rfl rfl) rfl rfl rfl q_pieceAt ⟨Nat.le_of_ble_eq_true rfl, Nat.le_of_ble_eq_true rfl⟩) rfl hl.1 rfl (Nat.le_of_ble_eq_true rfl) (dk DX12_sell 7 rfl) (fun r3 h => ?_)
      refine lv_iconst (v := 1) hx hb (dk DX12_sell 8 rfl) (by decide) ?_
      refine lv_iadd hx hb (dk DX12_sell 9 rfl) ?_
      obtain ⟨hin, h⟩ := h
      refine ldM X hP 1 rfl hin (dk DX12_sell 10 rfl) ?_
      refine lv_iconst (v := 1) hx hb (dk DX12_sell 11 rfl) (by decide) ?_
      refine lv_icmp_ne (tgt := 38) hx hb (dk DX12_sell 12 rfl) (by decide) (fun hc => ?_) (fun hc => ?_)
      · have h := h.1 hc
        refine lv_iconst (v := (-1)) hx hb (dk DX12_sell 22 rfl) (by decide) ?_
        exact W.iret (v := (-1)) hx hb hr (fun t ht hW => ⟨⟨_, _, rfl, h, by rw [ht]; exact hP, va_K.moved hW.alike X.2.2.2.2.2.2.1, hD⟩, hS.F ht⟩) hS.2.2 (dk DX12_sell 23 rfl)
      · have h := h.2 hc
        refine lv_aload_n hx hb (dk DX12_sell 13 rfl) rfl (lv_at hl 0 rfl) ?_
        refine gM X hP 0 (by decide) rfl lk7 (dk DX12_sell 14 rfl) ?_
        refine lv_iload_n hx hb (dk DX12_sell 15 rfl) rfl (lv_at hl 1 rfl) ?_
        refine cSi (As := [.int a0]) (rest := [.ref (q 1)]) ⟨X.1, X.2.1, X.2.2.1, X.2.2.2.1, X.2.2.2.2.1⟩ (m_pieceAt (l := l) a0 h) (va_cwS 1 X.2.2.2.2.1 (gwS 40 41 24 38 rfl rfl rfl rfl) rfl rfl rfl q_pieceAt ⟨Nat.le_of_ble_eq_true rfl, Nat.le_of_ble_eq_true rfl⟩) rfl hl.1 rfl (Nat.le_of_ble_eq_true rfl) (dk DX12_sell 16 rfl) (fun r4 h => ?_)
        refine lv_iconst (v := 3) hx hb (dk DX12_sell 17 rfl) (by decide) ?_
        refine lv_iadd hx hb (dk DX12_sell 18 rfl) ?_
        obtain ⟨hin, h⟩ := h
        refine ldM X hP 1 rfl hin (dk DX12_sell 19 rfl) ?_
        refine lv_iconst (v := 1) hx hb (dk DX12_sell 20 rfl) (by decide) ?_
        refine lv_icmp_ne (tgt := 40) hx hb (dk DX12_sell 21 rfl) (by decide) (fun hc => ?_) (fun hc => ?_)
        · have h := h.1 hc
          refine lv_aload_n hx hb (dk DX12_sell 24 rfl) rfl (lv_at hl 0 rfl) ?_
          refine cMv (As := []) (rest := []) X (m_keep (l := l) (dC := dC) (dI := dI) (q := q) (cI := cI) (cJ := cJ) (cZ := cZ) (sz := _) S1 h) (cwV 0 X.2.2.2.2.1 (gwV 263 264 265 24 257 rfl rfl rfl rfl rfl) rfl rfl rfl q_keep ⟨Nat.le_of_ble_eq_true rfl, Nat.le_of_ble_eq_true rfl⟩) hP hD hS rfl hl.1 rfl (Nat.le_of_ble_eq_true rfl) (dk DX12_sell 25 rfl) (fun S5 H locs h hP hD hS => ?_)
          refine lv_aload_n hx hb (dk DX12_sell 26 rfl) rfl (lv_at hl 0 rfl) ?_
          refine gM X hP 0 (by decide) rfl lk7 (dk DX12_sell 27 rfl) ?_
          refine lv_iload_n hx hb (dk DX12_sell 28 rfl) rfl (lv_at hl 1 rfl) ?_
          refine cSi (As := [.int a0]) (rest := [.ref (q 1)]) ⟨X.1, X.2.1, X.2.2.1, X.2.2.2.1, X.2.2.2.2.1⟩ (m_pieceAt (l := l) a0 h) (va_cwS 1 X.2.2.2.2.1 (gwS 40 41 24 38 rfl rfl rfl rfl) rfl rfl rfl q_pieceAt ⟨Nat.le_of_ble_eq_true rfl, Nat.le_of_ble_eq_true rfl⟩) rfl hl.1 rfl (Nat.le_of_ble_eq_true rfl) (dk DX12_sell 29 rfl) (fun r6 h => ?_)
          refine lv_iconst (v := 3) hx hb (dk DX12_sell 30 rfl) (by decide) ?_
          refine lv_iadd hx hb (dk DX12_sell 31 rfl) ?_
          refine lv_iconst (v := 1) hx hb (dk DX12_sell 32 rfl) (by decide) ?_
          obtain ⟨hin, h⟩ := h
          refine stM_0 X hP hD hS hin (dk DX12_sell 33 rfl) (fun S7 eS7 H locs hP hD hS => ?_)
          have h := h S7 eS7
          refine lv_iconst (v := 0) hx hb (dk DX12_sell 34 rfl) (by decide) ?_
          refine lv_istore_n (lv' := [(2, .int 0), (0, .ref (q 0)), (1, .int a0)]) hx hb (dk DX12_sell 35 rfl) rfl hl (by decide) rfl (fun ls hl => ?_)
          refine lv_iconst (v := 0) hx hb (dk DX12_sell 36 rfl) (by decide) ?_
          refine lv_istore_n (lv' := [(3, .int 0), (2, .int 0), (0, .ref (q 0)), (1, .int a0)]) hx hb (dk DX12_sell 37 rfl) rfl hl (by decide) rfl (fun ls hl => ?_)
          exact h _ _ hP hD hS ls (lv_sub hl [2, 3, 1, 0] rfl)
        · have h := h.2 hc
          refine lv_iconst (v := (-1)) hx hb (dk DX12_sell 22 rfl) (by decide) ?_
          exact W.iret (v := (-1)) hx hb hr (fun t ht hW => ⟨⟨_, _, rfl, h, by rw [ht]; exact hP, va_K.moved hW.alike X.2.2.2.2.2.2.1, hD⟩, hS.F ht⟩) hS.2.2 (dk DX12_sell 23 rfl)
  · rintro (⟨x1, x2, x3⟩ | ⟨x1, x2, x3, t1, t2⟩ | ⟨x1, x2, x3, x4⟩ | ⟨x1, x2, x3, x4, x5⟩) S hB
    · exact h_sell_0 X hr hlocks (hK0 := fun _ _ _ _ h => h) (hK1 := fun _ _ _ _ _ _ h => h) (hK2 := fun _ _ _ _ _ h => h) (hK3 := fun _ _ _ _ _ _ h => h) x1 x2 x3 S hB
    · exact h_sell_1 X hr hlocks (hK0 := fun _ _ _ _ h => h) (hK1 := fun _ _ _ _ _ _ h => h) (hK2 := fun _ _ _ _ _ h => h) (hK3 := fun _ _ _ _ _ _ h => h) x1 x2 x3 t1 t2 S hB
    · exact h_sell_2 X hr hlocks (hK0 := fun _ _ _ _ h => h) (hK1 := fun _ _ _ _ _ _ h => h) (hK2 := fun _ _ _ _ _ h => h) (hK3 := fun _ _ _ _ _ _ h => h) x1 x2 x3 x4 S hB
    · exact h_sell_3 X hr hlocks (hK0 := fun _ _ _ _ h => h) (hK1 := fun _ _ _ _ _ _ h => h) (hK2 := fun _ _ _ _ _ h => h) (hK3 := fun _ _ _ _ _ _ h => h) x1 x2 x3 x4 x5 S hB

def ww_isPlayed : List Cond := .code yX12_isPlayed cX12_isPlayed 2 (some .boolean) :: (WdM ++ wsX120)
theorem q_isPlayed : yX12_isPlayed.cls = RX12 ∧ yX12_isPlayed.cls ≠ "java/lang/invoke/MethodHandle" ∧ yX12_isPlayed.cls ≠ "java/lang/invoke/VarHandle" ∧ (parseMethodDescriptor yX12_isPlayed.desc).map (fun d => d.parameters.length) = some 1 := by decide +kernel
def VC_isPlayed (Post : Int32 → MS → Prop) (a0 : Int32) (S : MS) : Prop := vp_in a0 2720 ∧ ((((S.2.2.1 2) a0.toNatClampNeg) = 4 → vp_in (a0 + 1) 2720 ∧ VC_begin (fun r2 S1 => ((r2 < 0 → Post 0 S1) ∧ (¬ r2 < 0 → Post 1 S1))) ((S.2.2.1 2) (a0 + 1).toNatClampNeg) S) ∧ (((S.2.2.1 2) a0.toNatClampNeg) = 5 → vp_in (a0 + 1) 2720 ∧ vp_in (a0 + 2) 2720 ∧ ¬ (10 : Int32) = 0 ∧ vp_in (a0 + 2) 2720 ∧ ¬ (10 : Int32) = 0 ∧ VC_blow (fun r4 S3 => ((r4 < 0 → Post 0 S3) ∧ (¬ r4 < 0 → Post 1 S3))) ((S.2.2.1 2) (a0 + 1).toNatClampNeg) (((S.2.2.1 2) (a0 + 2).toNatClampNeg) / 10) (((S.2.2.1 2) (a0 + 2).toNatClampNeg) - ((S.2.2.1 2) (a0 + 2).toNatClampNeg) / 10 * 10) S) ∧ (((S.2.2.1 2) a0.toNatClampNeg) = 6 → vp_in (a0 + 1) 2720 ∧ VC_later (fun r6 S5 => ((r6 < 0 → Post 0 S5) ∧ (¬ r6 < 0 → Post 1 S5))) ((S.2.2.1 2) (a0 + 1).toNatClampNeg) S) ∧ (¬ ((S.2.2.1 2) a0.toNatClampNeg) = 4 → ¬ ((S.2.2.1 2) a0.toNatClampNeg) = 5 → ¬ ((S.2.2.1 2) a0.toNatClampNeg) = 6 → Post 1 S))
set_option maxHeartbeats 4000000 in
set_option maxRecDepth 100000 in
theorem m_isPlayed {l : Launch} {dC : Nat → ClassId} {dI : Nat → Nat → Nat} {q : Nat → Nat} {cI cJ cZ : ClassId} {sz : Nat} {Post : Int32 → MS → Prop} (a0 : Int32) (S : MS) (h : VC_isPlayed Post a0 S) : Met l yX12_isPlayed ww_isPlayed ({ frames := 6, cells := 0, slots := 0, locals := 147 } : Room) (va_Pc [.ref (q 0), .int a0] (preM dC dI q cI cJ cZ S sz)) (va_Qi Post (atM dC dI q cI cJ cZ (va_A (wM q cI cJ cZ S) sz)) (va_A (wM q cI cJ cZ S) sz)) 0 0 (va_A (wM q cI cJ cZ S) sz) := by
  refine oM (cc := cX12_isPlayed) (maxL := 2) (ret := (some .boolean)) (Qc := fun A => va_Qi Post (atM dC dI q cI cJ cZ A) A) (by decide) rfl (fun w h => List.mem_cons_of_mem _ (List.mem_append_right _ h)) rfl (Nat.le_of_ble_eq_true rfl) (fun p e s m below meth c A ls X hr hlocks hP hD hS hl => ?_)
  have hx := X.1
  have hb := X.2.1
  have hl : lv_has ls 2 [(0, .ref (q 0)), (1, .int a0)] := hl
  have lk16 := X.2.2.2.2.1 (.fieldLink RX12 16 "BreathOnLoanModel" "texts" "[I") (inW 7 rfl)
  dsimp only [VC_isPlayed] at h
  refine lv_aload_n hx hb (dk DX12_isPlayed 0 rfl) rfl (lv_at hl 0 rfl) ?_
  refine gM X hP 2 (by decide) rfl lk16 (dk DX12_isPlayed 1 rfl) ?_
  refine lv_iload_n hx hb (dk DX12_isPlayed 2 rfl) rfl (lv_at hl 1 rfl) ?_
  obtain ⟨hin, h⟩ := h
  refine ldM X hP 3 rfl hin (dk DX12_isPlayed 3 rfl) ?_
  by_cases hc4 : ((S.2.2.1 2) a0.toNatClampNeg) = 4
  · have h := h.1 hc4
    refine lv_tableIn (off := 26) (tgt := 32) hx hb (dk DX12_isPlayed 4 rfl) (by rw [hc4]; decide) (by rw [hc4]; decide) (by rw [hc4]; decide) (by decide) ?_
    refine lv_aload_n hx hb (dk DX12_isPlayed 5 rfl) rfl (lv_at hl 0 rfl) ?_
    refine lv_aload_n hx hb (dk DX12_isPlayed 6 rfl) rfl (lv_at hl 0 rfl) ?_
    refine gM X hP 2 (by decide) rfl lk16 (dk DX12_isPlayed 7 rfl) ?_
    refine lv_iload_n hx hb (dk DX12_isPlayed 8 rfl) rfl (lv_at hl 1 rfl) ?_
    refine lv_iconst (v := 1) hx hb (dk DX12_isPlayed 9 rfl) (by decide) ?_
    refine lv_iadd hx hb (dk DX12_isPlayed 10 rfl) ?_
    obtain ⟨hin, h⟩ := h
    refine ldM X hP 3 rfl hin (dk DX12_isPlayed 11 rfl) ?_
    refine cMi (As := [.int ((S.2.2.1 2) (a0 + 1).toNatClampNeg)]) (rest := []) X (m_begin (l := l) (dC := dC) (dI := dI) (q := q) (cI := cI) (cJ := cJ) (cZ := cZ) (sz := _) ((S.2.2.1 2) (a0 + 1).toNatClampNeg) S h) (cwV 1 X.2.2.2.2.1 (gwV 283 284 285 24 259 rfl rfl rfl rfl rfl) rfl rfl rfl q_begin ⟨Nat.le_of_ble_eq_true rfl, Nat.le_of_ble_eq_true rfl⟩) hP hD hS rfl hl.1 rfl (Nat.le_of_ble_eq_true rfl) (dk DX12_isPlayed 12 rfl) (fun r2 S1 H locs h hP hD hS => ?_)
    refine lv_if_lt (tgt := 51) hx hb (dk DX12_isPlayed 13 rfl) (by decide) (fun hc => ?_) (fun hc => ?_)
    · have h := h.1 hc
      refine lv_iconst (v := 0) hx hb (dk DX12_isPlayed 16 rfl) (by decide) ?_
      exact W.zret (v := 0) hx hb hr (by decide) (fun t ht hW => ⟨⟨_, _, rfl, h, by rw [ht]; exact hP, va_K.moved hW.alike X.2.2.2.2.2.2.1, hD⟩, hS.F ht⟩) hS.2.2 (dk DX12_isPlayed 17 rfl)
    · have h := h.2 hc
      refine lv_iconst (v := 1) hx hb (dk DX12_isPlayed 14 rfl) (by decide) ?_
      refine lv_goto (tgt := 52) hx hb (dk DX12_isPlayed 15 rfl) (by decide) ?_
      exact W.zret (v := 1) hx hb hr (by decide) (fun t ht hW => ⟨⟨_, _, rfl, h, by rw [ht]; exact hP, va_K.moved hW.alike X.2.2.2.2.2.2.1, hD⟩, hS.F ht⟩) hS.2.2 (dk DX12_isPlayed 17 rfl)
  have h := h.2
  by_cases hc5 : ((S.2.2.1 2) a0.toNatClampNeg) = 5
  · have h := h.1 hc5
    refine lv_tableIn (off := 47) (tgt := 53) hx hb (dk DX12_isPlayed 4 rfl) (by rw [hc5]; decide) (by rw [hc5]; decide) (by rw [hc5]; decide) (by decide) ?_
    refine lv_aload_n hx hb (dk DX12_isPlayed 18 rfl) rfl (lv_at hl 0 rfl) ?_
    refine lv_aload_n hx hb (dk DX12_isPlayed 19 rfl) rfl (lv_at hl 0 rfl) ?_
    refine gM X hP 2 (by decide) rfl lk16 (dk DX12_isPlayed 20 rfl) ?_
    refine lv_iload_n hx hb (dk DX12_isPlayed 21 rfl) rfl (lv_at hl 1 rfl) ?_
    refine lv_iconst (v := 1) hx hb (dk DX12_isPlayed 22 rfl) (by decide) ?_
    refine lv_iadd hx hb (dk DX12_isPlayed 23 rfl) ?_
    obtain ⟨hin, h⟩ := h
    refine ldM X hP 3 rfl hin (dk DX12_isPlayed 24 rfl) ?_
    refine lv_aload_n hx hb (dk DX12_isPlayed 25 rfl) rfl (lv_at hl 0 rfl) ?_
    refine gM X hP 2 (by decide) rfl lk16 (dk DX12_isPlayed 26 rfl) ?_
    refine lv_iload_n hx hb (dk DX12_isPlayed 27 rfl) rfl (lv_at hl 1 rfl) ?_
    refine lv_iconst (v := 2) hx hb (dk DX12_isPlayed 28 rfl) (by decide) ?_
    refine lv_iadd hx hb (dk DX12_isPlayed 29 rfl) ?_
    obtain ⟨hin, h⟩ := h
    refine ldM X hP 3 rfl hin (dk DX12_isPlayed 30 rfl) ?_
    refine lv_bipush (v := 10) hx hb (dk DX12_isPlayed 31 rfl) (by decide) ?_
    obtain ⟨hz, h⟩ := h
    refine lv_idiv hx hb (dk DX12_isPlayed 32 rfl) hz ?_
    refine lv_aload_n hx hb (dk DX12_isPlayed 33 rfl) rfl (lv_at hl 0 rfl) ?_
    refine gM X hP 2 (by decide) rfl lk16 (dk DX12_isPlayed 34 rfl) ?_
    refine lv_iload_n hx hb (dk DX12_isPlayed 35 rfl) rfl (lv_at hl 1 rfl) ?_
    refine lv_iconst (v := 2) hx hb (dk DX12_isPlayed 36 rfl) (by decide) ?_
    refine lv_iadd hx hb (dk DX12_isPlayed 37 rfl) ?_
    obtain ⟨hin, h⟩ := h
    refine ldM X hP 3 rfl hin (dk DX12_isPlayed 38 rfl) ?_
    refine lv_bipush (v := 10) hx hb (dk DX12_isPlayed 39 rfl) (by decide) ?_
    obtain ⟨hz, h⟩ := h
    refine lv_irem hx hb (dk DX12_isPlayed 40 rfl) hz ?_
    refine cMi (As := [.int ((S.2.2.1 2) (a0 + 1).toNatClampNeg), .int (((S.2.2.1 2) (a0 + 2).toNatClampNeg) / 10), .int (((S.2.2.1 2) (a0 + 2).toNatClampNeg) - ((S.2.2.1 2) (a0 + 2).toNatClampNeg) / 10 * 10)]) (rest := []) X (m_blow (l := l) (dC := dC) (dI := dI) (q := q) (cI := cI) (cJ := cJ) (cZ := cZ) (sz := _) ((S.2.2.1 2) (a0 + 1).toNatClampNeg) (((S.2.2.1 2) (a0 + 2).toNatClampNeg) / 10) (((S.2.2.1 2) (a0 + 2).toNatClampNeg) - ((S.2.2.1 2) (a0 + 2).toNatClampNeg) / 10 * 10) S h) (cwV 3 X.2.2.2.2.1 (gwV 286 287 288 24 277 rfl rfl rfl rfl rfl) rfl rfl rfl q_blow ⟨Nat.le_of_ble_eq_true rfl, Nat.le_of_ble_eq_true rfl⟩) hP hD hS rfl hl.1 rfl (Nat.le_of_ble_eq_true rfl) (dk DX12_isPlayed 41 rfl) (fun r4 S3 H locs h hP hD hS => ?_)
    refine lv_if_lt (tgt := 94) hx hb (dk DX12_isPlayed 42 rfl) (by decide) (fun hc => ?_) (fun hc => ?_)
    · have h := h.1 hc
      refine lv_iconst (v := 0) hx hb (dk DX12_isPlayed 45 rfl) (by decide) ?_
      exact W.zret (v := 0) hx hb hr (by decide) (fun t ht hW => ⟨⟨_, _, rfl, h, by rw [ht]; exact hP, va_K.moved hW.alike X.2.2.2.2.2.2.1, hD⟩, hS.F ht⟩) hS.2.2 (dk DX12_isPlayed 46 rfl)
    · have h := h.2 hc
      refine lv_iconst (v := 1) hx hb (dk DX12_isPlayed 43 rfl) (by decide) ?_
      refine lv_goto (tgt := 95) hx hb (dk DX12_isPlayed 44 rfl) (by decide) ?_
      exact W.zret (v := 1) hx hb hr (by decide) (fun t ht hW => ⟨⟨_, _, rfl, h, by rw [ht]; exact hP, va_K.moved hW.alike X.2.2.2.2.2.2.1, hD⟩, hS.F ht⟩) hS.2.2 (dk DX12_isPlayed 46 rfl)
  have h := h.2
  by_cases hc6 : ((S.2.2.1 2) a0.toNatClampNeg) = 6
  · have h := h.1 hc6
    refine lv_tableIn (off := 90) (tgt := 96) hx hb (dk DX12_isPlayed 4 rfl) (by rw [hc6]; decide) (by rw [hc6]; decide) (by rw [hc6]; decide) (by decide) ?_
    refine lv_aload_n hx hb (dk DX12_isPlayed 47 rfl) rfl (lv_at hl 0 rfl) ?_
    refine lv_aload_n hx hb (dk DX12_isPlayed 48 rfl) rfl (lv_at hl 0 rfl) ?_
    refine gM X hP 2 (by decide) rfl lk16 (dk DX12_isPlayed 49 rfl) ?_
    refine lv_iload_n hx hb (dk DX12_isPlayed 50 rfl) rfl (lv_at hl 1 rfl) ?_
    refine lv_iconst (v := 1) hx hb (dk DX12_isPlayed 51 rfl) (by decide) ?_
    refine lv_iadd hx hb (dk DX12_isPlayed 52 rfl) ?_
    obtain ⟨hin, h⟩ := h
    refine ldM X hP 3 rfl hin (dk DX12_isPlayed 53 rfl) ?_
    refine cMi (As := [.int ((S.2.2.1 2) (a0 + 1).toNatClampNeg)]) (rest := []) X (m_later (l := l) (dC := dC) (dI := dI) (q := q) (cI := cI) (cJ := cJ) (cZ := cZ) (sz := _) ((S.2.2.1 2) (a0 + 1).toNatClampNeg) S h) (cwV 1 X.2.2.2.2.1 (gwV 289 290 291 24 278 rfl rfl rfl rfl rfl) rfl rfl rfl q_later ⟨Nat.le_of_ble_eq_true rfl, Nat.le_of_ble_eq_true rfl⟩) hP hD hS rfl hl.1 rfl (Nat.le_of_ble_eq_true rfl) (dk DX12_isPlayed 54 rfl) (fun r6 S5 H locs h hP hD hS => ?_)
    refine lv_if_lt (tgt := 115) hx hb (dk DX12_isPlayed 55 rfl) (by decide) (fun hc => ?_) (fun hc => ?_)
    · have h := h.1 hc
      refine lv_iconst (v := 0) hx hb (dk DX12_isPlayed 58 rfl) (by decide) ?_
      exact W.zret (v := 0) hx hb hr (by decide) (fun t ht hW => ⟨⟨_, _, rfl, h, by rw [ht]; exact hP, va_K.moved hW.alike X.2.2.2.2.2.2.1, hD⟩, hS.F ht⟩) hS.2.2 (dk DX12_isPlayed 59 rfl)
    · have h := h.2 hc
      refine lv_iconst (v := 1) hx hb (dk DX12_isPlayed 56 rfl) (by decide) ?_
      refine lv_goto (tgt := 116) hx hb (dk DX12_isPlayed 57 rfl) (by decide) ?_
      exact W.zret (v := 1) hx hb hr (by decide) (fun t ht hW => ⟨⟨_, _, rfl, h, by rw [ht]; exact hP, va_K.moved hW.alike X.2.2.2.2.2.2.1, hD⟩, hS.F ht⟩) hS.2.2 (dk DX12_isPlayed 59 rfl)
  have h := h.2
  have h := h hc4 hc5 hc6
  refine lv_tableOut (tgt := 117) hx hb (dk DX12_isPlayed 4 rfl) (by have n4 := lv_neT hc4 (a := 4) (by decide); have n5 := lv_neT hc5 (a := 5) (by decide); have n6 := lv_neT hc6 (a := 6) (by decide); omega) (by decide) ?_
  refine lv_iconst (v := 1) hx hb (dk DX12_isPlayed 60 rfl) (by decide) ?_
  exact W.zret (v := 1) hx hb hr (by decide) (fun t ht hW => ⟨⟨_, _, rfl, h, by rw [ht]; exact hP, va_K.moved hW.alike X.2.2.2.2.2.2.1, hD⟩, hS.F ht⟩) hS.2.2 (dk DX12_isPlayed 61 rfl)

def ww_played : List Cond := .code yX12_played cX12_played 3 (some .int) :: (WdM ++ wsX120)
theorem q_played : yX12_played.cls = RX12 ∧ yX12_played.cls ≠ "java/lang/invoke/MethodHandle" ∧ yX12_played.cls ≠ "java/lang/invoke/VarHandle" ∧ (parseMethodDescriptor yX12_played.desc).map (fun d => d.parameters.length) = some 1 := by decide +kernel
abbrev Hd_played : Type := (Int32 × Int32)
def B_played (Post : Int32 → MS → Prop) (K : Hd_played → MS → Prop) : Hd_played → MS → Prop
  | (x1, x2), S => vp_in (680 * x1) 2720 ∧ ((((S.2.2.1 2) (680 * x1).toNatClampNeg) ≤ x2 → Post (-1) S) ∧ (¬ ((S.2.2.1 2) (680 * x1).toNatClampNeg) ≤ x2 → VC_isPlayed (fun r3 S2 => ((¬ r3 = 0 → ∀ v4 : Int32, v4 = x2 + 1 → K (x1, v4) S2) ∧ (r3 = 0 → Post x2 S2))) (((680 * x1) + 1) + (3 * x2)) S))
def VC_played (Post : Int32 → MS → Prop) (a0 : Int32) (S : MS) : Prop := ∀ K : Hd_played → MS → Prop, (∀ h S, B_played Post K h S → K h S) → vp_in (4 : Int32) 3890 ∧ VC_isIn (fun r1 => ((¬ r1 = 0 → K (a0, 0) S) ∧ (r1 = 0 → Post (-2) S))) a0 0 (((S.2.2.1 0) (4 : Int32).toNatClampNeg) - 1)
set_option maxHeartbeats 4000000 in
set_option maxRecDepth 100000 in
theorem h_played_0 {p : Program} {l : Launch} {e : Env} {s : State} {m : MethodId} {below : List Frame} {meth : Method} {c : Code} {dC : Nat → ClassId} {dI : Nat → Nat → Nat} {q : Nat → Nat} {cI cJ cZ : ClassId} {A : Nat → Prop} {args : Array Value} {Post : Int32 → MS → Prop} {K : Hd_played → MS → Prop} (X : XM p s m args c cX12_played 3 ww_played dC dI cI cJ cZ A) (hr : meth.sig.returnType = (some .int)) (hlocks : meth.locks = false) (hK0 : ∀ (x1 : Int32) (x2 : Int32) (S : MS), K (x1, x2) S → ∀ (H : Heap) (locs : List Loc), va_P (dC, dI) vwCl (wM q cI cJ cZ S) H → va_D A (wM q cI cJ cZ S) → va_S A s.heap H locs → ∀ ls : Array Slot, lv_has ls 3 [(0, .ref (q 0)), (1, .int x1), (2, .int x2)] → W p l e (headSpec ww_played ({ frames := 7, cells := 0, slots := 0, locals := 168 } : Room)).room s m args below meth c H locs 0 0 (MQ below (va_Qi Post (atM dC dI q cI cJ cZ A) A) args s 0 0 A) (F0 m 21 ls [])) (x1 : Int32) (x2 : Int32) (S : MS) (h : B_played Post K (x1, x2) S) : ∀ (H : Heap) (locs : List Loc), va_P (dC, dI) vwCl (wM q cI cJ cZ S) H → va_D A (wM q cI cJ cZ S) → va_S A s.heap H locs → ∀ ls : Array Slot, lv_has ls 3 [(0, .ref (q 0)), (1, .int x1), (2, .int x2)] → W p l e (headSpec ww_played ({ frames := 7, cells := 0, slots := 0, locals := 168 } : Room)).room s m args below meth c H locs 0 0 (MQ below (va_Qi Post (atM dC dI q cI cJ cZ A) A) args s 0 0 A) (F0 m 21 ls []) := by
  have hx := X.1
  have hb := X.2.1
  intro H locs hP hD hS ls hl
  have lk7 := X.2.2.2.2.1 (.fieldLink RX12 7 "BreathOnLoanModel" "a" "[I") (inW 5 rfl)
  have lk16 := X.2.2.2.2.1 (.fieldLink RX12 16 "BreathOnLoanModel" "texts" "[I") (inW 7 rfl)
  dsimp only [B_played] at h
  refine lv_iload_n hx hb (dk DX12_played 14 rfl) rfl (lv_at hl 2 rfl) ?_
  refine lv_aload_n hx hb (dk DX12_played 15 rfl) rfl (lv_at hl 0 rfl) ?_
  refine gM X hP 2 (by decide) rfl lk16 (dk DX12_played 16 rfl) ?_
  refine lv_sipush (v := 680) hx hb (dk DX12_played 17 rfl) (by decide) ?_
  refine lv_iload_n hx hb (dk DX12_played 18 rfl) rfl (lv_at hl 1 rfl) ?_
  refine lv_imul hx hb (dk DX12_played 19 rfl) ?_
  obtain ⟨hin, h⟩ := h
  refine ldM X hP 3 rfl hin (dk DX12_played 20 rfl) ?_
  refine lv_icmp_ge (tgt := 61) hx hb (dk DX12_played 21 rfl) (by decide) (fun hc => ?_) (fun hc => ?_)
  · have h := h.1 hc
    refine lv_iconst (v := (-1)) hx hb (dk DX12_played 38 rfl) (by decide) ?_
    exact W.iret (v := (-1)) hx hb hr (fun t ht hW => ⟨⟨_, _, rfl, h, by rw [ht]; exact hP, va_K.moved hW.alike X.2.2.2.2.2.2.1, hD⟩, hS.F ht⟩) hS.2.2 (dk DX12_played 39 rfl)
  · have h := h.2 hc
    refine lv_aload_n hx hb (dk DX12_played 22 rfl) rfl (lv_at hl 0 rfl) ?_
    refine lv_sipush (v := 680) hx hb (dk DX12_played 23 rfl) (by decide) ?_
    refine lv_iload_n hx hb (dk DX12_played 24 rfl) rfl (lv_at hl 1 rfl) ?_
    refine lv_imul hx hb (dk DX12_played 25 rfl) ?_
    refine lv_iconst (v := 1) hx hb (dk DX12_played 26 rfl) (by decide) ?_
    refine lv_iadd hx hb (dk DX12_played 27 rfl) ?_
    refine lv_iconst (v := 3) hx hb (dk DX12_played 28 rfl) (by decide) ?_
    refine lv_iload_n hx hb (dk DX12_played 29 rfl) rfl (lv_at hl 2 rfl) ?_
    refine lv_imul hx hb (dk DX12_played 30 rfl) ?_
    refine lv_iadd hx hb (dk DX12_played 31 rfl) ?_
    refine cMi (As := [.int (((680 * x1) + 1) + (3 * x2))]) (rest := []) X (m_isPlayed (l := l) (dC := dC) (dI := dI) (q := q) (cI := cI) (cJ := cJ) (cZ := cZ) (sz := _) (((680 * x1) + 1) + (3 * x2)) S h) (cwV 1 X.2.2.2.2.1 (gwV 293 294 295 24 292 rfl rfl rfl rfl rfl) rfl rfl rfl q_isPlayed ⟨Nat.le_of_ble_eq_true rfl, Nat.le_of_ble_eq_true rfl⟩) hP hD hS rfl hl.1 rfl (Nat.le_of_ble_eq_true rfl) (dk DX12_played 32 rfl) (fun r3 S2 H locs h hP hD hS => ?_)
    refine lv_if_ne (tgt := 55) hx hb (dk DX12_played 33 rfl) (by decide) (fun hc => ?_) (fun hc => ?_)
    · have h := h.1 hc
      obtain ⟨v4, ev4⟩ : ∃ y : Int32, y = x2 + 1 := ⟨_, rfl⟩
      have h := h v4 ev4
      refine lv_iinc (v := v4) (lv' := [(2, .int v4), (0, .ref (q 0)), (1, .int x1)]) hx hb (dk DX12_played 36 rfl) hl (k := 2) rfl (by rw [ev4]; rfl) (by decide) rfl (fun ls hl => ?_)
      refine lv_goto (tgt := 21) hx hb (dk DX12_played 37 rfl) (by decide) ?_
      exact hK0 x1 v4 S2 h _ _ hP hD hS ls (lv_sub hl [1, 2, 0] rfl)
    · have h := h.2 hc
      refine lv_iload_n hx hb (dk DX12_played 34 rfl) rfl (lv_at hl 2 rfl) ?_
      exact W.iret (v := x2) hx hb hr (fun t ht hW => ⟨⟨_, _, rfl, h, by rw [ht]; exact hP, va_K.moved hW.alike X.2.2.2.2.2.2.1, hD⟩, hS.F ht⟩) hS.2.2 (dk DX12_played 35 rfl)
set_option maxHeartbeats 4000000 in
set_option maxRecDepth 100000 in
theorem m_played {l : Launch} {dC : Nat → ClassId} {dI : Nat → Nat → Nat} {q : Nat → Nat} {cI cJ cZ : ClassId} {sz : Nat} {Post : Int32 → MS → Prop} (a0 : Int32) (S : MS) (h : VC_played Post a0 S) : Met l yX12_played ww_played ({ frames := 7, cells := 0, slots := 0, locals := 168 } : Room) (va_Pc [.ref (q 0), .int a0] (preM dC dI q cI cJ cZ S sz)) (va_Qi Post (atM dC dI q cI cJ cZ (va_A (wM q cI cJ cZ S) sz)) (va_A (wM q cI cJ cZ S) sz)) 0 0 (va_A (wM q cI cJ cZ S) sz) := by
  refine oM (cc := cX12_played) (maxL := 3) (ret := (some .int)) (Qc := fun A => va_Qi Post (atM dC dI q cI cJ cZ A) A) (by decide) rfl (fun w h => List.mem_cons_of_mem _ (List.mem_append_right _ h)) rfl (Nat.le_of_ble_eq_true rfl) (fun p e s m below meth c A ls X hr hlocks hP hD hS hl => ?_)
  have hx := X.1
  have hb := X.2.1
  have hl : lv_has ls 3 [(0, .ref (q 0)), (1, .int a0)] := hl
  have lk7 := X.2.2.2.2.1 (.fieldLink RX12 7 "BreathOnLoanModel" "a" "[I") (inW 5 rfl)
  have lk16 := X.2.2.2.2.1 (.fieldLink RX12 16 "BreathOnLoanModel" "texts" "[I") (inW 7 rfl)
  generalize hargs : ([.ref (q 0), .int a0] : List Value).toArray = args at X ⊢
  have h := h (fun hd S => match hd with | (x1, x2) => ∀ (H : Heap) (locs : List Loc), va_P (dC, dI) vwCl (wM q cI cJ cZ S) H → va_D A (wM q cI cJ cZ S) → va_S A s.heap H locs → ∀ ls : Array Slot, lv_has ls 3 [(0, .ref (q 0)), (1, .int x1), (2, .int x2)] → W p l e (headSpec ww_played ({ frames := 7, cells := 0, slots := 0, locals := 168 } : Room)).room s m args below meth c H locs 0 0 (MQ below (va_Qi Post (atM dC dI q cI cJ cZ A) A) args s 0 0 A) (F0 m 21 ls [])) ?_
  · skip
    refine lv_iload_n hx hb (dk DX12_played 0 rfl) rfl (lv_at hl 1 rfl) ?_
    refine lv_iconst (v := 0) hx hb (dk DX12_played 1 rfl) (by decide) ?_
    refine lv_aload_n hx hb (dk DX12_played 2 rfl) rfl (lv_at hl 0 rfl) ?_
    refine gM X hP 0 (by decide) rfl lk7 (dk DX12_played 3 rfl) ?_
    refine lv_iconst (v := 4) hx hb (dk DX12_played 4 rfl) (by decide) ?_
    obtain ⟨hin, h⟩ := h
    refine ldM X hP 1 rfl hin (dk DX12_played 5 rfl) ?_
    refine lv_iconst (v := 1) hx hb (dk DX12_played 6 rfl) (by decide) ?_
    refine lv_isub hx hb (dk DX12_played 7 rfl) ?_
    refine cSi (As := [.int a0, .int 0, .int (((S.2.2.1 0) (4 : Int32).toNatClampNeg) - 1)]) (rest := []) ⟨X.1, X.2.1, X.2.2.1, X.2.2.2.1, X.2.2.2.2.1⟩ (m_isIn (l := l) a0 0 (((S.2.2.1 0) (4 : Int32).toNatClampNeg) - 1) h) (va_cwS 3 X.2.2.2.2.1 (gwS 31 32 24 26 rfl rfl rfl rfl) rfl rfl rfl q_isIn ⟨Nat.le_of_ble_eq_true rfl, Nat.le_of_ble_eq_true rfl⟩) rfl hl.1 rfl (Nat.le_of_ble_eq_true rfl) (dk DX12_played 8 rfl) (fun r1 h => ?_)
    refine lv_if_ne (tgt := 19) hx hb (dk DX12_played 9 rfl) (by decide) (fun hc => ?_) (fun hc => ?_)
    · have h := h.1 hc
      refine lv_iconst (v := 0) hx hb (dk DX12_played 12 rfl) (by decide) ?_
      refine lv_istore_n (lv' := [(2, .int 0), (0, .ref (q 0)), (1, .int a0)]) hx hb (dk DX12_played 13 rfl) rfl hl (by decide) rfl (fun ls hl => ?_)
      exact h _ _ hP hD hS ls (lv_sub hl [1, 2, 0] rfl)
    · have h := h.2 hc
      refine lv_bipush (v := (-2)) hx hb (dk DX12_played 10 rfl) (by decide) ?_
      exact W.iret (v := (-2)) hx hb hr (fun t ht hW => ⟨⟨_, _, rfl, h, by rw [ht]; exact hP, va_K.moved hW.alike X.2.2.2.2.2.2.1, hD⟩, hS.F ht⟩) hS.2.2 (dk DX12_played 11 rfl)
  · rintro ⟨x1, x2⟩ S hB
    exact h_played_0 X hr hlocks (hK0 := fun _ _ _ h => h) x1 x2 S hB

def ww_of : List Cond := .code yX12_of cX12_of 3 (some .int) :: (WdM ++ wsX120)
theorem q_of : yX12_of.cls = RX12 ∧ yX12_of.cls ≠ "java/lang/invoke/MethodHandle" ∧ yX12_of.cls ≠ "java/lang/invoke/VarHandle" ∧ (parseMethodDescriptor yX12_of.desc).map (fun d => d.parameters.length) = some 2 := by decide +kernel
def VC_of (Post : Int32 → MS → Prop) (a0 : Int32) (a1 : Int32) (S : MS) : Prop := VC_isBlower (fun r2 S1 => ((r2 = 0 → Post (-1) S1) ∧ (¬ r2 = 0 → VC_isIn (fun r3 => ((r3 = 0 → Post (-1) S1) ∧ (¬ r3 = 0 → VC_get (fun r5 S4 => Post r5 S4) a0 a1 S1))) a1 0 4))) a0 S
set_option maxHeartbeats 4000000 in
set_option maxRecDepth 100000 in
theorem m_of {l : Launch} {dC : Nat → ClassId} {dI : Nat → Nat → Nat} {q : Nat → Nat} {cI cJ cZ : ClassId} {sz : Nat} {Post : Int32 → MS → Prop} (a0 : Int32) (a1 : Int32) (S : MS) (h : VC_of Post a0 a1 S) : Met l yX12_of ww_of ({ frames := 2, cells := 0, slots := 0, locals := 43 } : Room) (va_Pc [.ref (q 0), .int a0, .int a1] (preM dC dI q cI cJ cZ S sz)) (va_Qi Post (atM dC dI q cI cJ cZ (va_A (wM q cI cJ cZ S) sz)) (va_A (wM q cI cJ cZ S) sz)) 0 0 (va_A (wM q cI cJ cZ S) sz) := by
  refine oM (cc := cX12_of) (maxL := 3) (ret := (some .int)) (Qc := fun A => va_Qi Post (atM dC dI q cI cJ cZ A) A) (by decide) rfl (fun w h => List.mem_cons_of_mem _ (List.mem_append_right _ h)) rfl (Nat.le_of_ble_eq_true rfl) (fun p e s m below meth c A ls X hr hlocks hP hD hS hl => ?_)
  have hx := X.1
  have hb := X.2.1
  have hl : lv_has ls 3 [(0, .ref (q 0)), (1, .int a0), (2, .int a1)] := hl
  dsimp only [VC_of] at h
  refine lv_aload_n hx hb (dk DX12_of 0 rfl) rfl (lv_at hl 0 rfl) ?_
  refine lv_iload_n hx hb (dk DX12_of 1 rfl) rfl (lv_at hl 1 rfl) ?_
  refine cMi (As := [.int a0]) (rest := []) X (m_isBlower (l := l) (dC := dC) (dI := dI) (q := q) (cI := cI) (cJ := cJ) (cZ := cZ) (sz := _) a0 S h) (cwV 1 X.2.2.2.2.1 (gwV 51 52 53 24 30 rfl rfl rfl rfl rfl) rfl rfl rfl q_isBlower ⟨Nat.le_of_ble_eq_true rfl, Nat.le_of_ble_eq_true rfl⟩) hP hD hS rfl hl.1 rfl (Nat.le_of_ble_eq_true rfl) (dk DX12_of 2 rfl) (fun r2 S1 H locs h hP hD hS => ?_)
  refine lv_if_eq (tgt := 26) hx hb (dk DX12_of 3 rfl) (by decide) (fun hc => ?_) (fun hc => ?_)
  · have h := h.1 hc
    refine lv_iconst (v := (-1)) hx hb (dk DX12_of 14 rfl) (by decide) ?_
    exact W.iret (v := (-1)) hx hb hr (fun t ht hW => ⟨⟨_, _, rfl, h, by rw [ht]; exact hP, va_K.moved hW.alike X.2.2.2.2.2.2.1, hD⟩, hS.F ht⟩) hS.2.2 (dk DX12_of 15 rfl)
  · have h := h.2 hc
    refine lv_iload_n hx hb (dk DX12_of 4 rfl) rfl (lv_at hl 2 rfl) ?_
    refine lv_iconst (v := 0) hx hb (dk DX12_of 5 rfl) (by decide) ?_
    refine lv_iconst (v := 4) hx hb (dk DX12_of 6 rfl) (by decide) ?_
    refine cSi (As := [.int a1, .int 0, .int 4]) (rest := []) ⟨X.1, X.2.1, X.2.2.1, X.2.2.2.1, X.2.2.2.2.1⟩ (m_isIn (l := l) a1 0 4 h) (va_cwS 3 X.2.2.2.2.1 (gwS 31 32 24 26 rfl rfl rfl rfl) rfl rfl rfl q_isIn ⟨Nat.le_of_ble_eq_true rfl, Nat.le_of_ble_eq_true rfl⟩) rfl hl.1 rfl (Nat.le_of_ble_eq_true rfl) (dk DX12_of 7 rfl) (fun r3 h => ?_)
    refine lv_if_eq (tgt := 26) hx hb (dk DX12_of 8 rfl) (by decide) (fun hc => ?_) (fun hc => ?_)
    · have h := h.1 hc
      refine lv_iconst (v := (-1)) hx hb (dk DX12_of 14 rfl) (by decide) ?_
      exact W.iret (v := (-1)) hx hb hr (fun t ht hW => ⟨⟨_, _, rfl, h, by rw [ht]; exact hP, va_K.moved hW.alike X.2.2.2.2.2.2.1, hD⟩, hS.F ht⟩) hS.2.2 (dk DX12_of 15 rfl)
    · have h := h.2 hc
      refine lv_aload_n hx hb (dk DX12_of 9 rfl) rfl (lv_at hl 0 rfl) ?_
      refine lv_iload_n hx hb (dk DX12_of 10 rfl) rfl (lv_at hl 1 rfl) ?_
      refine lv_iload_n hx hb (dk DX12_of 11 rfl) rfl (lv_at hl 2 rfl) ?_
      refine cMi (As := [.int a0, .int a1]) (rest := []) X (m_get (l := l) (dC := dC) (dI := dI) (q := q) (cI := cI) (cJ := cJ) (cZ := cZ) (sz := _) a0 a1 S1 h) (cwV 2 X.2.2.2.2.1 (gwV 47 48 49 24 36 rfl rfl rfl rfl rfl) rfl rfl rfl q_get ⟨Nat.le_of_ble_eq_true rfl, Nat.le_of_ble_eq_true rfl⟩) hP hD hS rfl hl.1 rfl (Nat.le_of_ble_eq_true rfl) (dk DX12_of 12 rfl) (fun r5 S4 H locs h hP hD hS => ?_)
      refine lv_goto (tgt := 27) hx hb (dk DX12_of 13 rfl) (by decide) ?_
      exact W.iret (v := r5) hx hb hr (fun t ht hW => ⟨⟨_, _, rfl, h, by rw [ht]; exact hP, va_K.moved hW.alike X.2.2.2.2.2.2.1, hD⟩, hS.F ht⟩) hS.2.2 (dk DX12_of 15 rfl)

def ww_piece : List Cond := .code yX12_piece cX12_piece 3 (some .int) :: (WdM ++ wsX120)
theorem q_piece : yX12_piece.cls = RX12 ∧ yX12_piece.cls ≠ "java/lang/invoke/MethodHandle" ∧ yX12_piece.cls ≠ "java/lang/invoke/VarHandle" ∧ (parseMethodDescriptor yX12_piece.desc).map (fun d => d.parameters.length) = some 2 := by decide +kernel
def VC_piece (Post : Int32 → MS → Prop) (a0 : Int32) (a1 : Int32) (S : MS) : Prop := VC_isPiece (fun r2 S1 => ((¬ r2 = 0 → VC_isIn (fun r3 => ((r3 = 0 → VC_isBlower (fun r5 S4 => ((r5 = 0 → Post (-1) S4) ∧ (¬ r5 = 0 → VC_gave (fun r7 S6 => Post r7 S6) a0 (a1 - 10) S4))) (a1 - 10) S1) ∧ (¬ r3 = 0 → VC_pieceAt (fun r8 => vp_in (r8 + a1) 3890 ∧ Post ((S1.2.2.1 0) (r8 + a1).toNatClampNeg) S1) a0))) a1 0 3) ∧ (r2 = 0 → Post (-1) S1))) a0 S
set_option maxHeartbeats 4000000 in
set_option maxRecDepth 100000 in
theorem m_piece {l : Launch} {dC : Nat → ClassId} {dI : Nat → Nat → Nat} {q : Nat → Nat} {cI cJ cZ : ClassId} {sz : Nat} {Post : Int32 → MS → Prop} (a0 : Int32) (a1 : Int32) (S : MS) (h : VC_piece Post a0 a1 S) : Met l yX12_piece ww_piece ({ frames := 2, cells := 0, slots := 0, locals := 43 } : Room) (va_Pc [.ref (q 0), .int a0, .int a1] (preM dC dI q cI cJ cZ S sz)) (va_Qi Post (atM dC dI q cI cJ cZ (va_A (wM q cI cJ cZ S) sz)) (va_A (wM q cI cJ cZ S) sz)) 0 0 (va_A (wM q cI cJ cZ S) sz) := by
  refine oM (cc := cX12_piece) (maxL := 3) (ret := (some .int)) (Qc := fun A => va_Qi Post (atM dC dI q cI cJ cZ A) A) (by decide) rfl (fun w h => List.mem_cons_of_mem _ (List.mem_append_right _ h)) rfl (Nat.le_of_ble_eq_true rfl) (fun p e s m below meth c A ls X hr hlocks hP hD hS hl => ?_)
  have hx := X.1
  have hb := X.2.1
  have hl : lv_has ls 3 [(0, .ref (q 0)), (1, .int a0), (2, .int a1)] := hl
  have lk7 := X.2.2.2.2.1 (.fieldLink RX12 7 "BreathOnLoanModel" "a" "[I") (inW 5 rfl)
  dsimp only [VC_piece] at h
  refine lv_aload_n hx hb (dk DX12_piece 0 rfl) rfl (lv_at hl 0 rfl) ?_
  refine lv_iload_n hx hb (dk DX12_piece 1 rfl) rfl (lv_at hl 1 rfl) ?_
  refine cMi (As := [.int a0]) (rest := []) X (m_isPiece (l := l) (dC := dC) (dI := dI) (q := q) (cI := cI) (cJ := cJ) (cZ := cZ) (sz := _) a0 S h) (cwV 1 X.2.2.2.2.1 (gwV 268 269 270 24 34 rfl rfl rfl rfl rfl) rfl rfl rfl q_isPiece ⟨Nat.le_of_ble_eq_true rfl, Nat.le_of_ble_eq_true rfl⟩) hP hD hS rfl hl.1 rfl (Nat.le_of_ble_eq_true rfl) (dk DX12_piece 2 rfl) (fun r2 S1 H locs h hP hD hS => ?_)
  refine lv_if_ne (tgt := 10) hx hb (dk DX12_piece 3 rfl) (by decide) (fun hc => ?_) (fun hc => ?_)
  · have h := h.1 hc
    refine lv_iload_n hx hb (dk DX12_piece 6 rfl) rfl (lv_at hl 2 rfl) ?_
    refine lv_iconst (v := 0) hx hb (dk DX12_piece 7 rfl) (by decide) ?_
    refine lv_iconst (v := 3) hx hb (dk DX12_piece 8 rfl) (by decide) ?_
    refine cSi (As := [.int a1, .int 0, .int 3]) (rest := []) ⟨X.1, X.2.1, X.2.2.1, X.2.2.2.1, X.2.2.2.2.1⟩ (m_isIn (l := l) a1 0 3 h) (va_cwS 3 X.2.2.2.2.1 (gwS 31 32 24 26 rfl rfl rfl rfl) rfl rfl rfl q_isIn ⟨Nat.le_of_ble_eq_true rfl, Nat.le_of_ble_eq_true rfl⟩) rfl hl.1 rfl (Nat.le_of_ble_eq_true rfl) (dk DX12_piece 9 rfl) (fun r3 h => ?_)
    refine lv_if_eq (tgt := 31) hx hb (dk DX12_piece 10 rfl) (by decide) (fun hc => ?_) (fun hc => ?_)
    · have h := h.1 hc
      refine lv_aload_n hx hb (dk DX12_piece 19 rfl) rfl (lv_at hl 0 rfl) ?_
      refine lv_iload_n hx hb (dk DX12_piece 20 rfl) rfl (lv_at hl 2 rfl) ?_
      refine lv_bipush (v := 10) hx hb (dk DX12_piece 21 rfl) (by decide) ?_
      refine lv_isub hx hb (dk DX12_piece 22 rfl) ?_
      refine cMi (As := [.int (a1 - 10)]) (rest := []) X (m_isBlower (l := l) (dC := dC) (dI := dI) (q := q) (cI := cI) (cJ := cJ) (cZ := cZ) (sz := _) (a1 - 10) S1 h) (cwV 1 X.2.2.2.2.1 (gwV 51 52 53 24 30 rfl rfl rfl rfl rfl) rfl rfl rfl q_isBlower ⟨Nat.le_of_ble_eq_true rfl, Nat.le_of_ble_eq_true rfl⟩) hP hD hS rfl hl.1 rfl (Nat.le_of_ble_eq_true rfl) (dk DX12_piece 23 rfl) (fun r5 S4 H locs h hP hD hS => ?_)
      refine lv_if_eq (tgt := 54) hx hb (dk DX12_piece 24 rfl) (by decide) (fun hc => ?_) (fun hc => ?_)
      · have h := h.1 hc
        refine lv_iconst (v := (-1)) hx hb (dk DX12_piece 32 rfl) (by decide) ?_
        exact W.iret (v := (-1)) hx hb hr (fun t ht hW => ⟨⟨_, _, rfl, h, by rw [ht]; exact hP, va_K.moved hW.alike X.2.2.2.2.2.2.1, hD⟩, hS.F ht⟩) hS.2.2 (dk DX12_piece 33 rfl)
      · have h := h.2 hc
        refine lv_aload_n hx hb (dk DX12_piece 25 rfl) rfl (lv_at hl 0 rfl) ?_
        refine lv_iload_n hx hb (dk DX12_piece 26 rfl) rfl (lv_at hl 1 rfl) ?_
        refine lv_iload_n hx hb (dk DX12_piece 27 rfl) rfl (lv_at hl 2 rfl) ?_
        refine lv_bipush (v := 10) hx hb (dk DX12_piece 28 rfl) (by decide) ?_
        refine lv_isub hx hb (dk DX12_piece 29 rfl) ?_
        refine cMi (As := [.int a0, .int (a1 - 10)]) (rest := []) X (m_gave (l := l) (dC := dC) (dI := dI) (q := q) (cI := cI) (cJ := cJ) (cZ := cZ) (sz := _) a0 (a1 - 10) S4 h) (cwV 2 X.2.2.2.2.1 (gwV 240 241 242 24 39 rfl rfl rfl rfl rfl) rfl rfl rfl q_gave ⟨Nat.le_of_ble_eq_true rfl, Nat.le_of_ble_eq_true rfl⟩) hP hD hS rfl hl.1 rfl (Nat.le_of_ble_eq_true rfl) (dk DX12_piece 30 rfl) (fun r7 S6 H locs h hP hD hS => ?_)
        refine lv_goto (tgt := 55) hx hb (dk DX12_piece 31 rfl) (by decide) ?_
        exact W.iret (v := r7) hx hb hr (fun t ht hW => ⟨⟨_, _, rfl, h, by rw [ht]; exact hP, va_K.moved hW.alike X.2.2.2.2.2.2.1, hD⟩, hS.F ht⟩) hS.2.2 (dk DX12_piece 33 rfl)
    · have h := h.2 hc
      refine lv_aload_n hx hb (dk DX12_piece 11 rfl) rfl (lv_at hl 0 rfl) ?_
      refine gM X hP 0 (by decide) rfl lk7 (dk DX12_piece 12 rfl) ?_
      refine lv_iload_n hx hb (dk DX12_piece 13 rfl) rfl (lv_at hl 1 rfl) ?_
      refine cSi (As := [.int a0]) (rest := [.ref (q 1)]) ⟨X.1, X.2.1, X.2.2.1, X.2.2.2.1, X.2.2.2.2.1⟩ (m_pieceAt (l := l) a0 h) (va_cwS 1 X.2.2.2.2.1 (gwS 40 41 24 38 rfl rfl rfl rfl) rfl rfl rfl q_pieceAt ⟨Nat.le_of_ble_eq_true rfl, Nat.le_of_ble_eq_true rfl⟩) rfl hl.1 rfl (Nat.le_of_ble_eq_true rfl) (dk DX12_piece 14 rfl) (fun r8 h => ?_)
      refine lv_iload_n hx hb (dk DX12_piece 15 rfl) rfl (lv_at hl 2 rfl) ?_
      refine lv_iadd hx hb (dk DX12_piece 16 rfl) ?_
      obtain ⟨hin, h⟩ := h
      refine ldM X hP 1 rfl hin (dk DX12_piece 17 rfl) ?_
      exact W.iret (v := (S1.2.2.1 0) (r8 + a1).toNatClampNeg) hx hb hr (fun t ht hW => ⟨⟨_, _, rfl, h, by rw [ht]; exact hP, va_K.moved hW.alike X.2.2.2.2.2.2.1, hD⟩, hS.F ht⟩) hS.2.2 (dk DX12_piece 18 rfl)
  · have h := h.2 hc
    refine lv_iconst (v := (-1)) hx hb (dk DX12_piece 4 rfl) (by decide) ?_
    exact W.iret (v := (-1)) hx hb hr (fun t ht hW => ⟨⟨_, _, rfl, h, by rw [ht]; exact hP, va_K.moved hW.alike X.2.2.2.2.2.2.1, hD⟩, hS.F ht⟩) hS.2.2 (dk DX12_piece 5 rfl)

