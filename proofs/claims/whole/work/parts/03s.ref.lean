-- plan seen
def ww_plan : List Cond := .code yX12_plan cX12_plan 7 (some .int) :: (WdM ++ wsX120)
theorem q_plan : yX12_plan.cls = RX12 ∧ yX12_plan.cls ≠ "java/lang/invoke/MethodHandle" ∧ yX12_plan.cls ≠ "java/lang/invoke/VarHandle" ∧ (parseMethodDescriptor yX12_plan.desc).map (fun d => d.parameters.length) = some 3 := by decide +kernel
abbrev Hd_plan : Type := (Int32 × Int32 × Int32 × Int32 × Int32) ⊕ (Int32 × Int32 × Int32 × Int32 × Int32 × Int32) ⊕ (Int32 × Int32 × Int32 × Int32 × Int32) ⊕ (Int32 × Int32 × Int32 × Int32 × Int32 × Int32)
def B_plan (Post : Int32 → MS → Prop) (K : Hd_plan → MS → Prop) : Hd_plan → MS → Prop
  | (.inl (x1, x2, x3, x4, x5)), S => ((x4 ≤ x5 → K (.inr (.inr (.inl (x1, x2, x3, x4, x1)))) S) ∧ (¬ x4 ≤ x5 → vp_in (3 : Int32) 3890 ∧ VC_smokeIn (fun r6 S5 => vp_in x5 24 ∧ ∀ S7 : MS, S7 = sF S5 30 (upd (S5.2.2.1 30) x5.toNatClampNeg r6) → K (.inr (.inl (x1, x2, x3, x4, x5, 0))) S7) (((S.2.2.1 0) (3 : Int32).toNatClampNeg) + x5) S))
  | (.inr (.inl (x1, x2, x3, x4, x5, x6))), S => vp_in (0 : Int32) 3890 ∧ ((((S.2.2.1 0) (0 : Int32).toNatClampNeg) ≤ x6 → ∀ v8 : Int32, v8 = x5 + 1 → K (.inl (x1, x2, x3, x4, v8)) S) ∧ (¬ ((S.2.2.1 0) (0 : Int32).toNatClampNeg) ≤ x6 → vp_in (3 : Int32) 3890 ∧ VC_costOf (fun r10 S9 => vp_in ((6 * x5) + x6) 144 ∧ ∀ S11 : MS, S11 = sF S9 31 (upd (S9.2.2.1 31) ((6 * x5) + x6).toNatClampNeg r10) → ∀ v12 : Int32, v12 = x6 + 1 → K (.inr (.inl (x1, x2, x3, x4, x5, v12))) S11) x6 (((S.2.2.1 0) (3 : Int32).toNatClampNeg) + x5) S))
  | (.inr (.inr (.inl (x1, x2, x3, x4, x5)))), S => ((x5 < 0 → ((¬ x3 = (-1) → ((¬ x3 = (-2) → vp_in (0 : Int32) 1664 ∧ ((((S.2.2.1 27) (0 : Int32).toNatClampNeg) ≤ x3 → Post (-1000000) S) ∧ (¬ ((S.2.2.1 27) (0 : Int32).toNatClampNeg) ≤ x3 → VC_workOf (fun r14 S13 => Post r14 S13) x1 x4 x3 S))) ∧ (x3 = (-2) → vp_in (0 : Int32) 1664 ∧ Post ((S.2.2.1 27) (0 : Int32).toNatClampNeg) S))) ∧ (x3 = (-1) → vp_in (0 : Int32) 1664 ∧ Post ((S.2.2.1 26) (0 : Int32).toNatClampNeg) S))) ∧ (¬ x5 < 0 → ((¬ (x5 &&& (x1 ^^^ (-1))) = 0 → ∀ v15 : Int32, v15 = x5 + (-1) → K (.inr (.inr (.inl (x1, x2, x3, x4, v15)))) S) ∧ ((x5 &&& (x1 ^^^ (-1))) = 0 → K (.inr (.inr (.inr (x1, x2, x3, x4, x5, x4)))) S))))
  | (.inr (.inr (.inr (x1, x2, x3, x4, x5, x6)))), S => ((x6 < 0 → ∀ v16 : Int32, v16 = x5 + (-1) → K (.inr (.inr (.inl (x1, x2, x3, x4, v16)))) S) ∧ (¬ x6 < 0 → VC_reckon (fun S17 => ∀ v18 : Int32, v18 = x6 + (-1) → K (.inr (.inr (.inr (x1, x2, x3, x4, x5, v18)))) S17) x5 x6 x1 x4 S))
def VC_plan (Post : Int32 → MS → Prop) (a0 : Int32) (a1 : Int32) (a2 : Int32) (S : MS) : Prop := ∀ K : Hd_plan → MS → Prop, (∀ h S, B_plan Post K h S → K h S) → vp_in (1 : Int32) 3890 ∧ VC_isIn (fun r1 => ((r1 = 0 → Post (-1000000) S) ∧ (¬ r1 = 0 → VC_bits (fun r2 => ((4 < r2 → Post (-1000000) S) ∧ (¬ 4 < r2 → VC_isIn (fun r3 => ((r3 = 0 → Post (-1000000) S) ∧ (¬ r3 = 0 → (((-2) ≤ a2 → vp_in (3 : Int32) 3890 ∧ (((((S.2.2.1 0) (3 : Int32).toNatClampNeg) + a1) ≤ 1000 → K (.inl (a0, a1, a2, a1, 0)) S) ∧ (¬ (((S.2.2.1 0) (3 : Int32).toNatClampNeg) + a1) ≤ 1000 → vp_in (3 : Int32) 3890 ∧ ∀ v4 : Int32, v4 = 1000 - ((S.2.2.1 0) (3 : Int32).toNatClampNeg) → K (.inl (a0, a1, a2, v4, 0)) S))) ∧ (¬ (-2) ≤ a2 → Post (-1000000) S))))) a1 1 24))) a0))) a0 0 (((1 : Int32) <<< (((S.2.2.1 0) (1 : Int32).toNatClampNeg) &&& 31)) - 1)
set_option maxHeartbeats 4000000 in
set_option maxRecDepth 100000 in
theorem h_plan_0 {p : Program} {l : Launch} {e : Env} {s : State} {m : MethodId} {below : List Frame} {meth : Method} {c : Code} {dC : Nat → ClassId} {dI : Nat → Nat → Nat} {q : Nat → Nat} {cI cJ cZ : ClassId} {A : Nat → Prop} {args : Array Value} {Post : Int32 → MS → Prop} {K : Hd_plan → MS → Prop} (X : XM p s m args c cX12_plan 7 ww_plan dC dI cI cJ cZ A) (hr : meth.sig.returnType = (some .int)) (hlocks : meth.locks = false) (hK0 : ∀ (x1 : Int32) (x2 : Int32) (x3 : Int32) (x4 : Int32) (x5 : Int32) (S : MS), K (.inl (x1, x2, x3, x4, x5)) S → ∀ (H : Heap) (locs : List Loc), va_P (dC, dI) vwCl (wM q cI cJ cZ S) H → va_D A (wM q cI cJ cZ S) → va_S A s.heap H locs → ∀ ls : Array Slot, lv_has ls 7 [(0, .ref (q 0)), (1, .int x1), (2, .int x2), (3, .int x3), (4, .int x4), (5, .int x5)] → W p l e (headSpec ww_plan ({ frames := 5, cells := 0, slots := 0, locals := 119 } : Room)).room s m args below meth c H locs 0 0 (MQ below (va_Qi Post (atM dC dI q cI cJ cZ A) A) args s 0 0 A) (F0 m 79 ls [])) (hK1 : ∀ (x1 : Int32) (x2 : Int32) (x3 : Int32) (x4 : Int32) (x5 : Int32) (x6 : Int32) (S : MS), K (.inr (.inl (x1, x2, x3, x4, x5, x6))) S → ∀ (H : Heap) (locs : List Loc), va_P (dC, dI) vwCl (wM q cI cJ cZ S) H → va_D A (wM q cI cJ cZ S) → va_S A s.heap H locs → ∀ ls : Array Slot, lv_has ls 7 [(0, .ref (q 0)), (1, .int x1), (2, .int x2), (3, .int x3), (4, .int x4), (5, .int x5), (6, .int x6)] → W p l e (headSpec ww_plan ({ frames := 5, cells := 0, slots := 0, locals := 119 } : Room)).room s m args below meth c H locs 0 0 (MQ below (va_Qi Post (atM dC dI q cI cJ cZ A) A) args s 0 0 A) (F0 m 109 ls [])) (hK2 : ∀ (x1 : Int32) (x2 : Int32) (x3 : Int32) (x4 : Int32) (x5 : Int32) (S : MS), K (.inr (.inr (.inl (x1, x2, x3, x4, x5)))) S → ∀ (H : Heap) (locs : List Loc), va_P (dC, dI) vwCl (wM q cI cJ cZ S) H → va_D A (wM q cI cJ cZ S) → va_S A s.heap H locs → ∀ ls : Array Slot, lv_has ls 7 [(0, .ref (q 0)), (1, .int x1), (2, .int x2), (3, .int x3), (4, .int x4), (5, .int x5)] → W p l e (headSpec ww_plan ({ frames := 5, cells := 0, slots := 0, locals := 119 } : Room)).room s m args below meth c H locs 0 0 (MQ below (va_Qi Post (atM dC dI q cI cJ cZ A) A) args s 0 0 A) (F0 m 163 ls [])) (hK3 : ∀ (x1 : Int32) (x2 : Int32) (x3 : Int32) (x4 : Int32) (x5 : Int32) (x6 : Int32) (S : MS), K (.inr (.inr (.inr (x1, x2, x3, x4, x5, x6)))) S → ∀ (H : Heap) (locs : List Loc), va_P (dC, dI) vwCl (wM q cI cJ cZ S) H → va_D A (wM q cI cJ cZ S) → va_S A s.heap H locs → ∀ ls : Array Slot, lv_has ls 7 [(0, .ref (q 0)), (1, .int x1), (2, .int x2), (3, .int x3), (4, .int x4), (5, .int x5), (6, .int x6)] → W p l e (headSpec ww_plan ({ frames := 5, cells := 0, slots := 0, locals := 119 } : Room)).room s m args below meth c H locs 0 0 (MQ below (va_Qi Post (atM dC dI q cI cJ cZ A) A) args s 0 0 A) (F0 m 181 ls [])) (x1 : Int32) (x2 : Int32) (x3 : Int32) (x4 : Int32) (x5 : Int32) (S : MS) (h : B_plan Post K (.inl (x1, x2, x3, x4, x5)) S) : ∀ (H : Heap) (locs : List Loc), va_P (dC, dI) vwCl (wM q cI cJ cZ S) H → va_D A (wM q cI cJ cZ S) → va_S A s.heap H locs → ∀ ls : Array Slot, lv_has ls 7 [(0, .ref (q 0)), (1, .int x1), (2, .int x2), (3, .int x3), (4, .int x4), (5, .int x5)] → W p l e (headSpec ww_plan ({ frames := 5, cells := 0, slots := 0, locals := 119 } : Room)).room s m args below meth c H locs 0 0 (MQ below (va_Qi Post (atM dC dI q cI cJ cZ A) A) args s 0 0 A) (F0 m 79 ls []) := by
  have hx := X.1
  have hb := X.2.1
  intro H locs hP hD hS ls hl
  have lk7 := X.2.2.2.2.1 (.fieldLink RX12 7 "BreathOnLoanModel" "a" "[I") (inW 5 rfl)
  have lk52 := X.2.2.2.2.1 (.fieldLink RX12 52 "BreathOnLoanModel" "smokes" "[I") (inW 20 rfl)
  have lk55 := X.2.2.2.2.1 (.fieldLink RX12 55 "BreathOnLoanModel" "costs" "[I") (inW 21 rfl)
  have lk49 := X.2.2.2.2.1 (.fieldLink RX12 49 "BreathOnLoanModel" "works" "[I") (inW 19 rfl)
  have lk46 := X.2.2.2.2.1 (.fieldLink RX12 46 "BreathOnLoanModel" "left" "[I") (inW 18 rfl)
  dsimp only [B_plan] at h
  refine lv_iload hx hb (dk DX12_plan 45 rfl) (lv_at hl 5 rfl) ?_
  refine lv_iload hx hb (dk DX12_plan 46 rfl) (lv_at hl 4 rfl) ?_
  refine lv_icmp_ge (tgt := 160) hx hb (dk DX12_plan 47 rfl) (by decide) (fun hc => ?_) (fun hc => ?_)
  · have h := h.1 hc
    refine lv_iload_n hx hb (dk DX12_plan 89 rfl) rfl (lv_at hl 1 rfl) ?_
    refine lv_istore (lv' := [(5, .int x1), (0, .ref (q 0)), (1, .int x1), (2, .int x2), (3, .int x3), (4, .int x4)]) hx hb (dk DX12_plan 90 rfl) hl (by decide) rfl (fun ls hl => ?_)
    exact hK2 x1 x2 x3 x4 x1 S h _ _ hP hD hS ls (lv_sub hl [1, 2, 3, 4, 5, 0] rfl)
  · have h := h.2 hc
    refine lv_aload_n hx hb (dk DX12_plan 48 rfl) rfl (lv_at hl 0 rfl) ?_
    refine gM X hP 30 (by decide) rfl lk52 (dk DX12_plan 49 rfl) ?_
    refine lv_iload hx hb (dk DX12_plan 50 rfl) (lv_at hl 5 rfl) ?_
    refine lv_aload_n hx hb (dk DX12_plan 51 rfl) rfl (lv_at hl 0 rfl) ?_
    refine lv_aload_n hx hb (dk DX12_plan 52 rfl) rfl (lv_at hl 0 rfl) ?_
    refine gM X hP 0 (by decide) rfl lk7 (dk DX12_plan 53 rfl) ?_
    refine lv_iconst (v := 3) hx hb (dk DX12_plan 54 rfl) (by decide) ?_
    obtain ⟨hin, h⟩ := h
    refine ldM X hP 1 rfl hin (dk DX12_plan 55 rfl) ?_
    refine lv_iload hx hb (dk DX12_plan 56 rfl) (lv_at hl 5 rfl) ?_
    refine lv_iadd hx hb (dk DX12_plan 57 rfl) ?_
    refine cMi (As := [.int (((S.2.2.1 0) (3 : Int32).toNatClampNeg) + x5)]) (rest := [.int x5, .ref (q 12)]) X (m_smokeIn (l := l) (dC := dC) (dI := dI) (q := q) (cI := cI) (cJ := cJ) (cZ := cZ) (sz := _) (((S.2.2.1 0) (3 : Int32).toNatClampNeg) + x5) S h) (cwV 1 X.2.2.2.2.1 (gwV 249 250 251 24 230 rfl rfl rfl rfl rfl) rfl rfl rfl q_smokeIn ⟨Nat.le_of_ble_eq_true rfl, Nat.le_of_ble_eq_true rfl⟩) hP hD hS rfl hl.1 rfl (Nat.le_of_ble_eq_true rfl) (dk DX12_plan 58 rfl) (fun r6 S5 H locs h hP hD hS => ?_)
    obtain ⟨hin, h⟩ := h
    refine stM_30 X hP hD hS hin (dk DX12_plan 59 rfl) (fun S7 eS7 H locs hP hD hS => ?_)
    have h := h S7 eS7
    refine lv_iconst (v := 0) hx hb (dk DX12_plan 60 rfl) (by decide) ?_
    refine lv_istore (lv' := [(6, .int 0), (0, .ref (q 0)), (1, .int x1), (2, .int x2), (3, .int x3), (4, .int x4), (5, .int x5)]) hx hb (dk DX12_plan 61 rfl) hl (by decide) rfl (fun ls hl => ?_)
    exact hK1 x1 x2 x3 x4 x5 0 S7 h _ _ hP hD hS ls (lv_sub hl [1, 2, 3, 4, 5, 6, 0] rfl)
set_option maxHeartbeats 4000000 in
set_option maxRecDepth 100000 in
theorem h_plan_1 {p : Program} {l : Launch} {e : Env} {s : State} {m : MethodId} {below : List Frame} {meth : Method} {c : Code} {dC : Nat → ClassId} {dI : Nat → Nat → Nat} {q : Nat → Nat} {cI cJ cZ : ClassId} {A : Nat → Prop} {args : Array Value} {Post : Int32 → MS → Prop} {K : Hd_plan → MS → Prop} (X : XM p s m args c cX12_plan 7 ww_plan dC dI cI cJ cZ A) (hr : meth.sig.returnType = (some .int)) (hlocks : meth.locks = false) (hK0 : ∀ (x1 : Int32) (x2 : Int32) (x3 : Int32) (x4 : Int32) (x5 : Int32) (S : MS), K (.inl (x1, x2, x3, x4, x5)) S → ∀ (H : Heap) (locs : List Loc), va_P (dC, dI) vwCl (wM q cI cJ cZ S) H → va_D A (wM q cI cJ cZ S) → va_S A s.heap H locs → ∀ ls : Array Slot, lv_has ls 7 [(0, .ref (q 0)), (1, .int x1), (2, .int x2), (3, .int x3), (4, .int x4), (5, .int x5)] → W p l e (headSpec ww_plan ({ frames := 5, cells := 0, slots := 0, locals := 119 } : Room)).room s m args below meth c H locs 0 0 (MQ below (va_Qi Post (atM dC dI q cI cJ cZ A) A) args s 0 0 A) (F0 m 79 ls [])) (hK1 : ∀ (x1 : Int32) (x2 : Int32) (x3 : Int32) (x4 : Int32) (x5 : Int32) (x6 : Int32) (S : MS), K (.inr (.inl (x1, x2, x3, x4, x5, x6))) S → ∀ (H : Heap) (locs : List Loc), va_P (dC, dI) vwCl (wM q cI cJ cZ S) H → va_D A (wM q cI cJ cZ S) → va_S A s.heap H locs → ∀ ls : Array Slot, lv_has ls 7 [(0, .ref (q 0)), (1, .int x1), (2, .int x2), (3, .int x3), (4, .int x4), (5, .int x5), (6, .int x6)] → W p l e (headSpec ww_plan ({ frames := 5, cells := 0, slots := 0, locals := 119 } : Room)).room s m args below meth c H locs 0 0 (MQ below (va_Qi Post (atM dC dI q cI cJ cZ A) A) args s 0 0 A) (F0 m 109 ls [])) (hK2 : ∀ (x1 : Int32) (x2 : Int32) (x3 : Int32) (x4 : Int32) (x5 : Int32) (S : MS), K (.inr (.inr (.inl (x1, x2, x3, x4, x5)))) S → ∀ (H : Heap) (locs : List Loc), va_P (dC, dI) vwCl (wM q cI cJ cZ S) H → va_D A (wM q cI cJ cZ S) → va_S A s.heap H locs → ∀ ls : Array Slot, lv_has ls 7 [(0, .ref (q 0)), (1, .int x1), (2, .int x2), (3, .int x3), (4, .int x4), (5, .int x5)] → W p l e (headSpec ww_plan ({ frames := 5, cells := 0, slots := 0, locals := 119 } : Room)).room s m args below meth c H locs 0 0 (MQ below (va_Qi Post (atM dC dI q cI cJ cZ A) A) args s 0 0 A) (F0 m 163 ls [])) (hK3 : ∀ (x1 : Int32) (x2 : Int32) (x3 : Int32) (x4 : Int32) (x5 : Int32) (x6 : Int32) (S : MS), K (.inr (.inr (.inr (x1, x2, x3, x4, x5, x6)))) S → ∀ (H : Heap) (locs : List Loc), va_P (dC, dI) vwCl (wM q cI cJ cZ S) H → va_D A (wM q cI cJ cZ S) → va_S A s.heap H locs → ∀ ls : Array Slot, lv_has ls 7 [(0, .ref (q 0)), (1, .int x1), (2, .int x2), (3, .int x3), (4, .int x4), (5, .int x5), (6, .int x6)] → W p l e (headSpec ww_plan ({ frames := 5, cells := 0, slots := 0, locals := 119 } : Room)).room s m args below meth c H locs 0 0 (MQ below (va_Qi Post (atM dC dI q cI cJ cZ A) A) args s 0 0 A) (F0 m 181 ls [])) (x1 : Int32) (x2 : Int32) (x3 : Int32) (x4 : Int32) (x5 : Int32) (x6 : Int32) (S : MS) (h : B_plan Post K (.inr (.inl (x1, x2, x3, x4, x5, x6))) S) : ∀ (H : Heap) (locs : List Loc), va_P (dC, dI) vwCl (wM q cI cJ cZ S) H → va_D A (wM q cI cJ cZ S) → va_S A s.heap H locs → ∀ ls : Array Slot, lv_has ls 7 [(0, .ref (q 0)), (1, .int x1), (2, .int x2), (3, .int x3), (4, .int x4), (5, .int x5), (6, .int x6)] → W p l e (headSpec ww_plan ({ frames := 5, cells := 0, slots := 0, locals := 119 } : Room)).room s m args below meth c H locs 0 0 (MQ below (va_Qi Post (atM dC dI q cI cJ cZ A) A) args s 0 0 A) (F0 m 109 ls []) := by
  have hx := X.1
  have hb := X.2.1
  intro H locs hP hD hS ls hl
  have lk7 := X.2.2.2.2.1 (.fieldLink RX12 7 "BreathOnLoanModel" "a" "[I") (inW 5 rfl)
  have lk52 := X.2.2.2.2.1 (.fieldLink RX12 52 "BreathOnLoanModel" "smokes" "[I") (inW 20 rfl)
  have lk55 := X.2.2.2.2.1 (.fieldLink RX12 55 "BreathOnLoanModel" "costs" "[I") (inW 21 rfl)
  have lk49 := X.2.2.2.2.1 (.fieldLink RX12 49 "BreathOnLoanModel" "works" "[I") (inW 19 rfl)
  have lk46 := X.2.2.2.2.1 (.fieldLink RX12 46 "BreathOnLoanModel" "left" "[I") (inW 18 rfl)
  dsimp only [B_plan] at h
  refine lv_iload hx hb (dk DX12_plan 62 rfl) (lv_at hl 6 rfl) ?_
  refine lv_aload_n hx hb (dk DX12_plan 63 rfl) rfl (lv_at hl 0 rfl) ?_
  refine gM X hP 0 (by decide) rfl lk7 (dk DX12_plan 64 rfl) ?_
  refine lv_iconst (v := 0) hx hb (dk DX12_plan 65 rfl) (by decide) ?_
  obtain ⟨hin, h⟩ := h
  refine ldM X hP 1 rfl hin (dk DX12_plan 66 rfl) ?_
  refine lv_icmp_ge (tgt := 154) hx hb (dk DX12_plan 67 rfl) (by decide) (fun hc => ?_) (fun hc => ?_)
  · have h := h.1 hc
    obtain ⟨v8, ev8⟩ : ∃ y : Int32, y = x5 + 1 := ⟨_, rfl⟩
    have h := h v8 ev8
    refine lv_iinc (v := v8) (lv' := [(5, .int v8), (0, .ref (q 0)), (1, .int x1), (2, .int x2), (3, .int x3), (4, .int x4), (6, .int x6)]) hx hb (dk DX12_plan 87 rfl) hl (k := 5) rfl (by rw [ev8]; rfl) (by decide) rfl (fun ls hl => ?_)
    refine lv_goto (tgt := 79) hx hb (dk DX12_plan 88 rfl) (by decide) ?_
    exact hK0 x1 x2 x3 x4 v8 S h _ _ hP hD hS ls (lv_sub hl [1, 2, 3, 4, 5, 0] rfl)
  · have h := h.2 hc
    refine lv_aload_n hx hb (dk DX12_plan 68 rfl) rfl (lv_at hl 0 rfl) ?_
    refine gM X hP 31 (by decide) rfl lk55 (dk DX12_plan 69 rfl) ?_
    refine lv_bipush (v := 6) hx hb (dk DX12_plan 70 rfl) (by decide) ?_
    refine lv_iload hx hb (dk DX12_plan 71 rfl) (lv_at hl 5 rfl) ?_
    refine lv_imul hx hb (dk DX12_plan 72 rfl) ?_
    refine lv_iload hx hb (dk DX12_plan 73 rfl) (lv_at hl 6 rfl) ?_
    refine lv_iadd hx hb (dk DX12_plan 74 rfl) ?_
    refine lv_aload_n hx hb (dk DX12_plan 75 rfl) rfl (lv_at hl 0 rfl) ?_
    refine lv_iload hx hb (dk DX12_plan 76 rfl) (lv_at hl 6 rfl) ?_
    refine lv_aload_n hx hb (dk DX12_plan 77 rfl) rfl (lv_at hl 0 rfl) ?_
    refine gM X hP 0 (by decide) rfl lk7 (dk DX12_plan 78 rfl) ?_
    refine lv_iconst (v := 3) hx hb (dk DX12_plan 79 rfl) (by decide) ?_
    obtain ⟨hin, h⟩ := h
    refine ldM X hP 1 rfl hin (dk DX12_plan 80 rfl) ?_
    refine lv_iload hx hb (dk DX12_plan 81 rfl) (lv_at hl 5 rfl) ?_
    refine lv_iadd hx hb (dk DX12_plan 82 rfl) ?_
    refine cMi (As := [.int x6, .int (((S.2.2.1 0) (3 : Int32).toNatClampNeg) + x5)]) (rest := [.int ((6 * x5) + x6), .ref (q 13)]) X (m_costOf (l := l) (dC := dC) (dI := dI) (q := q) (cI := cI) (cJ := cJ) (cZ := cZ) (sz := _) x6 (((S.2.2.1 0) (3 : Int32).toNatClampNeg) + x5) S h) (cwV 2 X.2.2.2.2.1 (gwV 253 254 255 24 235 rfl rfl rfl rfl rfl) rfl rfl rfl q_costOf ⟨Nat.le_of_ble_eq_true rfl, Nat.le_of_ble_eq_true rfl⟩) hP hD hS rfl hl.1 rfl (Nat.le_of_ble_eq_true rfl) (dk DX12_plan 83 rfl) (fun r10 S9 H locs h hP hD hS => ?_)
    obtain ⟨hin, h⟩ := h
    refine stM_31 X hP hD hS hin (dk DX12_plan 84 rfl) (fun S11 eS11 H locs hP hD hS => ?_)
    have h := h S11 eS11
    obtain ⟨v12, ev12⟩ : ∃ y : Int32, y = x6 + 1 := ⟨_, rfl⟩
    have h := h v12 ev12
    refine lv_iinc (v := v12) (lv' := [(6, .int v12), (0, .ref (q 0)), (1, .int x1), (2, .int x2), (3, .int x3), (4, .int x4), (5, .int x5)]) hx hb (dk DX12_plan 85 rfl) hl (k := 6) rfl (by rw [ev12]; rfl) (by decide) rfl (fun ls hl => ?_)
    refine lv_goto (tgt := 109) hx hb (dk DX12_plan 86 rfl) (by decide) ?_
    exact hK1 x1 x2 x3 x4 x5 v12 S11 h _ _ hP hD hS ls (lv_sub hl [1, 2, 3, 4, 5, 6, 0] rfl)
set_option maxHeartbeats 4000000 in
set_option maxRecDepth 100000 in
theorem h_plan_2 {p : Program} {l : Launch} {e : Env} {s : State} {m : MethodId} {below : List Frame} {meth : Method} {c : Code} {dC : Nat → ClassId} {dI : Nat → Nat → Nat} {q : Nat → Nat} {cI cJ cZ : ClassId} {A : Nat → Prop} {args : Array Value} {Post : Int32 → MS → Prop} {K : Hd_plan → MS → Prop} (X : XM p s m args c cX12_plan 7 ww_plan dC dI cI cJ cZ A) (hr : meth.sig.returnType = (some .int)) (hlocks : meth.locks = false) (hK0 : ∀ (x1 : Int32) (x2 : Int32) (x3 : Int32) (x4 : Int32) (x5 : Int32) (S : MS), K (.inl (x1, x2, x3, x4, x5)) S → ∀ (H : Heap) (locs : List Loc), va_P (dC, dI) vwCl (wM q cI cJ cZ S) H → va_D A (wM q cI cJ cZ S) → va_S A s.heap H locs → ∀ ls : Array Slot, lv_has ls 7 [(0, .ref (q 0)), (1, .int x1), (2, .int x2), (3, .int x3), (4, .int x4), (5, .int x5)] → W p l e (headSpec ww_plan ({ frames := 5, cells := 0, slots := 0, locals := 119 } : Room)).room s m args below meth c H locs 0 0 (MQ below (va_Qi Post (atM dC dI q cI cJ cZ A) A) args s 0 0 A) (F0 m 79 ls [])) (hK1 : ∀ (x1 : Int32) (x2 : Int32) (x3 : Int32) (x4 : Int32) (x5 : Int32) (x6 : Int32) (S : MS), K (.inr (.inl (x1, x2, x3, x4, x5, x6))) S → ∀ (H : Heap) (locs : List Loc), va_P (dC, dI) vwCl (wM q cI cJ cZ S) H → va_D A (wM q cI cJ cZ S) → va_S A s.heap H locs → ∀ ls : Array Slot, lv_has ls 7 [(0, .ref (q 0)), (1, .int x1), (2, .int x2), (3, .int x3), (4, .int x4), (5, .int x5), (6, .int x6)] → W p l e (headSpec ww_plan ({ frames := 5, cells := 0, slots := 0, locals := 119 } : Room)).room s m args below meth c H locs 0 0 (MQ below (va_Qi Post (atM dC dI q cI cJ cZ A) A) args s 0 0 A) (F0 m 109 ls [])) (hK2 : ∀ (x1 : Int32) (x2 : Int32) (x3 : Int32) (x4 : Int32) (x5 : Int32) (S : MS), K (.inr (.inr (.inl (x1, x2, x3, x4, x5)))) S → ∀ (H : Heap) (locs : List Loc), va_P (dC, dI) vwCl (wM q cI cJ cZ S) H → va_D A (wM q cI cJ cZ S) → va_S A s.heap H locs → ∀ ls : Array Slot, lv_has ls 7 [(0, .ref (q 0)), (1, .int x1), (2, .int x2), (3, .int x3), (4, .int x4), (5, .int x5)] → W p l e (headSpec ww_plan ({ frames := 5, cells := 0, slots := 0, locals := 119 } : Room)).room s m args below meth c H locs 0 0 (MQ below (va_Qi Post (atM dC dI q cI cJ cZ A) A) args s 0 0 A) (F0 m 163 ls [])) (hK3 : ∀ (x1 : Int32) (x2 : Int32) (x3 : Int32) (x4 : Int32) (x5 : Int32) (x6 : Int32) (S : MS), K (.inr (.inr (.inr (x1, x2, x3, x4, x5, x6)))) S → ∀ (H : Heap) (locs : List Loc), va_P (dC, dI) vwCl (wM q cI cJ cZ S) H → va_D A (wM q cI cJ cZ S) → va_S A s.heap H locs → ∀ ls : Array Slot, lv_has ls 7 [(0, .ref (q 0)), (1, .int x1), (2, .int x2), (3, .int x3), (4, .int x4), (5, .int x5), (6, .int x6)] → W p l e (headSpec ww_plan ({ frames := 5, cells := 0, slots := 0, locals := 119 } : Room)).room s m args below meth c H locs 0 0 (MQ below (va_Qi Post (atM dC dI q cI cJ cZ A) A) args s 0 0 A) (F0 m 181 ls [])) (x1 : Int32) (x2 : Int32) (x3 : Int32) (x4 : Int32) (x5 : Int32) (S : MS) (h : B_plan Post K (.inr (.inr (.inl (x1, x2, x3, x4, x5)))) S) : ∀ (H : Heap) (locs : List Loc), va_P (dC, dI) vwCl (wM q cI cJ cZ S) H → va_D A (wM q cI cJ cZ S) → va_S A s.heap H locs → ∀ ls : Array Slot, lv_has ls 7 [(0, .ref (q 0)), (1, .int x1), (2, .int x2), (3, .int x3), (4, .int x4), (5, .int x5)] → W p l e (headSpec ww_plan ({ frames := 5, cells := 0, slots := 0, locals := 119 } : Room)).room s m args below meth c H locs 0 0 (MQ below (va_Qi Post (atM dC dI q cI cJ cZ A) A) args s 0 0 A) (F0 m 163 ls []) := by
  have hx := X.1
  have hb := X.2.1
  intro H locs hP hD hS ls hl
  have lk7 := X.2.2.2.2.1 (.fieldLink RX12 7 "BreathOnLoanModel" "a" "[I") (inW 5 rfl)
  have lk52 := X.2.2.2.2.1 (.fieldLink RX12 52 "BreathOnLoanModel" "smokes" "[I") (inW 20 rfl)
  have lk55 := X.2.2.2.2.1 (.fieldLink RX12 55 "BreathOnLoanModel" "costs" "[I") (inW 21 rfl)
  have lk49 := X.2.2.2.2.1 (.fieldLink RX12 49 "BreathOnLoanModel" "works" "[I") (inW 19 rfl)
  have lk46 := X.2.2.2.2.1 (.fieldLink RX12 46 "BreathOnLoanModel" "left" "[I") (inW 18 rfl)
  dsimp only [B_plan] at h
  refine lv_iload hx hb (dk DX12_plan 91 rfl) (lv_at hl 5 rfl) ?_
  refine lv_if_lt (tgt := 209) hx hb (dk DX12_plan 92 rfl) (by decide) (fun hc => ?_) (fun hc => ?_)
  · have h := h.1 hc
    refine lv_iload_n hx hb (dk DX12_plan 113 rfl) rfl (lv_at hl 3 rfl) ?_
    refine lv_iconst (v := (-1)) hx hb (dk DX12_plan 114 rfl) (by decide) ?_
    refine lv_icmp_ne (tgt := 221) hx hb (dk DX12_plan 115 rfl) (by decide) (fun hc => ?_) (fun hc => ?_)
    · have h := h.1 hc
      refine lv_iload_n hx hb (dk DX12_plan 121 rfl) rfl (lv_at hl 3 rfl) ?_
      refine lv_bipush (v := (-2)) hx hb (dk DX12_plan 122 rfl) (by decide) ?_
      refine lv_icmp_ne (tgt := 234) hx hb (dk DX12_plan 123 rfl) (by decide) (fun hc => ?_) (fun hc => ?_)
      · have h := h.1 hc
        refine lv_iload_n hx hb (dk DX12_plan 129 rfl) rfl (lv_at hl 3 rfl) ?_
        refine lv_aload_n hx hb (dk DX12_plan 130 rfl) rfl (lv_at hl 0 rfl) ?_
        refine gM X hP 27 (by decide) rfl lk49 (dk DX12_plan 131 rfl) ?_
        refine lv_iconst (v := 0) hx hb (dk DX12_plan 132 rfl) (by decide) ?_
        obtain ⟨hin, h⟩ := h
        refine ldM X hP 11 rfl hin (dk DX12_plan 133 rfl) ?_
        refine lv_icmp_ge (tgt := 255) hx hb (dk DX12_plan 134 rfl) (by decide) (fun hc => ?_) (fun hc => ?_)
        · have h := h.1 hc
          refine lv_ldcw (v := (-1000000)) hx hb X.2.2.2.1 (X.2.2.2.2.1 (.constant RX12 358 (-1000000)) (inW 326 rfl)) (dk DX12_plan 141 rfl) ?_
          exact W.iret (v := (-1000000)) hx hb hr (fun t ht hW => ⟨⟨_, _, rfl, h, by rw [ht]; exact hP, va_K.moved hW.alike X.2.2.2.2.2.2.1, hD⟩, hS.F ht⟩) hS.2.2 (dk DX12_plan 142 rfl)
        · have h := h.2 hc
          refine lv_aload_n hx hb (dk DX12_plan 135 rfl) rfl (lv_at hl 0 rfl) ?_
          refine lv_iload_n hx hb (dk DX12_plan 136 rfl) rfl (lv_at hl 1 rfl) ?_
          refine lv_iload hx hb (dk DX12_plan 137 rfl) (lv_at hl 4 rfl) ?_
          refine lv_iload_n hx hb (dk DX12_plan 138 rfl) rfl (lv_at hl 3 rfl) ?_
          refine cMi (As := [.int x1, .int x4, .int x3]) (rest := []) X (m_workOf (l := l) (dC := dC) (dI := dI) (q := q) (cI := cI) (cJ := cJ) (cZ := cZ) (sz := _) x1 x4 x3 S h) (cwV 3 X.2.2.2.2.1 (gwV 332 333 334 24 325 rfl rfl rfl rfl rfl) rfl rfl rfl q_workOf ⟨Nat.le_of_ble_eq_true rfl, Nat.le_of_ble_eq_true rfl⟩) hP hD hS rfl hl.1 rfl (Nat.le_of_ble_eq_true rfl) (dk DX12_plan 139 rfl) (fun r14 S13 H locs h hP hD hS => ?_)
          refine lv_goto (tgt := 258) hx hb (dk DX12_plan 140 rfl) (by decide) ?_
          exact W.iret (v := r14) hx hb hr (fun t ht hW => ⟨⟨_, _, rfl, h, by rw [ht]; exact hP, va_K.moved hW.alike X.2.2.2.2.2.2.1, hD⟩, hS.F ht⟩) hS.2.2 (dk DX12_plan 142 rfl)
      · have h := h.2 hc
        refine lv_aload_n hx hb (dk DX12_plan 124 rfl) rfl (lv_at hl 0 rfl) ?_
        refine gM X hP 27 (by decide) rfl lk49 (dk DX12_plan 125 rfl) ?_
        refine lv_iconst (v := 0) hx hb (dk DX12_plan 126 rfl) (by decide) ?_
        obtain ⟨hin, h⟩ := h
        refine ldM X hP 11 rfl hin (dk DX12_plan 127 rfl) ?_
        exact W.iret (v := (S.2.2.1 27) (0 : Int32).toNatClampNeg) hx hb hr (fun t ht hW => ⟨⟨_, _, rfl, h, by rw [ht]; exact hP, va_K.moved hW.alike X.2.2.2.2.2.2.1, hD⟩, hS.F ht⟩) hS.2.2 (dk DX12_plan 128 rfl)
    · have h := h.2 hc
      refine lv_aload_n hx hb (dk DX12_plan 116 rfl) rfl (lv_at hl 0 rfl) ?_
      refine gM X hP 26 (by decide) rfl lk46 (dk DX12_plan 117 rfl) ?_
      refine lv_iconst (v := 0) hx hb (dk DX12_plan 118 rfl) (by decide) ?_
      obtain ⟨hin, h⟩ := h
      refine ldM X hP 10 rfl hin (dk DX12_plan 119 rfl) ?_
      exact W.iret (v := (S.2.2.1 26) (0 : Int32).toNatClampNeg) hx hb hr (fun t ht hW => ⟨⟨_, _, rfl, h, by rw [ht]; exact hP, va_K.moved hW.alike X.2.2.2.2.2.2.1, hD⟩, hS.F ht⟩) hS.2.2 (dk DX12_plan 120 rfl)
  · have h := h.2 hc
    refine lv_iload hx hb (dk DX12_plan 93 rfl) (lv_at hl 5 rfl) ?_
    refine lv_iload_n hx hb (dk DX12_plan 94 rfl) rfl (lv_at hl 1 rfl) ?_
    refine lv_iconst (v := (-1)) hx hb (dk DX12_plan 95 rfl) (by decide) ?_
    refine lv_ixor hx hb (dk DX12_plan 96 rfl) ?_
    refine lv_iand hx hb (dk DX12_plan 97 rfl) ?_
    refine lv_if_ne (tgt := 203) hx hb (dk DX12_plan 98 rfl) (by decide) (fun hc => ?_) (fun hc => ?_)
    · have h := h.1 hc
      obtain ⟨v15, ev15⟩ : ∃ y : Int32, y = x5 + (-1) := ⟨_, rfl⟩
      have h := h v15 ev15
      refine lv_iinc (v := v15) (lv' := [(5, .int v15), (0, .ref (q 0)), (1, .int x1), (2, .int x2), (3, .int x3), (4, .int x4)]) hx hb (dk DX12_plan 111 rfl) hl (k := 5) rfl (by rw [ev15]; rfl) (by decide) rfl (fun ls hl => ?_)
      refine lv_goto (tgt := 163) hx hb (dk DX12_plan 112 rfl) (by decide) ?_
      exact hK2 x1 x2 x3 x4 v15 S h _ _ hP hD hS ls (lv_sub hl [1, 2, 3, 4, 5, 0] rfl)
    · have h := h.2 hc
      refine lv_iload hx hb (dk DX12_plan 99 rfl) (lv_at hl 4 rfl) ?_
      refine lv_istore (lv' := [(6, .int x4), (0, .ref (q 0)), (1, .int x1), (2, .int x2), (3, .int x3), (4, .int x4), (5, .int x5)]) hx hb (dk DX12_plan 100 rfl) hl (by decide) rfl (fun ls hl => ?_)
      exact hK3 x1 x2 x3 x4 x5 x4 S h _ _ hP hD hS ls (lv_sub hl [1, 2, 3, 4, 5, 6, 0] rfl)
set_option maxHeartbeats 4000000 in
set_option maxRecDepth 100000 in
theorem h_plan_3 {p : Program} {l : Launch} {e : Env} {s : State} {m : MethodId} {below : List Frame} {meth : Method} {c : Code} {dC : Nat → ClassId} {dI : Nat → Nat → Nat} {q : Nat → Nat} {cI cJ cZ : ClassId} {A : Nat → Prop} {args : Array Value} {Post : Int32 → MS → Prop} {K : Hd_plan → MS → Prop} (X : XM p s m args c cX12_plan 7 ww_plan dC dI cI cJ cZ A) (hr : meth.sig.returnType = (some .int)) (hlocks : meth.locks = false) (hK0 : ∀ (x1 : Int32) (x2 : Int32) (x3 : Int32) (x4 : Int32) (x5 : Int32) (S : MS), K (.inl (x1, x2, x3, x4, x5)) S → ∀ (H : Heap) (locs : List Loc), va_P (dC, dI) vwCl (wM q cI cJ cZ S) H → va_D A (wM q cI cJ cZ S) → va_S A s.heap H locs → ∀ ls : Array Slot, lv_has ls 7 [(0, .ref (q 0)), (1, .int x1), (2, .int x2), (3, .int x3), (4, .int x4), (5, .int x5)] → W p l e (headSpec ww_plan ({ frames := 5, cells := 0, slots := 0, locals := 119 } : Room)).room s m args below meth c H locs 0 0 (MQ below (va_Qi Post (atM dC dI q cI cJ cZ A) A) args s 0 0 A) (F0 m 79 ls [])) (hK1 : ∀ (x1 : Int32) (x2 : Int32) (x3 : Int32) (x4 : Int32) (x5 : Int32) (x6 : Int32) (S : MS), K (.inr (.inl (x1, x2, x3, x4, x5, x6))) S → ∀ (H : Heap) (locs : List Loc), va_P (dC, dI) vwCl (wM q cI cJ cZ S) H → va_D A (wM q cI cJ cZ S) → va_S A s.heap H locs → ∀ ls : Array Slot, lv_has ls 7 [(0, .ref (q 0)), (1, .int x1), (2, .int x2), (3, .int x3), (4, .int x4), (5, .int x5), (6, .int x6)] → W p l e (headSpec ww_plan ({ frames := 5, cells := 0, slots := 0, locals := 119 } : Room)).room s m args below meth c H locs 0 0 (MQ below (va_Qi Post (atM dC dI q cI cJ cZ A) A) args s 0 0 A) (F0 m 109 ls [])) (hK2 : ∀ (x1 : Int32) (x2 : Int32) (x3 : Int32) (x4 : Int32) (x5 : Int32) (S : MS), K (.inr (.inr (.inl (x1, x2, x3, x4, x5)))) S → ∀ (H : Heap) (locs : List Loc), va_P (dC, dI) vwCl (wM q cI cJ cZ S) H → va_D A (wM q cI cJ cZ S) → va_S A s.heap H locs → ∀ ls : Array Slot, lv_has ls 7 [(0, .ref (q 0)), (1, .int x1), (2, .int x2), (3, .int x3), (4, .int x4), (5, .int x5)] → W p l e (headSpec ww_plan ({ frames := 5, cells := 0, slots := 0, locals := 119 } : Room)).room s m args below meth c H locs 0 0 (MQ below (va_Qi Post (atM dC dI q cI cJ cZ A) A) args s 0 0 A) (F0 m 163 ls [])) (hK3 : ∀ (x1 : Int32) (x2 : Int32) (x3 : Int32) (x4 : Int32) (x5 : Int32) (x6 : Int32) (S : MS), K (.inr (.inr (.inr (x1, x2, x3, x4, x5, x6)))) S → ∀ (H : Heap) (locs : List Loc), va_P (dC, dI) vwCl (wM q cI cJ cZ S) H → va_D A (wM q cI cJ cZ S) → va_S A s.heap H locs → ∀ ls : Array Slot, lv_has ls 7 [(0, .ref (q 0)), (1, .int x1), (2, .int x2), (3, .int x3), (4, .int x4), (5, .int x5), (6, .int x6)] → W p l e (headSpec ww_plan ({ frames := 5, cells := 0, slots := 0, locals := 119 } : Room)).room s m args below meth c H locs 0 0 (MQ below (va_Qi Post (atM dC dI q cI cJ cZ A) A) args s 0 0 A) (F0 m 181 ls [])) (x1 : Int32) (x2 : Int32) (x3 : Int32) (x4 : Int32) (x5 : Int32) (x6 : Int32) (S : MS) (h : B_plan Post K (.inr (.inr (.inr (x1, x2, x3, x4, x5, x6)))) S) : ∀ (H : Heap) (locs : List Loc), va_P (dC, dI) vwCl (wM q cI cJ cZ S) H → va_D A (wM q cI cJ cZ S) → va_S A s.heap H locs → ∀ ls : Array Slot, lv_has ls 7 [(0, .ref (q 0)), (1, .int x1), (2, .int x2), (3, .int x3), (4, .int x4), (5, .int x5), (6, .int x6)] → W p l e (headSpec ww_plan ({ frames := 5, cells := 0, slots := 0, locals := 119 } : Room)).room s m args below meth c H locs 0 0 (MQ below (va_Qi Post (atM dC dI q cI cJ cZ A) A) args s 0 0 A) (F0 m 181 ls []) := by
  have hx := X.1
  have hb := X.2.1
  intro H locs hP hD hS ls hl
  have lk7 := X.2.2.2.2.1 (.fieldLink RX12 7 "BreathOnLoanModel" "a" "[I") (inW 5 rfl)
  have lk52 := X.2.2.2.2.1 (.fieldLink RX12 52 "BreathOnLoanModel" "smokes" "[I") (inW 20 rfl)
  have lk55 := X.2.2.2.2.1 (.fieldLink RX12 55 "BreathOnLoanModel" "costs" "[I") (inW 21 rfl)
  have lk49 := X.2.2.2.2.1 (.fieldLink RX12 49 "BreathOnLoanModel" "works" "[I") (inW 19 rfl)
  have lk46 := X.2.2.2.2.1 (.fieldLink RX12 46 "BreathOnLoanModel" "left" "[I") (inW 18 rfl)
  dsimp only [B_plan] at h
  refine lv_iload hx hb (dk DX12_plan 101 rfl) (lv_at hl 6 rfl) ?_
  refine lv_if_lt (tgt := 203) hx hb (dk DX12_plan 102 rfl) (by decide) (fun hc => ?_) (fun hc => ?_)
  · have h := h.1 hc
    obtain ⟨v16, ev16⟩ : ∃ y : Int32, y = x5 + (-1) := ⟨_, rfl⟩
    have h := h v16 ev16
    refine lv_iinc (v := v16) (lv' := [(5, .int v16), (0, .ref (q 0)), (1, .int x1), (2, .int x2), (3, .int x3), (4, .int x4), (6, .int x6)]) hx hb (dk DX12_plan 111 rfl) hl (k := 5) rfl (by rw [ev16]; rfl) (by decide) rfl (fun ls hl => ?_)
    refine lv_goto (tgt := 163) hx hb (dk DX12_plan 112 rfl) (by decide) ?_
    exact hK2 x1 x2 x3 x4 v16 S h _ _ hP hD hS ls (lv_sub hl [1, 2, 3, 4, 5, 0] rfl)
  · have h := h.2 hc
    refine lv_aload_n hx hb (dk DX12_plan 103 rfl) rfl (lv_at hl 0 rfl) ?_
    refine lv_iload hx hb (dk DX12_plan 104 rfl) (lv_at hl 5 rfl) ?_
    refine lv_iload hx hb (dk DX12_plan 105 rfl) (lv_at hl 6 rfl) ?_
    refine lv_iload_n hx hb (dk DX12_plan 106 rfl) rfl (lv_at hl 1 rfl) ?_
    refine lv_iload hx hb (dk DX12_plan 107 rfl) (lv_at hl 4 rfl) ?_
    refine cMv (As := [.int x5, .int x6, .int x1, .int x4]) (rest := []) X (m_reckon (l := l) (dC := dC) (dI := dI) (q := q) (cI := cI) (cJ := cJ) (cZ := cZ) (sz := _) x5 x6 x1 x4 S h) (cwV 4 X.2.2.2.2.1 (gwV 329 330 331 24 324 rfl rfl rfl rfl rfl) rfl rfl rfl q_reckon ⟨Nat.le_of_ble_eq_true rfl, Nat.le_of_ble_eq_true rfl⟩) hP hD hS rfl hl.1 rfl (Nat.le_of_ble_eq_true rfl) (dk DX12_plan 108 rfl) (fun S17 H locs h hP hD hS => ?_)
    obtain ⟨v18, ev18⟩ : ∃ y : Int32, y = x6 + (-1) := ⟨_, rfl⟩
    have h := h v18 ev18
    refine lv_iinc (v := v18) (lv' := [(6, .int v18), (0, .ref (q 0)), (1, .int x1), (2, .int x2), (3, .int x3), (4, .int x4), (5, .int x5)]) hx hb (dk DX12_plan 109 rfl) hl (k := 6) rfl (by rw [ev18]; rfl) (by decide) rfl (fun ls hl => ?_)
    refine lv_goto (tgt := 181) hx hb (dk DX12_plan 110 rfl) (by decide) ?_
    exact hK3 x1 x2 x3 x4 x5 v18 S17 h _ _ hP hD hS ls (lv_sub hl [1, 2, 3, 4, 5, 6, 0] rfl)
set_option maxHeartbeats 4000000 in
set_option maxRecDepth 100000 in
theorem m_plan {l : Launch} {dC : Nat → ClassId} {dI : Nat → Nat → Nat} {q : Nat → Nat} {cI cJ cZ : ClassId} {sz : Nat} {Post : Int32 → MS → Prop} (a0 : Int32) (a1 : Int32) (a2 : Int32) (S : MS) (h : VC_plan Post a0 a1 a2 S) : Met l yX12_plan ww_plan ({ frames := 5, cells := 0, slots := 0, locals := 119 } : Room) (va_Pc [.ref (q 0), .int a0, .int a1, .int a2] (preM dC dI q cI cJ cZ S sz)) (va_Qi Post (atM dC dI q cI cJ cZ (va_A (wM q cI cJ cZ S) sz)) (va_A (wM q cI cJ cZ S) sz)) 0 0 (va_A (wM q cI cJ cZ S) sz) := by
  refine oM (cc := cX12_plan) (maxL := 7) (ret := (some .int)) (Qc := fun A => va_Qi Post (atM dC dI q cI cJ cZ A) A) (by decide) rfl (fun w h => List.mem_cons_of_mem _ (List.mem_append_right _ h)) rfl (Nat.le_of_ble_eq_true rfl) (fun p e s m below meth c A ls X hr hlocks hP hD hS hl => ?_)
  have hx := X.1
  have hb := X.2.1
  have hl : lv_has ls 7 [(0, .ref (q 0)), (1, .int a0), (2, .int a1), (3, .int a2)] := hl
  have lk7 := X.2.2.2.2.1 (.fieldLink RX12 7 "BreathOnLoanModel" "a" "[I") (inW 5 rfl)
  have lk52 := X.2.2.2.2.1 (.fieldLink RX12 52 "BreathOnLoanModel" "smokes" "[I") (inW 20 rfl)
  have lk55 := X.2.2.2.2.1 (.fieldLink RX12 55 "BreathOnLoanModel" "costs" "[I") (inW 21 rfl)
  have lk49 := X.2.2.2.2.1 (.fieldLink RX12 49 "BreathOnLoanModel" "works" "[I") (inW 19 rfl)
  have lk46 := X.2.2.2.2.1 (.fieldLink RX12 46 "BreathOnLoanModel" "left" "[I") (inW 18 rfl)
  generalize hargs : ([.ref (q 0), .int a0, .int a1, .int a2] : List Value).toArray = args at X ⊢
  have h := h (fun hd S => match hd with | (.inl (x1, x2, x3, x4, x5)) => ∀ (H : Heap) (locs : List Loc), va_P (dC, dI) vwCl (wM q cI cJ cZ S) H → va_D A (wM q cI cJ cZ S) → va_S A s.heap H locs → ∀ ls : Array Slot, lv_has ls 7 [(0, .ref (q 0)), (1, .int x1), (2, .int x2), (3, .int x3), (4, .int x4), (5, .int x5)] → W p l e (headSpec ww_plan ({ frames := 5, cells := 0, slots := 0, locals := 119 } : Room)).room s m args below meth c H locs 0 0 (MQ below (va_Qi Post (atM dC dI q cI cJ cZ A) A) args s 0 0 A) (F0 m 79 ls []) | (.inr (.inl (x1, x2, x3, x4, x5, x6))) => ∀ (H : Heap) (locs : List Loc), va_P (dC, dI) vwCl (wM q cI cJ cZ S) H → va_D A (wM q cI cJ cZ S) → va_S A s.heap H locs → ∀ ls : Array Slot, lv_has ls 7 [(0, .ref (q 0)), (1, .int x1), (2, .int x2), (3, .int x3), (4, .int x4), (5, .int x5), (6, .int x6)] → W p l e (headSpec ww_plan ({ frames := 5, cells := 0, slots := 0, locals := 119 } : Room)).room s m args below meth c H locs 0 0 (MQ below (va_Qi Post (atM dC dI q cI cJ cZ A) A) args s 0 0 A) (F0 m 109 ls []) | (.inr (.inr (.inl (x1, x2, x3, x4, x5)))) => ∀ (H : Heap) (locs : List Loc), va_P (dC, dI) vwCl (wM q cI cJ cZ S) H → va_D A (wM q cI cJ cZ S) → va_S A s.heap H locs → ∀ ls : Array Slot, lv_has ls 7 [(0, .ref (q 0)), (1, .int x1), (2, .int x2), (3, .int x3), (4, .int x4), (5, .int x5)] → W p l e (headSpec ww_plan ({ frames := 5, cells := 0, slots := 0, locals := 119 } : Room)).room s m args below meth c H locs 0 0 (MQ below (va_Qi Post (atM dC dI q cI cJ cZ A) A) args s 0 0 A) (F0 m 163 ls []) | (.inr (.inr (.inr (x1, x2, x3, x4, x5, x6)))) => ∀ (H : Heap) (locs : List Loc), va_P (dC, dI) vwCl (wM q cI cJ cZ S) H → va_D A (wM q cI cJ cZ S) → va_S A s.heap H locs → ∀ ls : Array Slot, lv_has ls 7 [(0, .ref (q 0)), (1, .int x1), (2, .int x2), (3, .int x3), (4, .int x4), (5, .int x5), (6, .int x6)] → W p l e (headSpec ww_plan ({ frames := 5, cells := 0, slots := 0, locals := 119 } : Room)).room s m args below meth c H locs 0 0 (MQ below (va_Qi Post (atM dC dI q cI cJ cZ A) A) args s 0 0 A) (F0 m 181 ls [])) ?_
  · skip
    refine lv_iload_n hx hb (dk DX12_plan 0 rfl) rfl (lv_at hl 1 rfl) ?_
    refine lv_iconst (v := 0) hx hb (dk DX12_plan 1 rfl) (by decide) ?_
    refine lv_iconst (v := 1) hx hb (dk DX12_plan 2 rfl) (by decide) ?_
    refine lv_aload_n hx hb (dk DX12_plan 3 rfl) rfl (lv_at hl 0 rfl) ?_
    refine gM X hP 0 (by decide) rfl lk7 (dk DX12_plan 4 rfl) ?_
    refine lv_iconst (v := 1) hx hb (dk DX12_plan 5 rfl) (by decide) ?_
    obtain ⟨hin, h⟩ := h
    refine ldM X hP 1 rfl hin (dk DX12_plan 6 rfl) ?_
    refine lv_ishl hx hb (dk DX12_plan 7 rfl) ?_
    refine lv_iconst (v := 1) hx hb (dk DX12_plan 8 rfl) (by decide) ?_
    refine lv_isub hx hb (dk DX12_plan 9 rfl) ?_
    refine cSi (As := [.int a0, .int 0, .int (((1 : Int32) <<< (((S.2.2.1 0) (1 : Int32).toNatClampNeg) &&& 31)) - 1)]) (rest := []) ⟨X.1, X.2.1, X.2.2.1, X.2.2.2.1, X.2.2.2.2.1⟩ (m_isIn (l := l) a0 0 (((1 : Int32) <<< (((S.2.2.1 0) (1 : Int32).toNatClampNeg) &&& 31)) - 1) h) (va_cwS 3 X.2.2.2.2.1 (gwS 31 32 24 26 rfl rfl rfl rfl) rfl rfl rfl q_isIn ⟨Nat.le_of_ble_eq_true rfl, Nat.le_of_ble_eq_true rfl⟩) rfl hl.1 rfl (Nat.le_of_ble_eq_true rfl) (dk DX12_plan 10 rfl) (fun r1 h => ?_)
    refine lv_if_eq (tgt := 42) hx hb (dk DX12_plan 11 rfl) (by decide) (fun hc => ?_) (fun hc => ?_)
    · have h := h.1 hc
      refine lv_ldcw (v := (-1000000)) hx hb X.2.2.2.1 (X.2.2.2.2.1 (.constant RX12 358 (-1000000)) (inW 326 rfl)) (dk DX12_plan 24 rfl) ?_
      exact W.iret (v := (-1000000)) hx hb hr (fun t ht hW => ⟨⟨_, _, rfl, h, by rw [ht]; exact hP, va_K.moved hW.alike X.2.2.2.2.2.2.1, hD⟩, hS.F ht⟩) hS.2.2 (dk DX12_plan 25 rfl)
    · have h := h.2 hc
      refine lv_iload_n hx hb (dk DX12_plan 12 rfl) rfl (lv_at hl 1 rfl) ?_
      refine cSi (As := [.int a0]) (rest := []) ⟨X.1, X.2.1, X.2.2.1, X.2.2.2.1, X.2.2.2.2.1⟩ (m_bits (l := l) a0 h) (va_cwS 1 X.2.2.2.2.1 (gwS 327 328 24 29 rfl rfl rfl rfl) rfl rfl rfl q_bits ⟨Nat.le_of_ble_eq_true rfl, Nat.le_of_ble_eq_true rfl⟩) rfl hl.1 rfl (Nat.le_of_ble_eq_true rfl) (dk DX12_plan 13 rfl) (fun r2 h => ?_)
      refine lv_iconst (v := 4) hx hb (dk DX12_plan 14 rfl) (by decide) ?_
      refine lv_icmp_gt (tgt := 42) hx hb (dk DX12_plan 15 rfl) (by decide) (fun hc => ?_) (fun hc => ?_)
      · have h := h.1 hc
        refine lv_ldcw (v := (-1000000)) hx hb X.2.2.2.1 (X.2.2.2.2.1 (.constant RX12 358 (-1000000)) (inW 326 rfl)) (dk DX12_plan 24 rfl) ?_
        exact W.iret (v := (-1000000)) hx hb hr (fun t ht hW => ⟨⟨_, _, rfl, h, by rw [ht]; exact hP, va_K.moved hW.alike X.2.2.2.2.2.2.1, hD⟩, hS.F ht⟩) hS.2.2 (dk DX12_plan 25 rfl)
      · have h := h.2 hc
        refine lv_iload_n hx hb (dk DX12_plan 16 rfl) rfl (lv_at hl 2 rfl) ?_
        refine lv_iconst (v := 1) hx hb (dk DX12_plan 17 rfl) (by decide) ?_
        refine lv_bipush (v := 24) hx hb (dk DX12_plan 18 rfl) (by decide) ?_
        refine cSi (As := [.int a1, .int 1, .int 24]) (rest := []) ⟨X.1, X.2.1, X.2.2.1, X.2.2.2.1, X.2.2.2.2.1⟩ (m_isIn (l := l) a1 1 24 h) (va_cwS 3 X.2.2.2.2.1 (gwS 31 32 24 26 rfl rfl rfl rfl) rfl rfl rfl q_isIn ⟨Nat.le_of_ble_eq_true rfl, Nat.le_of_ble_eq_true rfl⟩) rfl hl.1 rfl (Nat.le_of_ble_eq_true rfl) (dk DX12_plan 19 rfl) (fun r3 h => ?_)
        refine lv_if_eq (tgt := 42) hx hb (dk DX12_plan 20 rfl) (by decide) (fun hc => ?_) (fun hc => ?_)
        · have h := h.1 hc
          refine lv_ldcw (v := (-1000000)) hx hb X.2.2.2.1 (X.2.2.2.2.1 (.constant RX12 358 (-1000000)) (inW 326 rfl)) (dk DX12_plan 24 rfl) ?_
          exact W.iret (v := (-1000000)) hx hb hr (fun t ht hW => ⟨⟨_, _, rfl, h, by rw [ht]; exact hP, va_K.moved hW.alike X.2.2.2.2.2.2.1, hD⟩, hS.F ht⟩) hS.2.2 (dk DX12_plan 25 rfl)
        · have h := h.2 hc
          refine lv_iload_n hx hb (dk DX12_plan 21 rfl) rfl (lv_at hl 3 rfl) ?_
          refine lv_bipush (v := (-2)) hx hb (dk DX12_plan 22 rfl) (by decide) ?_
          refine lv_icmp_ge (tgt := 46) hx hb (dk DX12_plan 23 rfl) (by decide) (fun hc => ?_) (fun hc => ?_)
          · have h := h.1 hc
            refine lv_aload_n hx hb (dk DX12_plan 26 rfl) rfl (lv_at hl 0 rfl) ?_
            refine gM X hP 0 (by decide) rfl lk7 (dk DX12_plan 27 rfl) ?_
            refine lv_iconst (v := 3) hx hb (dk DX12_plan 28 rfl) (by decide) ?_
            obtain ⟨hin, h⟩ := h
            refine ldM X hP 1 rfl hin (dk DX12_plan 29 rfl) ?_
            refine lv_iload_n hx hb (dk DX12_plan 30 rfl) rfl (lv_at hl 2 rfl) ?_
            refine lv_iadd hx hb (dk DX12_plan 31 rfl) ?_
            refine lv_sipush (v := 1000) hx hb (dk DX12_plan 32 rfl) (by decide) ?_
            refine lv_icmp_le (tgt := 73) hx hb (dk DX12_plan 33 rfl) (by decide) (fun hc => ?_) (fun hc => ?_)
            · have h := h.1 hc
              refine lv_iload_n hx hb (dk DX12_plan 41 rfl) rfl (lv_at hl 2 rfl) ?_
              refine lv_istore (lv' := [(4, .int a1), (0, .ref (q 0)), (1, .int a0), (2, .int a1), (3, .int a2)]) hx hb (dk DX12_plan 42 rfl) hl (by decide) rfl (fun ls hl => ?_)
              refine lv_iconst (v := 0) hx hb (dk DX12_plan 43 rfl) (by decide) ?_
              refine lv_istore (lv' := [(5, .int 0), (4, .int a1), (0, .ref (q 0)), (1, .int a0), (2, .int a1), (3, .int a2)]) hx hb (dk DX12_plan 44 rfl) hl (by decide) rfl (fun ls hl => ?_)
              exact h _ _ hP hD hS ls (lv_sub hl [2, 3, 4, 5, 1, 0] rfl)
            · have h := h.2 hc
              refine lv_sipush (v := 1000) hx hb (dk DX12_plan 34 rfl) (by decide) ?_
              refine lv_aload_n hx hb (dk DX12_plan 35 rfl) rfl (lv_at hl 0 rfl) ?_
              refine gM X hP 0 (by decide) rfl lk7 (dk DX12_plan 36 rfl) ?_
              refine lv_iconst (v := 3) hx hb (dk DX12_plan 37 rfl) (by decide) ?_
              obtain ⟨hin, h⟩ := h
              refine ldM X hP 1 rfl hin (dk DX12_plan 38 rfl) ?_
              refine lv_isub hx hb (dk DX12_plan 39 rfl) ?_
              refine lv_goto (tgt := 74) hx hb (dk DX12_plan 40 rfl) (by decide) ?_
              refine lv_topi (fun v4 ev4 => ?_)
              have h := h v4 ev4
              refine lv_istore (lv' := [(4, .int v4), (0, .ref (q 0)), (1, .int a0), (2, .int a1), (3, .int a2)]) hx hb (dk DX12_plan 42 rfl) hl (by decide) rfl (fun ls hl => ?_)
              refine lv_iconst (v := 0) hx hb (dk DX12_plan 43 rfl) (by decide) ?_
              refine lv_istore (lv' := [(5, .int 0), (4, .int v4), (0, .ref (q 0)), (1, .int a0), (2, .int a1), (3, .int a2)]) hx hb (dk DX12_plan 44 rfl) hl (by decide) rfl (fun ls hl => ?_)
              exact h _ _ hP hD hS ls (lv_sub hl [2, 3, 4, 5, 1, 0] rfl)
          · have h := h.2 hc
            refine lv_ldcw (v := (-1000000)) hx hb X.2.2.2.1 (X.2.2.2.2.1 (.constant RX12 358 (-1000000)) (inW 326 rfl)) (dk DX12_plan 24 rfl) ?_
            exact W.iret (v := (-1000000)) hx hb hr (fun t ht hW => ⟨⟨_, _, rfl, h, by rw [ht]; exact hP, va_K.moved hW.alike X.2.2.2.2.2.2.1, hD⟩, hS.F ht⟩) hS.2.2 (dk DX12_plan 25 rfl)
  · rintro (⟨x1, x2, x3, x4, x5⟩ | ⟨x1, x2, x3, x4, x5, x6⟩ | ⟨x1, x2, x3, x4, x5⟩ | ⟨x1, x2, x3, x4, x5, x6⟩) S hB
    · exact h_plan_0 X hr hlocks (hK0 := fun _ _ _ _ _ _ h => h) (hK1 := fun _ _ _ _ _ _ _ h => h) (hK2 := fun _ _ _ _ _ _ h => h) (hK3 := fun _ _ _ _ _ _ _ h => h) x1 x2 x3 x4 x5 S hB
    · exact h_plan_1 X hr hlocks (hK0 := fun _ _ _ _ _ _ h => h) (hK1 := fun _ _ _ _ _ _ _ h => h) (hK2 := fun _ _ _ _ _ _ h => h) (hK3 := fun _ _ _ _ _ _ _ h => h) x1 x2 x3 x4 x5 x6 S hB
    · exact h_plan_2 X hr hlocks (hK0 := fun _ _ _ _ _ _ h => h) (hK1 := fun _ _ _ _ _ _ _ h => h) (hK2 := fun _ _ _ _ _ _ h => h) (hK3 := fun _ _ _ _ _ _ _ h => h) x1 x2 x3 x4 x5 S hB
    · exact h_plan_3 X hr hlocks (hK0 := fun _ _ _ _ _ _ h => h) (hK1 := fun _ _ _ _ _ _ _ h => h) (hK2 := fun _ _ _ _ _ _ h => h) (hK3 := fun _ _ _ _ _ _ _ h => h) x1 x2 x3 x4 x5 x6 S hB

def ww_seen : List Cond := .code yX12_seen cX12_seen 2 (some .int) :: (WdM ++ wsX120)
theorem q_seen : yX12_seen.cls = RX12 ∧ yX12_seen.cls ≠ "java/lang/invoke/MethodHandle" ∧ yX12_seen.cls ≠ "java/lang/invoke/VarHandle" ∧ (parseMethodDescriptor yX12_seen.desc).map (fun d => d.parameters.length) = some 1 := by decide +kernel
def VC_seen (Post : Int32 → MS → Prop) (a0 : Int32) (S : MS) : Prop := ((¬ a0 = (-1) → VC_isIn (fun r1 => ((r1 = 0 → Post (-2) S) ∧ (¬ r1 = 0 → vp_in (7 : Int32) 3890 ∧ ((¬ ((S.2.2.1 0) (7 : Int32).toNatClampNeg) = 8 → vp_in (7 : Int32) 3890 ∧ vp_in (60 + ((S.2.2.1 0) (7 : Int32).toNatClampNeg)) 3890 ∧ ∀ S2 : MS, S2 = sF S 0 (upd (S.2.2.1 0) (60 + ((S.2.2.1 0) (7 : Int32).toNatClampNeg)).toNatClampNeg a0) → vp_in (7 : Int32) 3890 ∧ ∀ v3 : Int32, v3 = ((S2.2.2.1 0) (7 : Int32).toNatClampNeg) + 1 → vp_in (7 : Int32) 3890 ∧ ∀ S4 : MS, S4 = sF S2 0 (upd (S2.2.2.1 0) (7 : Int32).toNatClampNeg v3) → vp_in (7 : Int32) 3890 ∧ Post ((S4.2.2.1 0) (7 : Int32).toNatClampNeg) S4) ∧ (((S.2.2.1 0) (7 : Int32).toNatClampNeg) = 8 → Post (-2) S))))) a0 0 40) ∧ (a0 = (-1) → vp_in (7 : Int32) 3890 ∧ ∀ S5 : MS, S5 = sF S 0 (upd (S.2.2.1 0) (7 : Int32).toNatClampNeg 0) → Post 0 S5))
set_option maxHeartbeats 4000000 in
set_option maxRecDepth 100000 in
theorem m_seen {l : Launch} {dC : Nat → ClassId} {dI : Nat → Nat → Nat} {q : Nat → Nat} {cI cJ cZ : ClassId} {sz : Nat} {Post : Int32 → MS → Prop} (a0 : Int32) (S : MS) (h : VC_seen Post a0 S) : Met l yX12_seen ww_seen ({ frames := 1, cells := 0, slots := 0, locals := 22 } : Room) (va_Pc [.ref (q 0), .int a0] (preM dC dI q cI cJ cZ S sz)) (va_Qi Post (atM dC dI q cI cJ cZ (va_A (wM q cI cJ cZ S) sz)) (va_A (wM q cI cJ cZ S) sz)) 0 0 (va_A (wM q cI cJ cZ S) sz) := by
  refine oM (cc := cX12_seen) (maxL := 2) (ret := (some .int)) (Qc := fun A => va_Qi Post (atM dC dI q cI cJ cZ A) A) (by decide) rfl (fun w h => List.mem_cons_of_mem _ (List.mem_append_right _ h)) rfl (Nat.le_of_ble_eq_true rfl) (fun p e s m below meth c A ls X hr hlocks hP hD hS hl => ?_)
  have hx := X.1
  have hb := X.2.1
  have hl : lv_has ls 2 [(0, .ref (q 0)), (1, .int a0)] := hl
  have lk7 := X.2.2.2.2.1 (.fieldLink RX12 7 "BreathOnLoanModel" "a" "[I") (inW 5 rfl)
  dsimp only [VC_seen] at h
  refine lv_iload_n hx hb (dk DX12_seen 0 rfl) rfl (lv_at hl 1 rfl) ?_
  refine lv_iconst (v := (-1)) hx hb (dk DX12_seen 1 rfl) (by decide) ?_
  refine lv_icmp_ne (tgt := 15) hx hb (dk DX12_seen 2 rfl) (by decide) (fun hc => ?_) (fun hc => ?_)
  · have h := h.1 hc
    refine lv_iload_n hx hb (dk DX12_seen 10 rfl) rfl (lv_at hl 1 rfl) ?_
    refine lv_iconst (v := 0) hx hb (dk DX12_seen 11 rfl) (by decide) ?_
    refine lv_bipush (v := 40) hx hb (dk DX12_seen 12 rfl) (by decide) ?_
    refine cSi (As := [.int a0, .int 0, .int 40]) (rest := []) ⟨X.1, X.2.1, X.2.2.1, X.2.2.2.1, X.2.2.2.2.1⟩ (m_isIn (l := l) a0 0 40 h) (va_cwS 3 X.2.2.2.2.1 (gwS 31 32 24 26 rfl rfl rfl rfl) rfl rfl rfl q_isIn ⟨Nat.le_of_ble_eq_true rfl, Nat.le_of_ble_eq_true rfl⟩) rfl hl.1 rfl (Nat.le_of_ble_eq_true rfl) (dk DX12_seen 13 rfl) (fun r1 h => ?_)
    refine lv_if_eq (tgt := 37) hx hb (dk DX12_seen 14 rfl) (by decide) (fun hc => ?_) (fun hc => ?_)
    · have h := h.1 hc
      refine lv_bipush (v := (-2)) hx hb (dk DX12_seen 21 rfl) (by decide) ?_
      exact W.iret (v := (-2)) hx hb hr (fun t ht hW => ⟨⟨_, _, rfl, h, by rw [ht]; exact hP, va_K.moved hW.alike X.2.2.2.2.2.2.1, hD⟩, hS.F ht⟩) hS.2.2 (dk DX12_seen 22 rfl)
    · have h := h.2 hc
      refine lv_aload_n hx hb (dk DX12_seen 15 rfl) rfl (lv_at hl 0 rfl) ?_
      refine gM X hP 0 (by decide) rfl lk7 (dk DX12_seen 16 rfl) ?_
      refine lv_bipush (v := 7) hx hb (dk DX12_seen 17 rfl) (by decide) ?_
      obtain ⟨hin, h⟩ := h
      refine ldM X hP 1 rfl hin (dk DX12_seen 18 rfl) ?_
      refine lv_bipush (v := 8) hx hb (dk DX12_seen 19 rfl) (by decide) ?_
      refine lv_icmp_ne (tgt := 40) hx hb (dk DX12_seen 20 rfl) (by decide) (fun hc => ?_) (fun hc => ?_)
      · have h := h.1 hc
        refine lv_aload_n hx hb (dk DX12_seen 23 rfl) rfl (lv_at hl 0 rfl) ?_
        refine gM X hP 0 (by decide) rfl lk7 (dk DX12_seen 24 rfl) ?_
        refine lv_bipush (v := 60) hx hb (dk DX12_seen 25 rfl) (by decide) ?_
        refine lv_aload_n hx hb (dk DX12_seen 26 rfl) rfl (lv_at hl 0 rfl) ?_
        refine gM X hP 0 (by decide) rfl lk7 (dk DX12_seen 27 rfl) ?_
        refine lv_bipush (v := 7) hx hb (dk DX12_seen 28 rfl) (by decide) ?_
        obtain ⟨hin, h⟩ := h
        refine ldM X hP 1 rfl hin (dk DX12_seen 29 rfl) ?_
        refine lv_iadd hx hb (dk DX12_seen 30 rfl) ?_
        refine lv_iload_n hx hb (dk DX12_seen 31 rfl) rfl (lv_at hl 1 rfl) ?_
        obtain ⟨hin, h⟩ := h
        refine stM_0 X hP hD hS hin (dk DX12_seen 32 rfl) (fun S2 eS2 H locs hP hD hS => ?_)
        have h := h S2 eS2
        refine lv_aload_n hx hb (dk DX12_seen 33 rfl) rfl (lv_at hl 0 rfl) ?_
        refine gM X hP 0 (by decide) rfl lk7 (dk DX12_seen 34 rfl) ?_
        refine lv_bipush (v := 7) hx hb (dk DX12_seen 35 rfl) (by decide) ?_
        refine lv_dup2_11 hx hb (dk DX12_seen 36 rfl) rfl rfl ?_
        obtain ⟨hin, h⟩ := h
        refine ldM X hP 1 rfl hin (dk DX12_seen 37 rfl) ?_
        refine lv_iconst (v := 1) hx hb (dk DX12_seen 38 rfl) (by decide) ?_
        refine lv_iadd hx hb (dk DX12_seen 39 rfl) ?_
        refine lv_topi (fun v3 ev3 => ?_)
        have h := h v3 ev3
        obtain ⟨hin, h⟩ := h
        refine stM_0 X hP hD hS hin (dk DX12_seen 40 rfl) (fun S4 eS4 H locs hP hD hS => ?_)
        have h := h S4 eS4
        refine lv_aload_n hx hb (dk DX12_seen 41 rfl) rfl (lv_at hl 0 rfl) ?_
        refine gM X hP 0 (by decide) rfl lk7 (dk DX12_seen 42 rfl) ?_
        refine lv_bipush (v := 7) hx hb (dk DX12_seen 43 rfl) (by decide) ?_
        obtain ⟨hin, h⟩ := h
        refine ldM X hP 1 rfl hin (dk DX12_seen 44 rfl) ?_
        exact W.iret (v := (S4.2.2.1 0) (7 : Int32).toNatClampNeg) hx hb hr (fun t ht hW => ⟨⟨_, _, rfl, h, by rw [ht]; exact hP, va_K.moved hW.alike X.2.2.2.2.2.2.1, hD⟩, hS.F ht⟩) hS.2.2 (dk DX12_seen 45 rfl)
      · have h := h.2 hc
        refine lv_bipush (v := (-2)) hx hb (dk DX12_seen 21 rfl) (by decide) ?_
        exact W.iret (v := (-2)) hx hb hr (fun t ht hW => ⟨⟨_, _, rfl, h, by rw [ht]; exact hP, va_K.moved hW.alike X.2.2.2.2.2.2.1, hD⟩, hS.F ht⟩) hS.2.2 (dk DX12_seen 22 rfl)
  · have h := h.2 hc
    refine lv_aload_n hx hb (dk DX12_seen 3 rfl) rfl (lv_at hl 0 rfl) ?_
    refine gM X hP 0 (by decide) rfl lk7 (dk DX12_seen 4 rfl) ?_
    refine lv_bipush (v := 7) hx hb (dk DX12_seen 5 rfl) (by decide) ?_
    refine lv_iconst (v := 0) hx hb (dk DX12_seen 6 rfl) (by decide) ?_
    obtain ⟨hin, h⟩ := h
    refine stM_0 X hP hD hS hin (dk DX12_seen 7 rfl) (fun S5 eS5 H locs hP hD hS => ?_)
    have h := h S5 eS5
    refine lv_iconst (v := 0) hx hb (dk DX12_seen 8 rfl) (by decide) ?_
    exact W.iret (v := 0) hx hb hr (fun t ht hW => ⟨⟨_, _, rfl, h, by rw [ht]; exact hP, va_K.moved hW.alike X.2.2.2.2.2.2.1, hD⟩, hS.F ht⟩) hS.2.2 (dk DX12_seen 9 rfl)

