-- keep undo
def ww_keep : List Cond := .code yX12_keep cX12_keep 3 none :: (WdM ++ wsX120)
theorem q_keep : yX12_keep.cls = RX12 ∧ yX12_keep.cls ≠ "java/lang/invoke/MethodHandle" ∧ yX12_keep.cls ≠ "java/lang/invoke/VarHandle" ∧ (parseMethodDescriptor yX12_keep.desc).map (fun d => d.parameters.length) = some 0 := by decide +kernel
abbrev Hd_keep : Type := (Int32) ⊕ Unit ⊕ (Int32 × Int32) ⊕ (Int32 × Int32)
def B_keep (Post : MS → Prop) (K : Hd_keep → MS → Prop) : Hd_keep → MS → Prop
  | (.inl x1), S => ((3364 ≤ x1 → vp_in (6 : Int32) 3890 ∧ ∀ v1 : Int32, v1 = ((S.2.2.1 0) (6 : Int32).toNatClampNeg) - 1 → vp_in (6 : Int32) 3890 ∧ ∀ S2 : MS, S2 = sF S 0 (upd (S.2.2.1 0) (6 : Int32).toNatClampNeg v1) → K (.inr (.inl ())) S2) ∧ (¬ 3364 ≤ x1 → vp_in (526 + x1) 3890 ∧ ∀ v3 : Int32, v3 = (S.2.2.1 0) (526 + x1).toNatClampNeg → vp_in (410 + x1) 3890 ∧ ∀ S4 : MS, S4 = sF S 0 (upd (S.2.2.1 0) (410 + x1).toNatClampNeg v3) → ∀ v5 : Int32, v5 = x1 + 1 → K (.inl v5) S4))
  | (.inr (.inl ())), S => vp_in (6 : Int32) 3890 ∧ ∀ v6 : Int32, v6 = 410 + (116 * ((S.2.2.1 0) (6 : Int32).toNatClampNeg)) → vp_in (3 : Int32) 3890 ∧ ∀ v7 : Int32, v7 = (S.2.2.1 0) (3 : Int32).toNatClampNeg → vp_in v6 3890 ∧ ∀ S8 : MS, S8 = sF S 0 (upd (S.2.2.1 0) v6.toNatClampNeg v7) → vp_in (2 : Int32) 3890 ∧ ∀ v9 : Int32, v9 = (S8.2.2.1 0) (2 : Int32).toNatClampNeg → vp_in (v6 + 1) 3890 ∧ ∀ S10 : MS, S10 = sF S8 0 (upd (S8.2.2.1 0) (v6 + 1).toNatClampNeg v9) → vp_in (9 : Int32) 3890 ∧ ∀ v11 : Int32, v11 = (S10.2.2.1 0) (9 : Int32).toNatClampNeg → vp_in (v6 + 2) 3890 ∧ ∀ S12 : MS, S12 = sF S10 0 (upd (S10.2.2.1 0) (v6 + 2).toNatClampNeg v11) → vp_in (0 : Int32) 3890 ∧ ∀ v13 : Int32, v13 = (S12.2.2.1 0) (0 : Int32).toNatClampNeg → vp_in (v6 + 3) 3890 ∧ ∀ S14 : MS, S14 = sF S12 0 (upd (S12.2.2.1 0) (v6 + 3).toNatClampNeg v13) → K (.inr (.inr (.inl (v6, 0)))) S14
  | (.inr (.inr (.inl (x1, x2)))), S => ((6 ≤ x2 → K (.inr (.inr (.inr (x1, 0)))) S) ∧ (¬ 6 ≤ x2 → VC_get (fun r16 S15 => vp_in ((x1 + 4) + x2) 3890 ∧ ∀ S17 : MS, S17 = sF S15 0 (upd (S15.2.2.1 0) ((x1 + 4) + x2).toNatClampNeg r16) → VC_get (fun r19 S18 => vp_in ((x1 + 10) + x2) 3890 ∧ ∀ S20 : MS, S20 = sF S18 0 (upd (S18.2.2.1 0) ((x1 + 10) + x2).toNatClampNeg r19) → ∀ v21 : Int32, v21 = x2 + 1 → K (.inr (.inr (.inl (x1, v21)))) S20) x2 3 S17) x2 2 S))
  | (.inr (.inr (.inr (x1, x2)))), S => ((100 ≤ x2 → vp_in (6 : Int32) 3890 ∧ ∀ v22 : Int32, v22 = ((S.2.2.1 0) (6 : Int32).toNatClampNeg) + 1 → vp_in (6 : Int32) 3890 ∧ ∀ S23 : MS, S23 = sF S 0 (upd (S.2.2.1 0) (6 : Int32).toNatClampNeg v22) → Post S23) ∧ (¬ 100 ≤ x2 → vp_in (150 + x2) 3890 ∧ ∀ v24 : Int32, v24 = (S.2.2.1 0) (150 + x2).toNatClampNeg → vp_in ((x1 + 16) + x2) 3890 ∧ ∀ S25 : MS, S25 = sF S 0 (upd (S.2.2.1 0) ((x1 + 16) + x2).toNatClampNeg v24) → ∀ v26 : Int32, v26 = x2 + 1 → K (.inr (.inr (.inr (x1, v26)))) S25))
def VC_keep (Post : MS → Prop) (S : MS) : Prop := ∀ K : Hd_keep → MS → Prop, (∀ h S, B_keep Post K h S → K h S) → vp_in (6 : Int32) 3890 ∧ ((¬ ((S.2.2.1 0) (6 : Int32).toNatClampNeg) = 30 → K (.inr (.inl ())) S) ∧ (((S.2.2.1 0) (6 : Int32).toNatClampNeg) = 30 → K (.inl 0) S))
set_option maxHeartbeats 4000000 in
set_option maxRecDepth 100000 in
theorem h_keep_0 {p : Program} {l : Launch} {e : Env} {s : State} {m : MethodId} {below : List Frame} {meth : Method} {c : Code} {dC : Nat → ClassId} {dI : Nat → Nat → Nat} {q : Nat → Nat} {cI cJ cZ : ClassId} {A : Nat → Prop} {args : Array Value} {Post : MS → Prop} {K : Hd_keep → MS → Prop} (X : XM p s m args c cX12_keep 3 ww_keep dC dI cI cJ cZ A) (hr : meth.sig.returnType = none) (hlocks : meth.locks = false) (hK0 : ∀ (x1 : Int32) (S : MS), K (.inl x1) S → ∀ (H : Heap) (locs : List Loc), va_P (dC, dI) vwCl (wM q cI cJ cZ S) H → va_D A (wM q cI cJ cZ S) → va_S A s.heap H locs → ∀ ls : Array Slot, lv_has ls 3 [(0, .ref (q 0)), (1, .int x1)] → W p l e (headSpec ww_keep ({ frames := 1, cells := 0, slots := 0, locals := 22 } : Room)).room s m args below meth c H locs 0 0 (MQ below (va_Qv Post (atM dC dI q cI cJ cZ A) A) args s 0 0 A) (F0 m 14 ls [])) (hK1 : ∀ (S : MS), K (.inr (.inl ())) S → ∀ (H : Heap) (locs : List Loc), va_P (dC, dI) vwCl (wM q cI cJ cZ S) H → va_D A (wM q cI cJ cZ S) → va_S A s.heap H locs → ∀ ls : Array Slot, lv_has ls 3 [(0, .ref (q 0))] → W p l e (headSpec ww_keep ({ frames := 1, cells := 0, slots := 0, locals := 22 } : Room)).room s m args below meth c H locs 0 0 (MQ below (va_Qv Post (atM dC dI q cI cJ cZ A) A) args s 0 0 A) (F0 m 58 ls [])) (hK2 : ∀ (x1 : Int32) (x2 : Int32) (S : MS), K (.inr (.inr (.inl (x1, x2)))) S → ∀ (H : Heap) (locs : List Loc), va_P (dC, dI) vwCl (wM q cI cJ cZ S) H → va_D A (wM q cI cJ cZ S) → va_S A s.heap H locs → ∀ ls : Array Slot, lv_has ls 3 [(0, .ref (q 0)), (1, .int x1), (2, .int x2)] → W p l e (headSpec ww_keep ({ frames := 1, cells := 0, slots := 0, locals := 22 } : Room)).room s m args below meth c H locs 0 0 (MQ below (va_Qv Post (atM dC dI q cI cJ cZ A) A) args s 0 0 A) (F0 m 130 ls [])) (hK3 : ∀ (x1 : Int32) (x2 : Int32) (S : MS), K (.inr (.inr (.inr (x1, x2)))) S → ∀ (H : Heap) (locs : List Loc), va_P (dC, dI) vwCl (wM q cI cJ cZ S) H → va_D A (wM q cI cJ cZ S) → va_S A s.heap H locs → ∀ ls : Array Slot, lv_has ls 3 [(0, .ref (q 0)), (1, .int x1), (2, .int x2)] → W p l e (headSpec ww_keep ({ frames := 1, cells := 0, slots := 0, locals := 22 } : Room)).room s m args below meth c H locs 0 0 (MQ below (va_Qv Post (atM dC dI q cI cJ cZ A) A) args s 0 0 A) (F0 m 177 ls [])) (x1 : Int32) (S : MS) (h : B_keep Post K (.inl x1) S) : ∀ (H : Heap) (locs : List Loc), va_P (dC, dI) vwCl (wM q cI cJ cZ S) H → va_D A (wM q cI cJ cZ S) → va_S A s.heap H locs → ∀ ls : Array Slot, lv_has ls 3 [(0, .ref (q 0)), (1, .int x1)] → W p l e (headSpec ww_keep ({ frames := 1, cells := 0, slots := 0, locals := 22 } : Room)).room s m args below meth c H locs 0 0 (MQ below (va_Qv Post (atM dC dI q cI cJ cZ A) A) args s 0 0 A) (F0 m 14 ls []) := by
  have hx := X.1
  have hb := X.2.1
  intro H locs hP hD hS ls hl
  have lk7 := X.2.2.2.2.1 (.fieldLink RX12 7 "BreathOnLoanModel" "a" "[I") (inW 5 rfl)
  dsimp only [B_keep] at h
  refine lv_iload_n hx hb (dk DX12_keep 8 rfl) rfl (lv_at hl 1 rfl) ?_
  refine lv_sipush (v := 3364) hx hb (dk DX12_keep 9 rfl) (by decide) ?_
  refine lv_icmp_ge (tgt := 47) hx hb (dk DX12_keep 10 rfl) (by decide) (fun hc => ?_) (fun hc => ?_)
  · have h := h.1 hc
    refine lv_aload_n hx hb (dk DX12_keep 25 rfl) rfl (lv_at hl 0 rfl) ?_
    refine gM X hP 0 (by decide) rfl lk7 (dk DX12_keep 26 rfl) ?_
    refine lv_bipush (v := 6) hx hb (dk DX12_keep 27 rfl) (by decide) ?_
    refine lv_dup2_11 hx hb (dk DX12_keep 28 rfl) rfl rfl ?_
    obtain ⟨hin, h⟩ := h
    refine ldM X hP 1 rfl hin (dk DX12_keep 29 rfl) ?_
    refine lv_iconst (v := 1) hx hb (dk DX12_keep 30 rfl) (by decide) ?_
    refine lv_isub hx hb (dk DX12_keep 31 rfl) ?_
    refine lv_topi (fun v1 ev1 => ?_)
    have h := h v1 ev1
    obtain ⟨hin, h⟩ := h
    refine stM_0 X hP hD hS hin (dk DX12_keep 32 rfl) (fun S2 eS2 H locs hP hD hS => ?_)
    have h := h S2 eS2
    exact hK1 S2 h _ _ hP hD hS ls (lv_sub hl [0] rfl)
  · have h := h.2 hc
    refine lv_aload_n hx hb (dk DX12_keep 11 rfl) rfl (lv_at hl 0 rfl) ?_
    refine gM X hP 0 (by decide) rfl lk7 (dk DX12_keep 12 rfl) ?_
    refine lv_sipush (v := 410) hx hb (dk DX12_keep 13 rfl) (by decide) ?_
    refine lv_iload_n hx hb (dk DX12_keep 14 rfl) rfl (lv_at hl 1 rfl) ?_
    refine lv_iadd hx hb (dk DX12_keep 15 rfl) ?_
    refine lv_aload_n hx hb (dk DX12_keep 16 rfl) rfl (lv_at hl 0 rfl) ?_
    refine gM X hP 0 (by decide) rfl lk7 (dk DX12_keep 17 rfl) ?_
    refine lv_sipush (v := 526) hx hb (dk DX12_keep 18 rfl) (by decide) ?_
    refine lv_iload_n hx hb (dk DX12_keep 19 rfl) rfl (lv_at hl 1 rfl) ?_
    refine lv_iadd hx hb (dk DX12_keep 20 rfl) ?_
    obtain ⟨hin, h⟩ := h
    refine ldM X hP 1 rfl hin (dk DX12_keep 21 rfl) ?_
    refine lv_topi (fun v3 ev3 => ?_)
    have h := h v3 ev3
    obtain ⟨hin, h⟩ := h
    refine stM_0 X hP hD hS hin (dk DX12_keep 22 rfl) (fun S4 eS4 H locs hP hD hS => ?_)
    have h := h S4 eS4
    obtain ⟨v5, ev5⟩ : ∃ y : Int32, y = x1 + 1 := ⟨_, rfl⟩
    have h := h v5 ev5
    refine lv_iinc (v := v5) (lv' := [(1, .int v5), (0, .ref (q 0))]) hx hb (dk DX12_keep 23 rfl) hl (k := 1) rfl (by rw [ev5]; rfl) (by decide) rfl (fun ls hl => ?_)
    refine lv_goto (tgt := 14) hx hb (dk DX12_keep 24 rfl) (by decide) ?_
    exact hK0 v5 S4 h _ _ hP hD hS ls (lv_sub hl [1, 0] rfl)
set_option maxHeartbeats 4000000 in
set_option maxRecDepth 100000 in
theorem h_keep_1 {p : Program} {l : Launch} {e : Env} {s : State} {m : MethodId} {below : List Frame} {meth : Method} {c : Code} {dC : Nat → ClassId} {dI : Nat → Nat → Nat} {q : Nat → Nat} {cI cJ cZ : ClassId} {A : Nat → Prop} {args : Array Value} {Post : MS → Prop} {K : Hd_keep → MS → Prop} (X : XM p s m args c cX12_keep 3 ww_keep dC dI cI cJ cZ A) (hr : meth.sig.returnType = none) (hlocks : meth.locks = false) (hK0 : ∀ (x1 : Int32) (S : MS), K (.inl x1) S → ∀ (H : Heap) (locs : List Loc), va_P (dC, dI) vwCl (wM q cI cJ cZ S) H → va_D A (wM q cI cJ cZ S) → va_S A s.heap H locs → ∀ ls : Array Slot, lv_has ls 3 [(0, .ref (q 0)), (1, .int x1)] → W p l e (headSpec ww_keep ({ frames := 1, cells := 0, slots := 0, locals := 22 } : Room)).room s m args below meth c H locs 0 0 (MQ below (va_Qv Post (atM dC dI q cI cJ cZ A) A) args s 0 0 A) (F0 m 14 ls [])) (hK1 : ∀ (S : MS), K (.inr (.inl ())) S → ∀ (H : Heap) (locs : List Loc), va_P (dC, dI) vwCl (wM q cI cJ cZ S) H → va_D A (wM q cI cJ cZ S) → va_S A s.heap H locs → ∀ ls : Array Slot, lv_has ls 3 [(0, .ref (q 0))] → W p l e (headSpec ww_keep ({ frames := 1, cells := 0, slots := 0, locals := 22 } : Room)).room s m args below meth c H locs 0 0 (MQ below (va_Qv Post (atM dC dI q cI cJ cZ A) A) args s 0 0 A) (F0 m 58 ls [])) (hK2 : ∀ (x1 : Int32) (x2 : Int32) (S : MS), K (.inr (.inr (.inl (x1, x2)))) S → ∀ (H : Heap) (locs : List Loc), va_P (dC, dI) vwCl (wM q cI cJ cZ S) H → va_D A (wM q cI cJ cZ S) → va_S A s.heap H locs → ∀ ls : Array Slot, lv_has ls 3 [(0, .ref (q 0)), (1, .int x1), (2, .int x2)] → W p l e (headSpec ww_keep ({ frames := 1, cells := 0, slots := 0, locals := 22 } : Room)).room s m args below meth c H locs 0 0 (MQ below (va_Qv Post (atM dC dI q cI cJ cZ A) A) args s 0 0 A) (F0 m 130 ls [])) (hK3 : ∀ (x1 : Int32) (x2 : Int32) (S : MS), K (.inr (.inr (.inr (x1, x2)))) S → ∀ (H : Heap) (locs : List Loc), va_P (dC, dI) vwCl (wM q cI cJ cZ S) H → va_D A (wM q cI cJ cZ S) → va_S A s.heap H locs → ∀ ls : Array Slot, lv_has ls 3 [(0, .ref (q 0)), (1, .int x1), (2, .int x2)] → W p l e (headSpec ww_keep ({ frames := 1, cells := 0, slots := 0, locals := 22 } : Room)).room s m args below meth c H locs 0 0 (MQ below (va_Qv Post (atM dC dI q cI cJ cZ A) A) args s 0 0 A) (F0 m 177 ls [])) (S : MS) (h : B_keep Post K (.inr (.inl ())) S) : ∀ (H : Heap) (locs : List Loc), va_P (dC, dI) vwCl (wM q cI cJ cZ S) H → va_D A (wM q cI cJ cZ S) → va_S A s.heap H locs → ∀ ls : Array Slot, lv_has ls 3 [(0, .ref (q 0))] → W p l e (headSpec ww_keep ({ frames := 1, cells := 0, slots := 0, locals := 22 } : Room)).room s m args below meth c H locs 0 0 (MQ below (va_Qv Post (atM dC dI q cI cJ cZ A) A) args s 0 0 A) (F0 m 58 ls []) := by
  have hx := X.1
  have hb := X.2.1
  intro H locs hP hD hS ls hl
  have lk7 := X.2.2.2.2.1 (.fieldLink RX12 7 "BreathOnLoanModel" "a" "[I") (inW 5 rfl)
  dsimp only [B_keep] at h
  refine lv_sipush (v := 410) hx hb (dk DX12_keep 33 rfl) (by decide) ?_
  refine lv_bipush (v := 116) hx hb (dk DX12_keep 34 rfl) (by decide) ?_
  refine lv_aload_n hx hb (dk DX12_keep 35 rfl) rfl (lv_at hl 0 rfl) ?_
  refine gM X hP 0 (by decide) rfl lk7 (dk DX12_keep 36 rfl) ?_
  refine lv_bipush (v := 6) hx hb (dk DX12_keep 37 rfl) (by decide) ?_
  obtain ⟨hin, h⟩ := h
  refine ldM X hP 1 rfl hin (dk DX12_keep 38 rfl) ?_
  refine lv_imul hx hb (dk DX12_keep 39 rfl) ?_
  refine lv_iadd hx hb (dk DX12_keep 40 rfl) ?_
  refine lv_topi (fun v6 ev6 => ?_)
  have h := h v6 ev6
  refine lv_istore_n (lv' := [(1, .int v6), (0, .ref (q 0))]) hx hb (dk DX12_keep 41 rfl) rfl hl (by decide) rfl (fun ls hl => ?_)
  refine lv_aload_n hx hb (dk DX12_keep 42 rfl) rfl (lv_at hl 1 rfl) ?_
  refine gM X hP 0 (by decide) rfl lk7 (dk DX12_keep 43 rfl) ?_
  refine lv_iload_n hx hb (dk DX12_keep 44 rfl) rfl (lv_at hl 0 rfl) ?_
  refine lv_aload_n hx hb (dk DX12_keep 45 rfl) rfl (lv_at hl 1 rfl) ?_
  refine gM X hP 0 (by decide) rfl lk7 (dk DX12_keep 46 rfl) ?_
  refine lv_iconst (v := 3) hx hb (dk DX12_keep 47 rfl) (by decide) ?_
  obtain ⟨hin, h⟩ := h
  refine ldM X hP 1 rfl hin (dk DX12_keep 48 rfl) ?_
  refine lv_topi (fun v7 ev7 => ?_)
  have h := h v7 ev7
  obtain ⟨hin, h⟩ := h
  refine stM_0 X hP hD hS hin (dk DX12_keep 49 rfl) (fun S8 eS8 H locs hP hD hS => ?_)
  have h := h S8 eS8
  refine lv_aload_n hx hb (dk DX12_keep 50 rfl) rfl (lv_at hl 1 rfl) ?_
  refine gM X hP 0 (by decide) rfl lk7 (dk DX12_keep 51 rfl) ?_
  refine lv_iload_n hx hb (dk DX12_keep 52 rfl) rfl (lv_at hl 0 rfl) ?_
  refine lv_iconst (v := 1) hx hb (dk DX12_keep 53 rfl) (by decide) ?_
  refine lv_iadd hx hb (dk DX12_keep 54 rfl) ?_
  refine lv_aload_n hx hb (dk DX12_keep 55 rfl) rfl (lv_at hl 1 rfl) ?_
  refine gM X hP 0 (by decide) rfl lk7 (dk DX12_keep 56 rfl) ?_
  refine lv_iconst (v := 2) hx hb (dk DX12_keep 57 rfl) (by decide) ?_
  obtain ⟨hin, h⟩ := h
  refine ldM X hP 1 rfl hin (dk DX12_keep 58 rfl) ?_
  refine lv_topi (fun v9 ev9 => ?_)
  have h := h v9 ev9
  obtain ⟨hin, h⟩ := h
  refine stM_0 X hP hD hS hin (dk DX12_keep 59 rfl) (fun S10 eS10 H locs hP hD hS => ?_)
  have h := h S10 eS10
  refine lv_aload_n hx hb (dk DX12_keep 60 rfl) rfl (lv_at hl 1 rfl) ?_
  refine gM X hP 0 (by decide) rfl lk7 (dk DX12_keep 61 rfl) ?_
  refine lv_iload_n hx hb (dk DX12_keep 62 rfl) rfl (lv_at hl 0 rfl) ?_
  refine lv_iconst (v := 2) hx hb (dk DX12_keep 63 rfl) (by decide) ?_
  refine lv_iadd hx hb (dk DX12_keep 64 rfl) ?_
  refine lv_aload_n hx hb (dk DX12_keep 65 rfl) rfl (lv_at hl 1 rfl) ?_
  refine gM X hP 0 (by decide) rfl lk7 (dk DX12_keep 66 rfl) ?_
  refine lv_bipush (v := 9) hx hb (dk DX12_keep 67 rfl) (by decide) ?_
  obtain ⟨hin, h⟩ := h
  refine ldM X hP 1 rfl hin (dk DX12_keep 68 rfl) ?_
  refine lv_topi (fun v11 ev11 => ?_)
  have h := h v11 ev11
  obtain ⟨hin, h⟩ := h
  refine stM_0 X hP hD hS hin (dk DX12_keep 69 rfl) (fun S12 eS12 H locs hP hD hS => ?_)
  have h := h S12 eS12
  refine lv_aload_n hx hb (dk DX12_keep 70 rfl) rfl (lv_at hl 1 rfl) ?_
  refine gM X hP 0 (by decide) rfl lk7 (dk DX12_keep 71 rfl) ?_
  refine lv_iload_n hx hb (dk DX12_keep 72 rfl) rfl (lv_at hl 0 rfl) ?_
  refine lv_iconst (v := 3) hx hb (dk DX12_keep 73 rfl) (by decide) ?_
  refine lv_iadd hx hb (dk DX12_keep 74 rfl) ?_
  refine lv_aload_n hx hb (dk DX12_keep 75 rfl) rfl (lv_at hl 1 rfl) ?_
  refine gM X hP 0 (by decide) rfl lk7 (dk DX12_keep 76 rfl) ?_
  refine lv_iconst (v := 0) hx hb (dk DX12_keep 77 rfl) (by decide) ?_
  obtain ⟨hin, h⟩ := h
  refine ldM X hP 1 rfl hin (dk DX12_keep 78 rfl) ?_
  refine lv_topi (fun v13 ev13 => ?_)
  have h := h v13 ev13
  obtain ⟨hin, h⟩ := h
  refine stM_0 X hP hD hS hin (dk DX12_keep 79 rfl) (fun S14 eS14 H locs hP hD hS => ?_)
  have h := h S14 eS14
  refine lv_iconst (v := 0) hx hb (dk DX12_keep 80 rfl) (by decide) ?_
  refine lv_istore_n (lv' := [(2, .int 0), (1, .int v6), (0, .ref (q 0))]) hx hb (dk DX12_keep 81 rfl) rfl hl (by decide) rfl (fun ls hl => ?_)
  exact hK2 v6 0 S14 h _ _ hP hD hS ls (lv_sub hl [2, 1, 0] rfl)
set_option maxHeartbeats 4000000 in
set_option maxRecDepth 100000 in
theorem h_keep_2 {p : Program} {l : Launch} {e : Env} {s : State} {m : MethodId} {below : List Frame} {meth : Method} {c : Code} {dC : Nat → ClassId} {dI : Nat → Nat → Nat} {q : Nat → Nat} {cI cJ cZ : ClassId} {A : Nat → Prop} {args : Array Value} {Post : MS → Prop} {K : Hd_keep → MS → Prop} (X : XM p s m args c cX12_keep 3 ww_keep dC dI cI cJ cZ A) (hr : meth.sig.returnType = none) (hlocks : meth.locks = false) (hK0 : ∀ (x1 : Int32) (S : MS), K (.inl x1) S → ∀ (H : Heap) (locs : List Loc), va_P (dC, dI) vwCl (wM q cI cJ cZ S) H → va_D A (wM q cI cJ cZ S) → va_S A s.heap H locs → ∀ ls : Array Slot, lv_has ls 3 [(0, .ref (q 0)), (1, .int x1)] → W p l e (headSpec ww_keep ({ frames := 1, cells := 0, slots := 0, locals := 22 } : Room)).room s m args below meth c H locs 0 0 (MQ below (va_Qv Post (atM dC dI q cI cJ cZ A) A) args s 0 0 A) (F0 m 14 ls [])) (hK1 : ∀ (S : MS), K (.inr (.inl ())) S → ∀ (H : Heap) (locs : List Loc), va_P (dC, dI) vwCl (wM q cI cJ cZ S) H → va_D A (wM q cI cJ cZ S) → va_S A s.heap H locs → ∀ ls : Array Slot, lv_has ls 3 [(0, .ref (q 0))] → W p l e (headSpec ww_keep ({ frames := 1, cells := 0, slots := 0, locals := 22 } : Room)).room s m args below meth c H locs 0 0 (MQ below (va_Qv Post (atM dC dI q cI cJ cZ A) A) args s 0 0 A) (F0 m 58 ls [])) (hK2 : ∀ (x1 : Int32) (x2 : Int32) (S : MS), K (.inr (.inr (.inl (x1, x2)))) S → ∀ (H : Heap) (locs : List Loc), va_P (dC, dI) vwCl (wM q cI cJ cZ S) H → va_D A (wM q cI cJ cZ S) → va_S A s.heap H locs → ∀ ls : Array Slot, lv_has ls 3 [(0, .ref (q 0)), (1, .int x1), (2, .int x2)] → W p l e (headSpec ww_keep ({ frames := 1, cells := 0, slots := 0, locals := 22 } : Room)).room s m args below meth c H locs 0 0 (MQ below (va_Qv Post (atM dC dI q cI cJ cZ A) A) args s 0 0 A) (F0 m 130 ls [])) (hK3 : ∀ (x1 : Int32) (x2 : Int32) (S : MS), K (.inr (.inr (.inr (x1, x2)))) S → ∀ (H : Heap) (locs : List Loc), va_P (dC, dI) vwCl (wM q cI cJ cZ S) H → va_D A (wM q cI cJ cZ S) → va_S A s.heap H locs → ∀ ls : Array Slot, lv_has ls 3 [(0, .ref (q 0)), (1, .int x1), (2, .int x2)] → W p l e (headSpec ww_keep ({ frames := 1, cells := 0, slots := 0, locals := 22 } : Room)).room s m args below meth c H locs 0 0 (MQ below (va_Qv Post (atM dC dI q cI cJ cZ A) A) args s 0 0 A) (F0 m 177 ls [])) (x1 : Int32) (x2 : Int32) (S : MS) (h : B_keep Post K (.inr (.inr (.inl (x1, x2)))) S) : ∀ (H : Heap) (locs : List Loc), va_P (dC, dI) vwCl (wM q cI cJ cZ S) H → va_D A (wM q cI cJ cZ S) → va_S A s.heap H locs → ∀ ls : Array Slot, lv_has ls 3 [(0, .ref (q 0)), (1, .int x1), (2, .int x2)] → W p l e (headSpec ww_keep ({ frames := 1, cells := 0, slots := 0, locals := 22 } : Room)).room s m args below meth c H locs 0 0 (MQ below (va_Qv Post (atM dC dI q cI cJ cZ A) A) args s 0 0 A) (F0 m 130 ls []) := by
  have hx := X.1
  have hb := X.2.1
  intro H locs hP hD hS ls hl
  have lk7 := X.2.2.2.2.1 (.fieldLink RX12 7 "BreathOnLoanModel" "a" "[I") (inW 5 rfl)
  dsimp only [B_keep] at h
  refine lv_iload_n hx hb (dk DX12_keep 82 rfl) rfl (lv_at hl 2 rfl) ?_
  refine lv_bipush (v := 6) hx hb (dk DX12_keep 83 rfl) (by decide) ?_
  refine lv_icmp_ge (tgt := 175) hx hb (dk DX12_keep 84 rfl) (by decide) (fun hc => ?_) (fun hc => ?_)
  · have h := h.1 hc
    refine lv_iconst (v := 0) hx hb (dk DX12_keep 111 rfl) (by decide) ?_
    refine lv_istore_n (lv' := [(2, .int 0), (0, .ref (q 0)), (1, .int x1)]) hx hb (dk DX12_keep 112 rfl) rfl hl (by decide) rfl (fun ls hl => ?_)
    exact hK3 x1 0 S h _ _ hP hD hS ls (lv_sub hl [1, 2, 0] rfl)
  · have h := h.2 hc
    refine lv_aload_n hx hb (dk DX12_keep 85 rfl) rfl (lv_at hl 0 rfl) ?_
    refine gM X hP 0 (by decide) rfl lk7 (dk DX12_keep 86 rfl) ?_
    refine lv_iload_n hx hb (dk DX12_keep 87 rfl) rfl (lv_at hl 1 rfl) ?_
    refine lv_iconst (v := 4) hx hb (dk DX12_keep 88 rfl) (by decide) ?_
    refine lv_iadd hx hb (dk DX12_keep 89 rfl) ?_
    refine lv_iload_n hx hb (dk DX12_keep 90 rfl) rfl (lv_at hl 2 rfl) ?_
    refine lv_iadd hx hb (dk DX12_keep 91 rfl) ?_
    refine lv_aload_n hx hb (dk DX12_keep 92 rfl) rfl (lv_at hl 0 rfl) ?_
    refine lv_iload_n hx hb (dk DX12_keep 93 rfl) rfl (lv_at hl 2 rfl) ?_
    refine lv_iconst (v := 2) hx hb (dk DX12_keep 94 rfl) (by decide) ?_
    refine cMi (As := [.int x2, .int 2]) (rest := [.int ((x1 + 4) + x2), .ref (q 1)]) X (m_get (l := l) (dC := dC) (dI := dI) (q := q) (cI := cI) (cJ := cJ) (cZ := cZ) (sz := _) x2 2 S h) (cwV 2 X.2.2.2.2.1 (gwV 47 48 49 24 36 rfl rfl rfl rfl rfl) rfl rfl rfl q_get ⟨Nat.le_of_ble_eq_true rfl, Nat.le_of_ble_eq_true rfl⟩) hP hD hS rfl hl.1 rfl (Nat.le_of_ble_eq_true rfl) (dk DX12_keep 95 rfl) (fun r16 S15 H locs h hP hD hS => ?_)
    obtain ⟨hin, h⟩ := h
    refine stM_0 X hP hD hS hin (dk DX12_keep 96 rfl) (fun S17 eS17 H locs hP hD hS => ?_)
    have h := h S17 eS17
    refine lv_aload_n hx hb (dk DX12_keep 97 rfl) rfl (lv_at hl 0 rfl) ?_
    refine gM X hP 0 (by decide) rfl lk7 (dk DX12_keep 98 rfl) ?_
    refine lv_iload_n hx hb (dk DX12_keep 99 rfl) rfl (lv_at hl 1 rfl) ?_
    refine lv_bipush (v := 10) hx hb (dk DX12_keep 100 rfl) (by decide) ?_
    refine lv_iadd hx hb (dk DX12_keep 101 rfl) ?_
    refine lv_iload_n hx hb (dk DX12_keep 102 rfl) rfl (lv_at hl 2 rfl) ?_
    refine lv_iadd hx hb (dk DX12_keep 103 rfl) ?_
    refine lv_aload_n hx hb (dk DX12_keep 104 rfl) rfl (lv_at hl 0 rfl) ?_
    refine lv_iload_n hx hb (dk DX12_keep 105 rfl) rfl (lv_at hl 2 rfl) ?_
    refine lv_iconst (v := 3) hx hb (dk DX12_keep 106 rfl) (by decide) ?_
    refine cMi (As := [.int x2, .int 3]) (rest := [.int ((x1 + 10) + x2), .ref (q 1)]) X (m_get (l := l) (dC := dC) (dI := dI) (q := q) (cI := cI) (cJ := cJ) (cZ := cZ) (sz := _) x2 3 S17 h) (cwV 2 X.2.2.2.2.1 (gwV 47 48 49 24 36 rfl rfl rfl rfl rfl) rfl rfl rfl q_get ⟨Nat.le_of_ble_eq_true rfl, Nat.le_of_ble_eq_true rfl⟩) hP hD hS rfl hl.1 rfl (Nat.le_of_ble_eq_true rfl) (dk DX12_keep 107 rfl) (fun r19 S18 H locs h hP hD hS => ?_)
    obtain ⟨hin, h⟩ := h
    refine stM_0 X hP hD hS hin (dk DX12_keep 108 rfl) (fun S20 eS20 H locs hP hD hS => ?_)
    have h := h S20 eS20
    obtain ⟨v21, ev21⟩ : ∃ y : Int32, y = x2 + 1 := ⟨_, rfl⟩
    have h := h v21 ev21
    refine lv_iinc (v := v21) (lv' := [(2, .int v21), (0, .ref (q 0)), (1, .int x1)]) hx hb (dk DX12_keep 109 rfl) hl (k := 2) rfl (by rw [ev21]; rfl) (by decide) rfl (fun ls hl => ?_)
    refine lv_goto (tgt := 130) hx hb (dk DX12_keep 110 rfl) (by decide) ?_
    exact hK2 x1 v21 S20 h _ _ hP hD hS ls (lv_sub hl [1, 2, 0] rfl)
set_option maxHeartbeats 4000000 in
set_option maxRecDepth 100000 in
theorem h_keep_3 {p : Program} {l : Launch} {e : Env} {s : State} {m : MethodId} {below : List Frame} {meth : Method} {c : Code} {dC : Nat → ClassId} {dI : Nat → Nat → Nat} {q : Nat → Nat} {cI cJ cZ : ClassId} {A : Nat → Prop} {args : Array Value} {Post : MS → Prop} {K : Hd_keep → MS → Prop} (X : XM p s m args c cX12_keep 3 ww_keep dC dI cI cJ cZ A) (hr : meth.sig.returnType = none) (hlocks : meth.locks = false) (hK0 : ∀ (x1 : Int32) (S : MS), K (.inl x1) S → ∀ (H : Heap) (locs : List Loc), va_P (dC, dI) vwCl (wM q cI cJ cZ S) H → va_D A (wM q cI cJ cZ S) → va_S A s.heap H locs → ∀ ls : Array Slot, lv_has ls 3 [(0, .ref (q 0)), (1, .int x1)] → W p l e (headSpec ww_keep ({ frames := 1, cells := 0, slots := 0, locals := 22 } : Room)).room s m args below meth c H locs 0 0 (MQ below (va_Qv Post (atM dC dI q cI cJ cZ A) A) args s 0 0 A) (F0 m 14 ls [])) (hK1 : ∀ (S : MS), K (.inr (.inl ())) S → ∀ (H : Heap) (locs : List Loc), va_P (dC, dI) vwCl (wM q cI cJ cZ S) H → va_D A (wM q cI cJ cZ S) → va_S A s.heap H locs → ∀ ls : Array Slot, lv_has ls 3 [(0, .ref (q 0))] → W p l e (headSpec ww_keep ({ frames := 1, cells := 0, slots := 0, locals := 22 } : Room)).room s m args below meth c H locs 0 0 (MQ below (va_Qv Post (atM dC dI q cI cJ cZ A) A) args s 0 0 A) (F0 m 58 ls [])) (hK2 : ∀ (x1 : Int32) (x2 : Int32) (S : MS), K (.inr (.inr (.inl (x1, x2)))) S → ∀ (H : Heap) (locs : List Loc), va_P (dC, dI) vwCl (wM q cI cJ cZ S) H → va_D A (wM q cI cJ cZ S) → va_S A s.heap H locs → ∀ ls : Array Slot, lv_has ls 3 [(0, .ref (q 0)), (1, .int x1), (2, .int x2)] → W p l e (headSpec ww_keep ({ frames := 1, cells := 0, slots := 0, locals := 22 } : Room)).room s m args below meth c H locs 0 0 (MQ below (va_Qv Post (atM dC dI q cI cJ cZ A) A) args s 0 0 A) (F0 m 130 ls [])) (hK3 : ∀ (x1 : Int32) (x2 : Int32) (S : MS), K (.inr (.inr (.inr (x1, x2)))) S → ∀ (H : Heap) (locs : List Loc), va_P (dC, dI) vwCl (wM q cI cJ cZ S) H → va_D A (wM q cI cJ cZ S) → va_S A s.heap H locs → ∀ ls : Array Slot, lv_has ls 3 [(0, .ref (q 0)), (1, .int x1), (2, .int x2)] → W p l e (headSpec ww_keep ({ frames := 1, cells := 0, slots := 0, locals := 22 } : Room)).room s m args below meth c H locs 0 0 (MQ below (va_Qv Post (atM dC dI q cI cJ cZ A) A) args s 0 0 A) (F0 m 177 ls [])) (x1 : Int32) (x2 : Int32) (S : MS) (h : B_keep Post K (.inr (.inr (.inr (x1, x2)))) S) : ∀ (H : Heap) (locs : List Loc), va_P (dC, dI) vwCl (wM q cI cJ cZ S) H → va_D A (wM q cI cJ cZ S) → va_S A s.heap H locs → ∀ ls : Array Slot, lv_has ls 3 [(0, .ref (q 0)), (1, .int x1), (2, .int x2)] → W p l e (headSpec ww_keep ({ frames := 1, cells := 0, slots := 0, locals := 22 } : Room)).room s m args below meth c H locs 0 0 (MQ below (va_Qv Post (atM dC dI q cI cJ cZ A) A) args s 0 0 A) (F0 m 177 ls []) := by
  have hx := X.1
  have hb := X.2.1
  intro H locs hP hD hS ls hl
  have lk7 := X.2.2.2.2.1 (.fieldLink RX12 7 "BreathOnLoanModel" "a" "[I") (inW 5 rfl)
  dsimp only [B_keep] at h
  refine lv_iload_n hx hb (dk DX12_keep 113 rfl) rfl (lv_at hl 2 rfl) ?_
  refine lv_bipush (v := 100) hx hb (dk DX12_keep 114 rfl) (by decide) ?_
  refine lv_icmp_ge (tgt := 210) hx hb (dk DX12_keep 115 rfl) (by decide) (fun hc => ?_) (fun hc => ?_)
  · have h := h.1 hc
    refine lv_aload_n hx hb (dk DX12_keep 132 rfl) rfl (lv_at hl 0 rfl) ?_
    refine gM X hP 0 (by decide) rfl lk7 (dk DX12_keep 133 rfl) ?_
    refine lv_bipush (v := 6) hx hb (dk DX12_keep 134 rfl) (by decide) ?_
    refine lv_dup2_11 hx hb (dk DX12_keep 135 rfl) rfl rfl ?_
    obtain ⟨hin, h⟩ := h
    refine ldM X hP 1 rfl hin (dk DX12_keep 136 rfl) ?_
    refine lv_iconst (v := 1) hx hb (dk DX12_keep 137 rfl) (by decide) ?_
    refine lv_iadd hx hb (dk DX12_keep 138 rfl) ?_
    refine lv_topi (fun v22 ev22 => ?_)
    have h := h v22 ev22
    obtain ⟨hin, h⟩ := h
    refine stM_0 X hP hD hS hin (dk DX12_keep 139 rfl) (fun S23 eS23 H locs hP hD hS => ?_)
    have h := h S23 eS23
    exact W.vret hx hb hr (fun t ht hW => ⟨⟨_, rfl, h, by rw [ht]; exact hP, va_K.moved hW.alike X.2.2.2.2.2.2.1, hD⟩, hS.F ht⟩) hS.2.2 (dk DX12_keep 140 rfl)
  · have h := h.2 hc
    refine lv_aload_n hx hb (dk DX12_keep 116 rfl) rfl (lv_at hl 0 rfl) ?_
    refine gM X hP 0 (by decide) rfl lk7 (dk DX12_keep 117 rfl) ?_
    refine lv_iload_n hx hb (dk DX12_keep 118 rfl) rfl (lv_at hl 1 rfl) ?_
    refine lv_bipush (v := 16) hx hb (dk DX12_keep 119 rfl) (by decide) ?_
    refine lv_iadd hx hb (dk DX12_keep 120 rfl) ?_
    refine lv_iload_n hx hb (dk DX12_keep 121 rfl) rfl (lv_at hl 2 rfl) ?_
    refine lv_iadd hx hb (dk DX12_keep 122 rfl) ?_
    refine lv_aload_n hx hb (dk DX12_keep 123 rfl) rfl (lv_at hl 0 rfl) ?_
    refine gM X hP 0 (by decide) rfl lk7 (dk DX12_keep 124 rfl) ?_
    refine lv_sipush (v := 150) hx hb (dk DX12_keep 125 rfl) (by decide) ?_
    refine lv_iload_n hx hb (dk DX12_keep 126 rfl) rfl (lv_at hl 2 rfl) ?_
    refine lv_iadd hx hb (dk DX12_keep 127 rfl) ?_
    obtain ⟨hin, h⟩ := h
    refine ldM X hP 1 rfl hin (dk DX12_keep 128 rfl) ?_
    refine lv_topi (fun v24 ev24 => ?_)
    have h := h v24 ev24
    obtain ⟨hin, h⟩ := h
    refine stM_0 X hP hD hS hin (dk DX12_keep 129 rfl) (fun S25 eS25 H locs hP hD hS => ?_)
    have h := h S25 eS25
    obtain ⟨v26, ev26⟩ : ∃ y : Int32, y = x2 + 1 := ⟨_, rfl⟩
    have h := h v26 ev26
    refine lv_iinc (v := v26) (lv' := [(2, .int v26), (0, .ref (q 0)), (1, .int x1)]) hx hb (dk DX12_keep 130 rfl) hl (k := 2) rfl (by rw [ev26]; rfl) (by decide) rfl (fun ls hl => ?_)
    refine lv_goto (tgt := 177) hx hb (dk DX12_keep 131 rfl) (by decide) ?_
    exact hK3 x1 v26 S25 h _ _ hP hD hS ls (lv_sub hl [1, 2, 0] rfl)
set_option maxHeartbeats 4000000 in
set_option maxRecDepth 100000 in
theorem m_keep {l : Launch} {dC : Nat → ClassId} {dI : Nat → Nat → Nat} {q : Nat → Nat} {cI cJ cZ : ClassId} {sz : Nat} {Post : MS → Prop} (S : MS) (h : VC_keep Post S) : Met l yX12_keep ww_keep ({ frames := 1, cells := 0, slots := 0, locals := 22 } : Room) (va_Pc [.ref (q 0)] (preM dC dI q cI cJ cZ S sz)) (va_Qv Post (atM dC dI q cI cJ cZ (va_A (wM q cI cJ cZ S) sz)) (va_A (wM q cI cJ cZ S) sz)) 0 0 (va_A (wM q cI cJ cZ S) sz) := by
  refine oM (cc := cX12_keep) (maxL := 3) (ret := none) (Qc := fun A => va_Qv Post (atM dC dI q cI cJ cZ A) A) (by decide) rfl (fun w h => List.mem_cons_of_mem _ (List.mem_append_right _ h)) rfl (Nat.le_of_ble_eq_true rfl) (fun p e s m below meth c A ls X hr hlocks hP hD hS hl => ?_)
  have hx := X.1
  have hb := X.2.1
  have hl : lv_has ls 3 [(0, .ref (q 0))] := hl
  have lk7 := X.2.2.2.2.1 (.fieldLink RX12 7 "BreathOnLoanModel" "a" "[I") (inW 5 rfl)
  generalize hargs : ([.ref (q 0)] : List Value).toArray = args at X ⊢
  have h := h (fun hd S => match hd with | (.inl x1) => ∀ (H : Heap) (locs : List Loc), va_P (dC, dI) vwCl (wM q cI cJ cZ S) H → va_D A (wM q cI cJ cZ S) → va_S A s.heap H locs → ∀ ls : Array Slot, lv_has ls 3 [(0, .ref (q 0)), (1, .int x1)] → W p l e (headSpec ww_keep ({ frames := 1, cells := 0, slots := 0, locals := 22 } : Room)).room s m args below meth c H locs 0 0 (MQ below (va_Qv Post (atM dC dI q cI cJ cZ A) A) args s 0 0 A) (F0 m 14 ls []) | (.inr (.inl ())) => ∀ (H : Heap) (locs : List Loc), va_P (dC, dI) vwCl (wM q cI cJ cZ S) H → va_D A (wM q cI cJ cZ S) → va_S A s.heap H locs → ∀ ls : Array Slot, lv_has ls 3 [(0, .ref (q 0))] → W p l e (headSpec ww_keep ({ frames := 1, cells := 0, slots := 0, locals := 22 } : Room)).room s m args below meth c H locs 0 0 (MQ below (va_Qv Post (atM dC dI q cI cJ cZ A) A) args s 0 0 A) (F0 m 58 ls []) | (.inr (.inr (.inl (x1, x2)))) => ∀ (H : Heap) (locs : List Loc), va_P (dC, dI) vwCl (wM q cI cJ cZ S) H → va_D A (wM q cI cJ cZ S) → va_S A s.heap H locs → ∀ ls : Array Slot, lv_has ls 3 [(0, .ref (q 0)), (1, .int x1), (2, .int x2)] → W p l e (headSpec ww_keep ({ frames := 1, cells := 0, slots := 0, locals := 22 } : Room)).room s m args below meth c H locs 0 0 (MQ below (va_Qv Post (atM dC dI q cI cJ cZ A) A) args s 0 0 A) (F0 m 130 ls []) | (.inr (.inr (.inr (x1, x2)))) => ∀ (H : Heap) (locs : List Loc), va_P (dC, dI) vwCl (wM q cI cJ cZ S) H → va_D A (wM q cI cJ cZ S) → va_S A s.heap H locs → ∀ ls : Array Slot, lv_has ls 3 [(0, .ref (q 0)), (1, .int x1), (2, .int x2)] → W p l e (headSpec ww_keep ({ frames := 1, cells := 0, slots := 0, locals := 22 } : Room)).room s m args below meth c H locs 0 0 (MQ below (va_Qv Post (atM dC dI q cI cJ cZ A) A) args s 0 0 A) (F0 m 177 ls [])) ?_
  · skip
    refine lv_aload_n hx hb (dk DX12_keep 0 rfl) rfl (lv_at hl 0 rfl) ?_
    refine gM X hP 0 (by decide) rfl lk7 (dk DX12_keep 1 rfl) ?_
    refine lv_bipush (v := 6) hx hb (dk DX12_keep 2 rfl) (by decide) ?_
    obtain ⟨hin, h⟩ := h
    refine ldM X hP 1 rfl hin (dk DX12_keep 3 rfl) ?_
    refine lv_bipush (v := 30) hx hb (dk DX12_keep 4 rfl) (by decide) ?_
    refine lv_icmp_ne (tgt := 58) hx hb (dk DX12_keep 5 rfl) (by decide) (fun hc => ?_) (fun hc => ?_)
    · have h := h.1 hc
      exact h _ _ hP hD hS ls (lv_sub hl [0] rfl)
    · have h := h.2 hc
      refine lv_iconst (v := 0) hx hb (dk DX12_keep 6 rfl) (by decide) ?_
      refine lv_istore_n (lv' := [(1, .int 0), (0, .ref (q 0))]) hx hb (dk DX12_keep 7 rfl) rfl hl (by decide) rfl (fun ls hl => ?_)
      exact h _ _ hP hD hS ls (lv_sub hl [1, 0] rfl)
  · rintro (x1 | ⟨⟩ | ⟨x1, x2⟩ | ⟨x1, x2⟩) S hB
    · exact h_keep_0 X hr hlocks (hK0 := fun _ _ h => h) (hK1 := fun _ h => h) (hK2 := fun _ _ _ h => h) (hK3 := fun _ _ _ h => h) x1 S hB
    · exact h_keep_1 X hr hlocks (hK0 := fun _ _ h => h) (hK1 := fun _ h => h) (hK2 := fun _ _ _ h => h) (hK3 := fun _ _ _ h => h)  S hB
    · exact h_keep_2 X hr hlocks (hK0 := fun _ _ h => h) (hK1 := fun _ h => h) (hK2 := fun _ _ _ h => h) (hK3 := fun _ _ _ h => h) x1 x2 S hB
    · exact h_keep_3 X hr hlocks (hK0 := fun _ _ h => h) (hK1 := fun _ h => h) (hK2 := fun _ _ _ h => h) (hK3 := fun _ _ _ h => h) x1 x2 S hB

def ww_undo : List Cond := .code yX12_undo cX12_undo 3 (some .int) :: (WdM ++ wsX120)
theorem q_undo : yX12_undo.cls = RX12 ∧ yX12_undo.cls ≠ "java/lang/invoke/MethodHandle" ∧ yX12_undo.cls ≠ "java/lang/invoke/VarHandle" ∧ (parseMethodDescriptor yX12_undo.desc).map (fun d => d.parameters.length) = some 0 := by decide +kernel
abbrev Hd_undo : Type := (Int32 × Int32) ⊕ (Int32 × Int32) ⊕ (Int32 × Int32)
def B_undo (Post : Int32 → MS → Prop) (K : Hd_undo → MS → Prop) : Hd_undo → MS → Prop
  | (.inl (x1, x2)), S => vp_in (x1 + 3) 3890 ∧ ((((S.2.2.1 0) (x1 + 3).toNatClampNeg) ≤ x2 → vp_in (x1 + 3) 3890 ∧ ∀ v10 : Int32, v10 = (S.2.2.1 0) (x1 + 3).toNatClampNeg → K (.inr (.inl (x1, v10))) S) ∧ (¬ ((S.2.2.1 0) (x1 + 3).toNatClampNeg) ≤ x2 → vp_in ((x1 + 4) + x2) 3890 ∧ VC_set (fun S11 => vp_in ((x1 + 10) + x2) 3890 ∧ VC_set (fun S12 => ∀ v13 : Int32, v13 = x2 + 1 → K (.inl (x1, v13)) S12) x2 3 ((S11.2.2.1 0) ((x1 + 10) + x2).toNatClampNeg) S11) x2 2 ((S.2.2.1 0) ((x1 + 4) + x2).toNatClampNeg) S))
  | (.inr (.inl (x1, x2))), S => vp_in (0 : Int32) 3890 ∧ ((((S.2.2.1 0) (0 : Int32).toNatClampNeg) ≤ x2 → K (.inr (.inr (x1, 0))) S) ∧ (¬ ((S.2.2.1 0) (0 : Int32).toNatClampNeg) ≤ x2 → VC_set (fun S14 => ∀ v15 : Int32, v15 = x2 + 1 → K (.inr (.inl (x1, v15))) S14) x2 3 0 S))
  | (.inr (.inr (x1, x2))), S => ((100 ≤ x2 → vp_in (6 : Int32) 3890 ∧ Post ((S.2.2.1 0) (6 : Int32).toNatClampNeg) S) ∧ (¬ 100 ≤ x2 → vp_in ((x1 + 16) + x2) 3890 ∧ ∀ v16 : Int32, v16 = (S.2.2.1 0) ((x1 + 16) + x2).toNatClampNeg → vp_in (150 + x2) 3890 ∧ ∀ S17 : MS, S17 = sF S 0 (upd (S.2.2.1 0) (150 + x2).toNatClampNeg v16) → ∀ v18 : Int32, v18 = x2 + 1 → K (.inr (.inr (x1, v18))) S17))
def VC_undo (Post : Int32 → MS → Prop) (S : MS) : Prop := ∀ K : Hd_undo → MS → Prop, (∀ h S, B_undo Post K h S → K h S) → vp_in (6 : Int32) 3890 ∧ ((¬ ((S.2.2.1 0) (6 : Int32).toNatClampNeg) = 0 → vp_in (6 : Int32) 3890 ∧ ∀ v1 : Int32, v1 = ((S.2.2.1 0) (6 : Int32).toNatClampNeg) - 1 → vp_in (6 : Int32) 3890 ∧ ∀ S2 : MS, S2 = sF S 0 (upd (S.2.2.1 0) (6 : Int32).toNatClampNeg v1) → vp_in (6 : Int32) 3890 ∧ ∀ v3 : Int32, v3 = 410 + (116 * ((S2.2.2.1 0) (6 : Int32).toNatClampNeg)) → vp_in v3 3890 ∧ ∀ v4 : Int32, v4 = (S2.2.2.1 0) v3.toNatClampNeg → vp_in (3 : Int32) 3890 ∧ ∀ S5 : MS, S5 = sF S2 0 (upd (S2.2.2.1 0) (3 : Int32).toNatClampNeg v4) → vp_in (v3 + 1) 3890 ∧ ∀ v6 : Int32, v6 = (S5.2.2.1 0) (v3 + 1).toNatClampNeg → vp_in (2 : Int32) 3890 ∧ ∀ S7 : MS, S7 = sF S5 0 (upd (S5.2.2.1 0) (2 : Int32).toNatClampNeg v6) → vp_in (v3 + 2) 3890 ∧ ∀ v8 : Int32, v8 = (S7.2.2.1 0) (v3 + 2).toNatClampNeg → vp_in (9 : Int32) 3890 ∧ ∀ S9 : MS, S9 = sF S7 0 (upd (S7.2.2.1 0) (9 : Int32).toNatClampNeg v8) → K (.inl (v3, 0)) S9) ∧ (((S.2.2.1 0) (6 : Int32).toNatClampNeg) = 0 → Post (-1) S))
set_option maxHeartbeats 4000000 in
set_option maxRecDepth 100000 in
theorem h_undo_0 {p : Program} {l : Launch} {e : Env} {s : State} {m : MethodId} {below : List Frame} {meth : Method} {c : Code} {dC : Nat → ClassId} {dI : Nat → Nat → Nat} {q : Nat → Nat} {cI cJ cZ : ClassId} {A : Nat → Prop} {args : Array Value} {Post : Int32 → MS → Prop} {K : Hd_undo → MS → Prop} (X : XM p s m args c cX12_undo 3 ww_undo dC dI cI cJ cZ A) (hr : meth.sig.returnType = (some .int)) (hlocks : meth.locks = false) (hK0 : ∀ (x1 : Int32) (x2 : Int32) (S : MS), K (.inl (x1, x2)) S → ∀ (H : Heap) (locs : List Loc), va_P (dC, dI) vwCl (wM q cI cJ cZ S) H → va_D A (wM q cI cJ cZ S) → va_S A s.heap H locs → ∀ ls : Array Slot, lv_has ls 3 [(0, .ref (q 0)), (1, .int x1), (2, .int x2)] → W p l e (headSpec ww_undo ({ frames := 1, cells := 0, slots := 0, locals := 23 } : Room)).room s m args below meth c H locs 0 0 (MQ below (va_Qi Post (atM dC dI q cI cJ cZ A) A) args s 0 0 A) (F0 m 81 ls [])) (hK1 : ∀ (x1 : Int32) (x2 : Int32) (S : MS), K (.inr (.inl (x1, x2))) S → ∀ (H : Heap) (locs : List Loc), va_P (dC, dI) vwCl (wM q cI cJ cZ S) H → va_D A (wM q cI cJ cZ S) → va_S A s.heap H locs → ∀ ls : Array Slot, lv_has ls 3 [(0, .ref (q 0)), (1, .int x1), (2, .int x2)] → W p l e (headSpec ww_undo ({ frames := 1, cells := 0, slots := 0, locals := 23 } : Room)).room s m args below meth c H locs 0 0 (MQ below (va_Qi Post (atM dC dI q cI cJ cZ A) A) args s 0 0 A) (F0 m 141 ls [])) (hK2 : ∀ (x1 : Int32) (x2 : Int32) (S : MS), K (.inr (.inr (x1, x2))) S → ∀ (H : Heap) (locs : List Loc), va_P (dC, dI) vwCl (wM q cI cJ cZ S) H → va_D A (wM q cI cJ cZ S) → va_S A s.heap H locs → ∀ ls : Array Slot, lv_has ls 3 [(0, .ref (q 0)), (1, .int x1), (2, .int x2)] → W p l e (headSpec ww_undo ({ frames := 1, cells := 0, slots := 0, locals := 23 } : Room)).room s m args below meth c H locs 0 0 (MQ below (va_Qi Post (atM dC dI q cI cJ cZ A) A) args s 0 0 A) (F0 m 166 ls [])) (x1 : Int32) (x2 : Int32) (S : MS) (h : B_undo Post K (.inl (x1, x2)) S) : ∀ (H : Heap) (locs : List Loc), va_P (dC, dI) vwCl (wM q cI cJ cZ S) H → va_D A (wM q cI cJ cZ S) → va_S A s.heap H locs → ∀ ls : Array Slot, lv_has ls 3 [(0, .ref (q 0)), (1, .int x1), (2, .int x2)] → W p l e (headSpec ww_undo ({ frames := 1, cells := 0, slots := 0, locals := 23 } : Room)).room s m args below meth c H locs 0 0 (MQ below (va_Qi Post (atM dC dI q cI cJ cZ A) A) args s 0 0 A) (F0 m 81 ls []) := by
  have hx := X.1
  have hb := X.2.1
  intro H locs hP hD hS ls hl
  have lk7 := X.2.2.2.2.1 (.fieldLink RX12 7 "BreathOnLoanModel" "a" "[I") (inW 5 rfl)
  dsimp only [B_undo] at h
  refine lv_iload_n hx hb (dk DX12_undo 54 rfl) rfl (lv_at hl 2 rfl) ?_
  refine lv_aload_n hx hb (dk DX12_undo 55 rfl) rfl (lv_at hl 0 rfl) ?_
  refine gM X hP 0 (by decide) rfl lk7 (dk DX12_undo 56 rfl) ?_
  refine lv_iload_n hx hb (dk DX12_undo 57 rfl) rfl (lv_at hl 1 rfl) ?_
  refine lv_iconst (v := 3) hx hb (dk DX12_undo 58 rfl) (by decide) ?_
  refine lv_iadd hx hb (dk DX12_undo 59 rfl) ?_
  obtain ⟨hin, h⟩ := h
  refine ldM X hP 1 rfl hin (dk DX12_undo 60 rfl) ?_
  refine lv_icmp_ge (tgt := 132) hx hb (dk DX12_undo 61 rfl) (by decide) (fun hc => ?_) (fun hc => ?_)
  · have h := h.1 hc
    refine lv_aload_n hx hb (dk DX12_undo 88 rfl) rfl (lv_at hl 0 rfl) ?_
    refine gM X hP 0 (by decide) rfl lk7 (dk DX12_undo 89 rfl) ?_
    refine lv_iload_n hx hb (dk DX12_undo 90 rfl) rfl (lv_at hl 1 rfl) ?_
    refine lv_iconst (v := 3) hx hb (dk DX12_undo 91 rfl) (by decide) ?_
    refine lv_iadd hx hb (dk DX12_undo 92 rfl) ?_
    obtain ⟨hin, h⟩ := h
    refine ldM X hP 1 rfl hin (dk DX12_undo 93 rfl) ?_
    refine lv_topi (fun v10 ev10 => ?_)
    have h := h v10 ev10
    refine lv_istore_n (lv' := [(2, .int v10), (0, .ref (q 0)), (1, .int x1)]) hx hb (dk DX12_undo 94 rfl) rfl hl (by decide) rfl (fun ls hl => ?_)
    exact hK1 x1 v10 S h _ _ hP hD hS ls (lv_sub hl [1, 2, 0] rfl)
  · have h := h.2 hc
    refine lv_aload_n hx hb (dk DX12_undo 62 rfl) rfl (lv_at hl 0 rfl) ?_
    refine lv_iload_n hx hb (dk DX12_undo 63 rfl) rfl (lv_at hl 2 rfl) ?_
    refine lv_iconst (v := 2) hx hb (dk DX12_undo 64 rfl) (by decide) ?_
    refine lv_aload_n hx hb (dk DX12_undo 65 rfl) rfl (lv_at hl 0 rfl) ?_
    refine gM X hP 0 (by decide) rfl lk7 (dk DX12_undo 66 rfl) ?_
    refine lv_iload_n hx hb (dk DX12_undo 67 rfl) rfl (lv_at hl 1 rfl) ?_
    refine lv_iconst (v := 4) hx hb (dk DX12_undo 68 rfl) (by decide) ?_
    refine lv_iadd hx hb (dk DX12_undo 69 rfl) ?_
    refine lv_iload_n hx hb (dk DX12_undo 70 rfl) rfl (lv_at hl 2 rfl) ?_
    refine lv_iadd hx hb (dk DX12_undo 71 rfl) ?_
    obtain ⟨hin, h⟩ := h
    refine ldM X hP 1 rfl hin (dk DX12_undo 72 rfl) ?_
    refine cMv (As := [.int x2, .int 2, .int ((S.2.2.1 0) ((x1 + 4) + x2).toNatClampNeg)]) (rest := []) X (m_set (l := l) (dC := dC) (dI := dI) (q := q) (cI := cI) (cJ := cJ) (cZ := cZ) (sz := _) x2 2 ((S.2.2.1 0) ((x1 + 4) + x2).toNatClampNeg) S h) (cwV 3 X.2.2.2.2.1 (gwV 43 44 45 24 37 rfl rfl rfl rfl rfl) rfl rfl rfl q_set ⟨Nat.le_of_ble_eq_true rfl, Nat.le_of_ble_eq_true rfl⟩) hP hD hS rfl hl.1 rfl (Nat.le_of_ble_eq_true rfl) (dk DX12_undo 73 rfl) (fun S11 H locs h hP hD hS => ?_)
    refine lv_aload_n hx hb (dk DX12_undo 74 rfl) rfl (lv_at hl 0 rfl) ?_
    refine lv_iload_n hx hb (dk DX12_undo 75 rfl) rfl (lv_at hl 2 rfl) ?_
    refine lv_iconst (v := 3) hx hb (dk DX12_undo 76 rfl) (by decide) ?_
    refine lv_aload_n hx hb (dk DX12_undo 77 rfl) rfl (lv_at hl 0 rfl) ?_
    refine gM X hP 0 (by decide) rfl lk7 (dk DX12_undo 78 rfl) ?_
    refine lv_iload_n hx hb (dk DX12_undo 79 rfl) rfl (lv_at hl 1 rfl) ?_
    refine lv_bipush (v := 10) hx hb (dk DX12_undo 80 rfl) (by decide) ?_
    refine lv_iadd hx hb (dk DX12_undo 81 rfl) ?_
    refine lv_iload_n hx hb (dk DX12_undo 82 rfl) rfl (lv_at hl 2 rfl) ?_
    refine lv_iadd hx hb (dk DX12_undo 83 rfl) ?_
    obtain ⟨hin, h⟩ := h
    refine ldM X hP 1 rfl hin (dk DX12_undo 84 rfl) ?_
    refine cMv (As := [.int x2, .int 3, .int ((S11.2.2.1 0) ((x1 + 10) + x2).toNatClampNeg)]) (rest := []) X (m_set (l := l) (dC := dC) (dI := dI) (q := q) (cI := cI) (cJ := cJ) (cZ := cZ) (sz := _) x2 3 ((S11.2.2.1 0) ((x1 + 10) + x2).toNatClampNeg) S11 h) (cwV 3 X.2.2.2.2.1 (gwV 43 44 45 24 37 rfl rfl rfl rfl rfl) rfl rfl rfl q_set ⟨Nat.le_of_ble_eq_true rfl, Nat.le_of_ble_eq_true rfl⟩) hP hD hS rfl hl.1 rfl (Nat.le_of_ble_eq_true rfl) (dk DX12_undo 85 rfl) (fun S12 H locs h hP hD hS => ?_)
    obtain ⟨v13, ev13⟩ : ∃ y : Int32, y = x2 + 1 := ⟨_, rfl⟩
    have h := h v13 ev13
    refine lv_iinc (v := v13) (lv' := [(2, .int v13), (0, .ref (q 0)), (1, .int x1)]) hx hb (dk DX12_undo 86 rfl) hl (k := 2) rfl (by rw [ev13]; rfl) (by decide) rfl (fun ls hl => ?_)
    refine lv_goto (tgt := 81) hx hb (dk DX12_undo 87 rfl) (by decide) ?_
    exact hK0 x1 v13 S12 h _ _ hP hD hS ls (lv_sub hl [1, 2, 0] rfl)
set_option maxHeartbeats 4000000 in
set_option maxRecDepth 100000 in
theorem h_undo_1 {p : Program} {l : Launch} {e : Env} {s : State} {m : MethodId} {below : List Frame} {meth : Method} {c : Code} {dC : Nat → ClassId} {dI : Nat → Nat → Nat} {q : Nat → Nat} {cI cJ cZ : ClassId} {A : Nat → Prop} {args : Array Value} {Post : Int32 → MS → Prop} {K : Hd_undo → MS → Prop} (X : XM p s m args c cX12_undo 3 ww_undo dC dI cI cJ cZ A) (hr : meth.sig.returnType = (some .int)) (hlocks : meth.locks = false) (hK0 : ∀ (x1 : Int32) (x2 : Int32) (S : MS), K (.inl (x1, x2)) S → ∀ (H : Heap) (locs : List Loc), va_P (dC, dI) vwCl (wM q cI cJ cZ S) H → va_D A (wM q cI cJ cZ S) → va_S A s.heap H locs → ∀ ls : Array Slot, lv_has ls 3 [(0, .ref (q 0)), (1, .int x1), (2, .int x2)] → W p l e (headSpec ww_undo ({ frames := 1, cells := 0, slots := 0, locals := 23 } : Room)).room s m args below meth c H locs 0 0 (MQ below (va_Qi Post (atM dC dI q cI cJ cZ A) A) args s 0 0 A) (F0 m 81 ls [])) (hK1 : ∀ (x1 : Int32) (x2 : Int32) (S : MS), K (.inr (.inl (x1, x2))) S → ∀ (H : Heap) (locs : List Loc), va_P (dC, dI) vwCl (wM q cI cJ cZ S) H → va_D A (wM q cI cJ cZ S) → va_S A s.heap H locs → ∀ ls : Array Slot, lv_has ls 3 [(0, .ref (q 0)), (1, .int x1), (2, .int x2)] → W p l e (headSpec ww_undo ({ frames := 1, cells := 0, slots := 0, locals := 23 } : Room)).room s m args below meth c H locs 0 0 (MQ below (va_Qi Post (atM dC dI q cI cJ cZ A) A) args s 0 0 A) (F0 m 141 ls [])) (hK2 : ∀ (x1 : Int32) (x2 : Int32) (S : MS), K (.inr (.inr (x1, x2))) S → ∀ (H : Heap) (locs : List Loc), va_P (dC, dI) vwCl (wM q cI cJ cZ S) H → va_D A (wM q cI cJ cZ S) → va_S A s.heap H locs → ∀ ls : Array Slot, lv_has ls 3 [(0, .ref (q 0)), (1, .int x1), (2, .int x2)] → W p l e (headSpec ww_undo ({ frames := 1, cells := 0, slots := 0, locals := 23 } : Room)).room s m args below meth c H locs 0 0 (MQ below (va_Qi Post (atM dC dI q cI cJ cZ A) A) args s 0 0 A) (F0 m 166 ls [])) (x1 : Int32) (x2 : Int32) (S : MS) (h : B_undo Post K (.inr (.inl (x1, x2))) S) : ∀ (H : Heap) (locs : List Loc), va_P (dC, dI) vwCl (wM q cI cJ cZ S) H → va_D A (wM q cI cJ cZ S) → va_S A s.heap H locs → ∀ ls : Array Slot, lv_has ls 3 [(0, .ref (q 0)), (1, .int x1), (2, .int x2)] → W p l e (headSpec ww_undo ({ frames := 1, cells := 0, slots := 0, locals := 23 } : Room)).room s m args below meth c H locs 0 0 (MQ below (va_Qi Post (atM dC dI q cI cJ cZ A) A) args s 0 0 A) (F0 m 141 ls []) := by
  have hx := X.1
  have hb := X.2.1
  intro H locs hP hD hS ls hl
  have lk7 := X.2.2.2.2.1 (.fieldLink RX12 7 "BreathOnLoanModel" "a" "[I") (inW 5 rfl)
  dsimp only [B_undo] at h
  refine lv_iload_n hx hb (dk DX12_undo 95 rfl) rfl (lv_at hl 2 rfl) ?_
  refine lv_aload_n hx hb (dk DX12_undo 96 rfl) rfl (lv_at hl 0 rfl) ?_
  refine gM X hP 0 (by decide) rfl lk7 (dk DX12_undo 97 rfl) ?_
  refine lv_iconst (v := 0) hx hb (dk DX12_undo 98 rfl) (by decide) ?_
  obtain ⟨hin, h⟩ := h
  refine ldM X hP 1 rfl hin (dk DX12_undo 99 rfl) ?_
  refine lv_icmp_ge (tgt := 164) hx hb (dk DX12_undo 100 rfl) (by decide) (fun hc => ?_) (fun hc => ?_)
  · have h := h.1 hc
    refine lv_iconst (v := 0) hx hb (dk DX12_undo 108 rfl) (by decide) ?_
    refine lv_istore_n (lv' := [(2, .int 0), (0, .ref (q 0)), (1, .int x1)]) hx hb (dk DX12_undo 109 rfl) rfl hl (by decide) rfl (fun ls hl => ?_)
    exact hK2 x1 0 S h _ _ hP hD hS ls (lv_sub hl [1, 2, 0] rfl)
  · have h := h.2 hc
    refine lv_aload_n hx hb (dk DX12_undo 101 rfl) rfl (lv_at hl 0 rfl) ?_
    refine lv_iload_n hx hb (dk DX12_undo 102 rfl) rfl (lv_at hl 2 rfl) ?_
    refine lv_iconst (v := 3) hx hb (dk DX12_undo 103 rfl) (by decide) ?_
    refine lv_iconst (v := 0) hx hb (dk DX12_undo 104 rfl) (by decide) ?_
    refine cMv (As := [.int x2, .int 3, .int 0]) (rest := []) X (m_set (l := l) (dC := dC) (dI := dI) (q := q) (cI := cI) (cJ := cJ) (cZ := cZ) (sz := _) x2 3 0 S h) (cwV 3 X.2.2.2.2.1 (gwV 43 44 45 24 37 rfl rfl rfl rfl rfl) rfl rfl rfl q_set ⟨Nat.le_of_ble_eq_true rfl, Nat.le_of_ble_eq_true rfl⟩) hP hD hS rfl hl.1 rfl (Nat.le_of_ble_eq_true rfl) (dk DX12_undo 105 rfl) (fun S14 H locs h hP hD hS => ?_)
    obtain ⟨v15, ev15⟩ : ∃ y : Int32, y = x2 + 1 := ⟨_, rfl⟩
    have h := h v15 ev15
    refine lv_iinc (v := v15) (lv' := [(2, .int v15), (0, .ref (q 0)), (1, .int x1)]) hx hb (dk DX12_undo 106 rfl) hl (k := 2) rfl (by rw [ev15]; rfl) (by decide) rfl (fun ls hl => ?_)
    refine lv_goto (tgt := 141) hx hb (dk DX12_undo 107 rfl) (by decide) ?_
    exact hK1 x1 v15 S14 h _ _ hP hD hS ls (lv_sub hl [1, 2, 0] rfl)
set_option maxHeartbeats 4000000 in
set_option maxRecDepth 100000 in
theorem h_undo_2 {p : Program} {l : Launch} {e : Env} {s : State} {m : MethodId} {below : List Frame} {meth : Method} {c : Code} {dC : Nat → ClassId} {dI : Nat → Nat → Nat} {q : Nat → Nat} {cI cJ cZ : ClassId} {A : Nat → Prop} {args : Array Value} {Post : Int32 → MS → Prop} {K : Hd_undo → MS → Prop} (X : XM p s m args c cX12_undo 3 ww_undo dC dI cI cJ cZ A) (hr : meth.sig.returnType = (some .int)) (hlocks : meth.locks = false) (hK0 : ∀ (x1 : Int32) (x2 : Int32) (S : MS), K (.inl (x1, x2)) S → ∀ (H : Heap) (locs : List Loc), va_P (dC, dI) vwCl (wM q cI cJ cZ S) H → va_D A (wM q cI cJ cZ S) → va_S A s.heap H locs → ∀ ls : Array Slot, lv_has ls 3 [(0, .ref (q 0)), (1, .int x1), (2, .int x2)] → W p l e (headSpec ww_undo ({ frames := 1, cells := 0, slots := 0, locals := 23 } : Room)).room s m args below meth c H locs 0 0 (MQ below (va_Qi Post (atM dC dI q cI cJ cZ A) A) args s 0 0 A) (F0 m 81 ls [])) (hK1 : ∀ (x1 : Int32) (x2 : Int32) (S : MS), K (.inr (.inl (x1, x2))) S → ∀ (H : Heap) (locs : List Loc), va_P (dC, dI) vwCl (wM q cI cJ cZ S) H → va_D A (wM q cI cJ cZ S) → va_S A s.heap H locs → ∀ ls : Array Slot, lv_has ls 3 [(0, .ref (q 0)), (1, .int x1), (2, .int x2)] → W p l e (headSpec ww_undo ({ frames := 1, cells := 0, slots := 0, locals := 23 } : Room)).room s m args below meth c H locs 0 0 (MQ below (va_Qi Post (atM dC dI q cI cJ cZ A) A) args s 0 0 A) (F0 m 141 ls [])) (hK2 : ∀ (x1 : Int32) (x2 : Int32) (S : MS), K (.inr (.inr (x1, x2))) S → ∀ (H : Heap) (locs : List Loc), va_P (dC, dI) vwCl (wM q cI cJ cZ S) H → va_D A (wM q cI cJ cZ S) → va_S A s.heap H locs → ∀ ls : Array Slot, lv_has ls 3 [(0, .ref (q 0)), (1, .int x1), (2, .int x2)] → W p l e (headSpec ww_undo ({ frames := 1, cells := 0, slots := 0, locals := 23 } : Room)).room s m args below meth c H locs 0 0 (MQ below (va_Qi Post (atM dC dI q cI cJ cZ A) A) args s 0 0 A) (F0 m 166 ls [])) (x1 : Int32) (x2 : Int32) (S : MS) (h : B_undo Post K (.inr (.inr (x1, x2))) S) : ∀ (H : Heap) (locs : List Loc), va_P (dC, dI) vwCl (wM q cI cJ cZ S) H → va_D A (wM q cI cJ cZ S) → va_S A s.heap H locs → ∀ ls : Array Slot, lv_has ls 3 [(0, .ref (q 0)), (1, .int x1), (2, .int x2)] → W p l e (headSpec ww_undo ({ frames := 1, cells := 0, slots := 0, locals := 23 } : Room)).room s m args below meth c H locs 0 0 (MQ below (va_Qi Post (atM dC dI q cI cJ cZ A) A) args s 0 0 A) (F0 m 166 ls []) := by
  have hx := X.1
  have hb := X.2.1
  intro H locs hP hD hS ls hl
  have lk7 := X.2.2.2.2.1 (.fieldLink RX12 7 "BreathOnLoanModel" "a" "[I") (inW 5 rfl)
  dsimp only [B_undo] at h
  refine lv_iload_n hx hb (dk DX12_undo 110 rfl) rfl (lv_at hl 2 rfl) ?_
  refine lv_bipush (v := 100) hx hb (dk DX12_undo 111 rfl) (by decide) ?_
  refine lv_icmp_ge (tgt := 199) hx hb (dk DX12_undo 112 rfl) (by decide) (fun hc => ?_) (fun hc => ?_)
  · have h := h.1 hc
    refine lv_aload_n hx hb (dk DX12_undo 129 rfl) rfl (lv_at hl 0 rfl) ?_
    refine gM X hP 0 (by decide) rfl lk7 (dk DX12_undo 130 rfl) ?_
    refine lv_bipush (v := 6) hx hb (dk DX12_undo 131 rfl) (by decide) ?_
    obtain ⟨hin, h⟩ := h
    refine ldM X hP 1 rfl hin (dk DX12_undo 132 rfl) ?_
    exact W.iret (v := (S.2.2.1 0) (6 : Int32).toNatClampNeg) hx hb hr (fun t ht hW => ⟨⟨_, _, rfl, h, by rw [ht]; exact hP, va_K.moved hW.alike X.2.2.2.2.2.2.1, hD⟩, hS.F ht⟩) hS.2.2 (dk DX12_undo 133 rfl)
  · have h := h.2 hc
    refine lv_aload_n hx hb (dk DX12_undo 113 rfl) rfl (lv_at hl 0 rfl) ?_
    refine gM X hP 0 (by decide) rfl lk7 (dk DX12_undo 114 rfl) ?_
    refine lv_sipush (v := 150) hx hb (dk DX12_undo 115 rfl) (by decide) ?_
    refine lv_iload_n hx hb (dk DX12_undo 116 rfl) rfl (lv_at hl 2 rfl) ?_
    refine lv_iadd hx hb (dk DX12_undo 117 rfl) ?_
    refine lv_aload_n hx hb (dk DX12_undo 118 rfl) rfl (lv_at hl 0 rfl) ?_
    refine gM X hP 0 (by decide) rfl lk7 (dk DX12_undo 119 rfl) ?_
    refine lv_iload_n hx hb (dk DX12_undo 120 rfl) rfl (lv_at hl 1 rfl) ?_
    refine lv_bipush (v := 16) hx hb (dk DX12_undo 121 rfl) (by decide) ?_
    refine lv_iadd hx hb (dk DX12_undo 122 rfl) ?_
    refine lv_iload_n hx hb (dk DX12_undo 123 rfl) rfl (lv_at hl 2 rfl) ?_
    refine lv_iadd hx hb (dk DX12_undo 124 rfl) ?_
    obtain ⟨hin, h⟩ := h
    refine ldM X hP 1 rfl hin (dk DX12_undo 125 rfl) ?_
    refine lv_topi (fun v16 ev16 => ?_)
    have h := h v16 ev16
    obtain ⟨hin, h⟩ := h
    refine stM_0 X hP hD hS hin (dk DX12_undo 126 rfl) (fun S17 eS17 H locs hP hD hS => ?_)
    have h := h S17 eS17
    obtain ⟨v18, ev18⟩ : ∃ y : Int32, y = x2 + 1 := ⟨_, rfl⟩
    have h := h v18 ev18
    refine lv_iinc (v := v18) (lv' := [(2, .int v18), (0, .ref (q 0)), (1, .int x1)]) hx hb (dk DX12_undo 127 rfl) hl (k := 2) rfl (by rw [ev18]; rfl) (by decide) rfl (fun ls hl => ?_)
    refine lv_goto (tgt := 166) hx hb (dk DX12_undo 128 rfl) (by decide) ?_
    exact hK2 x1 v18 S17 h _ _ hP hD hS ls (lv_sub hl [1, 2, 0] rfl)
set_option maxHeartbeats 4000000 in
set_option maxRecDepth 100000 in
theorem m_undo {l : Launch} {dC : Nat → ClassId} {dI : Nat → Nat → Nat} {q : Nat → Nat} {cI cJ cZ : ClassId} {sz : Nat} {Post : Int32 → MS → Prop} (S : MS) (h : VC_undo Post S) : Met l yX12_undo ww_undo ({ frames := 1, cells := 0, slots := 0, locals := 23 } : Room) (va_Pc [.ref (q 0)] (preM dC dI q cI cJ cZ S sz)) (va_Qi Post (atM dC dI q cI cJ cZ (va_A (wM q cI cJ cZ S) sz)) (va_A (wM q cI cJ cZ S) sz)) 0 0 (va_A (wM q cI cJ cZ S) sz) := by
  refine oM (cc := cX12_undo) (maxL := 3) (ret := (some .int)) (Qc := fun A => va_Qi Post (atM dC dI q cI cJ cZ A) A) (by decide) rfl (fun w h => List.mem_cons_of_mem _ (List.mem_append_right _ h)) rfl (Nat.le_of_ble_eq_true rfl) (fun p e s m below meth c A ls X hr hlocks hP hD hS hl => ?_)
  have hx := X.1
  have hb := X.2.1
  have hl : lv_has ls 3 [(0, .ref (q 0))] := hl
  have lk7 := X.2.2.2.2.1 (.fieldLink RX12 7 "BreathOnLoanModel" "a" "[I") (inW 5 rfl)
  generalize hargs : ([.ref (q 0)] : List Value).toArray = args at X ⊢
  have h := h (fun hd S => match hd with | (.inl (x1, x2)) => ∀ (H : Heap) (locs : List Loc), va_P (dC, dI) vwCl (wM q cI cJ cZ S) H → va_D A (wM q cI cJ cZ S) → va_S A s.heap H locs → ∀ ls : Array Slot, lv_has ls 3 [(0, .ref (q 0)), (1, .int x1), (2, .int x2)] → W p l e (headSpec ww_undo ({ frames := 1, cells := 0, slots := 0, locals := 23 } : Room)).room s m args below meth c H locs 0 0 (MQ below (va_Qi Post (atM dC dI q cI cJ cZ A) A) args s 0 0 A) (F0 m 81 ls []) | (.inr (.inl (x1, x2))) => ∀ (H : Heap) (locs : List Loc), va_P (dC, dI) vwCl (wM q cI cJ cZ S) H → va_D A (wM q cI cJ cZ S) → va_S A s.heap H locs → ∀ ls : Array Slot, lv_has ls 3 [(0, .ref (q 0)), (1, .int x1), (2, .int x2)] → W p l e (headSpec ww_undo ({ frames := 1, cells := 0, slots := 0, locals := 23 } : Room)).room s m args below meth c H locs 0 0 (MQ below (va_Qi Post (atM dC dI q cI cJ cZ A) A) args s 0 0 A) (F0 m 141 ls []) | (.inr (.inr (x1, x2))) => ∀ (H : Heap) (locs : List Loc), va_P (dC, dI) vwCl (wM q cI cJ cZ S) H → va_D A (wM q cI cJ cZ S) → va_S A s.heap H locs → ∀ ls : Array Slot, lv_has ls 3 [(0, .ref (q 0)), (1, .int x1), (2, .int x2)] → W p l e (headSpec ww_undo ({ frames := 1, cells := 0, slots := 0, locals := 23 } : Room)).room s m args below meth c H locs 0 0 (MQ below (va_Qi Post (atM dC dI q cI cJ cZ A) A) args s 0 0 A) (F0 m 166 ls [])) ?_
  · skip
    refine lv_aload_n hx hb (dk DX12_undo 0 rfl) rfl (lv_at hl 0 rfl) ?_
    refine gM X hP 0 (by decide) rfl lk7 (dk DX12_undo 1 rfl) ?_
    refine lv_bipush (v := 6) hx hb (dk DX12_undo 2 rfl) (by decide) ?_
    obtain ⟨hin, h⟩ := h
    refine ldM X hP 1 rfl hin (dk DX12_undo 3 rfl) ?_
    refine lv_if_ne (tgt := 12) hx hb (dk DX12_undo 4 rfl) (by decide) (fun hc => ?_) (fun hc => ?_)
    · have h := h.1 hc
      refine lv_aload_n hx hb (dk DX12_undo 7 rfl) rfl (lv_at hl 0 rfl) ?_
      refine gM X hP 0 (by decide) rfl lk7 (dk DX12_undo 8 rfl) ?_
      refine lv_bipush (v := 6) hx hb (dk DX12_undo 9 rfl) (by decide) ?_
      refine lv_dup2_11 hx hb (dk DX12_undo 10 rfl) rfl rfl ?_
      obtain ⟨hin, h⟩ := h
      refine ldM X hP 1 rfl hin (dk DX12_undo 11 rfl) ?_
      refine lv_iconst (v := 1) hx hb (dk DX12_undo 12 rfl) (by decide) ?_
      refine lv_isub hx hb (dk DX12_undo 13 rfl) ?_
      refine lv_topi (fun v1 ev1 => ?_)
      have h := h v1 ev1
      obtain ⟨hin, h⟩ := h
      refine stM_0 X hP hD hS hin (dk DX12_undo 14 rfl) (fun S2 eS2 H locs hP hD hS => ?_)
      have h := h S2 eS2
      refine lv_sipush (v := 410) hx hb (dk DX12_undo 15 rfl) (by decide) ?_
      refine lv_bipush (v := 116) hx hb (dk DX12_undo 16 rfl) (by decide) ?_
      refine lv_aload_n hx hb (dk DX12_undo 17 rfl) rfl (lv_at hl 0 rfl) ?_
      refine gM X hP 0 (by decide) rfl lk7 (dk DX12_undo 18 rfl) ?_
      refine lv_bipush (v := 6) hx hb (dk DX12_undo 19 rfl) (by decide) ?_
      obtain ⟨hin, h⟩ := h
      refine ldM X hP 1 rfl hin (dk DX12_undo 20 rfl) ?_
      refine lv_imul hx hb (dk DX12_undo 21 rfl) ?_
      refine lv_iadd hx hb (dk DX12_undo 22 rfl) ?_
      refine lv_topi (fun v3 ev3 => ?_)
      have h := h v3 ev3
      refine lv_istore_n (lv' := [(1, .int v3), (0, .ref (q 0))]) hx hb (dk DX12_undo 23 rfl) rfl hl (by decide) rfl (fun ls hl => ?_)
      refine lv_aload_n hx hb (dk DX12_undo 24 rfl) rfl (lv_at hl 1 rfl) ?_
      refine gM X hP 0 (by decide) rfl lk7 (dk DX12_undo 25 rfl) ?_
      refine lv_iconst (v := 3) hx hb (dk DX12_undo 26 rfl) (by decide) ?_
      refine lv_aload_n hx hb (dk DX12_undo 27 rfl) rfl (lv_at hl 1 rfl) ?_
      refine gM X hP 0 (by decide) rfl lk7 (dk DX12_undo 28 rfl) ?_
      refine lv_iload_n hx hb (dk DX12_undo 29 rfl) rfl (lv_at hl 0 rfl) ?_
      obtain ⟨hin, h⟩ := h
      refine ldM X hP 1 rfl hin (dk DX12_undo 30 rfl) ?_
      refine lv_topi (fun v4 ev4 => ?_)
      have h := h v4 ev4
      obtain ⟨hin, h⟩ := h
      refine stM_0 X hP hD hS hin (dk DX12_undo 31 rfl) (fun S5 eS5 H locs hP hD hS => ?_)
      have h := h S5 eS5
      refine lv_aload_n hx hb (dk DX12_undo 32 rfl) rfl (lv_at hl 1 rfl) ?_
      refine gM X hP 0 (by decide) rfl lk7 (dk DX12_undo 33 rfl) ?_
      refine lv_iconst (v := 2) hx hb (dk DX12_undo 34 rfl) (by decide) ?_
      refine lv_aload_n hx hb (dk DX12_undo 35 rfl) rfl (lv_at hl 1 rfl) ?_
      refine gM X hP 0 (by decide) rfl lk7 (dk DX12_undo 36 rfl) ?_
      refine lv_iload_n hx hb (dk DX12_undo 37 rfl) rfl (lv_at hl 0 rfl) ?_
      refine lv_iconst (v := 1) hx hb (dk DX12_undo 38 rfl) (by decide) ?_
      refine lv_iadd hx hb (dk DX12_undo 39 rfl) ?_
      obtain ⟨hin, h⟩ := h
      refine ldM X hP 1 rfl hin (dk DX12_undo 40 rfl) ?_
      refine lv_topi (fun v6 ev6 => ?_)
      have h := h v6 ev6
      obtain ⟨hin, h⟩ := h
      refine stM_0 X hP hD hS hin (dk DX12_undo 41 rfl) (fun S7 eS7 H locs hP hD hS => ?_)
      have h := h S7 eS7
      refine lv_aload_n hx hb (dk DX12_undo 42 rfl) rfl (lv_at hl 1 rfl) ?_
      refine gM X hP 0 (by decide) rfl lk7 (dk DX12_undo 43 rfl) ?_
      refine lv_bipush (v := 9) hx hb (dk DX12_undo 44 rfl) (by decide) ?_
      refine lv_aload_n hx hb (dk DX12_undo 45 rfl) rfl (lv_at hl 1 rfl) ?_
      refine gM X hP 0 (by decide) rfl lk7 (dk DX12_undo 46 rfl) ?_
      refine lv_iload_n hx hb (dk DX12_undo 47 rfl) rfl (lv_at hl 0 rfl) ?_
      refine lv_iconst (v := 2) hx hb (dk DX12_undo 48 rfl) (by decide) ?_
      refine lv_iadd hx hb (dk DX12_undo 49 rfl) ?_
      obtain ⟨hin, h⟩ := h
      refine ldM X hP 1 rfl hin (dk DX12_undo 50 rfl) ?_
      refine lv_topi (fun v8 ev8 => ?_)
      have h := h v8 ev8
      obtain ⟨hin, h⟩ := h
      refine stM_0 X hP hD hS hin (dk DX12_undo 51 rfl) (fun S9 eS9 H locs hP hD hS => ?_)
      have h := h S9 eS9
      refine lv_iconst (v := 0) hx hb (dk DX12_undo 52 rfl) (by decide) ?_
      refine lv_istore_n (lv' := [(2, .int 0), (1, .int v3), (0, .ref (q 0))]) hx hb (dk DX12_undo 53 rfl) rfl hl (by decide) rfl (fun ls hl => ?_)
      exact h _ _ hP hD hS ls (lv_sub hl [2, 1, 0] rfl)
    · have h := h.2 hc
      refine lv_iconst (v := (-1)) hx hb (dk DX12_undo 5 rfl) (by decide) ?_
      exact W.iret (v := (-1)) hx hb hr (fun t ht hW => ⟨⟨_, _, rfl, h, by rw [ht]; exact hP, va_K.moved hW.alike X.2.2.2.2.2.2.1, hD⟩, hS.F ht⟩) hS.2.2 (dk DX12_undo 6 rfl)
  · rintro (⟨x1, x2⟩ | ⟨x1, x2⟩ | ⟨x1, x2⟩) S hB
    · exact h_undo_0 X hr hlocks (hK0 := fun _ _ _ h => h) (hK1 := fun _ _ _ h => h) (hK2 := fun _ _ _ h => h) x1 x2 S hB
    · exact h_undo_1 X hr hlocks (hK0 := fun _ _ _ h => h) (hK1 := fun _ _ _ h => h) (hK2 := fun _ _ _ h => h) x1 x2 S hB
    · exact h_undo_2 X hr hlocks (hK0 := fun _ _ _ h => h) (hK1 := fun _ _ _ h => h) (hK2 := fun _ _ _ h => h) x1 x2 S hB

