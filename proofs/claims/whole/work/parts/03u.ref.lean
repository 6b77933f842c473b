-- liars coughs image back
def ww_liars : List Cond := .code yX12_liars cX12_liars 7 (some .int) :: (WdM ++ wsX120)
theorem q_liars : yX12_liars.cls = RX12 ∧ yX12_liars.cls ≠ "java/lang/invoke/MethodHandle" ∧ yX12_liars.cls ≠ "java/lang/invoke/VarHandle" ∧ (parseMethodDescriptor yX12_liars.desc).map (fun d => d.parameters.length) = some 0 := by decide +kernel
abbrev Hd_liars : Type := (Int32 × Int32) ⊕ (Int32 × Int32 × Int32 × Int32 × Int32) ⊕ (Int32 × Int32 × Int32 × Int32 × Int32)
def B_liars (Post : Int32 → MS → Prop) (K : Hd_liars → MS → Prop) : Hd_liars → MS → Prop
  | (.inl (x1, x2)), S => vp_in (8 : Int32) 3890 ∧ ((((S.2.2.1 0) (8 : Int32).toNatClampNeg) ≤ x2 → Post x1 S) ∧ (¬ ((S.2.2.1 0) (8 : Int32).toNatClampNeg) ≤ x2 → ∀ v1 : Int32, v1 = 70 + (4 * x2) → K (.inr (.inl (x1, x2, v1, 0, 0))) S))
  | (.inr (.inl (x1, x2, x3, x4, x5))), S => vp_in (8 : Int32) 3890 ∧ ((((S.2.2.1 0) (8 : Int32).toNatClampNeg) ≤ x5 → K (.inr (.inr (x1, x2, x3, x4, 0))) S) ∧ (¬ ((S.2.2.1 0) (8 : Int32).toNatClampNeg) ≤ x5 → ∀ v2 : Int32, v2 = 70 + (4 * x5) → vp_in v2 3890 ∧ vp_in x3 3890 ∧ ((¬ ((S.2.2.1 0) v2.toNatClampNeg) = ((S.2.2.1 0) x3.toNatClampNeg) → ∀ v3 : Int32, v3 = x4 + 0 → ∀ v4 : Int32, v4 = x5 + 1 → K (.inr (.inl (x1, x2, x3, v3, v4))) S) ∧ (((S.2.2.1 0) v2.toNatClampNeg) = ((S.2.2.1 0) x3.toNatClampNeg) → vp_in (v2 + 1) 3890 ∧ vp_in (x3 + 1) 3890 ∧ ((¬ ((S.2.2.1 0) (v2 + 1).toNatClampNeg) = ((S.2.2.1 0) (x3 + 1).toNatClampNeg) → ∀ v5 : Int32, v5 = x4 + 0 → ∀ v6 : Int32, v6 = x5 + 1 → K (.inr (.inl (x1, x2, x3, v5, v6))) S) ∧ (((S.2.2.1 0) (v2 + 1).toNatClampNeg) = ((S.2.2.1 0) (x3 + 1).toNatClampNeg) → vp_in (v2 + 3) 3890 ∧ vp_in (x3 + 3) 3890 ∧ ((¬ ((S.2.2.1 0) (v2 + 3).toNatClampNeg) = ((S.2.2.1 0) (x3 + 3).toNatClampNeg) → ∀ v7 : Int32, v7 = x4 + 0 → ∀ v8 : Int32, v8 = x5 + 1 → K (.inr (.inl (x1, x2, x3, v7, v8))) S) ∧ (((S.2.2.1 0) (v2 + 3).toNatClampNeg) = ((S.2.2.1 0) (x3 + 3).toNatClampNeg) → vp_in (v2 + 2) 3890 ∧ ∀ v9 : Int32, v9 = x4 + ((S.2.2.1 0) (v2 + 2).toNatClampNeg) → ∀ v10 : Int32, v10 = x5 + 1 → K (.inr (.inl (x1, x2, x3, v9, v10))) S))))))))
  | (.inr (.inr (x1, x2, x3, x4, x5))), S => vp_in (9 : Int32) 3890 ∧ ((((S.2.2.1 0) (9 : Int32).toNatClampNeg) ≤ x5 → ((x4 ≤ 0 → ∀ v11 : Int32, v11 = x1 ||| 0 → ∀ v12 : Int32, v12 = x2 + 1 → K (.inl (v11, v12)) S) ∧ (¬ x4 ≤ 0 → vp_in x3 3890 ∧ ∀ v13 : Int32, v13 = x1 ||| ((1 : Int32) <<< (((S.2.2.1 0) x3.toNatClampNeg) &&& 31)) → ∀ v14 : Int32, v14 = x2 + 1 → K (.inl (v13, v14)) S))) ∧ (¬ ((S.2.2.1 0) (9 : Int32).toNatClampNeg) ≤ x5 → ∀ v15 : Int32, v15 = 250 + (4 * x5) → vp_in (v15 + 1) 3890 ∧ vp_in x3 3890 ∧ ((¬ ((S.2.2.1 0) (v15 + 1).toNatClampNeg) = ((S.2.2.1 0) x3.toNatClampNeg) → ∀ v16 : Int32, v16 = x4 - 0 → ∀ v17 : Int32, v17 = x5 + 1 → K (.inr (.inr (x1, x2, x3, v16, v17))) S) ∧ (((S.2.2.1 0) (v15 + 1).toNatClampNeg) = ((S.2.2.1 0) x3.toNatClampNeg) → vp_in v15 3890 ∧ vp_in (x3 + 1) 3890 ∧ ((¬ ((S.2.2.1 0) v15.toNatClampNeg) = ((S.2.2.1 0) (x3 + 1).toNatClampNeg) → ∀ v18 : Int32, v18 = x4 - 0 → ∀ v19 : Int32, v19 = x5 + 1 → K (.inr (.inr (x1, x2, x3, v18, v19))) S) ∧ (((S.2.2.1 0) v15.toNatClampNeg) = ((S.2.2.1 0) (x3 + 1).toNatClampNeg) → vp_in (v15 + 3) 3890 ∧ vp_in (x3 + 3) 3890 ∧ ((¬ ((S.2.2.1 0) (v15 + 3).toNatClampNeg) = ((S.2.2.1 0) (x3 + 3).toNatClampNeg) → ∀ v20 : Int32, v20 = x4 - 0 → ∀ v21 : Int32, v21 = x5 + 1 → K (.inr (.inr (x1, x2, x3, v20, v21))) S) ∧ (((S.2.2.1 0) (v15 + 3).toNatClampNeg) = ((S.2.2.1 0) (x3 + 3).toNatClampNeg) → vp_in (v15 + 2) 3890 ∧ ∀ v22 : Int32, v22 = x4 - ((S.2.2.1 0) (v15 + 2).toNatClampNeg) → ∀ v23 : Int32, v23 = x5 + 1 → K (.inr (.inr (x1, x2, x3, v22, v23))) S))))))))
def VC_liars (Post : Int32 → MS → Prop) (S : MS) : Prop := ∀ K : Hd_liars → MS → Prop, (∀ h S, B_liars Post K h S → K h S) → K (.inl (0, 0)) S
set_option maxHeartbeats 4000000 in
set_option maxRecDepth 100000 in
theorem h_liars_0 {p : Program} {l : Launch} {e : Env} {s : State} {m : MethodId} {below : List Frame} {meth : Method} {c : Code} {dC : Nat → ClassId} {dI : Nat → Nat → Nat} {q : Nat → Nat} {cI cJ cZ : ClassId} {A : Nat → Prop} {args : Array Value} {Post : Int32 → MS → Prop} {K : Hd_liars → MS → Prop} (X : XM p s m args c cX12_liars 7 ww_liars dC dI cI cJ cZ A) (hr : meth.sig.returnType = (some .int)) (hlocks : meth.locks = false) (hK0 : ∀ (x1 : Int32) (x2 : Int32) (S : MS), K (.inl (x1, x2)) S → ∀ (H : Heap) (locs : List Loc), va_P (dC, dI) vwCl (wM q cI cJ cZ S) H → va_D A (wM q cI cJ cZ S) → va_S A s.heap H locs → ∀ ls : Array Slot, lv_has ls 7 [(0, .ref (q 0)), (1, .int x1), (2, .int x2)] → W p l e (headSpec ww_liars ({ frames := 0, cells := 0, slots := 0, locals := 0 } : Room)).room s m args below meth c H locs 0 0 (MQ below (va_Qi Post (atM dC dI q cI cJ cZ A) A) args s 0 0 A) (F0 m 4 ls [])) (hK1 : ∀ (x1 : Int32) (x2 : Int32) (x3 : Int32) (x4 : Int32) (x5 : Int32) (S : MS), K (.inr (.inl (x1, x2, x3, x4, x5))) S → ∀ (H : Heap) (locs : List Loc), va_P (dC, dI) vwCl (wM q cI cJ cZ S) H → va_D A (wM q cI cJ cZ S) → va_S A s.heap H locs → ∀ ls : Array Slot, lv_has ls 7 [(0, .ref (q 0)), (1, .int x1), (2, .int x2), (3, .int x3), (4, .int x4), (5, .int x5)] → W p l e (headSpec ww_liars ({ frames := 0, cells := 0, slots := 0, locals := 0 } : Room)).room s m args below meth c H locs 0 0 (MQ below (va_Qi Post (atM dC dI q cI cJ cZ A) A) args s 0 0 A) (F0 m 28 ls [])) (hK2 : ∀ (x1 : Int32) (x2 : Int32) (x3 : Int32) (x4 : Int32) (x5 : Int32) (S : MS), K (.inr (.inr (x1, x2, x3, x4, x5))) S → ∀ (H : Heap) (locs : List Loc), va_P (dC, dI) vwCl (wM q cI cJ cZ S) H → va_D A (wM q cI cJ cZ S) → va_S A s.heap H locs → ∀ ls : Array Slot, lv_has ls 7 [(0, .ref (q 0)), (1, .int x1), (2, .int x2), (3, .int x3), (4, .int x4), (5, .int x5)] → W p l e (headSpec ww_liars ({ frames := 0, cells := 0, slots := 0, locals := 0 } : Room)).room s m args below meth c H locs 0 0 (MQ below (va_Qi Post (atM dC dI q cI cJ cZ A) A) args s 0 0 A) (F0 m 132 ls [])) (x1 : Int32) (x2 : Int32) (S : MS) (h : B_liars Post K (.inl (x1, x2)) S) : ∀ (H : Heap) (locs : List Loc), va_P (dC, dI) vwCl (wM q cI cJ cZ S) H → va_D A (wM q cI cJ cZ S) → va_S A s.heap H locs → ∀ ls : Array Slot, lv_has ls 7 [(0, .ref (q 0)), (1, .int x1), (2, .int x2)] → W p l e (headSpec ww_liars ({ frames := 0, cells := 0, slots := 0, locals := 0 } : Room)).room s m args below meth c H locs 0 0 (MQ below (va_Qi Post (atM dC dI q cI cJ cZ A) A) args s 0 0 A) (F0 m 4 ls []) := by
  have hx := X.1
  have hb := X.2.1
  intro H locs hP hD hS ls hl
  have lk7 := X.2.2.2.2.1 (.fieldLink RX12 7 "BreathOnLoanModel" "a" "[I") (inW 5 rfl)
  dsimp only [B_liars] at h
  refine lv_iload_n hx hb (dk DX12_liars 4 rfl) rfl (lv_at hl 2 rfl) ?_
  refine lv_aload_n hx hb (dk DX12_liars 5 rfl) rfl (lv_at hl 0 rfl) ?_
  refine gM X hP 0 (by decide) rfl lk7 (dk DX12_liars 6 rfl) ?_
  refine lv_bipush (v := 8) hx hb (dk DX12_liars 7 rfl) (by decide) ?_
  obtain ⟨hin, h⟩ := h
  refine ldM X hP 1 rfl hin (dk DX12_liars 8 rfl) ?_
  refine lv_icmp_ge (tgt := 260) hx hb (dk DX12_liars 9 rfl) (by decide) (fun hc => ?_) (fun hc => ?_)
  · have h := h.1 hc
    refine lv_iload_n hx hb (dk DX12_liars 157 rfl) rfl (lv_at hl 1 rfl) ?_
    exact W.iret (v := x1) hx hb hr (fun t ht hW => ⟨⟨_, _, rfl, h, by rw [ht]; exact hP, va_K.moved hW.alike X.2.2.2.2.2.2.1, hD⟩, hS.F ht⟩) hS.2.2 (dk DX12_liars 158 rfl)
  · have h := h.2 hc
    refine lv_bipush (v := 70) hx hb (dk DX12_liars 10 rfl) (by decide) ?_
    refine lv_iconst (v := 4) hx hb (dk DX12_liars 11 rfl) (by decide) ?_
    refine lv_iload_n hx hb (dk DX12_liars 12 rfl) rfl (lv_at hl 2 rfl) ?_
    refine lv_imul hx hb (dk DX12_liars 13 rfl) ?_
    refine lv_iadd hx hb (dk DX12_liars 14 rfl) ?_
    refine lv_topi (fun v1 ev1 => ?_)
    have h := h v1 ev1
    refine lv_istore_n (lv' := [(3, .int v1), (0, .ref (q 0)), (1, .int x1), (2, .int x2)]) hx hb (dk DX12_liars 15 rfl) rfl hl (by decide) rfl (fun ls hl => ?_)
    refine lv_iconst (v := 0) hx hb (dk DX12_liars 16 rfl) (by decide) ?_
    refine lv_istore (lv' := [(4, .int 0), (3, .int v1), (0, .ref (q 0)), (1, .int x1), (2, .int x2)]) hx hb (dk DX12_liars 17 rfl) hl (by decide) rfl (fun ls hl => ?_)
    refine lv_iconst (v := 0) hx hb (dk DX12_liars 18 rfl) (by decide) ?_
    refine lv_istore (lv' := [(5, .int 0), (4, .int 0), (3, .int v1), (0, .ref (q 0)), (1, .int x1), (2, .int x2)]) hx hb (dk DX12_liars 19 rfl) hl (by decide) rfl (fun ls hl => ?_)
    exact hK1 x1 x2 v1 0 0 S h _ _ hP hD hS ls (lv_sub hl [3, 4, 5, 2, 1, 0] rfl)
set_option maxHeartbeats 4000000 in
set_option maxRecDepth 100000 in
theorem h_liars_1 {p : Program} {l : Launch} {e : Env} {s : State} {m : MethodId} {below : List Frame} {meth : Method} {c : Code} {dC : Nat → ClassId} {dI : Nat → Nat → Nat} {q : Nat → Nat} {cI cJ cZ : ClassId} {A : Nat → Prop} {args : Array Value} {Post : Int32 → MS → Prop} {K : Hd_liars → MS → Prop} (X : XM p s m args c cX12_liars 7 ww_liars dC dI cI cJ cZ A) (hr : meth.sig.returnType = (some .int)) (hlocks : meth.locks = false) (hK0 : ∀ (x1 : Int32) (x2 : Int32) (S : MS), K (.inl (x1, x2)) S → ∀ (H : Heap) (locs : List Loc), va_P (dC, dI) vwCl (wM q cI cJ cZ S) H → va_D A (wM q cI cJ cZ S) → va_S A s.heap H locs → ∀ ls : Array Slot, lv_has ls 7 [(0, .ref (q 0)), (1, .int x1), (2, .int x2)] → W p l e (headSpec ww_liars ({ frames := 0, cells := 0, slots := 0, locals := 0 } : Room)).room s m args below meth c H locs 0 0 (MQ below (va_Qi Post (atM dC dI q cI cJ cZ A) A) args s 0 0 A) (F0 m 4 ls [])) (hK1 : ∀ (x1 : Int32) (x2 : Int32) (x3 : Int32) (x4 : Int32) (x5 : Int32) (S : MS), K (.inr (.inl (x1, x2, x3, x4, x5))) S → ∀ (H : Heap) (locs : List Loc), va_P (dC, dI) vwCl (wM q cI cJ cZ S) H → va_D A (wM q cI cJ cZ S) → va_S A s.heap H locs → ∀ ls : Array Slot, lv_has ls 7 [(0, .ref (q 0)), (1, .int x1), (2, .int x2), (3, .int x3), (4, .int x4), (5, .int x5)] → W p l e (headSpec ww_liars ({ frames := 0, cells := 0, slots := 0, locals := 0 } : Room)).room s m args below meth c H locs 0 0 (MQ below (va_Qi Post (atM dC dI q cI cJ cZ A) A) args s 0 0 A) (F0 m 28 ls [])) (hK2 : ∀ (x1 : Int32) (x2 : Int32) (x3 : Int32) (x4 : Int32) (x5 : Int32) (S : MS), K (.inr (.inr (x1, x2, x3, x4, x5))) S → ∀ (H : Heap) (locs : List Loc), va_P (dC, dI) vwCl (wM q cI cJ cZ S) H → va_D A (wM q cI cJ cZ S) → va_S A s.heap H locs → ∀ ls : Array Slot, lv_has ls 7 [(0, .ref (q 0)), (1, .int x1), (2, .int x2), (3, .int x3), (4, .int x4), (5, .int x5)] → W p l e (headSpec ww_liars ({ frames := 0, cells := 0, slots := 0, locals := 0 } : Room)).room s m args below meth c H locs 0 0 (MQ below (va_Qi Post (atM dC dI q cI cJ cZ A) A) args s 0 0 A) (F0 m 132 ls [])) (x1 : Int32) (x2 : Int32) (x3 : Int32) (x4 : Int32) (x5 : Int32) (S : MS) (h : B_liars Post K (.inr (.inl (x1, x2, x3, x4, x5))) S) : ∀ (H : Heap) (locs : List Loc), va_P (dC, dI) vwCl (wM q cI cJ cZ S) H → va_D A (wM q cI cJ cZ S) → va_S A s.heap H locs → ∀ ls : Array Slot, lv_has ls 7 [(0, .ref (q 0)), (1, .int x1), (2, .int x2), (3, .int x3), (4, .int x4), (5, .int x5)] → W p l e (headSpec ww_liars ({ frames := 0, cells := 0, slots := 0, locals := 0 } : Room)).room s m args below meth c H locs 0 0 (MQ below (va_Qi Post (atM dC dI q cI cJ cZ A) A) args s 0 0 A) (F0 m 28 ls []) := by
  have hx := X.1
  have hb := X.2.1
  intro H locs hP hD hS ls hl
  have lk7 := X.2.2.2.2.1 (.fieldLink RX12 7 "BreathOnLoanModel" "a" "[I") (inW 5 rfl)
  dsimp only [B_liars] at h
  refine lv_iload hx hb (dk DX12_liars 20 rfl) (lv_at hl 5 rfl) ?_
  refine lv_aload_n hx hb (dk DX12_liars 21 rfl) rfl (lv_at hl 0 rfl) ?_
  refine gM X hP 0 (by decide) rfl lk7 (dk DX12_liars 22 rfl) ?_
  refine lv_bipush (v := 8) hx hb (dk DX12_liars 23 rfl) (by decide) ?_
  obtain ⟨hin, h⟩ := h
  refine ldM X hP 1 rfl hin (dk DX12_liars 24 rfl) ?_
  refine lv_icmp_ge (tgt := 129) hx hb (dk DX12_liars 25 rfl) (by decide) (fun hc => ?_) (fun hc => ?_)
  · have h := h.1 hc
    refine lv_iconst (v := 0) hx hb (dk DX12_liars 80 rfl) (by decide) ?_
    refine lv_istore (lv' := [(5, .int 0), (0, .ref (q 0)), (1, .int x1), (2, .int x2), (3, .int x3), (4, .int x4)]) hx hb (dk DX12_liars 81 rfl) hl (by decide) rfl (fun ls hl => ?_)
    exact hK2 x1 x2 x3 x4 0 S h _ _ hP hD hS ls (lv_sub hl [1, 2, 3, 4, 5, 0] rfl)
  · have h := h.2 hc
    refine lv_bipush (v := 70) hx hb (dk DX12_liars 26 rfl) (by decide) ?_
    refine lv_iconst (v := 4) hx hb (dk DX12_liars 27 rfl) (by decide) ?_
    refine lv_iload hx hb (dk DX12_liars 28 rfl) (lv_at hl 5 rfl) ?_
    refine lv_imul hx hb (dk DX12_liars 29 rfl) ?_
    refine lv_iadd hx hb (dk DX12_liars 30 rfl) ?_
    refine lv_topi (fun v2 ev2 => ?_)
    have h := h v2 ev2
    refine lv_istore (lv' := [(6, .int v2), (0, .ref (q 0)), (1, .int x1), (2, .int x2), (3, .int x3), (4, .int x4), (5, .int x5)]) hx hb (dk DX12_liars 31 rfl) hl (by decide) rfl (fun ls hl => ?_)
    refine lv_iload hx hb (dk DX12_liars 32 rfl) (lv_at hl 5 rfl) ?_
    refine lv_aload_n hx hb (dk DX12_liars 33 rfl) rfl (lv_at hl 1 rfl) ?_
    refine gM X hP 0 (by decide) rfl lk7 (dk DX12_liars 34 rfl) ?_
    refine lv_iload hx hb (dk DX12_liars 35 rfl) (lv_at hl 0 rfl) ?_
    obtain ⟨hin, h⟩ := h
    refine ldM X hP 1 rfl hin (dk DX12_liars 36 rfl) ?_
    refine lv_aload_n hx hb (dk DX12_liars 37 rfl) rfl (lv_at hl 1 rfl) ?_
    refine gM X hP 0 (by decide) rfl lk7 (dk DX12_liars 38 rfl) ?_
    refine lv_iload_n hx hb (dk DX12_liars 39 rfl) rfl (lv_at hl 4 rfl) ?_
    obtain ⟨hin, h⟩ := h
    refine ldM X hP 1 rfl hin (dk DX12_liars 40 rfl) ?_
    refine lv_icmp_ne (tgt := 119) hx hb (dk DX12_liars 41 rfl) (by decide) (fun hc => ?_) (fun hc => ?_)
    · have h := h.1 hc
      refine lv_iconst (v := 0) hx hb (dk DX12_liars 75 rfl) (by decide) ?_
      refine lv_iadd hx hb (dk DX12_liars 76 rfl) ?_
      refine lv_topi (fun v3 ev3 => ?_)
      have h := h v3 ev3
      refine lv_istore (lv' := [(4, .int v3), (6, .int v2), (0, .ref (q 0)), (1, .int x1), (2, .int x2), (3, .int x3), (5, .int x5)]) hx hb (dk DX12_liars 77 rfl) hl (by decide) rfl (fun ls hl => ?_)
      obtain ⟨v4, ev4⟩ : ∃ y : Int32, y = x5 + 1 := ⟨_, rfl⟩
      have h := h v4 ev4
      refine lv_iinc (v := v4) (lv' := [(5, .int v4), (4, .int v3), (6, .int v2), (0, .ref (q 0)), (1, .int x1), (2, .int x2), (3, .int x3)]) hx hb (dk DX12_liars 78 rfl) hl (k := 6) rfl (by rw [ev4]; rfl) (by decide) rfl (fun ls hl => ?_)
      refine lv_goto (tgt := 28) hx hb (dk DX12_liars 79 rfl) (by decide) ?_
      exact hK1 x1 x2 x3 v3 v4 S h _ _ hP hD hS ls (lv_sub hl [3, 4, 5, 6, 1, 0] rfl)
    · have h := h.2 hc
      refine lv_aload_n hx hb (dk DX12_liars 42 rfl) rfl (lv_at hl 1 rfl) ?_
      refine gM X hP 0 (by decide) rfl lk7 (dk DX12_liars 43 rfl) ?_
      refine lv_iload hx hb (dk DX12_liars 44 rfl) (lv_at hl 0 rfl) ?_
      refine lv_iconst (v := 1) hx hb (dk DX12_liars 45 rfl) (by decide) ?_
      refine lv_iadd hx hb (dk DX12_liars 46 rfl) ?_
      obtain ⟨hin, h⟩ := h
      refine ldM X hP 1 rfl hin (dk DX12_liars 47 rfl) ?_
      refine lv_aload_n hx hb (dk DX12_liars 48 rfl) rfl (lv_at hl 1 rfl) ?_
      refine gM X hP 0 (by decide) rfl lk7 (dk DX12_liars 49 rfl) ?_
      refine lv_iload_n hx hb (dk DX12_liars 50 rfl) rfl (lv_at hl 4 rfl) ?_
      refine lv_iconst (v := 1) hx hb (dk DX12_liars 51 rfl) (by decide) ?_
      refine lv_iadd hx hb (dk DX12_liars 52 rfl) ?_
      obtain ⟨hin, h⟩ := h
      refine ldM X hP 1 rfl hin (dk DX12_liars 53 rfl) ?_
      refine lv_icmp_ne (tgt := 119) hx hb (dk DX12_liars 54 rfl) (by decide) (fun hc => ?_) (fun hc => ?_)
      · have h := h.1 hc
        refine lv_iconst (v := 0) hx hb (dk DX12_liars 75 rfl) (by decide) ?_
        refine lv_iadd hx hb (dk DX12_liars 76 rfl) ?_
        refine lv_topi (fun v5 ev5 => ?_)
        have h := h v5 ev5
        refine lv_istore (lv' := [(4, .int v5), (6, .int v2), (0, .ref (q 0)), (1, .int x1), (2, .int x2), (3, .int x3), (5, .int x5)]) hx hb (dk DX12_liars 77 rfl) hl (by decide) rfl (fun ls hl => ?_)
        obtain ⟨v6, ev6⟩ : ∃ y : Int32, y = x5 + 1 := ⟨_, rfl⟩
        have h := h v6 ev6
        refine lv_iinc (v := v6) (lv' := [(5, .int v6), (4, .int v5), (6, .int v2), (0, .ref (q 0)), (1, .int x1), (2, .int x2), (3, .int x3)]) hx hb (dk DX12_liars 78 rfl) hl (k := 6) rfl (by rw [ev6]; rfl) (by decide) rfl (fun ls hl => ?_)
        refine lv_goto (tgt := 28) hx hb (dk DX12_liars 79 rfl) (by decide) ?_
        exact hK1 x1 x2 x3 v5 v6 S h _ _ hP hD hS ls (lv_sub hl [3, 4, 5, 6, 1, 0] rfl)
      · have h := h.2 hc
        refine lv_aload_n hx hb (dk DX12_liars 55 rfl) rfl (lv_at hl 1 rfl) ?_
        refine gM X hP 0 (by decide) rfl lk7 (dk DX12_liars 56 rfl) ?_
        refine lv_iload hx hb (dk DX12_liars 57 rfl) (lv_at hl 0 rfl) ?_
        refine lv_iconst (v := 3) hx hb (dk DX12_liars 58 rfl) (by decide) ?_
        refine lv_iadd hx hb (dk DX12_liars 59 rfl) ?_
        obtain ⟨hin, h⟩ := h
        refine ldM X hP 1 rfl hin (dk DX12_liars 60 rfl) ?_
        refine lv_aload_n hx hb (dk DX12_liars 61 rfl) rfl (lv_at hl 1 rfl) ?_
        refine gM X hP 0 (by decide) rfl lk7 (dk DX12_liars 62 rfl) ?_
        refine lv_iload_n hx hb (dk DX12_liars 63 rfl) rfl (lv_at hl 4 rfl) ?_
        refine lv_iconst (v := 3) hx hb (dk DX12_liars 64 rfl) (by decide) ?_
        refine lv_iadd hx hb (dk DX12_liars 65 rfl) ?_
        obtain ⟨hin, h⟩ := h
        refine ldM X hP 1 rfl hin (dk DX12_liars 66 rfl) ?_
        refine lv_icmp_ne (tgt := 119) hx hb (dk DX12_liars 67 rfl) (by decide) (fun hc => ?_) (fun hc => ?_)
        · have h := h.1 hc
          refine lv_iconst (v := 0) hx hb (dk DX12_liars 75 rfl) (by decide) ?_
          refine lv_iadd hx hb (dk DX12_liars 76 rfl) ?_
          refine lv_topi (fun v7 ev7 => ?_)
          have h := h v7 ev7
          refine lv_istore (lv' := [(4, .int v7), (6, .int v2), (0, .ref (q 0)), (1, .int x1), (2, .int x2), (3, .int x3), (5, .int x5)]) hx hb (dk DX12_liars 77 rfl) hl (by decide) rfl (fun ls hl => ?_)
          obtain ⟨v8, ev8⟩ : ∃ y : Int32, y = x5 + 1 := ⟨_, rfl⟩
          have h := h v8 ev8
          refine lv_iinc (v := v8) (lv' := [(5, .int v8), (4, .int v7), (6, .int v2), (0, .ref (q 0)), (1, .int x1), (2, .int x2), (3, .int x3)]) hx hb (dk DX12_liars 78 rfl) hl (k := 6) rfl (by rw [ev8]; rfl) (by decide) rfl (fun ls hl => ?_)
          refine lv_goto (tgt := 28) hx hb (dk DX12_liars 79 rfl) (by decide) ?_
          exact hK1 x1 x2 x3 v7 v8 S h _ _ hP hD hS ls (lv_sub hl [3, 4, 5, 6, 1, 0] rfl)
        · have h := h.2 hc
          refine lv_aload_n hx hb (dk DX12_liars 68 rfl) rfl (lv_at hl 1 rfl) ?_
          refine gM X hP 0 (by decide) rfl lk7 (dk DX12_liars 69 rfl) ?_
          refine lv_iload hx hb (dk DX12_liars 70 rfl) (lv_at hl 0 rfl) ?_
          refine lv_iconst (v := 2) hx hb (dk DX12_liars 71 rfl) (by decide) ?_
          refine lv_iadd hx hb (dk DX12_liars 72 rfl) ?_
          obtain ⟨hin, h⟩ := h
          refine ldM X hP 1 rfl hin (dk DX12_liars 73 rfl) ?_
          refine lv_goto (tgt := 120) hx hb (dk DX12_liars 74 rfl) (by decide) ?_
          refine lv_iadd hx hb (dk DX12_liars 76 rfl) ?_
          refine lv_topi (fun v9 ev9 => ?_)
          have h := h v9 ev9
          refine lv_istore (lv' := [(4, .int v9), (6, .int v2), (0, .ref (q 0)), (1, .int x1), (2, .int x2), (3, .int x3), (5, .int x5)]) hx hb (dk DX12_liars 77 rfl) hl (by decide) rfl (fun ls hl => ?_)
          obtain ⟨v10, ev10⟩ : ∃ y : Int32, y = x5 + 1 := ⟨_, rfl⟩
          have h := h v10 ev10
          refine lv_iinc (v := v10) (lv' := [(5, .int v10), (4, .int v9), (6, .int v2), (0, .ref (q 0)), (1, .int x1), (2, .int x2), (3, .int x3)]) hx hb (dk DX12_liars 78 rfl) hl (k := 6) rfl (by rw [ev10]; rfl) (by decide) rfl (fun ls hl => ?_)
          refine lv_goto (tgt := 28) hx hb (dk DX12_liars 79 rfl) (by decide) ?_
          exact hK1 x1 x2 x3 v9 v10 S h _ _ hP hD hS ls (lv_sub hl [3, 4, 5, 6, 1, 0] rfl)
set_option maxHeartbeats 4000000 in
set_option maxRecDepth 100000 in
theorem h_liars_2 {p : Program} {l : Launch} {e : Env} {s : State} {m : MethodId} {below : List Frame} {meth : Method} {c : Code} {dC : Nat → ClassId} {dI : Nat → Nat → Nat} {q : Nat → Nat} {cI cJ cZ : ClassId} {A : Nat → Prop} {args : Array Value} {Post : Int32 → MS → Prop} {K : Hd_liars → MS → Prop} (X : XM p s m args c cX12_liars 7 ww_liars dC dI cI cJ cZ A) (hr : meth.sig.returnType = (some .int)) (hlocks : meth.locks = false) (hK0 : ∀ (x1 : Int32) (x2 : Int32) (S : MS), K (.inl (x1, x2)) S → ∀ (H : Heap) (locs : List Loc), va_P (dC, dI) vwCl (wM q cI cJ cZ S) H → va_D A (wM q cI cJ cZ S) → va_S A s.heap H locs → ∀ ls : Array Slot, lv_has ls 7 [(0, .ref (q 0)), (1, .int x1), (2, .int x2)] → W p l e (headSpec ww_liars ({ frames := 0, cells := 0, slots := 0, locals := 0 } : Room)).room s m args below meth c H locs 0 0 (MQ below (va_Qi Post (atM dC dI q cI cJ cZ A) A) args s 0 0 A) (F0 m 4 ls [])) (hK1 : ∀ (x1 : Int32) (x2 : Int32) (x3 : Int32) (x4 : Int32) (x5 : Int32) (S : MS), K (.inr (.inl (x1, x2, x3, x4, x5))) S → ∀ (H : Heap) (locs : List Loc), va_P (dC, dI) vwCl (wM q cI cJ cZ S) H → va_D A (wM q cI cJ cZ S) → va_S A s.heap H locs → ∀ ls : Array Slot, lv_has ls 7 [(0, .ref (q 0)), (1, .int x1), (2, .int x2), (3, .int x3), (4, .int x4), (5, .int x5)] → W p l e (headSpec ww_liars ({ frames := 0, cells := 0, slots := 0, locals := 0 } : Room)).room s m args below meth c H locs 0 0 (MQ below (va_Qi Post (atM dC dI q cI cJ cZ A) A) args s 0 0 A) (F0 m 28 ls [])) (hK2 : ∀ (x1 : Int32) (x2 : Int32) (x3 : Int32) (x4 : Int32) (x5 : Int32) (S : MS), K (.inr (.inr (x1, x2, x3, x4, x5))) S → ∀ (H : Heap) (locs : List Loc), va_P (dC, dI) vwCl (wM q cI cJ cZ S) H → va_D A (wM q cI cJ cZ S) → va_S A s.heap H locs → ∀ ls : Array Slot, lv_has ls 7 [(0, .ref (q 0)), (1, .int x1), (2, .int x2), (3, .int x3), (4, .int x4), (5, .int x5)] → W p l e (headSpec ww_liars ({ frames := 0, cells := 0, slots := 0, locals := 0 } : Room)).room s m args below meth c H locs 0 0 (MQ below (va_Qi Post (atM dC dI q cI cJ cZ A) A) args s 0 0 A) (F0 m 132 ls [])) (x1 : Int32) (x2 : Int32) (x3 : Int32) (x4 : Int32) (x5 : Int32) (S : MS) (h : B_liars Post K (.inr (.inr (x1, x2, x3, x4, x5))) S) : ∀ (H : Heap) (locs : List Loc), va_P (dC, dI) vwCl (wM q cI cJ cZ S) H → va_D A (wM q cI cJ cZ S) → va_S A s.heap H locs → ∀ ls : Array Slot, lv_has ls 7 [(0, .ref (q 0)), (1, .int x1), (2, .int x2), (3, .int x3), (4, .int x4), (5, .int x5)] → W p l e (headSpec ww_liars ({ frames := 0, cells := 0, slots := 0, locals := 0 } : Room)).room s m args below meth c H locs 0 0 (MQ below (va_Qi Post (atM dC dI q cI cJ cZ A) A) args s 0 0 A) (F0 m 132 ls []) := by
  have hx := X.1
  have hb := X.2.1
  intro H locs hP hD hS ls hl
  have lk7 := X.2.2.2.2.1 (.fieldLink RX12 7 "BreathOnLoanModel" "a" "[I") (inW 5 rfl)
  dsimp only [B_liars] at h
  refine lv_iload hx hb (dk DX12_liars 82 rfl) (lv_at hl 5 rfl) ?_
  refine lv_aload_n hx hb (dk DX12_liars 83 rfl) rfl (lv_at hl 0 rfl) ?_
  refine gM X hP 0 (by decide) rfl lk7 (dk DX12_liars 84 rfl) ?_
  refine lv_bipush (v := 9) hx hb (dk DX12_liars 85 rfl) (by decide) ?_
  obtain ⟨hin, h⟩ := h
  refine ldM X hP 1 rfl hin (dk DX12_liars 86 rfl) ?_
  refine lv_icmp_ge (tgt := 234) hx hb (dk DX12_liars 87 rfl) (by decide) (fun hc => ?_) (fun hc => ?_)
  · have h := h.1 hc
    refine lv_iload_n hx hb (dk DX12_liars 142 rfl) rfl (lv_at hl 1 rfl) ?_
    refine lv_iload hx hb (dk DX12_liars 143 rfl) (lv_at hl 4 rfl) ?_
    refine lv_if_le (tgt := 251) hx hb (dk DX12_liars 144 rfl) (by decide) (fun hc => ?_) (fun hc => ?_)
    · have h := h.1 hc
      refine lv_iconst (v := 0) hx hb (dk DX12_liars 152 rfl) (by decide) ?_
      refine lv_ior hx hb (dk DX12_liars 153 rfl) ?_
      refine lv_topi (fun v11 ev11 => ?_)
      have h := h v11 ev11
      refine lv_istore_n (lv' := [(1, .int v11), (0, .ref (q 0)), (2, .int x2), (3, .int x3), (4, .int x4), (5, .int x5)]) hx hb (dk DX12_liars 154 rfl) rfl hl (by decide) rfl (fun ls hl => ?_)
      obtain ⟨v12, ev12⟩ : ∃ y : Int32, y = x2 + 1 := ⟨_, rfl⟩
      have h := h v12 ev12
      refine lv_iinc (v := v12) (lv' := [(2, .int v12), (1, .int v11), (0, .ref (q 0)), (3, .int x3), (4, .int x4), (5, .int x5)]) hx hb (dk DX12_liars 155 rfl) hl (k := 2) rfl (by rw [ev12]; rfl) (by decide) rfl (fun ls hl => ?_)
      refine lv_goto (tgt := 4) hx hb (dk DX12_liars 156 rfl) (by decide) ?_
      exact hK0 v11 v12 S h _ _ hP hD hS ls (lv_sub hl [2, 1, 0] rfl)
    · have h := h.2 hc
      refine lv_iconst (v := 1) hx hb (dk DX12_liars 145 rfl) (by decide) ?_
      refine lv_aload_n hx hb (dk DX12_liars 146 rfl) rfl (lv_at hl 0 rfl) ?_
      refine gM X hP 0 (by decide) rfl lk7 (dk DX12_liars 147 rfl) ?_
      refine lv_iload_n hx hb (dk DX12_liars 148 rfl) rfl (lv_at hl 3 rfl) ?_
      obtain ⟨hin, h⟩ := h
      refine ldM X hP 1 rfl hin (dk DX12_liars 149 rfl) ?_
      refine lv_ishl hx hb (dk DX12_liars 150 rfl) ?_
      refine lv_goto (tgt := 252) hx hb (dk DX12_liars 151 rfl) (by decide) ?_
      refine lv_ior hx hb (dk DX12_liars 153 rfl) ?_
      refine lv_topi (fun v13 ev13 => ?_)
      have h := h v13 ev13
      refine lv_istore_n (lv' := [(1, .int v13), (0, .ref (q 0)), (2, .int x2), (3, .int x3), (4, .int x4), (5, .int x5)]) hx hb (dk DX12_liars 154 rfl) rfl hl (by decide) rfl (fun ls hl => ?_)
      obtain ⟨v14, ev14⟩ : ∃ y : Int32, y = x2 + 1 := ⟨_, rfl⟩
      have h := h v14 ev14
      refine lv_iinc (v := v14) (lv' := [(2, .int v14), (1, .int v13), (0, .ref (q 0)), (3, .int x3), (4, .int x4), (5, .int x5)]) hx hb (dk DX12_liars 155 rfl) hl (k := 2) rfl (by rw [ev14]; rfl) (by decide) rfl (fun ls hl => ?_)
      refine lv_goto (tgt := 4) hx hb (dk DX12_liars 156 rfl) (by decide) ?_
      exact hK0 v13 v14 S h _ _ hP hD hS ls (lv_sub hl [2, 1, 0] rfl)
  · have h := h.2 hc
    refine lv_sipush (v := 250) hx hb (dk DX12_liars 88 rfl) (by decide) ?_
    refine lv_iconst (v := 4) hx hb (dk DX12_liars 89 rfl) (by decide) ?_
    refine lv_iload hx hb (dk DX12_liars 90 rfl) (lv_at hl 5 rfl) ?_
    refine lv_imul hx hb (dk DX12_liars 91 rfl) ?_
    refine lv_iadd hx hb (dk DX12_liars 92 rfl) ?_
    refine lv_topi (fun v15 ev15 => ?_)
    have h := h v15 ev15
    refine lv_istore (lv' := [(6, .int v15), (0, .ref (q 0)), (1, .int x1), (2, .int x2), (3, .int x3), (4, .int x4), (5, .int x5)]) hx hb (dk DX12_liars 93 rfl) hl (by decide) rfl (fun ls hl => ?_)
    refine lv_iload hx hb (dk DX12_liars 94 rfl) (lv_at hl 5 rfl) ?_
    refine lv_aload_n hx hb (dk DX12_liars 95 rfl) rfl (lv_at hl 1 rfl) ?_
    refine gM X hP 0 (by decide) rfl lk7 (dk DX12_liars 96 rfl) ?_
    refine lv_iload hx hb (dk DX12_liars 97 rfl) (lv_at hl 0 rfl) ?_
    refine lv_iconst (v := 1) hx hb (dk DX12_liars 98 rfl) (by decide) ?_
    refine lv_iadd hx hb (dk DX12_liars 99 rfl) ?_
    obtain ⟨hin, h⟩ := h
    refine ldM X hP 1 rfl hin (dk DX12_liars 100 rfl) ?_
    refine lv_aload_n hx hb (dk DX12_liars 101 rfl) rfl (lv_at hl 1 rfl) ?_
    refine gM X hP 0 (by decide) rfl lk7 (dk DX12_liars 102 rfl) ?_
    refine lv_iload_n hx hb (dk DX12_liars 103 rfl) rfl (lv_at hl 4 rfl) ?_
    obtain ⟨hin, h⟩ := h
    refine ldM X hP 1 rfl hin (dk DX12_liars 104 rfl) ?_
    refine lv_icmp_ne (tgt := 224) hx hb (dk DX12_liars 105 rfl) (by decide) (fun hc => ?_) (fun hc => ?_)
    · have h := h.1 hc
      refine lv_iconst (v := 0) hx hb (dk DX12_liars 137 rfl) (by decide) ?_
      refine lv_isub hx hb (dk DX12_liars 138 rfl) ?_
      refine lv_topi (fun v16 ev16 => ?_)
      have h := h v16 ev16
      refine lv_istore (lv' := [(4, .int v16), (6, .int v15), (0, .ref (q 0)), (1, .int x1), (2, .int x2), (3, .int x3), (5, .int x5)]) hx hb (dk DX12_liars 139 rfl) hl (by decide) rfl (fun ls hl => ?_)
      obtain ⟨v17, ev17⟩ : ∃ y : Int32, y = x5 + 1 := ⟨_, rfl⟩
      have h := h v17 ev17
      refine lv_iinc (v := v17) (lv' := [(5, .int v17), (4, .int v16), (6, .int v15), (0, .ref (q 0)), (1, .int x1), (2, .int x2), (3, .int x3)]) hx hb (dk DX12_liars 140 rfl) hl (k := 6) rfl (by rw [ev17]; rfl) (by decide) rfl (fun ls hl => ?_)
      refine lv_goto (tgt := 132) hx hb (dk DX12_liars 141 rfl) (by decide) ?_
      exact hK2 x1 x2 x3 v16 v17 S h _ _ hP hD hS ls (lv_sub hl [3, 4, 5, 6, 1, 0] rfl)
    · have h := h.2 hc
      refine lv_aload_n hx hb (dk DX12_liars 106 rfl) rfl (lv_at hl 1 rfl) ?_
      refine gM X hP 0 (by decide) rfl lk7 (dk DX12_liars 107 rfl) ?_
      refine lv_iload hx hb (dk DX12_liars 108 rfl) (lv_at hl 0 rfl) ?_
      obtain ⟨hin, h⟩ := h
      refine ldM X hP 1 rfl hin (dk DX12_liars 109 rfl) ?_
      refine lv_aload_n hx hb (dk DX12_liars 110 rfl) rfl (lv_at hl 1 rfl) ?_
      refine gM X hP 0 (by decide) rfl lk7 (dk DX12_liars 111 rfl) ?_
      refine lv_iload_n hx hb (dk DX12_liars 112 rfl) rfl (lv_at hl 4 rfl) ?_
      refine lv_iconst (v := 1) hx hb (dk DX12_liars 113 rfl) (by decide) ?_
      refine lv_iadd hx hb (dk DX12_liars 114 rfl) ?_
      obtain ⟨hin, h⟩ := h
      refine ldM X hP 1 rfl hin (dk DX12_liars 115 rfl) ?_
      refine lv_icmp_ne (tgt := 224) hx hb (dk DX12_liars 116 rfl) (by decide) (fun hc => ?_) (fun hc => ?_)
      · have h := h.1 hc
        refine lv_iconst (v := 0) hx hb (dk DX12_liars 137 rfl) (by decide) ?_
        refine lv_isub hx hb (dk DX12_liars 138 rfl) ?_
        refine lv_topi (fun v18 ev18 => ?_)
        have h := h v18 ev18
        refine lv_istore (lv' := [(4, .int v18), (6, .int v15), (0, .ref (q 0)), (1, .int x1), (2, .int x2), (3, .int x3), (5, .int x5)]) hx hb (dk DX12_liars 139 rfl) hl (by decide) rfl (fun ls hl => ?_)
        obtain ⟨v19, ev19⟩ : ∃ y : Int32, y = x5 + 1 := ⟨_, rfl⟩
        have h := h v19 ev19
        refine lv_iinc (v := v19) (lv' := [(5, .int v19), (4, .int v18), (6, .int v15), (0, .ref (q 0)), (1, .int x1), (2, .int x2), (3, .int x3)]) hx hb (dk DX12_liars 140 rfl) hl (k := 6) rfl (by rw [ev19]; rfl) (by decide) rfl (fun ls hl => ?_)
        refine lv_goto (tgt := 132) hx hb (dk DX12_liars 141 rfl) (by decide) ?_
        exact hK2 x1 x2 x3 v18 v19 S h _ _ hP hD hS ls (lv_sub hl [3, 4, 5, 6, 1, 0] rfl)
      · have h := h.2 hc
        refine lv_aload_n hx hb (dk DX12_liars 117 rfl) rfl (lv_at hl 1 rfl) ?_
        refine gM X hP 0 (by decide) rfl lk7 (dk DX12_liars 118 rfl) ?_
        refine lv_iload hx hb (dk DX12_liars 119 rfl) (lv_at hl 0 rfl) ?_
        refine lv_iconst (v := 3) hx hb (dk DX12_liars 120 rfl) (by decide) ?_
        refine lv_iadd hx hb (dk DX12_liars 121 rfl) ?_
        obtain ⟨hin, h⟩ := h
        refine ldM X hP 1 rfl hin (dk DX12_liars 122 rfl) ?_
        refine lv_aload_n hx hb (dk DX12_liars 123 rfl) rfl (lv_at hl 1 rfl) ?_
        refine gM X hP 0 (by decide) rfl lk7 (dk DX12_liars 124 rfl) ?_
        refine lv_iload_n hx hb (dk DX12_liars 125 rfl) rfl (lv_at hl 4 rfl) ?_
        refine lv_iconst (v := 3) hx hb (dk DX12_liars 126 rfl) (by decide) ?_
        refine lv_iadd hx hb (dk DX12_liars 127 rfl) ?_
        obtain ⟨hin, h⟩ := h
        refine ldM X hP 1 rfl hin (dk DX12_liars 128 rfl) ?_
        refine lv_icmp_ne (tgt := 224) hx hb (dk DX12_liars 129 rfl) (by decide) (fun hc => ?_) (fun hc => ?_)
        · have h := h.1 hc
          refine lv_iconst (v := 0) hx hb (dk DX12_liars 137 rfl) (by decide) ?_
          refine lv_isub hx hb (dk DX12_liars 138 rfl) ?_
          refine lv_topi (fun v20 ev20 => ?_)
          have h := h v20 ev20
          refine lv_istore (lv' := [(4, .int v20), (6, .int v15), (0, .ref (q 0)), (1, .int x1), (2, .int x2), (3, .int x3), (5, .int x5)]) hx hb (dk DX12_liars 139 rfl) hl (by decide) rfl (fun ls hl => ?_)
          obtain ⟨v21, ev21⟩ : ∃ y : Int32, y = x5 + 1 := ⟨_, rfl⟩
          have h := h v21 ev21
          refine lv_iinc (v := v21) (lv' := [(5, .int v21), (4, .int v20), (6, .int v15), (0, .ref (q 0)), (1, .int x1), (2, .int x2), (3, .int x3)]) hx hb (dk DX12_liars 140 rfl) hl (k := 6) rfl (by rw [ev21]; rfl) (by decide) rfl (fun ls hl => ?_)
          refine lv_goto (tgt := 132) hx hb (dk DX12_liars 141 rfl) (by decide) ?_
          exact hK2 x1 x2 x3 v20 v21 S h _ _ hP hD hS ls (lv_sub hl [3, 4, 5, 6, 1, 0] rfl)
        · have h := h.2 hc
          refine lv_aload_n hx hb (dk DX12_liars 130 rfl) rfl (lv_at hl 1 rfl) ?_
          refine gM X hP 0 (by decide) rfl lk7 (dk DX12_liars 131 rfl) ?_
          refine lv_iload hx hb (dk DX12_liars 132 rfl) (lv_at hl 0 rfl) ?_
          refine lv_iconst (v := 2) hx hb (dk DX12_liars 133 rfl) (by decide) ?_
          refine lv_iadd hx hb (dk DX12_liars 134 rfl) ?_
          obtain ⟨hin, h⟩ := h
          refine ldM X hP 1 rfl hin (dk DX12_liars 135 rfl) ?_
          refine lv_goto (tgt := 225) hx hb (dk DX12_liars 136 rfl) (by decide) ?_
          refine lv_isub hx hb (dk DX12_liars 138 rfl) ?_
          refine lv_topi (fun v22 ev22 => ?_)
          have h := h v22 ev22
          refine lv_istore (lv' := [(4, .int v22), (6, .int v15), (0, .ref (q 0)), (1, .int x1), (2, .int x2), (3, .int x3), (5, .int x5)]) hx hb (dk DX12_liars 139 rfl) hl (by decide) rfl (fun ls hl => ?_)
          obtain ⟨v23, ev23⟩ : ∃ y : Int32, y = x5 + 1 := ⟨_, rfl⟩
          have h := h v23 ev23
          refine lv_iinc (v := v23) (lv' := [(5, .int v23), (4, .int v22), (6, .int v15), (0, .ref (q 0)), (1, .int x1), (2, .int x2), (3, .int x3)]) hx hb (dk DX12_liars 140 rfl) hl (k := 6) rfl (by rw [ev23]; rfl) (by decide) rfl (fun ls hl => ?_)
          refine lv_goto (tgt := 132) hx hb (dk DX12_liars 141 rfl) (by decide) ?_
          exact hK2 x1 x2 x3 v22 v23 S h _ _ hP hD hS ls (lv_sub hl [3, 4, 5, 6, 1, 0] rfl)
set_option maxHeartbeats 4000000 in
set_option maxRecDepth 100000 in
theorem m_liars {l : Launch} {dC : Nat → ClassId} {dI : Nat → Nat → Nat} {q : Nat → Nat} {cI cJ cZ : ClassId} {sz : Nat} {Post : Int32 → MS → Prop} (S : MS) (h : VC_liars Post S) : Met l yX12_liars ww_liars ({ frames := 0, cells := 0, slots := 0, locals := 0 } : Room) (va_Pc [.ref (q 0)] (preM dC dI q cI cJ cZ S sz)) (va_Qi Post (atM dC dI q cI cJ cZ (va_A (wM q cI cJ cZ S) sz)) (va_A (wM q cI cJ cZ S) sz)) 0 0 (va_A (wM q cI cJ cZ S) sz) := by
  refine oM (cc := cX12_liars) (maxL := 7) (ret := (some .int)) (Qc := fun A => va_Qi Post (atM dC dI q cI cJ cZ A) A) (by decide) rfl (fun w h => List.mem_cons_of_mem _ (List.mem_append_right _ h)) rfl (Nat.le_of_ble_eq_true rfl) (fun p e s m below meth c A ls X hr hlocks hP hD hS hl => ?_)
  have hx := X.1
  have hb := X.2.1
  have hl : lv_has ls 7 [(0, .ref (q 0))] := hl
  have lk7 := X.2.2.2.2.1 (.fieldLink RX12 7 "BreathOnLoanModel" "a" "[I") (inW 5 rfl)
  generalize hargs : ([.ref (q 0)] : List Value).toArray = args at X ⊢
  have h := h (fun hd S => match hd with | (.inl (x1, x2)) => ∀ (H : Heap) (locs : List Loc), va_P (dC, dI) vwCl (wM q cI cJ cZ S) H → va_D A (wM q cI cJ cZ S) → va_S A s.heap H locs → ∀ ls : Array Slot, lv_has ls 7 [(0, .ref (q 0)), (1, .int x1), (2, .int x2)] → W p l e (headSpec ww_liars ({ frames := 0, cells := 0, slots := 0, locals := 0 } : Room)).room s m args below meth c H locs 0 0 (MQ below (va_Qi Post (atM dC dI q cI cJ cZ A) A) args s 0 0 A) (F0 m 4 ls []) | (.inr (.inl (x1, x2, x3, x4, x5))) => ∀ (H : Heap) (locs : List Loc), va_P (dC, dI) vwCl (wM q cI cJ cZ S) H → va_D A (wM q cI cJ cZ S) → va_S A s.heap H locs → ∀ ls : Array Slot, lv_has ls 7 [(0, .ref (q 0)), (1, .int x1), (2, .int x2), (3, .int x3), (4, .int x4), (5, .int x5)] → W p l e (headSpec ww_liars ({ frames := 0, cells := 0, slots := 0, locals := 0 } : Room)).room s m args below meth c H locs 0 0 (MQ below (va_Qi Post (atM dC dI q cI cJ cZ A) A) args s 0 0 A) (F0 m 28 ls []) | (.inr (.inr (x1, x2, x3, x4, x5))) => ∀ (H : Heap) (locs : List Loc), va_P (dC, dI) vwCl (wM q cI cJ cZ S) H → va_D A (wM q cI cJ cZ S) → va_S A s.heap H locs → ∀ ls : Array Slot, lv_has ls 7 [(0, .ref (q 0)), (1, .int x1), (2, .int x2), (3, .int x3), (4, .int x4), (5, .int x5)] → W p l e (headSpec ww_liars ({ frames := 0, cells := 0, slots := 0, locals := 0 } : Room)).room s m args below meth c H locs 0 0 (MQ below (va_Qi Post (atM dC dI q cI cJ cZ A) A) args s 0 0 A) (F0 m 132 ls [])) ?_
  · skip
    refine lv_iconst (v := 0) hx hb (dk DX12_liars 0 rfl) (by decide) ?_
    refine lv_istore_n (lv' := [(1, .int 0), (0, .ref (q 0))]) hx hb (dk DX12_liars 1 rfl) rfl hl (by decide) rfl (fun ls hl => ?_)
    refine lv_iconst (v := 0) hx hb (dk DX12_liars 2 rfl) (by decide) ?_
    refine lv_istore_n (lv' := [(2, .int 0), (1, .int 0), (0, .ref (q 0))]) hx hb (dk DX12_liars 3 rfl) rfl hl (by decide) rfl (fun ls hl => ?_)
    exact h _ _ hP hD hS ls (lv_sub hl [2, 1, 0] rfl)
  · rintro (⟨x1, x2⟩ | ⟨x1, x2, x3, x4, x5⟩ | ⟨x1, x2, x3, x4, x5⟩) S hB
    · exact h_liars_0 X hr hlocks (hK0 := fun _ _ _ h => h) (hK1 := fun _ _ _ _ _ _ h => h) (hK2 := fun _ _ _ _ _ _ h => h) x1 x2 S hB
    · exact h_liars_1 X hr hlocks (hK0 := fun _ _ _ h => h) (hK1 := fun _ _ _ _ _ _ h => h) (hK2 := fun _ _ _ _ _ _ h => h) x1 x2 x3 x4 x5 S hB
    · exact h_liars_2 X hr hlocks (hK0 := fun _ _ _ h => h) (hK1 := fun _ _ _ _ _ _ h => h) (hK2 := fun _ _ _ _ _ _ h => h) x1 x2 x3 x4 x5 S hB

def ww_coughs : List Cond := .code yX12_coughs cX12_coughs 9 (some .int) :: (WdM ++ wsX120)
theorem q_coughs : yX12_coughs.cls = RX12 ∧ yX12_coughs.cls ≠ "java/lang/invoke/MethodHandle" ∧ yX12_coughs.cls ≠ "java/lang/invoke/VarHandle" ∧ (parseMethodDescriptor yX12_coughs.desc).map (fun d => d.parameters.length) = some 4 := by decide +kernel
abbrev Hd_coughs : Type := (Int32 × Int32 × Int32 × Int32 × Int32 × Int32 × Int32) ⊕ (Int32 × Int32 × Int32 × Int32 × Int32 × Int32 × Int32 × Int32) ⊕ (Int32 × Int32 × Int32 × Int32 × Int32 × Int32 × Int32 × Int32 × Int32 × Int32)
def B_coughs (Post : Int32 → MS → Prop) (K : Hd_coughs → MS → Prop) : Hd_coughs → MS → Prop
  | (.inl (x1, x2, x3, x4, x5, x6, x7)), S => ((x2 ≤ x7 → Post x6 S) ∧ (¬ x2 ≤ x7 → K (.inr (.inl (x1, x2, x3, x4, x5, x6, x7, 0))) S))
  | (.inr (.inl (x1, x2, x3, x4, x5, x6, x7, x8))), S => vp_in (0 : Int32) 3890 ∧ ((((S.2.2.1 0) (0 : Int32).toNatClampNeg) ≤ x8 → ∀ v7 : Int32, v7 = x7 + 1 → K (.inl (x1, x2, x3, x4, x5, x6, v7)) S) ∧ (¬ ((S.2.2.1 0) (0 : Int32).toNatClampNeg) ≤ x8 → ((¬ x8 = x4 → K (.inr (.inr (x1, x2, x3, x4, x5, x6, x7, x8, x6, 0))) S) ∧ (x8 = x4 → ¬ (10 : Int32) = 0 ∧ ((x3 ≤ (x5 - x5 / 10 * 10) → K (.inr (.inr (x1, x2, x3, x4, x5, x6, x7, x8, x6, 0))) S) ∧ (¬ x3 ≤ (x5 - x5 / 10 * 10) → K (.inr (.inr (x1, x2, x3, x4, x5, x6, x7, x8, x6, 1))) S))))))
  | (.inr (.inr (x1, x2, x3, x4, x5, x6, x7, x8, t0, t1))), S => ∀ v8 : Int32, v8 = t0 + t1 → ¬ (30103 : Int32) = 0 ∧ ∀ v9 : Int32, v9 = ((x5 * 181) + 37) - ((x5 * 181) + 37) / 30103 * 30103 → ∀ v10 : Int32, v10 = x8 + 1 → K (.inr (.inl (x1, x2, x3, x4, v9, v8, x7, v10))) S
def VC_coughs (Post : Int32 → MS → Prop) (a0 : Int32) (a1 : Int32) (a2 : Int32) (a3 : Int32) (S : MS) : Prop := ∀ K : Hd_coughs → MS → Prop, (∀ h S, B_coughs Post K h S → K h S) → VC_isIn (fun r1 => ((r1 = 0 → Post (-1) S) ∧ (¬ r1 = 0 → VC_isIn (fun r2 => ((r2 = 0 → Post (-1) S) ∧ (¬ r2 = 0 → VC_isIn (fun r3 => ((r3 = 0 → Post (-1) S) ∧ (¬ r3 = 0 → VC_isBlower (fun r5 S4 => ((¬ r5 = 0 → ∀ v6 : Int32, v6 = (a0 * 7) + 5 → K (.inl (a0, a1, a2, a3, v6, 0, 0)) S4) ∧ (r5 = 0 → Post (-1) S4))) a3 S))) a2 1 10))) a1 1 30))) a0 0 9999
set_option maxHeartbeats 4000000 in
set_option maxRecDepth 100000 in
theorem h_coughs_0 {p : Program} {l : Launch} {e : Env} {s : State} {m : MethodId} {below : List Frame} {meth : Method} {c : Code} {dC : Nat → ClassId} {dI : Nat → Nat → Nat} {q : Nat → Nat} {cI cJ cZ : ClassId} {A : Nat → Prop} {args : Array Value} {Post : Int32 → MS → Prop} {K : Hd_coughs → MS → Prop} (X : XM p s m args c cX12_coughs 9 ww_coughs dC dI cI cJ cZ A) (hr : meth.sig.returnType = (some .int)) (hlocks : meth.locks = false) (hK0 : ∀ (x1 : Int32) (x2 : Int32) (x3 : Int32) (x4 : Int32) (x5 : Int32) (x6 : Int32) (x7 : Int32) (S : MS), K (.inl (x1, x2, x3, x4, x5, x6, x7)) S → ∀ (H : Heap) (locs : List Loc), va_P (dC, dI) vwCl (wM q cI cJ cZ S) H → va_D A (wM q cI cJ cZ S) → va_S A s.heap H locs → ∀ ls : Array Slot, lv_has ls 9 [(0, .ref (q 0)), (1, .int x1), (2, .int x2), (3, .int x3), (4, .int x4), (5, .int x5), (6, .int x6), (7, .int x7)] → W p l e (headSpec ww_coughs ({ frames := 2, cells := 0, slots := 0, locals := 43 } : Room)).room s m args below meth c H locs 0 0 (MQ below (va_Qi Post (atM dC dI q cI cJ cZ A) A) args s 0 0 A) (F0 m 56 ls [])) (hK1 : ∀ (x1 : Int32) (x2 : Int32) (x3 : Int32) (x4 : Int32) (x5 : Int32) (x6 : Int32) (x7 : Int32) (x8 : Int32) (S : MS), K (.inr (.inl (x1, x2, x3, x4, x5, x6, x7, x8))) S → ∀ (H : Heap) (locs : List Loc), va_P (dC, dI) vwCl (wM q cI cJ cZ S) H → va_D A (wM q cI cJ cZ S) → va_S A s.heap H locs → ∀ ls : Array Slot, lv_has ls 9 [(0, .ref (q 0)), (1, .int x1), (2, .int x2), (3, .int x3), (4, .int x4), (5, .int x5), (6, .int x6), (7, .int x7), (8, .int x8)] → W p l e (headSpec ww_coughs ({ frames := 2, cells := 0, slots := 0, locals := 43 } : Room)).room s m args below meth c H locs 0 0 (MQ below (va_Qi Post (atM dC dI q cI cJ cZ A) A) args s 0 0 A) (F0 m 65 ls [])) (hK2 : ∀ (x1 : Int32) (x2 : Int32) (x3 : Int32) (x4 : Int32) (x5 : Int32) (x6 : Int32) (x7 : Int32) (x8 : Int32) (t0 : Int32) (t1 : Int32) (S : MS), K (.inr (.inr (x1, x2, x3, x4, x5, x6, x7, x8, t0, t1))) S → ∀ (H : Heap) (locs : List Loc), va_P (dC, dI) vwCl (wM q cI cJ cZ S) H → va_D A (wM q cI cJ cZ S) → va_S A s.heap H locs → ∀ ls : Array Slot, lv_has ls 9 [(0, .ref (q 0)), (1, .int x1), (2, .int x2), (3, .int x3), (4, .int x4), (5, .int x5), (6, .int x6), (7, .int x7), (8, .int x8)] → W p l e (headSpec ww_coughs ({ frames := 2, cells := 0, slots := 0, locals := 43 } : Room)).room s m args below meth c H locs 0 0 (MQ below (va_Qi Post (atM dC dI q cI cJ cZ A) A) args s 0 0 A) (F0 m 99 ls [.int t1, .int t0])) (x1 : Int32) (x2 : Int32) (x3 : Int32) (x4 : Int32) (x5 : Int32) (x6 : Int32) (x7 : Int32) (S : MS) (h : B_coughs Post K (.inl (x1, x2, x3, x4, x5, x6, x7)) S) : ∀ (H : Heap) (locs : List Loc), va_P (dC, dI) vwCl (wM q cI cJ cZ S) H → va_D A (wM q cI cJ cZ S) → va_S A s.heap H locs → ∀ ls : Array Slot, lv_has ls 9 [(0, .ref (q 0)), (1, .int x1), (2, .int x2), (3, .int x3), (4, .int x4), (5, .int x5), (6, .int x6), (7, .int x7)] → W p l e (headSpec ww_coughs ({ frames := 2, cells := 0, slots := 0, locals := 43 } : Room)).room s m args below meth c H locs 0 0 (MQ below (va_Qi Post (atM dC dI q cI cJ cZ A) A) args s 0 0 A) (F0 m 56 ls []) := by
  have hx := X.1
  have hb := X.2.1
  intro H locs hP hD hS ls hl
  have lk7 := X.2.2.2.2.1 (.fieldLink RX12 7 "BreathOnLoanModel" "a" "[I") (inW 5 rfl)
  dsimp only [B_coughs] at h
  refine lv_iload hx hb (dk DX12_coughs 31 rfl) (lv_at hl 7 rfl) ?_
  refine lv_iload_n hx hb (dk DX12_coughs 32 rfl) rfl (lv_at hl 2 rfl) ?_
  refine lv_icmp_ge (tgt := 129) hx hb (dk DX12_coughs 33 rfl) (by decide) (fun hc => ?_) (fun hc => ?_)
  · have h := h.1 hc
    refine lv_iload hx hb (dk DX12_coughs 68 rfl) (lv_at hl 6 rfl) ?_
    exact W.iret (v := x6) hx hb hr (fun t ht hW => ⟨⟨_, _, rfl, h, by rw [ht]; exact hP, va_K.moved hW.alike X.2.2.2.2.2.2.1, hD⟩, hS.F ht⟩) hS.2.2 (dk DX12_coughs 69 rfl)
  · have h := h.2 hc
    refine lv_iconst (v := 0) hx hb (dk DX12_coughs 34 rfl) (by decide) ?_
    refine lv_istore (lv' := [(8, .int 0), (0, .ref (q 0)), (1, .int x1), (2, .int x2), (3, .int x3), (4, .int x4), (5, .int x5), (6, .int x6), (7, .int x7)]) hx hb (dk DX12_coughs 35 rfl) hl (by decide) rfl (fun ls hl => ?_)
    exact hK1 x1 x2 x3 x4 x5 x6 x7 0 S h _ _ hP hD hS ls (lv_sub hl [1, 2, 3, 4, 5, 6, 7, 8, 0] rfl)
set_option maxHeartbeats 4000000 in
set_option maxRecDepth 100000 in
theorem h_coughs_1 {p : Program} {l : Launch} {e : Env} {s : State} {m : MethodId} {below : List Frame} {meth : Method} {c : Code} {dC : Nat → ClassId} {dI : Nat → Nat → Nat} {q : Nat → Nat} {cI cJ cZ : ClassId} {A : Nat → Prop} {args : Array Value} {Post : Int32 → MS → Prop} {K : Hd_coughs → MS → Prop} (X : XM p s m args c cX12_coughs 9 ww_coughs dC dI cI cJ cZ A) (hr : meth.sig.returnType = (some .int)) (hlocks : meth.locks = false) (hK0 : ∀ (x1 : Int32) (x2 : Int32) (x3 : Int32) (x4 : Int32) (x5 : Int32) (x6 : Int32) (x7 : Int32) (S : MS), K (.inl (x1, x2, x3, x4, x5, x6, x7)) S → ∀ (H : Heap) (locs : List Loc), va_P (dC, dI) vwCl (wM q cI cJ cZ S) H → va_D A (wM q cI cJ cZ S) → va_S A s.heap H locs → ∀ ls : Array Slot, lv_has ls 9 [(0, .ref (q 0)), (1, .int x1), (2, .int x2), (3, .int x3), (4, .int x4), (5, .int x5), (6, .int x6), (7, .int x7)] → W p l e (headSpec ww_coughs ({ frames := 2, cells := 0, slots := 0, locals := 43 } : Room)).room s m args below meth c H locs 0 0 (MQ below (va_Qi Post (atM dC dI q cI cJ cZ A) A) args s 0 0 A) (F0 m 56 ls [])) (hK1 : ∀ (x1 : Int32) (x2 : Int32) (x3 : Int32) (x4 : Int32) (x5 : Int32) (x6 : Int32) (x7 : Int32) (x8 : Int32) (S : MS), K (.inr (.inl (x1, x2, x3, x4, x5, x6, x7, x8))) S → ∀ (H : Heap) (locs : List Loc), va_P (dC, dI) vwCl (wM q cI cJ cZ S) H → va_D A (wM q cI cJ cZ S) → va_S A s.heap H locs → ∀ ls : Array Slot, lv_has ls 9 [(0, .ref (q 0)), (1, .int x1), (2, .int x2), (3, .int x3), (4, .int x4), (5, .int x5), (6, .int x6), (7, .int x7), (8, .int x8)] → W p l e (headSpec ww_coughs ({ frames := 2, cells := 0, slots := 0, locals := 43 } : Room)).room s m args below meth c H locs 0 0 (MQ below (va_Qi Post (atM dC dI q cI cJ cZ A) A) args s 0 0 A) (F0 m 65 ls [])) (hK2 : ∀ (x1 : Int32) (x2 : Int32) (x3 : Int32) (x4 : Int32) (x5 : Int32) (x6 : Int32) (x7 : Int32) (x8 : Int32) (t0 : Int32) (t1 : Int32) (S : MS), K (.inr (.inr (x1, x2, x3, x4, x5, x6, x7, x8, t0, t1))) S → ∀ (H : Heap) (locs : List Loc), va_P (dC, dI) vwCl (wM q cI cJ cZ S) H → va_D A (wM q cI cJ cZ S) → va_S A s.heap H locs → ∀ ls : Array Slot, lv_has ls 9 [(0, .ref (q 0)), (1, .int x1), (2, .int x2), (3, .int x3), (4, .int x4), (5, .int x5), (6, .int x6), (7, .int x7), (8, .int x8)] → W p l e (headSpec ww_coughs ({ frames := 2, cells := 0, slots := 0, locals := 43 } : Room)).room s m args below meth c H locs 0 0 (MQ below (va_Qi Post (atM dC dI q cI cJ cZ A) A) args s 0 0 A) (F0 m 99 ls [.int t1, .int t0])) (x1 : Int32) (x2 : Int32) (x3 : Int32) (x4 : Int32) (x5 : Int32) (x6 : Int32) (x7 : Int32) (x8 : Int32) (S : MS) (h : B_coughs Post K (.inr (.inl (x1, x2, x3, x4, x5, x6, x7, x8))) S) : ∀ (H : Heap) (locs : List Loc), va_P (dC, dI) vwCl (wM q cI cJ cZ S) H → va_D A (wM q cI cJ cZ S) → va_S A s.heap H locs → ∀ ls : Array Slot, lv_has ls 9 [(0, .ref (q 0)), (1, .int x1), (2, .int x2), (3, .int x3), (4, .int x4), (5, .int x5), (6, .int x6), (7, .int x7), (8, .int x8)] → W p l e (headSpec ww_coughs ({ frames := 2, cells := 0, slots := 0, locals := 43 } : Room)).room s m args below meth c H locs 0 0 (MQ below (va_Qi Post (atM dC dI q cI cJ cZ A) A) args s 0 0 A) (F0 m 65 ls []) := by
  have hx := X.1
  have hb := X.2.1
  intro H locs hP hD hS ls hl
  have lk7 := X.2.2.2.2.1 (.fieldLink RX12 7 "BreathOnLoanModel" "a" "[I") (inW 5 rfl)
  dsimp only [B_coughs] at h
  refine lv_iload hx hb (dk DX12_coughs 36 rfl) (lv_at hl 8 rfl) ?_
  refine lv_aload_n hx hb (dk DX12_coughs 37 rfl) rfl (lv_at hl 0 rfl) ?_
  refine gM X hP 0 (by decide) rfl lk7 (dk DX12_coughs 38 rfl) ?_
  refine lv_iconst (v := 0) hx hb (dk DX12_coughs 39 rfl) (by decide) ?_
  obtain ⟨hin, h⟩ := h
  refine ldM X hP 1 rfl hin (dk DX12_coughs 40 rfl) ?_
  refine lv_icmp_ge (tgt := 123) hx hb (dk DX12_coughs 41 rfl) (by decide) (fun hc => ?_) (fun hc => ?_)
  · have h := h.1 hc
    obtain ⟨v7, ev7⟩ : ∃ y : Int32, y = x7 + 1 := ⟨_, rfl⟩
    have h := h v7 ev7
    refine lv_iinc (v := v7) (lv' := [(7, .int v7), (0, .ref (q 0)), (1, .int x1), (2, .int x2), (3, .int x3), (4, .int x4), (5, .int x5), (6, .int x6), (8, .int x8)]) hx hb (dk DX12_coughs 66 rfl) hl (k := 7) rfl (by rw [ev7]; rfl) (by decide) rfl (fun ls hl => ?_)
    refine lv_goto (tgt := 56) hx hb (dk DX12_coughs 67 rfl) (by decide) ?_
    exact hK0 x1 x2 x3 x4 x5 x6 v7 S h _ _ hP hD hS ls (lv_sub hl [1, 2, 3, 4, 5, 6, 7, 0] rfl)
  · have h := h.2 hc
    refine lv_iload hx hb (dk DX12_coughs 42 rfl) (lv_at hl 6 rfl) ?_
    refine lv_iload hx hb (dk DX12_coughs 43 rfl) (lv_at hl 8 rfl) ?_
    refine lv_iload hx hb (dk DX12_coughs 44 rfl) (lv_at hl 4 rfl) ?_
    refine lv_icmp_ne (tgt := 98) hx hb (dk DX12_coughs 45 rfl) (by decide) (fun hc => ?_) (fun hc => ?_)
    · have h := h.1 hc
      refine lv_iconst (v := 0) hx hb (dk DX12_coughs 53 rfl) (by decide) ?_
      exact hK2 x1 x2 x3 x4 x5 x6 x7 x8 x6 0 S h _ _ hP hD hS ls (lv_sub hl [0, 1, 2, 3, 4, 5, 6, 7, 8] rfl)
    · have h := h.2 hc
      refine lv_iload hx hb (dk DX12_coughs 46 rfl) (lv_at hl 5 rfl) ?_
      refine lv_bipush (v := 10) hx hb (dk DX12_coughs 47 rfl) (by decide) ?_
      obtain ⟨hz, h⟩ := h
      refine lv_irem hx hb (dk DX12_coughs 48 rfl) hz ?_
      refine lv_iload_n hx hb (dk DX12_coughs 49 rfl) rfl (lv_at hl 3 rfl) ?_
      refine lv_icmp_ge (tgt := 98) hx hb (dk DX12_coughs 50 rfl) (by decide) (fun hc => ?_) (fun hc => ?_)
      · have h := h.1 hc
        refine lv_iconst (v := 0) hx hb (dk DX12_coughs 53 rfl) (by decide) ?_
        exact hK2 x1 x2 x3 x4 x5 x6 x7 x8 x6 0 S h _ _ hP hD hS ls (lv_sub hl [0, 1, 2, 3, 4, 5, 6, 7, 8] rfl)
      · have h := h.2 hc
        refine lv_iconst (v := 1) hx hb (dk DX12_coughs 51 rfl) (by decide) ?_
        refine lv_goto (tgt := 99) hx hb (dk DX12_coughs 52 rfl) (by decide) ?_
        exact hK2 x1 x2 x3 x4 x5 x6 x7 x8 x6 1 S h _ _ hP hD hS ls (lv_sub hl [0, 1, 2, 3, 4, 5, 6, 7, 8] rfl)
set_option maxHeartbeats 4000000 in
set_option maxRecDepth 100000 in
theorem h_coughs_2 {p : Program} {l : Launch} {e : Env} {s : State} {m : MethodId} {below : List Frame} {meth : Method} {c : Code} {dC : Nat → ClassId} {dI : Nat → Nat → Nat} {q : Nat → Nat} {cI cJ cZ : ClassId} {A : Nat → Prop} {args : Array Value} {Post : Int32 → MS → Prop} {K : Hd_coughs → MS → Prop} (X : XM p s m args c cX12_coughs 9 ww_coughs dC dI cI cJ cZ A) (hr : meth.sig.returnType = (some .int)) (hlocks : meth.locks = false) (hK0 : ∀ (x1 : Int32) (x2 : Int32) (x3 : Int32) (x4 : Int32) (x5 : Int32) (x6 : Int32) (x7 : Int32) (S : MS), K (.inl (x1, x2, x3, x4, x5, x6, x7)) S → ∀ (H : Heap) (locs : List Loc), va_P (dC, dI) vwCl (wM q cI cJ cZ S) H → va_D A (wM q cI cJ cZ S) → va_S A s.heap H locs → ∀ ls : Array Slot, lv_has ls 9 [(0, .ref (q 0)), (1, .int x1), (2, .int x2), (3, .int x3), (4, .int x4), (5, .int x5), (6, .int x6), (7, .int x7)] → W p l e (headSpec ww_coughs ({ frames := 2, cells := 0, slots := 0, locals := 43 } : Room)).room s m args below meth c H locs 0 0 (MQ below (va_Qi Post (atM dC dI q cI cJ cZ A) A) args s 0 0 A) (F0 m 56 ls [])) (hK1 : ∀ (x1 : Int32) (x2 : Int32) (x3 : Int32) (x4 : Int32) (x5 : Int32) (x6 : Int32) (x7 : Int32) (x8 : Int32) (S : MS), K (.inr (.inl (x1, x2, x3, x4, x5, x6, x7, x8))) S → ∀ (H : Heap) (locs : List Loc), va_P (dC, dI) vwCl (wM q cI cJ cZ S) H → va_D A (wM q cI cJ cZ S) → va_S A s.heap H locs → ∀ ls : Array Slot, lv_has ls 9 [(0, .ref (q 0)), (1, .int x1), (2, .int x2), (3, .int x3), (4, .int x4), (5, .int x5), (6, .int x6), (7, .int x7), (8, .int x8)] → W p l e (headSpec ww_coughs ({ frames := 2, cells := 0, slots := 0, locals := 43 } : Room)).room s m args below meth c H locs 0 0 (MQ below (va_Qi Post (atM dC dI q cI cJ cZ A) A) args s 0 0 A) (F0 m 65 ls [])) (hK2 : ∀ (x1 : Int32) (x2 : Int32) (x3 : Int32) (x4 : Int32) (x5 : Int32) (x6 : Int32) (x7 : Int32) (x8 : Int32) (t0 : Int32) (t1 : Int32) (S : MS), K (.inr (.inr (x1, x2, x3, x4, x5, x6, x7, x8, t0, t1))) S → ∀ (H : Heap) (locs : List Loc), va_P (dC, dI) vwCl (wM q cI cJ cZ S) H → va_D A (wM q cI cJ cZ S) → va_S A s.heap H locs → ∀ ls : Array Slot, lv_has ls 9 [(0, .ref (q 0)), (1, .int x1), (2, .int x2), (3, .int x3), (4, .int x4), (5, .int x5), (6, .int x6), (7, .int x7), (8, .int x8)] → W p l e (headSpec ww_coughs ({ frames := 2, cells := 0, slots := 0, locals := 43 } : Room)).room s m args below meth c H locs 0 0 (MQ below (va_Qi Post (atM dC dI q cI cJ cZ A) A) args s 0 0 A) (F0 m 99 ls [.int t1, .int t0])) (x1 : Int32) (x2 : Int32) (x3 : Int32) (x4 : Int32) (x5 : Int32) (x6 : Int32) (x7 : Int32) (x8 : Int32) (t0 : Int32) (t1 : Int32) (S : MS) (h : B_coughs Post K (.inr (.inr (x1, x2, x3, x4, x5, x6, x7, x8, t0, t1))) S) : ∀ (H : Heap) (locs : List Loc), va_P (dC, dI) vwCl (wM q cI cJ cZ S) H → va_D A (wM q cI cJ cZ S) → va_S A s.heap H locs → ∀ ls : Array Slot, lv_has ls 9 [(0, .ref (q 0)), (1, .int x1), (2, .int x2), (3, .int x3), (4, .int x4), (5, .int x5), (6, .int x6), (7, .int x7), (8, .int x8)] → W p l e (headSpec ww_coughs ({ frames := 2, cells := 0, slots := 0, locals := 43 } : Room)).room s m args below meth c H locs 0 0 (MQ below (va_Qi Post (atM dC dI q cI cJ cZ A) A) args s 0 0 A) (F0 m 99 ls [.int t1, .int t0]) := by
  have hx := X.1
  have hb := X.2.1
  intro H locs hP hD hS ls hl
  have lk7 := X.2.2.2.2.1 (.fieldLink RX12 7 "BreathOnLoanModel" "a" "[I") (inW 5 rfl)
  dsimp only [B_coughs] at h
  refine lv_iadd hx hb (dk DX12_coughs 54 rfl) ?_
  refine lv_topi (fun v8 ev8 => ?_)
  have h := h v8 ev8
  refine lv_istore (lv' := [(6, .int v8), (0, .ref (q 0)), (1, .int x1), (2, .int x2), (3, .int x3), (4, .int x4), (5, .int x5), (7, .int x7), (8, .int x8)]) hx hb (dk DX12_coughs 55 rfl) hl (by decide) rfl (fun ls hl => ?_)
  refine lv_iload hx hb (dk DX12_coughs 56 rfl) (lv_at hl 6 rfl) ?_
  refine lv_sipush (v := 181) hx hb (dk DX12_coughs 57 rfl) (by decide) ?_
  refine lv_imul hx hb (dk DX12_coughs 58 rfl) ?_
  refine lv_bipush (v := 37) hx hb (dk DX12_coughs 59 rfl) (by decide) ?_
  refine lv_iadd hx hb (dk DX12_coughs 60 rfl) ?_
  refine lv_sipush (v := 30103) hx hb (dk DX12_coughs 61 rfl) (by decide) ?_
  obtain ⟨hz, h⟩ := h
  refine lv_irem hx hb (dk DX12_coughs 62 rfl) hz ?_
  refine lv_topi (fun v9 ev9 => ?_)
  have h := h v9 ev9
  refine lv_istore (lv' := [(5, .int v9), (6, .int v8), (0, .ref (q 0)), (1, .int x1), (2, .int x2), (3, .int x3), (4, .int x4), (7, .int x7), (8, .int x8)]) hx hb (dk DX12_coughs 63 rfl) hl (by decide) rfl (fun ls hl => ?_)
  obtain ⟨v10, ev10⟩ : ∃ y : Int32, y = x8 + 1 := ⟨_, rfl⟩
  have h := h v10 ev10
  refine lv_iinc (v := v10) (lv' := [(8, .int v10), (5, .int v9), (6, .int v8), (0, .ref (q 0)), (1, .int x1), (2, .int x2), (3, .int x3), (4, .int x4), (7, .int x7)]) hx hb (dk DX12_coughs 64 rfl) hl (k := 8) rfl (by rw [ev10]; rfl) (by decide) rfl (fun ls hl => ?_)
  refine lv_goto (tgt := 65) hx hb (dk DX12_coughs 65 rfl) (by decide) ?_
  exact hK1 x1 x2 x3 x4 v9 v8 x7 v10 S h _ _ hP hD hS ls (lv_sub hl [3, 4, 5, 6, 7, 1, 2, 8, 0] rfl)
set_option maxHeartbeats 4000000 in
set_option maxRecDepth 100000 in
theorem m_coughs {l : Launch} {dC : Nat → ClassId} {dI : Nat → Nat → Nat} {q : Nat → Nat} {cI cJ cZ : ClassId} {sz : Nat} {Post : Int32 → MS → Prop} (a0 : Int32) (a1 : Int32) (a2 : Int32) (a3 : Int32) (S : MS) (h : VC_coughs Post a0 a1 a2 a3 S) : Met l yX12_coughs ww_coughs ({ frames := 2, cells := 0, slots := 0, locals := 43 } : Room) (va_Pc [.ref (q 0), .int a0, .int a1, .int a2, .int a3] (preM dC dI q cI cJ cZ S sz)) (va_Qi Post (atM dC dI q cI cJ cZ (va_A (wM q cI cJ cZ S) sz)) (va_A (wM q cI cJ cZ S) sz)) 0 0 (va_A (wM q cI cJ cZ S) sz) := by
  refine oM (cc := cX12_coughs) (maxL := 9) (ret := (some .int)) (Qc := fun A => va_Qi Post (atM dC dI q cI cJ cZ A) A) (by decide) rfl (fun w h => List.mem_cons_of_mem _ (List.mem_append_right _ h)) rfl (Nat.le_of_ble_eq_true rfl) (fun p e s m below meth c A ls X hr hlocks hP hD hS hl => ?_)
  have hx := X.1
  have hb := X.2.1
  have hl : lv_has ls 9 [(0, .ref (q 0)), (1, .int a0), (2, .int a1), (3, .int a2), (4, .int a3)] := hl
  have lk7 := X.2.2.2.2.1 (.fieldLink RX12 7 "BreathOnLoanModel" "a" "[I") (inW 5 rfl)
  generalize hargs : ([.ref (q 0), .int a0, .int a1, .int a2, .int a3] : List Value).toArray = args at X ⊢
  have h := h (fun hd S => match hd with | (.inl (x1, x2, x3, x4, x5, x6, x7)) => ∀ (H : Heap) (locs : List Loc), va_P (dC, dI) vwCl (wM q cI cJ cZ S) H → va_D A (wM q cI cJ cZ S) → va_S A s.heap H locs → ∀ ls : Array Slot, lv_has ls 9 [(0, .ref (q 0)), (1, .int x1), (2, .int x2), (3, .int x3), (4, .int x4), (5, .int x5), (6, .int x6), (7, .int x7)] → W p l e (headSpec ww_coughs ({ frames := 2, cells := 0, slots := 0, locals := 43 } : Room)).room s m args below meth c H locs 0 0 (MQ below (va_Qi Post (atM dC dI q cI cJ cZ A) A) args s 0 0 A) (F0 m 56 ls []) | (.inr (.inl (x1, x2, x3, x4, x5, x6, x7, x8))) => ∀ (H : Heap) (locs : List Loc), va_P (dC, dI) vwCl (wM q cI cJ cZ S) H → va_D A (wM q cI cJ cZ S) → va_S A s.heap H locs → ∀ ls : Array Slot, lv_has ls 9 [(0, .ref (q 0)), (1, .int x1), (2, .int x2), (3, .int x3), (4, .int x4), (5, .int x5), (6, .int x6), (7, .int x7), (8, .int x8)] → W p l e (headSpec ww_coughs ({ frames := 2, cells := 0, slots := 0, locals := 43 } : Room)).room s m args below meth c H locs 0 0 (MQ below (va_Qi Post (atM dC dI q cI cJ cZ A) A) args s 0 0 A) (F0 m 65 ls []) | (.inr (.inr (x1, x2, x3, x4, x5, x6, x7, x8, t0, t1))) => ∀ (H : Heap) (locs : List Loc), va_P (dC, dI) vwCl (wM q cI cJ cZ S) H → va_D A (wM q cI cJ cZ S) → va_S A s.heap H locs → ∀ ls : Array Slot, lv_has ls 9 [(0, .ref (q 0)), (1, .int x1), (2, .int x2), (3, .int x3), (4, .int x4), (5, .int x5), (6, .int x6), (7, .int x7), (8, .int x8)] → W p l e (headSpec ww_coughs ({ frames := 2, cells := 0, slots := 0, locals := 43 } : Room)).room s m args below meth c H locs 0 0 (MQ below (va_Qi Post (atM dC dI q cI cJ cZ A) A) args s 0 0 A) (F0 m 99 ls [.int t1, .int t0])) ?_
  · skip
    refine lv_iload_n hx hb (dk DX12_coughs 0 rfl) rfl (lv_at hl 1 rfl) ?_
    refine lv_iconst (v := 0) hx hb (dk DX12_coughs 1 rfl) (by decide) ?_
    refine lv_sipush (v := 9999) hx hb (dk DX12_coughs 2 rfl) (by decide) ?_
    refine cSi (As := [.int a0, .int 0, .int 9999]) (rest := []) ⟨X.1, X.2.1, X.2.2.1, X.2.2.2.1, X.2.2.2.2.1⟩ (m_isIn (l := l) a0 0 9999 h) (va_cwS 3 X.2.2.2.2.1 (gwS 31 32 24 26 rfl rfl rfl rfl) rfl rfl rfl q_isIn ⟨Nat.le_of_ble_eq_true rfl, Nat.le_of_ble_eq_true rfl⟩) rfl hl.1 rfl (Nat.le_of_ble_eq_true rfl) (dk DX12_coughs 3 rfl) (fun r1 h => ?_)
    refine lv_if_eq (tgt := 40) hx hb (dk DX12_coughs 4 rfl) (by decide) (fun hc => ?_) (fun hc => ?_)
    · have h := h.1 hc
      refine lv_iconst (v := (-1)) hx hb (dk DX12_coughs 19 rfl) (by decide) ?_
      exact W.iret (v := (-1)) hx hb hr (fun t ht hW => ⟨⟨_, _, rfl, h, by rw [ht]; exact hP, va_K.moved hW.alike X.2.2.2.2.2.2.1, hD⟩, hS.F ht⟩) hS.2.2 (dk DX12_coughs 20 rfl)
    · have h := h.2 hc
      refine lv_iload_n hx hb (dk DX12_coughs 5 rfl) rfl (lv_at hl 2 rfl) ?_
      refine lv_iconst (v := 1) hx hb (dk DX12_coughs 6 rfl) (by decide) ?_
      refine lv_bipush (v := 30) hx hb (dk DX12_coughs 7 rfl) (by decide) ?_
      refine cSi (As := [.int a1, .int 1, .int 30]) (rest := []) ⟨X.1, X.2.1, X.2.2.1, X.2.2.2.1, X.2.2.2.2.1⟩ (m_isIn (l := l) a1 1 30 h) (va_cwS 3 X.2.2.2.2.1 (gwS 31 32 24 26 rfl rfl rfl rfl) rfl rfl rfl q_isIn ⟨Nat.le_of_ble_eq_true rfl, Nat.le_of_ble_eq_true rfl⟩) rfl hl.1 rfl (Nat.le_of_ble_eq_true rfl) (dk DX12_coughs 8 rfl) (fun r2 h => ?_)
      refine lv_if_eq (tgt := 40) hx hb (dk DX12_coughs 9 rfl) (by decide) (fun hc => ?_) (fun hc => ?_)
      · have h := h.1 hc
        refine lv_iconst (v := (-1)) hx hb (dk DX12_coughs 19 rfl) (by decide) ?_
        exact W.iret (v := (-1)) hx hb hr (fun t ht hW => ⟨⟨_, _, rfl, h, by rw [ht]; exact hP, va_K.moved hW.alike X.2.2.2.2.2.2.1, hD⟩, hS.F ht⟩) hS.2.2 (dk DX12_coughs 20 rfl)
      · have h := h.2 hc
        refine lv_iload_n hx hb (dk DX12_coughs 10 rfl) rfl (lv_at hl 3 rfl) ?_
        refine lv_iconst (v := 1) hx hb (dk DX12_coughs 11 rfl) (by decide) ?_
        refine lv_bipush (v := 10) hx hb (dk DX12_coughs 12 rfl) (by decide) ?_
        refine cSi (As := [.int a2, .int 1, .int 10]) (rest := []) ⟨X.1, X.2.1, X.2.2.1, X.2.2.2.1, X.2.2.2.2.1⟩ (m_isIn (l := l) a2 1 10 h) (va_cwS 3 X.2.2.2.2.1 (gwS 31 32 24 26 rfl rfl rfl rfl) rfl rfl rfl q_isIn ⟨Nat.le_of_ble_eq_true rfl, Nat.le_of_ble_eq_true rfl⟩) rfl hl.1 rfl (Nat.le_of_ble_eq_true rfl) (dk DX12_coughs 13 rfl) (fun r3 h => ?_)
        refine lv_if_eq (tgt := 40) hx hb (dk DX12_coughs 14 rfl) (by decide) (fun hc => ?_) (fun hc => ?_)
        · have h := h.1 hc
          refine lv_iconst (v := (-1)) hx hb (dk DX12_coughs 19 rfl) (by decide) ?_
          exact W.iret (v := (-1)) hx hb hr (fun t ht hW => ⟨⟨_, _, rfl, h, by rw [ht]; exact hP, va_K.moved hW.alike X.2.2.2.2.2.2.1, hD⟩, hS.F ht⟩) hS.2.2 (dk DX12_coughs 20 rfl)
        · have h := h.2 hc
          refine lv_aload_n hx hb (dk DX12_coughs 15 rfl) rfl (lv_at hl 0 rfl) ?_
          refine lv_iload hx hb (dk DX12_coughs 16 rfl) (lv_at hl 4 rfl) ?_
          refine cMi (As := [.int a3]) (rest := []) X (m_isBlower (l := l) (dC := dC) (dI := dI) (q := q) (cI := cI) (cJ := cJ) (cZ := cZ) (sz := _) a3 S h) (cwV 1 X.2.2.2.2.1 (gwV 51 52 53 24 30 rfl rfl rfl rfl rfl) rfl rfl rfl q_isBlower ⟨Nat.le_of_ble_eq_true rfl, Nat.le_of_ble_eq_true rfl⟩) hP hD hS rfl hl.1 rfl (Nat.le_of_ble_eq_true rfl) (dk DX12_coughs 17 rfl) (fun r5 S4 H locs h hP hD hS => ?_)
          refine lv_if_ne (tgt := 42) hx hb (dk DX12_coughs 18 rfl) (by decide) (fun hc => ?_) (fun hc => ?_)
          · have h := h.1 hc
            refine lv_iload_n hx hb (dk DX12_coughs 21 rfl) rfl (lv_at hl 1 rfl) ?_
            refine lv_bipush (v := 7) hx hb (dk DX12_coughs 22 rfl) (by decide) ?_
            refine lv_imul hx hb (dk DX12_coughs 23 rfl) ?_
            refine lv_iconst (v := 5) hx hb (dk DX12_coughs 24 rfl) (by decide) ?_
            refine lv_iadd hx hb (dk DX12_coughs 25 rfl) ?_
            refine lv_topi (fun v6 ev6 => ?_)
            have h := h v6 ev6
            refine lv_istore (lv' := [(5, .int v6), (0, .ref (q 0)), (1, .int a0), (2, .int a1), (3, .int a2), (4, .int a3)]) hx hb (dk DX12_coughs 26 rfl) hl (by decide) rfl (fun ls hl => ?_)
            refine lv_iconst (v := 0) hx hb (dk DX12_coughs 27 rfl) (by decide) ?_
            refine lv_istore (lv' := [(6, .int 0), (5, .int v6), (0, .ref (q 0)), (1, .int a0), (2, .int a1), (3, .int a2), (4, .int a3)]) hx hb (dk DX12_coughs 28 rfl) hl (by decide) rfl (fun ls hl => ?_)
            refine lv_iconst (v := 0) hx hb (dk DX12_coughs 29 rfl) (by decide) ?_
            refine lv_istore (lv' := [(7, .int 0), (6, .int 0), (5, .int v6), (0, .ref (q 0)), (1, .int a0), (2, .int a1), (3, .int a2), (4, .int a3)]) hx hb (dk DX12_coughs 30 rfl) hl (by decide) rfl (fun ls hl => ?_)
            exact h _ _ hP hD hS ls (lv_sub hl [3, 4, 5, 6, 7, 2, 1, 0] rfl)
          · have h := h.2 hc
            refine lv_iconst (v := (-1)) hx hb (dk DX12_coughs 19 rfl) (by decide) ?_
            exact W.iret (v := (-1)) hx hb hr (fun t ht hW => ⟨⟨_, _, rfl, h, by rw [ht]; exact hP, va_K.moved hW.alike X.2.2.2.2.2.2.1, hD⟩, hS.F ht⟩) hS.2.2 (dk DX12_coughs 20 rfl)
  · rintro (⟨x1, x2, x3, x4, x5, x6, x7⟩ | ⟨x1, x2, x3, x4, x5, x6, x7, x8⟩ | ⟨x1, x2, x3, x4, x5, x6, x7, x8, t0, t1⟩) S hB
    · exact h_coughs_0 X hr hlocks (hK0 := fun _ _ _ _ _ _ _ _ h => h) (hK1 := fun _ _ _ _ _ _ _ _ _ h => h) (hK2 := fun _ _ _ _ _ _ _ _ _ _ _ h => h) x1 x2 x3 x4 x5 x6 x7 S hB
    · exact h_coughs_1 X hr hlocks (hK0 := fun _ _ _ _ _ _ _ _ h => h) (hK1 := fun _ _ _ _ _ _ _ _ _ h => h) (hK2 := fun _ _ _ _ _ _ _ _ _ _ _ h => h) x1 x2 x3 x4 x5 x6 x7 x8 S hB
    · exact h_coughs_2 X hr hlocks (hK0 := fun _ _ _ _ _ _ _ _ h => h) (hK1 := fun _ _ _ _ _ _ _ _ _ h => h) (hK2 := fun _ _ _ _ _ _ _ _ _ _ _ h => h) x1 x2 x3 x4 x5 x6 x7 x8 t0 t1 S hB

def ww_image : List Cond := .code yX12_image cX12_image 1 (some .int) :: (WdM ++ wsX120)
theorem q_image : yX12_image.cls = RX12 ∧ yX12_image.cls ≠ "java/lang/invoke/MethodHandle" ∧ yX12_image.cls ≠ "java/lang/invoke/VarHandle" ∧ (parseMethodDescriptor yX12_image.desc).map (fun d => d.parameters.length) = some 0 := by decide +kernel
def VC_image (Post : Int32 → MS → Prop) (S : MS) : Prop := VC_copy_1_2 (fun S1 => vp_in (3 : Int32) 3890 ∧ Post ((S1.2.2.1 0) (3 : Int32).toNatClampNeg) S1) S
set_option maxHeartbeats 4000000 in
set_option maxRecDepth 100000 in
theorem m_image {l : Launch} {dC : Nat → ClassId} {dI : Nat → Nat → Nat} {q : Nat → Nat} {cI cJ cZ : ClassId} {sz : Nat} {Post : Int32 → MS → Prop} (S : MS) (h : VC_image Post S) : Met l yX12_image ww_image ({ frames := 1, cells := 0, slots := 0, locals := 22 } : Room) (va_Pc [.ref (q 0)] (preM dC dI q cI cJ cZ S sz)) (va_Qi Post (atM dC dI q cI cJ cZ (va_A (wM q cI cJ cZ S) sz)) (va_A (wM q cI cJ cZ S) sz)) 0 0 (va_A (wM q cI cJ cZ S) sz) := by
  refine oM (cc := cX12_image) (maxL := 1) (ret := (some .int)) (Qc := fun A => va_Qi Post (atM dC dI q cI cJ cZ A) A) (by decide) rfl (fun w h => List.mem_cons_of_mem _ (List.mem_append_right _ h)) rfl (Nat.le_of_ble_eq_true rfl) (fun p e s m below meth c A ls X hr hlocks hP hD hS hl => ?_)
  have hx := X.1
  have hb := X.2.1
  have hl : lv_has ls 1 [(0, .ref (q 0))] := hl
  have lk7 := X.2.2.2.2.1 (.fieldLink RX12 7 "BreathOnLoanModel" "a" "[I") (inW 5 rfl)
  have lk13 := X.2.2.2.2.1 (.fieldLink RX12 13 "BreathOnLoanModel" "image" "[I") (inW 6 rfl)
  dsimp only [VC_image] at h
  refine lv_aload_n hx hb (dk DX12_image 0 rfl) rfl (lv_at hl 0 rfl) ?_
  refine gM X hP 0 (by decide) rfl lk7 (dk DX12_image 1 rfl) ?_
  refine lv_aload_n hx hb (dk DX12_image 2 rfl) rfl (lv_at hl 0 rfl) ?_
  refine gM X hP 1 (by decide) rfl lk13 (dk DX12_image 3 rfl) ?_
  refine cMsv (As := [.ref (q 1), .ref (q 2)]) (rest := []) X (m_copy_1_2 (l := l) (dC := dC) (dI := dI) (q := q) (cI := cI) (cJ := cJ) (cZ := cZ) (sz := _) S h) (va_cwS 2 X.2.2.2.2.1 (gwS 22 23 24 3 rfl rfl rfl rfl) rfl rfl rfl q_copy_1_2 ⟨Nat.le_of_ble_eq_true rfl, Nat.le_of_ble_eq_true rfl⟩) hP hD hS rfl hl.1 rfl (Nat.le_of_ble_eq_true rfl) (dk DX12_image 4 rfl) (fun S1 H locs h hP hD hS => ?_)
  refine lv_aload_n hx hb (dk DX12_image 5 rfl) rfl (lv_at hl 0 rfl) ?_
  refine gM X hP 0 (by decide) rfl lk7 (dk DX12_image 6 rfl) ?_
  refine lv_iconst (v := 3) hx hb (dk DX12_image 7 rfl) (by decide) ?_
  obtain ⟨hin, h⟩ := h
  refine ldM X hP 1 rfl hin (dk DX12_image 8 rfl) ?_
  exact W.iret (v := (S1.2.2.1 0) (3 : Int32).toNatClampNeg) hx hb hr (fun t ht hW => ⟨⟨_, _, rfl, h, by rw [ht]; exact hP, va_K.moved hW.alike X.2.2.2.2.2.2.1, hD⟩, hS.F ht⟩) hS.2.2 (dk DX12_image 9 rfl)

def ww_back : List Cond := .code yX12_back cX12_back 1 (some .int) :: (WdM ++ wsX120)
theorem q_back : yX12_back.cls = RX12 ∧ yX12_back.cls ≠ "java/lang/invoke/MethodHandle" ∧ yX12_back.cls ≠ "java/lang/invoke/VarHandle" ∧ (parseMethodDescriptor yX12_back.desc).map (fun d => d.parameters.length) = some 0 := by decide +kernel
def VC_back (Post : Int32 → MS → Prop) (S : MS) : Prop := VC_copy_2_1 (fun S1 => vp_in (3 : Int32) 3890 ∧ Post ((S1.2.2.1 0) (3 : Int32).toNatClampNeg) S1) S
set_option maxHeartbeats 4000000 in
set_option maxRecDepth 100000 in
theorem m_back {l : Launch} {dC : Nat → ClassId} {dI : Nat → Nat → Nat} {q : Nat → Nat} {cI cJ cZ : ClassId} {sz : Nat} {Post : Int32 → MS → Prop} (S : MS) (h : VC_back Post S) : Met l yX12_back ww_back ({ frames := 1, cells := 0, slots := 0, locals := 22 } : Room) (va_Pc [.ref (q 0)] (preM dC dI q cI cJ cZ S sz)) (va_Qi Post (atM dC dI q cI cJ cZ (va_A (wM q cI cJ cZ S) sz)) (va_A (wM q cI cJ cZ S) sz)) 0 0 (va_A (wM q cI cJ cZ S) sz) := by
  refine oM (cc := cX12_back) (maxL := 1) (ret := (some .int)) (Qc := fun A => va_Qi Post (atM dC dI q cI cJ cZ A) A) (by decide) rfl (fun w h => List.mem_cons_of_mem _ (List.mem_append_right _ h)) rfl (Nat.le_of_ble_eq_true rfl) (fun p e s m below meth c A ls X hr hlocks hP hD hS hl => ?_)
  have hx := X.1
  have hb := X.2.1
  have hl : lv_has ls 1 [(0, .ref (q 0))] := hl
  have lk13 := X.2.2.2.2.1 (.fieldLink RX12 13 "BreathOnLoanModel" "image" "[I") (inW 6 rfl)
  have lk7 := X.2.2.2.2.1 (.fieldLink RX12 7 "BreathOnLoanModel" "a" "[I") (inW 5 rfl)
  dsimp only [VC_back] at h
  refine lv_aload_n hx hb (dk DX12_back 0 rfl) rfl (lv_at hl 0 rfl) ?_
  refine gM X hP 1 (by decide) rfl lk13 (dk DX12_back 1 rfl) ?_
  refine lv_aload_n hx hb (dk DX12_back 2 rfl) rfl (lv_at hl 0 rfl) ?_
  refine gM X hP 0 (by decide) rfl lk7 (dk DX12_back 3 rfl) ?_
  refine cMsv (As := [.ref (q 2), .ref (q 1)]) (rest := []) X (m_copy_2_1 (l := l) (dC := dC) (dI := dI) (q := q) (cI := cI) (cJ := cJ) (cZ := cZ) (sz := _) S h) (va_cwS 2 X.2.2.2.2.1 (gwS 22 23 24 3 rfl rfl rfl rfl) rfl rfl rfl q_copy_2_1 ⟨Nat.le_of_ble_eq_true rfl, Nat.le_of_ble_eq_true rfl⟩) hP hD hS rfl hl.1 rfl (Nat.le_of_ble_eq_true rfl) (dk DX12_back 4 rfl) (fun S1 H locs h hP hD hS => ?_)
  refine lv_aload_n hx hb (dk DX12_back 5 rfl) rfl (lv_at hl 0 rfl) ?_
  refine gM X hP 0 (by decide) rfl lk7 (dk DX12_back 6 rfl) ?_
  refine lv_iconst (v := 3) hx hb (dk DX12_back 7 rfl) (by decide) ?_
  obtain ⟨hin, h⟩ := h
  refine ldM X hP 1 rfl hin (dk DX12_back 8 rfl) ?_
  exact W.iret (v := (S1.2.2.1 0) (3 : Int32).toNatClampNeg) hx hb hr (fun t ht hW => ⟨⟨_, _, rfl, h, by rw [ht]; exact hP, va_K.moved hW.alike X.2.2.2.2.2.2.1, hD⟩, hS.F ht⟩) hS.2.2 (dk DX12_back 9 rfl)

