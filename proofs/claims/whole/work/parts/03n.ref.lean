-- blow later
def ww_blow : List Cond := .code yX12_blow cX12_blow 9 (some .int) :: (WdM ++ wsX120)
theorem q_blow : yX12_blow.cls = RX12 ∧ yX12_blow.cls ≠ "java/lang/invoke/MethodHandle" ∧ yX12_blow.cls ≠ "java/lang/invoke/VarHandle" ∧ (parseMethodDescriptor yX12_blow.desc).map (fun d => d.parameters.length) = some 3 := by decide +kernel
abbrev Hd_blow : Type := (Int32 × Int32 × Int32 × Int32 × Int32 × Int32 × Int32 × Int32) ⊕ (Int32 × Int32 × Int32 × Int32 × Int32 × Int32 × Int32 × Int32 × Int32 × Int32)
def B_blow (Post : Int32 → MS → Prop) (K : Hd_blow → MS → Prop) : Hd_blow → MS → Prop
  | (.inl (x1, x2, x3, x4, x5, x6, x7, t0)), S => vp_in (x5 + 2) 3890 ∧ ((((S.2.2.1 0) (x5 + 2).toNatClampNeg) < x7 → vp_in (x5 + 1) 3890 ∧ Post ((S.2.2.1 0) (x5 + 1).toNatClampNeg) S) ∧ (¬ ((S.2.2.1 0) (x5 + 2).toNatClampNeg) < x7 → vp_in (x5 + 2) 3890 ∧ ((¬ ((S.2.2.1 0) (x5 + 2).toNatClampNeg) = x7 → K (.inr (x1, x2, x3, x4, x5, x6, x7, t0, x5 + 1, 2)) S) ∧ (((S.2.2.1 0) (x5 + 2).toNatClampNeg) = x7 → ((t0 = 0 → K (.inr (x1, x2, x3, x4, x5, x6, x7, t0, x5 + 1, 2)) S) ∧ (¬ t0 = 0 → K (.inr (x1, x2, x3, x4, x5, x6, x7, t0, x5 + 1, 1)) S))))))
  | (.inr (x1, x2, x3, x4, x5, x6, x7, x8, t1, t2)), S => vp_in t1 3890 ∧ ∀ S43 : MS, S43 = sF S 0 (upd (S.2.2.1 0) t1.toNatClampNeg t2) → vp_in (x5 + 1) 3890 ∧ Post ((S43.2.2.1 0) (x5 + 1).toNatClampNeg) S43
def VC_blow (Post : Int32 → MS → Prop) (a0 : Int32) (a1 : Int32) (a2 : Int32) (S : MS) : Prop := ∀ K : Hd_blow → MS → Prop, (∀ h S, B_blow Post K h S → K h S) → VC_isPiece (fun r2 S1 => ((r2 = 0 → Post (-1) S1) ∧ (¬ r2 = 0 → VC_isBlower (fun r4 S3 => ((r4 = 0 → Post (-1) S3) ∧ (¬ r4 = 0 → VC_isIn (fun r5 => ((r5 = 0 → Post (-1) S3) ∧ (¬ r5 = 0 → VC_pieceAt (fun r6 => vp_in (r6 + 1) 3890 ∧ ((¬ ((S3.2.2.1 0) (r6 + 1).toNatClampNeg) = 0 → Post (-1) S3) ∧ (((S3.2.2.1 0) (r6 + 1).toNatClampNeg) = 0 → vp_in (9 : Int32) 3890 ∧ ((¬ ((S3.2.2.1 0) (9 : Int32).toNatClampNeg) = 40 → VC_get (fun r8 S7 => VC_get (fun r10 S9 => ((r10 < (r8 + a2) → Post (-1) S9) ∧ (¬ r10 < (r8 + a2) → VC_givenByAll (fun r12 S11 => vp_in (3 : Int32) 3890 ∧ VC_smokeIn (fun r14 S13 => (((r12 + a2) ≤ r14 → vp_in (3 : Int32) 3890 ∧ VC_costOf (fun r16 S15 => ∀ v17 : Int32, v17 = a2 * r16 → VC_get (fun r19 S18 => ((v17 ≤ r19 → VC_keep (fun S20 => VC_get (fun r22 S21 => VC_set (fun S23 => VC_get (fun r25 S24 => VC_set (fun S26 => VC_pieceAt (fun r27 => vp_in (r27 + 2) 3890 ∧ ∀ v28 : Int32, v28 = ((S26.2.2.1 0) (r27 + 2).toNatClampNeg) + a2 → vp_in (r27 + 2) 3890 ∧ ∀ S29 : MS, S29 = sF S26 0 (upd (S26.2.2.1 0) (r27 + 2).toNatClampNeg v28) → vp_in ((r27 + 4) + a1) 3890 ∧ ∀ v30 : Int32, v30 = ((S29.2.2.1 0) ((r27 + 4) + a1).toNatClampNeg) + a2 → vp_in ((r27 + 4) + a1) 3890 ∧ ∀ S31 : MS, S31 = sF S29 0 (upd (S29.2.2.1 0) ((r27 + 4) + a1).toNatClampNeg v30) → vp_in (9 : Int32) 3890 ∧ ∀ v32 : Int32, v32 = 250 + (4 * ((S31.2.2.1 0) (9 : Int32).toNatClampNeg)) → vp_in v32 3890 ∧ ∀ S33 : MS, S33 = sF S31 0 (upd (S31.2.2.1 0) v32.toNatClampNeg a0) → vp_in (v32 + 1) 3890 ∧ ∀ S34 : MS, S34 = sF S33 0 (upd (S33.2.2.1 0) (v32 + 1).toNatClampNeg a1) → vp_in (v32 + 2) 3890 ∧ ∀ S35 : MS, S35 = sF S34 0 (upd (S34.2.2.1 0) (v32 + 2).toNatClampNeg a2) → vp_in (3 : Int32) 3890 ∧ ∀ v36 : Int32, v36 = (S35.2.2.1 0) (3 : Int32).toNatClampNeg → vp_in (v32 + 3) 3890 ∧ ∀ S37 : MS, S37 = sF S35 0 (upd (S35.2.2.1 0) (v32 + 3).toNatClampNeg v36) → vp_in (9 : Int32) 3890 ∧ ∀ v38 : Int32, v38 = ((S37.2.2.1 0) (9 : Int32).toNatClampNeg) + 1 → vp_in (9 : Int32) 3890 ∧ ∀ S39 : MS, S39 = sF S37 0 (upd (S37.2.2.1 0) (9 : Int32).toNatClampNeg v38) → vp_in r27 3890 ∧ vp_in (40 + (3 * ((S39.2.2.1 0) r27.toNatClampNeg))) 3890 ∧ ∀ v40 : Int32, v40 = (S39.2.2.1 0) (40 + (3 * ((S39.2.2.1 0) r27.toNatClampNeg))).toNatClampNeg → vp_in r27 3890 ∧ vp_in ((40 + (3 * ((S39.2.2.1 0) r27.toNatClampNeg))) + 1) 3890 ∧ VC_voicesOf (fun r42 S41 => ((¬ (((S39.2.2.1 0) ((40 + (3 * ((S39.2.2.1 0) r27.toNatClampNeg))) + 1).toNatClampNeg) &&& (r42 ^^^ (-1))) = 0 → K (.inl (a0, a1, a2, v17, r27, v32, v40, 0)) S41) ∧ ((((S39.2.2.1 0) ((40 + (3 * ((S39.2.2.1 0) r27.toNatClampNeg))) + 1).toNatClampNeg) &&& (r42 ^^^ (-1))) = 0 → K (.inl (a0, a1, a2, v17, r27, v32, v40, 1)) S41))) a0 S39) a0) a1 3 (r25 + a2) S24) a1 3 S23) a1 2 (r22 - v17) S21) a1 2 S20) S18) ∧ (¬ v17 ≤ r19 → Post (-1) S18))) a1 2 S15) a1 ((S13.2.2.1 0) (3 : Int32).toNatClampNeg) S13) ∧ (¬ (r12 + a2) ≤ r14 → Post (-1) S13))) ((S11.2.2.1 0) (3 : Int32).toNatClampNeg) S11) S9))) a1 0 S7) a1 3 S3) ∧ (((S3.2.2.1 0) (9 : Int32).toNatClampNeg) = 40 → Post (-1) S3))))) a0))) a2 1 9))) a1 S1))) a0 S
set_option maxHeartbeats 4000000 in
set_option maxRecDepth 100000 in
theorem h_blow_0 {p : Program} {l : Launch} {e : Env} {s : State} {m : MethodId} {below : List Frame} {meth : Method} {c : Code} {dC : Nat → ClassId} {dI : Nat → Nat → Nat} {q : Nat → Nat} {cI cJ cZ : ClassId} {A : Nat → Prop} {args : Array Value} {Post : Int32 → MS → Prop} {K : Hd_blow → MS → Prop} (X : XM p s m args c cX12_blow 9 ww_blow dC dI cI cJ cZ A) (hr : meth.sig.returnType = (some .int)) (hlocks : meth.locks = false) (hK0 : ∀ (x1 : Int32) (x2 : Int32) (x3 : Int32) (x4 : Int32) (x5 : Int32) (x6 : Int32) (x7 : Int32) (t0 : Int32) (S : MS), K (.inl (x1, x2, x3, x4, x5, x6, x7, t0)) S → ∀ (H : Heap) (locs : List Loc), va_P (dC, dI) vwCl (wM q cI cJ cZ S) H → va_D A (wM q cI cJ cZ S) → va_S A s.heap H locs → ∀ ls : Array Slot, lv_has ls 9 [(0, .ref (q 0)), (1, .int x1), (2, .int x2), (3, .int x3), (4, .int x4), (5, .int x5), (6, .int x6), (7, .int x7)] → W p l e (headSpec ww_blow ({ frames := 5, cells := 0, slots := 0, locals := 119 } : Room)).room s m args below meth c H locs 0 0 (MQ below (va_Qi Post (atM dC dI q cI cJ cZ A) A) args s 0 0 A) (F0 m 310 ls [.int t0])) (hK1 : ∀ (x1 : Int32) (x2 : Int32) (x3 : Int32) (x4 : Int32) (x5 : Int32) (x6 : Int32) (x7 : Int32) (x8 : Int32) (t1 : Int32) (t2 : Int32) (S : MS), K (.inr (x1, x2, x3, x4, x5, x6, x7, x8, t1, t2)) S → ∀ (H : Heap) (locs : List Loc), va_P (dC, dI) vwCl (wM q cI cJ cZ S) H → va_D A (wM q cI cJ cZ S) → va_S A s.heap H locs → ∀ ls : Array Slot, lv_has ls 9 [(0, .ref (q 0)), (1, .int x1), (2, .int x2), (3, .int x3), (4, .int x4), (5, .int x5), (6, .int x6), (7, .int x7), (8, .int x8)] → W p l e (headSpec ww_blow ({ frames := 5, cells := 0, slots := 0, locals := 119 } : Room)).room s m args below meth c H locs 0 0 (MQ below (va_Qi Post (atM dC dI q cI cJ cZ A) A) args s 0 0 A) (F0 m 358 ls [.int t2, .int t1, .ref (q 1)])) (x1 : Int32) (x2 : Int32) (x3 : Int32) (x4 : Int32) (x5 : Int32) (x6 : Int32) (x7 : Int32) (t0 : Int32) (S : MS) (h : B_blow Post K (.inl (x1, x2, x3, x4, x5, x6, x7, t0)) S) : ∀ (H : Heap) (locs : List Loc), va_P (dC, dI) vwCl (wM q cI cJ cZ S) H → va_D A (wM q cI cJ cZ S) → va_S A s.heap H locs → ∀ ls : Array Slot, lv_has ls 9 [(0, .ref (q 0)), (1, .int x1), (2, .int x2), (3, .int x3), (4, .int x4), (5, .int x5), (6, .int x6), (7, .int x7)] → W p l e (headSpec ww_blow ({ frames := 5, cells := 0, slots := 0, locals := 119 } : Room)).room s m args below meth c H locs 0 0 (MQ below (va_Qi Post (atM dC dI q cI cJ cZ A) A) args s 0 0 A) (F0 m 310 ls [.int t0]) := by
  have hx := X.1
  have hb := X.2.1
  intro H locs hP hD hS ls hl
  have lk7 := X.2.2.2.2.1 (.fieldLink RX12 7 "BreathOnLoanModel" "a" "[I") (inW 5 rfl)
  dsimp only [B_blow] at h
  refine lv_istore (lv' := [(8, .int t0), (0, .ref (q 0)), (1, .int x1), (2, .int x2), (3, .int x3), (4, .int x4), (5, .int x5), (6, .int x6), (7, .int x7)]) hx hb (dk DX12_blow 199 rfl) hl (by decide) rfl (fun ls hl => ?_)
  refine lv_aload_n hx hb (dk DX12_blow 200 rfl) rfl (lv_at hl 1 rfl) ?_
  refine gM X hP 0 (by decide) rfl lk7 (dk DX12_blow 201 rfl) ?_
  refine lv_iload hx hb (dk DX12_blow 202 rfl) (lv_at hl 6 rfl) ?_
  refine lv_iconst (v := 2) hx hb (dk DX12_blow 203 rfl) (by decide) ?_
  refine lv_iadd hx hb (dk DX12_blow 204 rfl) ?_
  obtain ⟨hin, h⟩ := h
  refine ldM X hP 1 rfl hin (dk DX12_blow 205 rfl) ?_
  refine lv_iload hx hb (dk DX12_blow 206 rfl) (lv_at hl 8 rfl) ?_
  refine lv_icmp_lt (tgt := 359) hx hb (dk DX12_blow 207 rfl) (by decide) (fun hc => ?_) (fun hc => ?_)
  · have h := h.1 hc
    refine lv_aload_n hx hb (dk DX12_blow 227 rfl) rfl (lv_at hl 1 rfl) ?_
    refine gM X hP 0 (by decide) rfl lk7 (dk DX12_blow 228 rfl) ?_
    refine lv_iload hx hb (dk DX12_blow 229 rfl) (lv_at hl 6 rfl) ?_
    refine lv_iconst (v := 1) hx hb (dk DX12_blow 230 rfl) (by decide) ?_
    refine lv_iadd hx hb (dk DX12_blow 231 rfl) ?_
    obtain ⟨hin, h⟩ := h
    refine ldM X hP 1 rfl hin (dk DX12_blow 232 rfl) ?_
    exact W.iret (v := (S.2.2.1 0) (x5 + 1).toNatClampNeg) hx hb hr (fun t ht hW => ⟨⟨_, _, rfl, h, by rw [ht]; exact hP, va_K.moved hW.alike X.2.2.2.2.2.2.1, hD⟩, hS.F ht⟩) hS.2.2 (dk DX12_blow 233 rfl)
  · have h := h.2 hc
    refine lv_aload_n hx hb (dk DX12_blow 208 rfl) rfl (lv_at hl 1 rfl) ?_
    refine gM X hP 0 (by decide) rfl lk7 (dk DX12_blow 209 rfl) ?_
    refine lv_iload hx hb (dk DX12_blow 210 rfl) (lv_at hl 6 rfl) ?_
    refine lv_iconst (v := 1) hx hb (dk DX12_blow 211 rfl) (by decide) ?_
    refine lv_iadd hx hb (dk DX12_blow 212 rfl) ?_
    refine lv_aload_n hx hb (dk DX12_blow 213 rfl) rfl (lv_at hl 1 rfl) ?_
    refine gM X hP 0 (by decide) rfl lk7 (dk DX12_blow 214 rfl) ?_
    refine lv_iload hx hb (dk DX12_blow 215 rfl) (lv_at hl 6 rfl) ?_
    refine lv_iconst (v := 2) hx hb (dk DX12_blow 216 rfl) (by decide) ?_
    refine lv_iadd hx hb (dk DX12_blow 217 rfl) ?_
    obtain ⟨hin, h⟩ := h
    refine ldM X hP 1 rfl hin (dk DX12_blow 218 rfl) ?_
    refine lv_iload hx hb (dk DX12_blow 219 rfl) (lv_at hl 8 rfl) ?_
    refine lv_icmp_ne (tgt := 357) hx hb (dk DX12_blow 220 rfl) (by decide) (fun hc => ?_) (fun hc => ?_)
    · have h := h.1 hc
      refine lv_iconst (v := 2) hx hb (dk DX12_blow 225 rfl) (by decide) ?_
      exact hK1 x1 x2 x3 x4 x5 x6 x7 t0 (x5 + 1) 2 S h _ _ hP hD hS ls (lv_sub hl [1, 2, 3, 4, 5, 6, 7, 8, 0] rfl)
    · have h := h.2 hc
      refine lv_iload hx hb (dk DX12_blow 221 rfl) (lv_at hl 0 rfl) ?_
      refine lv_if_eq (tgt := 357) hx hb (dk DX12_blow 222 rfl) (by decide) (fun hc => ?_) (fun hc => ?_)
      · have h := h.1 hc
        refine lv_iconst (v := 2) hx hb (dk DX12_blow 225 rfl) (by decide) ?_
        exact hK1 x1 x2 x3 x4 x5 x6 x7 t0 (x5 + 1) 2 S h _ _ hP hD hS ls (lv_sub hl [1, 2, 3, 4, 5, 6, 7, 8, 0] rfl)
      · have h := h.2 hc
        refine lv_iconst (v := 1) hx hb (dk DX12_blow 223 rfl) (by decide) ?_
        refine lv_goto (tgt := 358) hx hb (dk DX12_blow 224 rfl) (by decide) ?_
        exact hK1 x1 x2 x3 x4 x5 x6 x7 t0 (x5 + 1) 1 S h _ _ hP hD hS ls (lv_sub hl [1, 2, 3, 4, 5, 6, 7, 8, 0] rfl)
set_option maxHeartbeats 4000000 in
set_option maxRecDepth 100000 in
theorem h_blow_1 {p : Program} {l : Launch} {e : Env} {s : State} {m : MethodId} {below : List Frame} {meth : Method} {c : Code} {dC : Nat → ClassId} {dI : Nat → Nat → Nat} {q : Nat → Nat} {cI cJ cZ : ClassId} {A : Nat → Prop} {args : Array Value} {Post : Int32 → MS → Prop} {K : Hd_blow → MS → Prop} (X : XM p s m args c cX12_blow 9 ww_blow dC dI cI cJ cZ A) (hr : meth.sig.returnType = (some .int)) (hlocks : meth.locks = false) (hK0 : ∀ (x1 : Int32) (x2 : Int32) (x3 : Int32) (x4 : Int32) (x5 : Int32) (x6 : Int32) (x7 : Int32) (t0 : Int32) (S : MS), K (.inl (x1, x2, x3, x4, x5, x6, x7, t0)) S → ∀ (H : Heap) (locs : List Loc), va_P (dC, dI) vwCl (wM q cI cJ cZ S) H → va_D A (wM q cI cJ cZ S) → va_S A s.heap H locs → ∀ ls : Array Slot, lv_has ls 9 [(0, .ref (q 0)), (1, .int x1), (2, .int x2), (3, .int x3), (4, .int x4), (5, .int x5), (6, .int x6), (7, .int x7)] → W p l e (headSpec ww_blow ({ frames := 5, cells := 0, slots := 0, locals := 119 } : Room)).room s m args below meth c H locs 0 0 (MQ below (va_Qi Post (atM dC dI q cI cJ cZ A) A) args s 0 0 A) (F0 m 310 ls [.int t0])) (hK1 : ∀ (x1 : Int32) (x2 : Int32) (x3 : Int32) (x4 : Int32) (x5 : Int32) (x6 : Int32) (x7 : Int32) (x8 : Int32) (t1 : Int32) (t2 : Int32) (S : MS), K (.inr (x1, x2, x3, x4, x5, x6, x7, x8, t1, t2)) S → ∀ (H : Heap) (locs : List Loc), va_P (dC, dI) vwCl (wM q cI cJ cZ S) H → va_D A (wM q cI cJ cZ S) → va_S A s.heap H locs → ∀ ls : Array Slot, lv_has ls 9 [(0, .ref (q 0)), (1, .int x1), (2, .int x2), (3, .int x3), (4, .int x4), (5, .int x5), (6, .int x6), (7, .int x7), (8, .int x8)] → W p l e (headSpec ww_blow ({ frames := 5, cells := 0, slots := 0, locals := 119 } : Room)).room s m args below meth c H locs 0 0 (MQ below (va_Qi Post (atM dC dI q cI cJ cZ A) A) args s 0 0 A) (F0 m 358 ls [.int t2, .int t1, .ref (q 1)])) (x1 : Int32) (x2 : Int32) (x3 : Int32) (x4 : Int32) (x5 : Int32) (x6 : Int32) (x7 : Int32) (x8 : Int32) (t1 : Int32) (t2 : Int32) (S : MS) (h : B_blow Post K (.inr (x1, x2, x3, x4, x5, x6, x7, x8, t1, t2)) S) : ∀ (H : Heap) (locs : List Loc), va_P (dC, dI) vwCl (wM q cI cJ cZ S) H → va_D A (wM q cI cJ cZ S) → va_S A s.heap H locs → ∀ ls : Array Slot, lv_has ls 9 [(0, .ref (q 0)), (1, .int x1), (2, .int x2), (3, .int x3), (4, .int x4), (5, .int x5), (6, .int x6), (7, .int x7), (8, .int x8)] → W p l e (headSpec ww_blow ({ frames := 5, cells := 0, slots := 0, locals := 119 } : Room)).room s m args below meth c H locs 0 0 (MQ below (va_Qi Post (atM dC dI q cI cJ cZ A) A) args s 0 0 A) (F0 m 358 ls [.int t2, .int t1, .ref (q 1)]) := by
  have hx := X.1
  have hb := X.2.1
  intro H locs hP hD hS ls hl
  have lk7 := X.2.2.2.2.1 (.fieldLink RX12 7 "BreathOnLoanModel" "a" "[I") (inW 5 rfl)
  dsimp only [B_blow] at h
  obtain ⟨hin, h⟩ := h
  refine stM_0 X hP hD hS hin (dk DX12_blow 226 rfl) (fun S43 eS43 H locs hP hD hS => ?_)
  have h := h S43 eS43
  refine lv_aload_n hx hb (dk DX12_blow 227 rfl) rfl (lv_at hl 0 rfl) ?_
  refine gM X hP 0 (by decide) rfl lk7 (dk DX12_blow 228 rfl) ?_
  refine lv_iload hx hb (dk DX12_blow 229 rfl) (lv_at hl 5 rfl) ?_
  refine lv_iconst (v := 1) hx hb (dk DX12_blow 230 rfl) (by decide) ?_
  refine lv_iadd hx hb (dk DX12_blow 231 rfl) ?_
  obtain ⟨hin, h⟩ := h
  refine ldM X hP 1 rfl hin (dk DX12_blow 232 rfl) ?_
  exact W.iret (v := (S43.2.2.1 0) (x5 + 1).toNatClampNeg) hx hb hr (fun t ht hW => ⟨⟨_, _, rfl, h, by rw [ht]; exact hP, va_K.moved hW.alike X.2.2.2.2.2.2.1, hD⟩, hS.F ht⟩) hS.2.2 (dk DX12_blow 233 rfl)
set_option maxHeartbeats 4000000 in
set_option maxRecDepth 100000 in
theorem m_blow {l : Launch} {dC : Nat → ClassId} {dI : Nat → Nat → Nat} {q : Nat → Nat} {cI cJ cZ : ClassId} {sz : Nat} {Post : Int32 → MS → Prop} (a0 : Int32) (a1 : Int32) (a2 : Int32) (S : MS) (h : VC_blow Post a0 a1 a2 S) : Met l yX12_blow ww_blow ({ frames := 5, cells := 0, slots := 0, locals := 119 } : Room) (va_Pc [.ref (q 0), .int a0, .int a1, .int a2] (preM dC dI q cI cJ cZ S sz)) (va_Qi Post (atM dC dI q cI cJ cZ (va_A (wM q cI cJ cZ S) sz)) (va_A (wM q cI cJ cZ S) sz)) 0 0 (va_A (wM q cI cJ cZ S) sz) := by
  refine oM (cc := cX12_blow) (maxL := 9) (ret := (some .int)) (Qc := fun A => va_Qi Post (atM dC dI q cI cJ cZ A) A) (by decide) rfl (fun w h => List.mem_cons_of_mem _ (List.mem_append_right _ h)) rfl (Nat.le_of_ble_eq_true rfl) (fun p e s m below meth c A ls X hr hlocks hP hD hS hl => ?_)
  have hx := X.1
  have hb := X.2.1
  have hl : lv_has ls 9 [(0, .ref (q 0)), (1, .int a0), (2, .int a1), (3, .int a2)] := hl
  have lk7 := X.2.2.2.2.1 (.fieldLink RX12 7 "BreathOnLoanModel" "a" "[I") (inW 5 rfl)
  generalize hargs : ([.ref (q 0), .int a0, .int a1, .int a2] : List Value).toArray = args at X ⊢
  have h := h (fun hd S => match hd with | (.inl (x1, x2, x3, x4, x5, x6, x7, t0)) => ∀ (H : Heap) (locs : List Loc), va_P (dC, dI) vwCl (wM q cI cJ cZ S) H → va_D A (wM q cI cJ cZ S) → va_S A s.heap H locs → ∀ ls : Array Slot, lv_has ls 9 [(0, .ref (q 0)), (1, .int x1), (2, .int x2), (3, .int x3), (4, .int x4), (5, .int x5), (6, .int x6), (7, .int x7)] → W p l e (headSpec ww_blow ({ frames := 5, cells := 0, slots := 0, locals := 119 } : Room)).room s m args below meth c H locs 0 0 (MQ below (va_Qi Post (atM dC dI q cI cJ cZ A) A) args s 0 0 A) (F0 m 310 ls [.int t0]) | (.inr (x1, x2, x3, x4, x5, x6, x7, x8, t1, t2)) => ∀ (H : Heap) (locs : List Loc), va_P (dC, dI) vwCl (wM q cI cJ cZ S) H → va_D A (wM q cI cJ cZ S) → va_S A s.heap H locs → ∀ ls : Array Slot, lv_has ls 9 [(0, .ref (q 0)), (1, .int x1), (2, .int x2), (3, .int x3), (4, .int x4), (5, .int x5), (6, .int x6), (7, .int x7), (8, .int x8)] → W p l e (headSpec ww_blow ({ frames := 5, cells := 0, slots := 0, locals := 119 } : Room)).room s m args below meth c H locs 0 0 (MQ below (va_Qi Post (atM dC dI q cI cJ cZ A) A) args s 0 0 A) (F0 m 358 ls [.int t2, .int t1, .ref (q 1)])) ?_
  · skip
    refine lv_aload_n hx hb (dk DX12_blow 0 rfl) rfl (lv_at hl 0 rfl) ?_
    refine lv_iload_n hx hb (dk DX12_blow 1 rfl) rfl (lv_at hl 1 rfl) ?_
    refine cMi (As := [.int a0]) (rest := []) X (m_isPiece (l := l) (dC := dC) (dI := dI) (q := q) (cI := cI) (cJ := cJ) (cZ := cZ) (sz := _) a0 S h) (cwV 1 X.2.2.2.2.1 (gwV 268 269 270 24 34 rfl rfl rfl rfl rfl) rfl rfl rfl q_isPiece ⟨Nat.le_of_ble_eq_true rfl, Nat.le_of_ble_eq_true rfl⟩) hP hD hS rfl hl.1 rfl (Nat.le_of_ble_eq_true rfl) (dk DX12_blow 2 rfl) (fun r2 S1 H locs h hP hD hS => ?_)
    refine lv_if_eq (tgt := 52) hx hb (dk DX12_blow 3 rfl) (by decide) (fun hc => ?_) (fun hc => ?_)
    · have h := h.1 hc
      refine lv_iconst (v := (-1)) hx hb (dk DX12_blow 27 rfl) (by decide) ?_
      exact W.iret (v := (-1)) hx hb hr (fun t ht hW => ⟨⟨_, _, rfl, h, by rw [ht]; exact hP, va_K.moved hW.alike X.2.2.2.2.2.2.1, hD⟩, hS.F ht⟩) hS.2.2 (dk DX12_blow 28 rfl)
    · have h := h.2 hc
      refine lv_aload_n hx hb (dk DX12_blow 4 rfl) rfl (lv_at hl 0 rfl) ?_
      refine lv_iload_n hx hb (dk DX12_blow 5 rfl) rfl (lv_at hl 2 rfl) ?_
      refine cMi (As := [.int a1]) (rest := []) X (m_isBlower (l := l) (dC := dC) (dI := dI) (q := q) (cI := cI) (cJ := cJ) (cZ := cZ) (sz := _) a1 S1 h) (cwV 1 X.2.2.2.2.1 (gwV 51 52 53 24 30 rfl rfl rfl rfl rfl) rfl rfl rfl q_isBlower ⟨Nat.le_of_ble_eq_true rfl, Nat.le_of_ble_eq_true rfl⟩) hP hD hS rfl hl.1 rfl (Nat.le_of_ble_eq_true rfl) (dk DX12_blow 6 rfl) (fun r4 S3 H locs h hP hD hS => ?_)
      refine lv_if_eq (tgt := 52) hx hb (dk DX12_blow 7 rfl) (by decide) (fun hc => ?_) (fun hc => ?_)
      · have h := h.1 hc
        refine lv_iconst (v := (-1)) hx hb (dk DX12_blow 27 rfl) (by decide) ?_
        exact W.iret (v := (-1)) hx hb hr (fun t ht hW => ⟨⟨_, _, rfl, h, by rw [ht]; exact hP, va_K.moved hW.alike X.2.2.2.2.2.2.1, hD⟩, hS.F ht⟩) hS.2.2 (dk DX12_blow 28 rfl)
      · have h := h.2 hc
        refine lv_iload_n hx hb (dk DX12_blow 8 rfl) rfl (lv_at hl 3 rfl) ?_
        refine lv_iconst (v := 1) hx hb (dk DX12_blow 9 rfl) (by decide) ?_
        refine lv_bipush (v := 9) hx hb (dk DX12_blow 10 rfl) (by decide) ?_
        refine cSi (As := [.int a2, .int 1, .int 9]) (rest := []) ⟨X.1, X.2.1, X.2.2.1, X.2.2.2.1, X.2.2.2.2.1⟩ (m_isIn (l := l) a2 1 9 h) (va_cwS 3 X.2.2.2.2.1 (gwS 31 32 24 26 rfl rfl rfl rfl) rfl rfl rfl q_isIn ⟨Nat.le_of_ble_eq_true rfl, Nat.le_of_ble_eq_true rfl⟩) rfl hl.1 rfl (Nat.le_of_ble_eq_true rfl) (dk DX12_blow 11 rfl) (fun r5 h => ?_)
        refine lv_if_eq (tgt := 52) hx hb (dk DX12_blow 12 rfl) (by decide) (fun hc => ?_) (fun hc => ?_)
        · have h := h.1 hc
          refine lv_iconst (v := (-1)) hx hb (dk DX12_blow 27 rfl) (by decide) ?_
          exact W.iret (v := (-1)) hx hb hr (fun t ht hW => ⟨⟨_, _, rfl, h, by rw [ht]; exact hP, va_K.moved hW.alike X.2.2.2.2.2.2.1, hD⟩, hS.F ht⟩) hS.2.2 (dk DX12_blow 28 rfl)
        · have h := h.2 hc
          refine lv_aload_n hx hb (dk DX12_blow 13 rfl) rfl (lv_at hl 0 rfl) ?_
          refine gM X hP 0 (by decide) rfl lk7 (dk DX12_blow 14 rfl) ?_
          refine lv_iload_n hx hb (dk DX12_blow 15 rfl) rfl (lv_at hl 1 rfl) ?_
          refine cSi (As := [.int a0]) (rest := [.ref (q 1)]) ⟨X.1, X.2.1, X.2.2.1, X.2.2.2.1, X.2.2.2.2.1⟩ (m_pieceAt (l := l) a0 h) (va_cwS 1 X.2.2.2.2.1 (gwS 40 41 24 38 rfl rfl rfl rfl) rfl rfl rfl q_pieceAt ⟨Nat.le_of_ble_eq_true rfl, Nat.le_of_ble_eq_true rfl⟩) rfl hl.1 rfl (Nat.le_of_ble_eq_true rfl) (dk DX12_blow 16 rfl) (fun r6 h => ?_)
          refine lv_iconst (v := 1) hx hb (dk DX12_blow 17 rfl) (by decide) ?_
          refine lv_iadd hx hb (dk DX12_blow 18 rfl) ?_
          obtain ⟨hin, h⟩ := h
          refine ldM X hP 1 rfl hin (dk DX12_blow 19 rfl) ?_
          refine lv_if_ne (tgt := 52) hx hb (dk DX12_blow 20 rfl) (by decide) (fun hc => ?_) (fun hc => ?_)
          · have h := h.1 hc
            refine lv_iconst (v := (-1)) hx hb (dk DX12_blow 27 rfl) (by decide) ?_
            exact W.iret (v := (-1)) hx hb hr (fun t ht hW => ⟨⟨_, _, rfl, h, by rw [ht]; exact hP, va_K.moved hW.alike X.2.2.2.2.2.2.1, hD⟩, hS.F ht⟩) hS.2.2 (dk DX12_blow 28 rfl)
          · have h := h.2 hc
            refine lv_aload_n hx hb (dk DX12_blow 21 rfl) rfl (lv_at hl 0 rfl) ?_
            refine gM X hP 0 (by decide) rfl lk7 (dk DX12_blow 22 rfl) ?_
            refine lv_bipush (v := 9) hx hb (dk DX12_blow 23 rfl) (by decide) ?_
            obtain ⟨hin, h⟩ := h
            refine ldM X hP 1 rfl hin (dk DX12_blow 24 rfl) ?_
            refine lv_bipush (v := 40) hx hb (dk DX12_blow 25 rfl) (by decide) ?_
            refine lv_icmp_ne (tgt := 54) hx hb (dk DX12_blow 26 rfl) (by decide) (fun hc => ?_) (fun hc => ?_)
            · have h := h.1 hc
              refine lv_aload_n hx hb (dk DX12_blow 29 rfl) rfl (lv_at hl 0 rfl) ?_
              refine lv_iload_n hx hb (dk DX12_blow 30 rfl) rfl (lv_at hl 2 rfl) ?_
              refine lv_iconst (v := 3) hx hb (dk DX12_blow 31 rfl) (by decide) ?_
              refine cMi (As := [.int a1, .int 3]) (rest := []) X (m_get (l := l) (dC := dC) (dI := dI) (q := q) (cI := cI) (cJ := cJ) (cZ := cZ) (sz := _) a1 3 S3 h) (cwV 2 X.2.2.2.2.1 (gwV 47 48 49 24 36 rfl rfl rfl rfl rfl) rfl rfl rfl q_get ⟨Nat.le_of_ble_eq_true rfl, Nat.le_of_ble_eq_true rfl⟩) hP hD hS rfl hl.1 rfl (Nat.le_of_ble_eq_true rfl) (dk DX12_blow 32 rfl) (fun r8 S7 H locs h hP hD hS => ?_)
              refine lv_iload_n hx hb (dk DX12_blow 33 rfl) rfl (lv_at hl 3 rfl) ?_
              refine lv_iadd hx hb (dk DX12_blow 34 rfl) ?_
              refine lv_aload_n hx hb (dk DX12_blow 35 rfl) rfl (lv_at hl 0 rfl) ?_
              refine lv_iload_n hx hb (dk DX12_blow 36 rfl) rfl (lv_at hl 2 rfl) ?_
              refine lv_iconst (v := 0) hx hb (dk DX12_blow 37 rfl) (by decide) ?_
              refine cMi (As := [.int a1, .int 0]) (rest := [.int (r8 + a2)]) X (m_get (l := l) (dC := dC) (dI := dI) (q := q) (cI := cI) (cJ := cJ) (cZ := cZ) (sz := _) a1 0 S7 h) (cwV 2 X.2.2.2.2.1 (gwV 47 48 49 24 36 rfl rfl rfl rfl rfl) rfl rfl rfl q_get ⟨Nat.le_of_ble_eq_true rfl, Nat.le_of_ble_eq_true rfl⟩) hP hD hS rfl hl.1 rfl (Nat.le_of_ble_eq_true rfl) (dk DX12_blow 38 rfl) (fun r10 S9 H locs h hP hD hS => ?_)
              refine lv_icmp_gt (tgt := 90) hx hb (dk DX12_blow 39 rfl) (by decide) (fun hc => ?_) (fun hc => ?_)
              · have h := h.1 hc
                refine lv_iconst (v := (-1)) hx hb (dk DX12_blow 51 rfl) (by decide) ?_
                exact W.iret (v := (-1)) hx hb hr (fun t ht hW => ⟨⟨_, _, rfl, h, by rw [ht]; exact hP, va_K.moved hW.alike X.2.2.2.2.2.2.1, hD⟩, hS.F ht⟩) hS.2.2 (dk DX12_blow 52 rfl)
              · have h := h.2 hc
                refine lv_aload_n hx hb (dk DX12_blow 40 rfl) rfl (lv_at hl 0 rfl) ?_
                refine cMi (As := []) (rest := []) X (m_givenByAll (l := l) (dC := dC) (dI := dI) (q := q) (cI := cI) (cJ := cJ) (cZ := cZ) (sz := _) S9 h) (cwV 0 X.2.2.2.2.1 (gwV 271 272 273 24 267 rfl rfl rfl rfl rfl) rfl rfl rfl q_givenByAll ⟨Nat.le_of_ble_eq_true rfl, Nat.le_of_ble_eq_true rfl⟩) hP hD hS rfl hl.1 rfl (Nat.le_of_ble_eq_true rfl) (dk DX12_blow 41 rfl) (fun r12 S11 H locs h hP hD hS => ?_)
                refine lv_iload_n hx hb (dk DX12_blow 42 rfl) rfl (lv_at hl 3 rfl) ?_
                refine lv_iadd hx hb (dk DX12_blow 43 rfl) ?_
                refine lv_aload_n hx hb (dk DX12_blow 44 rfl) rfl (lv_at hl 0 rfl) ?_
                refine lv_aload_n hx hb (dk DX12_blow 45 rfl) rfl (lv_at hl 0 rfl) ?_
                refine gM X hP 0 (by decide) rfl lk7 (dk DX12_blow 46 rfl) ?_
                refine lv_iconst (v := 3) hx hb (dk DX12_blow 47 rfl) (by decide) ?_
                obtain ⟨hin, h⟩ := h
                refine ldM X hP 1 rfl hin (dk DX12_blow 48 rfl) ?_
                refine cMi (As := [.int ((S11.2.2.1 0) (3 : Int32).toNatClampNeg)]) (rest := [.int (r12 + a2)]) X (m_smokeIn (l := l) (dC := dC) (dI := dI) (q := q) (cI := cI) (cJ := cJ) (cZ := cZ) (sz := _) ((S11.2.2.1 0) (3 : Int32).toNatClampNeg) S11 h) (cwV 1 X.2.2.2.2.1 (gwV 249 250 251 24 230 rfl rfl rfl rfl rfl) rfl rfl rfl q_smokeIn ⟨Nat.le_of_ble_eq_true rfl, Nat.le_of_ble_eq_true rfl⟩) hP hD hS rfl hl.1 rfl (Nat.le_of_ble_eq_true rfl) (dk DX12_blow 49 rfl) (fun r14 S13 H locs h hP hD hS => ?_)
                refine lv_icmp_le (tgt := 92) hx hb (dk DX12_blow 50 rfl) (by decide) (fun hc => ?_) (fun hc => ?_)
                · have h := h.1 hc
                  refine lv_iload_n hx hb (dk DX12_blow 53 rfl) rfl (lv_at hl 3 rfl) ?_
                  refine lv_aload_n hx hb (dk DX12_blow 54 rfl) rfl (lv_at hl 0 rfl) ?_
                  refine lv_iload_n hx hb (dk DX12_blow 55 rfl) rfl (lv_at hl 2 rfl) ?_
                  refine lv_aload_n hx hb (dk DX12_blow 56 rfl) rfl (lv_at hl 0 rfl) ?_
                  refine gM X hP 0 (by decide) rfl lk7 (dk DX12_blow 57 rfl) ?_
                  refine lv_iconst (v := 3) hx hb (dk DX12_blow 58 rfl) (by decide) ?_
                  obtain ⟨hin, h⟩ := h
                  refine ldM X hP 1 rfl hin (dk DX12_blow 59 rfl) ?_
                  refine cMi (As := [.int a1, .int ((S13.2.2.1 0) (3 : Int32).toNatClampNeg)]) (rest := [.int a2]) X (m_costOf (l := l) (dC := dC) (dI := dI) (q := q) (cI := cI) (cJ := cJ) (cZ := cZ) (sz := _) a1 ((S13.2.2.1 0) (3 : Int32).toNatClampNeg) S13 h) (cwV 2 X.2.2.2.2.1 (gwV 253 254 255 24 235 rfl rfl rfl rfl rfl) rfl rfl rfl q_costOf ⟨Nat.le_of_ble_eq_true rfl, Nat.le_of_ble_eq_true rfl⟩) hP hD hS rfl hl.1 rfl (Nat.le_of_ble_eq_true rfl) (dk DX12_blow 60 rfl) (fun r16 S15 H locs h hP hD hS => ?_)
                  refine lv_imul hx hb (dk DX12_blow 61 rfl) ?_
                  refine lv_topi (fun v17 ev17 => ?_)
                  have h := h v17 ev17
                  refine lv_istore (lv' := [(4, .int v17), (0, .ref (q 0)), (1, .int a0), (2, .int a1), (3, .int a2)]) hx hb (dk DX12_blow 62 rfl) hl (by decide) rfl (fun ls hl => ?_)
                  refine lv_iload hx hb (dk DX12_blow 63 rfl) (lv_at hl 0 rfl) ?_
                  refine lv_aload_n hx hb (dk DX12_blow 64 rfl) rfl (lv_at hl 1 rfl) ?_
                  refine lv_iload_n hx hb (dk DX12_blow 65 rfl) rfl (lv_at hl 3 rfl) ?_
                  refine lv_iconst (v := 2) hx hb (dk DX12_blow 66 rfl) (by decide) ?_
                  refine cMi (As := [.int a1, .int 2]) (rest := [.int v17]) X (m_get (l := l) (dC := dC) (dI := dI) (q := q) (cI := cI) (cJ := cJ) (cZ := cZ) (sz := _) a1 2 S15 h) (cwV 2 X.2.2.2.2.1 (gwV 47 48 49 24 36 rfl rfl rfl rfl rfl) rfl rfl rfl q_get ⟨Nat.le_of_ble_eq_true rfl, Nat.le_of_ble_eq_true rfl⟩) hP hD hS rfl hl.1 rfl (Nat.le_of_ble_eq_true rfl) (dk DX12_blow 67 rfl) (fun r19 S18 H locs h hP hD hS => ?_)
                  refine lv_icmp_le (tgt := 120) hx hb (dk DX12_blow 68 rfl) (by decide) (fun hc => ?_) (fun hc => ?_)
                  · have h := h.1 hc
                    refine lv_aload_n hx hb (dk DX12_blow 71 rfl) rfl (lv_at hl 1 rfl) ?_
                    refine cMv (As := []) (rest := []) X (m_keep (l := l) (dC := dC) (dI := dI) (q := q) (cI := cI) (cJ := cJ) (cZ := cZ) (sz := _) S18 h) (cwV 0 X.2.2.2.2.1 (gwV 263 264 265 24 257 rfl rfl rfl rfl rfl) rfl rfl rfl q_keep ⟨Nat.le_of_ble_eq_true rfl, Nat.le_of_ble_eq_true rfl⟩) hP hD hS rfl hl.1 rfl (Nat.le_of_ble_eq_true rfl) (dk DX12_blow 72 rfl) (fun S20 H locs h hP hD hS => ?_)
                    refine lv_aload_n hx hb (dk DX12_blow 73 rfl) rfl (lv_at hl 1 rfl) ?_
                    refine lv_iload_n hx hb (dk DX12_blow 74 rfl) rfl (lv_at hl 3 rfl) ?_
                    refine lv_iconst (v := 2) hx hb (dk DX12_blow 75 rfl) (by decide) ?_
                    refine lv_aload_n hx hb (dk DX12_blow 76 rfl) rfl (lv_at hl 1 rfl) ?_
                    refine lv_iload_n hx hb (dk DX12_blow 77 rfl) rfl (lv_at hl 3 rfl) ?_
                    refine lv_iconst (v := 2) hx hb (dk DX12_blow 78 rfl) (by decide) ?_
                    refine cMi (As := [.int a1, .int 2]) (rest := [.int 2, .int a1, .ref (q 0)]) X (m_get (l := l) (dC := dC) (dI := dI) (q := q) (cI := cI) (cJ := cJ) (cZ := cZ) (sz := _) a1 2 S20 h) (cwV 2 X.2.2.2.2.1 (gwV 47 48 49 24 36 rfl rfl rfl rfl rfl) rfl rfl rfl q_get ⟨Nat.le_of_ble_eq_true rfl, Nat.le_of_ble_eq_true rfl⟩) hP hD hS rfl hl.1 rfl (Nat.le_of_ble_eq_true rfl) (dk DX12_blow 79 rfl) (fun r22 S21 H locs h hP hD hS => ?_)
                    refine lv_iload hx hb (dk DX12_blow 80 rfl) (lv_at hl 0 rfl) ?_
                    refine lv_isub hx hb (dk DX12_blow 81 rfl) ?_
                    refine cMv (As := [.int a1, .int 2, .int (r22 - v17)]) (rest := []) X (m_set (l := l) (dC := dC) (dI := dI) (q := q) (cI := cI) (cJ := cJ) (cZ := cZ) (sz := _) a1 2 (r22 - v17) S21 h) (cwV 3 X.2.2.2.2.1 (gwV 43 44 45 24 37 rfl rfl rfl rfl rfl) rfl rfl rfl q_set ⟨Nat.le_of_ble_eq_true rfl, Nat.le_of_ble_eq_true rfl⟩) hP hD hS rfl hl.1 rfl (Nat.le_of_ble_eq_true rfl) (dk DX12_blow 82 rfl) (fun S23 H locs h hP hD hS => ?_)
                    refine lv_aload_n hx hb (dk DX12_blow 83 rfl) rfl (lv_at hl 1 rfl) ?_
                    refine lv_iload_n hx hb (dk DX12_blow 84 rfl) rfl (lv_at hl 3 rfl) ?_
                    refine lv_iconst (v := 3) hx hb (dk DX12_blow 85 rfl) (by decide) ?_
                    refine lv_aload_n hx hb (dk DX12_blow 86 rfl) rfl (lv_at hl 1 rfl) ?_
                    refine lv_iload_n hx hb (dk DX12_blow 87 rfl) rfl (lv_at hl 3 rfl) ?_
                    refine lv_iconst (v := 3) hx hb (dk DX12_blow 88 rfl) (by decide) ?_
                    refine cMi (As := [.int a1, .int 3]) (rest := [.int 3, .int a1, .ref (q 0)]) X (m_get (l := l) (dC := dC) (dI := dI) (q := q) (cI := cI) (cJ := cJ) (cZ := cZ) (sz := _) a1 3 S23 h) (cwV 2 X.2.2.2.2.1 (gwV 47 48 49 24 36 rfl rfl rfl rfl rfl) rfl rfl rfl q_get ⟨Nat.le_of_ble_eq_true rfl, Nat.le_of_ble_eq_true rfl⟩) hP hD hS rfl hl.1 rfl (Nat.le_of_ble_eq_true rfl) (dk DX12_blow 89 rfl) (fun r25 S24 H locs h hP hD hS => ?_)
                    refine lv_iload_n hx hb (dk DX12_blow 90 rfl) rfl (lv_at hl 4 rfl) ?_
                    refine lv_iadd hx hb (dk DX12_blow 91 rfl) ?_
                    refine cMv (As := [.int a1, .int 3, .int (r25 + a2)]) (rest := []) X (m_set (l := l) (dC := dC) (dI := dI) (q := q) (cI := cI) (cJ := cJ) (cZ := cZ) (sz := _) a1 3 (r25 + a2) S24 h) (cwV 3 X.2.2.2.2.1 (gwV 43 44 45 24 37 rfl rfl rfl rfl rfl) rfl rfl rfl q_set ⟨Nat.le_of_ble_eq_true rfl, Nat.le_of_ble_eq_true rfl⟩) hP hD hS rfl hl.1 rfl (Nat.le_of_ble_eq_true rfl) (dk DX12_blow 92 rfl) (fun S26 H locs h hP hD hS => ?_)
                    refine lv_iload_n hx hb (dk DX12_blow 93 rfl) rfl (lv_at hl 2 rfl) ?_
                    refine cSi (As := [.int a0]) (rest := []) ⟨X.1, X.2.1, X.2.2.1, X.2.2.2.1, X.2.2.2.2.1⟩ (m_pieceAt (l := l) a0 h) (va_cwS 1 X.2.2.2.2.1 (gwS 40 41 24 38 rfl rfl rfl rfl) rfl rfl rfl q_pieceAt ⟨Nat.le_of_ble_eq_true rfl, Nat.le_of_ble_eq_true rfl⟩) rfl hl.1 rfl (Nat.le_of_ble_eq_true rfl) (dk DX12_blow 94 rfl) (fun r27 h => ?_)
                    refine lv_istore (lv' := [(5, .int r27), (4, .int v17), (0, .ref (q 0)), (1, .int a0), (2, .int a1), (3, .int a2)]) hx hb (dk DX12_blow 95 rfl) hl (by decide) rfl (fun ls hl => ?_)
                    refine lv_aload_n hx hb (dk DX12_blow 96 rfl) rfl (lv_at hl 2 rfl) ?_
                    refine gM X hP 0 (by decide) rfl lk7 (dk DX12_blow 97 rfl) ?_
                    refine lv_iload hx hb (dk DX12_blow 98 rfl) (lv_at hl 0 rfl) ?_
                    refine lv_iconst (v := 2) hx hb (dk DX12_blow 99 rfl) (by decide) ?_
                    refine lv_iadd hx hb (dk DX12_blow 100 rfl) ?_
                    refine lv_dup2_11 hx hb (dk DX12_blow 101 rfl) rfl rfl ?_
                    obtain ⟨hin, h⟩ := h
                    refine ldM X hP 1 rfl hin (dk DX12_blow 102 rfl) ?_
                    refine lv_iload_n hx hb (dk DX12_blow 103 rfl) rfl (lv_at hl 5 rfl) ?_
                    refine lv_iadd hx hb (dk DX12_blow 104 rfl) ?_
                    refine lv_topi (fun v28 ev28 => ?_)
                    have h := h v28 ev28
                    obtain ⟨hin, h⟩ := h
                    refine stM_0 X hP hD hS hin (dk DX12_blow 105 rfl) (fun S29 eS29 H locs hP hD hS => ?_)
                    have h := h S29 eS29
                    refine lv_aload_n hx hb (dk DX12_blow 106 rfl) rfl (lv_at hl 2 rfl) ?_
                    refine gM X hP 0 (by decide) rfl lk7 (dk DX12_blow 107 rfl) ?_
                    refine lv_iload hx hb (dk DX12_blow 108 rfl) (lv_at hl 0 rfl) ?_
                    refine lv_iconst (v := 4) hx hb (dk DX12_blow 109 rfl) (by decide) ?_
                    refine lv_iadd hx hb (dk DX12_blow 110 rfl) ?_
                    refine lv_iload_n hx hb (dk DX12_blow 111 rfl) rfl (lv_at hl 4 rfl) ?_
                    refine lv_iadd hx hb (dk DX12_blow 112 rfl) ?_
                    refine lv_dup2_11 hx hb (dk DX12_blow 113 rfl) rfl rfl ?_
                    obtain ⟨hin, h⟩ := h
                    refine ldM X hP 1 rfl hin (dk DX12_blow 114 rfl) ?_
                    refine lv_iload_n hx hb (dk DX12_blow 115 rfl) rfl (lv_at hl 5 rfl) ?_
                    refine lv_iadd hx hb (dk DX12_blow 116 rfl) ?_
                    refine lv_topi (fun v30 ev30 => ?_)
                    have h := h v30 ev30
                    obtain ⟨hin, h⟩ := h
                    refine stM_0 X hP hD hS hin (dk DX12_blow 117 rfl) (fun S31 eS31 H locs hP hD hS => ?_)
                    have h := h S31 eS31
                    refine lv_sipush (v := 250) hx hb (dk DX12_blow 118 rfl) (by decide) ?_
                    refine lv_iconst (v := 4) hx hb (dk DX12_blow 119 rfl) (by decide) ?_
                    refine lv_aload_n hx hb (dk DX12_blow 120 rfl) rfl (lv_at hl 2 rfl) ?_
                    refine gM X hP 0 (by decide) rfl lk7 (dk DX12_blow 121 rfl) ?_
                    refine lv_bipush (v := 9) hx hb (dk DX12_blow 122 rfl) (by decide) ?_
                    obtain ⟨hin, h⟩ := h
                    refine ldM X hP 1 rfl hin (dk DX12_blow 123 rfl) ?_
                    refine lv_imul hx hb (dk DX12_blow 124 rfl) ?_
                    refine lv_iadd hx hb (dk DX12_blow 125 rfl) ?_
                    refine lv_topi (fun v32 ev32 => ?_)
                    have h := h v32 ev32
                    refine lv_istore (lv' := [(6, .int v32), (5, .int r27), (4, .int v17), (0, .ref (q 0)), (1, .int a0), (2, .int a1), (3, .int a2)]) hx hb (dk DX12_blow 126 rfl) hl (by decide) rfl (fun ls hl => ?_)
                    refine lv_aload_n hx hb (dk DX12_blow 127 rfl) rfl (lv_at hl 3 rfl) ?_
                    refine gM X hP 0 (by decide) rfl lk7 (dk DX12_blow 128 rfl) ?_
                    refine lv_iload hx hb (dk DX12_blow 129 rfl) (lv_at hl 0 rfl) ?_
                    refine lv_iload_n hx hb (dk DX12_blow 130 rfl) rfl (lv_at hl 4 rfl) ?_
                    obtain ⟨hin, h⟩ := h
                    refine stM_0 X hP hD hS hin (dk DX12_blow 131 rfl) (fun S33 eS33 H locs hP hD hS => ?_)
                    have h := h S33 eS33
                    refine lv_aload_n hx hb (dk DX12_blow 132 rfl) rfl (lv_at hl 3 rfl) ?_
                    refine gM X hP 0 (by decide) rfl lk7 (dk DX12_blow 133 rfl) ?_
                    refine lv_iload hx hb (dk DX12_blow 134 rfl) (lv_at hl 0 rfl) ?_
                    refine lv_iconst (v := 1) hx hb (dk DX12_blow 135 rfl) (by decide) ?_
                    refine lv_iadd hx hb (dk DX12_blow 136 rfl) ?_
                    refine lv_iload_n hx hb (dk DX12_blow 137 rfl) rfl (lv_at hl 5 rfl) ?_
                    obtain ⟨hin, h⟩ := h
                    refine stM_0 X hP hD hS hin (dk DX12_blow 138 rfl) (fun S34 eS34 H locs hP hD hS => ?_)
                    have h := h S34 eS34
                    refine lv_aload_n hx hb (dk DX12_blow 139 rfl) rfl (lv_at hl 3 rfl) ?_
                    refine gM X hP 0 (by decide) rfl lk7 (dk DX12_blow 140 rfl) ?_
                    refine lv_iload hx hb (dk DX12_blow 141 rfl) (lv_at hl 0 rfl) ?_
                    refine lv_iconst (v := 2) hx hb (dk DX12_blow 142 rfl) (by decide) ?_
                    refine lv_iadd hx hb (dk DX12_blow 143 rfl) ?_
                    refine lv_iload_n hx hb (dk DX12_blow 144 rfl) rfl (lv_at hl 6 rfl) ?_
                    obtain ⟨hin, h⟩ := h
                    refine stM_0 X hP hD hS hin (dk DX12_blow 145 rfl) (fun S35 eS35 H locs hP hD hS => ?_)
                    have h := h S35 eS35
                    refine lv_aload_n hx hb (dk DX12_blow 146 rfl) rfl (lv_at hl 3 rfl) ?_
                    refine gM X hP 0 (by decide) rfl lk7 (dk DX12_blow 147 rfl) ?_
                    refine lv_iload hx hb (dk DX12_blow 148 rfl) (lv_at hl 0 rfl) ?_
                    refine lv_iconst (v := 3) hx hb (dk DX12_blow 149 rfl) (by decide) ?_
                    refine lv_iadd hx hb (dk DX12_blow 150 rfl) ?_
                    refine lv_aload_n hx hb (dk DX12_blow 151 rfl) rfl (lv_at hl 3 rfl) ?_
                    refine gM X hP 0 (by decide) rfl lk7 (dk DX12_blow 152 rfl) ?_
                    refine lv_iconst (v := 3) hx hb (dk DX12_blow 153 rfl) (by decide) ?_
                    obtain ⟨hin, h⟩ := h
                    refine ldM X hP 1 rfl hin (dk DX12_blow 154 rfl) ?_
                    refine lv_topi (fun v36 ev36 => ?_)
                    have h := h v36 ev36
                    obtain ⟨hin, h⟩ := h
                    refine stM_0 X hP hD hS hin (dk DX12_blow 155 rfl) (fun S37 eS37 H locs hP hD hS => ?_)
                    have h := h S37 eS37
                    refine lv_aload_n hx hb (dk DX12_blow 156 rfl) rfl (lv_at hl 3 rfl) ?_
                    refine gM X hP 0 (by decide) rfl lk7 (dk DX12_blow 157 rfl) ?_
                    refine lv_bipush (v := 9) hx hb (dk DX12_blow 158 rfl) (by decide) ?_
                    refine lv_dup2_11 hx hb (dk DX12_blow 159 rfl) rfl rfl ?_
                    obtain ⟨hin, h⟩ := h
                    refine ldM X hP 1 rfl hin (dk DX12_blow 160 rfl) ?_
                    refine lv_iconst (v := 1) hx hb (dk DX12_blow 161 rfl) (by decide) ?_
                    refine lv_iadd hx hb (dk DX12_blow 162 rfl) ?_
                    refine lv_topi (fun v38 ev38 => ?_)
                    have h := h v38 ev38
                    obtain ⟨hin, h⟩ := h
                    refine stM_0 X hP hD hS hin (dk DX12_blow 163 rfl) (fun S39 eS39 H locs hP hD hS => ?_)
                    have h := h S39 eS39
                    refine lv_aload_n hx hb (dk DX12_blow 164 rfl) rfl (lv_at hl 3 rfl) ?_
                    refine gM X hP 0 (by decide) rfl lk7 (dk DX12_blow 165 rfl) ?_
                    refine lv_bipush (v := 40) hx hb (dk DX12_blow 166 rfl) (by decide) ?_
                    refine lv_iconst (v := 3) hx hb (dk DX12_blow 167 rfl) (by decide) ?_
                    refine lv_aload_n hx hb (dk DX12_blow 168 rfl) rfl (lv_at hl 3 rfl) ?_
                    refine gM X hP 0 (by decide) rfl lk7 (dk DX12_blow 169 rfl) ?_
                    refine lv_iload hx hb (dk DX12_blow 170 rfl) (lv_at hl 1 rfl) ?_
                    obtain ⟨hin, h⟩ := h
                    refine ldM X hP 1 rfl hin (dk DX12_blow 171 rfl) ?_
                    refine lv_imul hx hb (dk DX12_blow 172 rfl) ?_
                    refine lv_iadd hx hb (dk DX12_blow 173 rfl) ?_
                    obtain ⟨hin, h⟩ := h
                    refine ldM X hP 1 rfl hin (dk DX12_blow 174 rfl) ?_
                    refine lv_topi (fun v40 ev40 => ?_)
                    have h := h v40 ev40
                    refine lv_istore (lv' := [(7, .int v40), (6, .int v32), (5, .int r27), (4, .int v17), (0, .ref (q 0)), (1, .int a0), (2, .int a1), (3, .int a2)]) hx hb (dk DX12_blow 175 rfl) hl (by decide) rfl (fun ls hl => ?_)
                    refine lv_aload_n hx hb (dk DX12_blow 176 rfl) rfl (lv_at hl 4 rfl) ?_
                    refine gM X hP 0 (by decide) rfl lk7 (dk DX12_blow 177 rfl) ?_
                    refine lv_bipush (v := 40) hx hb (dk DX12_blow 178 rfl) (by decide) ?_
                    refine lv_iconst (v := 3) hx hb (dk DX12_blow 179 rfl) (by decide) ?_
                    refine lv_aload_n hx hb (dk DX12_blow 180 rfl) rfl (lv_at hl 4 rfl) ?_
                    refine gM X hP 0 (by decide) rfl lk7 (dk DX12_blow 181 rfl) ?_
                    refine lv_iload hx hb (dk DX12_blow 182 rfl) (lv_at hl 2 rfl) ?_
                    obtain ⟨hin, h⟩ := h
                    refine ldM X hP 1 rfl hin (dk DX12_blow 183 rfl) ?_
                    refine lv_imul hx hb (dk DX12_blow 184 rfl) ?_
                    refine lv_iadd hx hb (dk DX12_blow 185 rfl) ?_
                    refine lv_iconst (v := 1) hx hb (dk DX12_blow 186 rfl) (by decide) ?_
                    refine lv_iadd hx hb (dk DX12_blow 187 rfl) ?_
                    obtain ⟨hin, h⟩ := h
                    refine ldM X hP 1 rfl hin (dk DX12_blow 188 rfl) ?_
                    refine lv_aload_n hx hb (dk DX12_blow 189 rfl) rfl (lv_at hl 4 rfl) ?_
                    refine lv_iload_n hx hb (dk DX12_blow 190 rfl) rfl (lv_at hl 5 rfl) ?_
                    refine cMi (As := [.int a0]) (rest := [.int ((S39.2.2.1 0) ((40 + (3 * ((S39.2.2.1 0) r27.toNatClampNeg))) + 1).toNatClampNeg)]) X (m_voicesOf (l := l) (dC := dC) (dI := dI) (q := q) (cI := cI) (cJ := cJ) (cZ := cZ) (sz := _) a0 S39 h) (cwV 1 X.2.2.2.2.1 (gwV 274 275 276 24 266 rfl rfl rfl rfl rfl) rfl rfl rfl q_voicesOf ⟨Nat.le_of_ble_eq_true rfl, Nat.le_of_ble_eq_true rfl⟩) hP hD hS rfl hl.1 rfl (Nat.le_of_ble_eq_true rfl) (dk DX12_blow 191 rfl) (fun r42 S41 H locs h hP hD hS => ?_)
                    refine lv_iconst (v := (-1)) hx hb (dk DX12_blow 192 rfl) (by decide) ?_
                    refine lv_ixor hx hb (dk DX12_blow 193 rfl) ?_
                    refine lv_iand hx hb (dk DX12_blow 194 rfl) ?_
                    refine lv_if_ne (tgt := 309) hx hb (dk DX12_blow 195 rfl) (by decide) (fun hc => ?_) (fun hc => ?_)
                    · have h := h.1 hc
                      refine lv_iconst (v := 0) hx hb (dk DX12_blow 198 rfl) (by decide) ?_
                      exact h _ _ hP hD hS ls (lv_sub hl [4, 5, 6, 7, 3, 2, 1, 0] rfl)
                    · have h := h.2 hc
                      refine lv_iconst (v := 1) hx hb (dk DX12_blow 196 rfl) (by decide) ?_
                      refine lv_goto (tgt := 310) hx hb (dk DX12_blow 197 rfl) (by decide) ?_
                      exact h _ _ hP hD hS ls (lv_sub hl [4, 5, 6, 7, 3, 2, 1, 0] rfl)
                  · have h := h.2 hc
                    refine lv_iconst (v := (-1)) hx hb (dk DX12_blow 69 rfl) (by decide) ?_
                    exact W.iret (v := (-1)) hx hb hr (fun t ht hW => ⟨⟨_, _, rfl, h, by rw [ht]; exact hP, va_K.moved hW.alike X.2.2.2.2.2.2.1, hD⟩, hS.F ht⟩) hS.2.2 (dk DX12_blow 70 rfl)
                · have h := h.2 hc
                  refine lv_iconst (v := (-1)) hx hb (dk DX12_blow 51 rfl) (by decide) ?_
                  exact W.iret (v := (-1)) hx hb hr (fun t ht hW => ⟨⟨_, _, rfl, h, by rw [ht]; exact hP, va_K.moved hW.alike X.2.2.2.2.2.2.1, hD⟩, hS.F ht⟩) hS.2.2 (dk DX12_blow 52 rfl)
            · have h := h.2 hc
              refine lv_iconst (v := (-1)) hx hb (dk DX12_blow 27 rfl) (by decide) ?_
              exact W.iret (v := (-1)) hx hb hr (fun t ht hW => ⟨⟨_, _, rfl, h, by rw [ht]; exact hP, va_K.moved hW.alike X.2.2.2.2.2.2.1, hD⟩, hS.F ht⟩) hS.2.2 (dk DX12_blow 28 rfl)
  · rintro (⟨x1, x2, x3, x4, x5, x6, x7, t0⟩ | ⟨x1, x2, x3, x4, x5, x6, x7, x8, t1, t2⟩) S hB
    · exact h_blow_0 X hr hlocks (hK0 := fun _ _ _ _ _ _ _ _ _ h => h) (hK1 := fun _ _ _ _ _ _ _ _ _ _ _ h => h) x1 x2 x3 x4 x5 x6 x7 t0 S hB
    · exact h_blow_1 X hr hlocks (hK0 := fun _ _ _ _ _ _ _ _ _ h => h) (hK1 := fun _ _ _ _ _ _ _ _ _ _ _ h => h) x1 x2 x3 x4 x5 x6 x7 x8 t1 t2 S hB

def ww_later : List Cond := .code yX12_later cX12_later 4 (some .int) :: (WdM ++ wsX120)
theorem q_later : yX12_later.cls = RX12 ∧ yX12_later.cls ≠ "java/lang/invoke/MethodHandle" ∧ yX12_later.cls ≠ "java/lang/invoke/VarHandle" ∧ (parseMethodDescriptor yX12_later.desc).map (fun d => d.parameters.length) = some 1 := by decide +kernel
abbrev Hd_later : Type := (Int32 × Int32) ⊕ (Int32 × Int32 × Int32)
def B_later (Post : Int32 → MS → Prop) (K : Hd_later → MS → Prop) : Hd_later → MS → Prop
  | (.inl (x1, x2)), S => ((x1 ≤ x2 → vp_in (3 : Int32) 3890 ∧ Post ((S.2.2.1 0) (3 : Int32).toNatClampNeg) S) ∧ (¬ x1 ≤ x2 → VC_keep (fun S2 => vp_in (3 : Int32) 3890 ∧ ∀ v3 : Int32, v3 = ((S2.2.2.1 0) (3 : Int32).toNatClampNeg) + 1 → vp_in (3 : Int32) 3890 ∧ ∀ S4 : MS, S4 = sF S2 0 (upd (S2.2.2.1 0) (3 : Int32).toNatClampNeg v3) → K (.inr (x1, x2, 0)) S4) S))
  | (.inr (x1, x2, x3)), S => ((6 ≤ x3 → ∀ v5 : Int32, v5 = x2 + 1 → K (.inl (x1, v5)) S) ∧ (¬ 6 ≤ x3 → VC_set (fun S6 => ∀ v7 : Int32, v7 = x3 + 1 → K (.inr (x1, x2, v7)) S6) x3 3 0 S))
def VC_later (Post : Int32 → MS → Prop) (a0 : Int32) (S : MS) : Prop := ∀ K : Hd_later → MS → Prop, (∀ h S, B_later Post K h S → K h S) → VC_isIn (fun r1 => ((r1 = 0 → Post (-1) S) ∧ (¬ r1 = 0 → vp_in (3 : Int32) 3890 ∧ (((((S.2.2.1 0) (3 : Int32).toNatClampNeg) + a0) ≤ 999 → K (.inl (a0, 0)) S) ∧ (¬ (((S.2.2.1 0) (3 : Int32).toNatClampNeg) + a0) ≤ 999 → Post (-1) S))))) a0 1 99
set_option maxHeartbeats 4000000 in
set_option maxRecDepth 100000 in
theorem h_later_0 {p : Program} {l : Launch} {e : Env} {s : State} {m : MethodId} {below : List Frame} {meth : Method} {c : Code} {dC : Nat → ClassId} {dI : Nat → Nat → Nat} {q : Nat → Nat} {cI cJ cZ : ClassId} {A : Nat → Prop} {args : Array Value} {Post : Int32 → MS → Prop} {K : Hd_later → MS → Prop} (X : XM p s m args c cX12_later 4 ww_later dC dI cI cJ cZ A) (hr : meth.sig.returnType = (some .int)) (hlocks : meth.locks = false) (hK0 : ∀ (x1 : Int32) (x2 : Int32) (S : MS), K (.inl (x1, x2)) S → ∀ (H : Heap) (locs : List Loc), va_P (dC, dI) vwCl (wM q cI cJ cZ S) H → va_D A (wM q cI cJ cZ S) → va_S A s.heap H locs → ∀ ls : Array Slot, lv_has ls 4 [(0, .ref (q 0)), (1, .int x1), (2, .int x2)] → W p l e (headSpec ww_later ({ frames := 2, cells := 0, slots := 0, locals := 44 } : Room)).room s m args below meth c H locs 0 0 (MQ below (va_Qi Post (atM dC dI q cI cJ cZ A) A) args s 0 0 A) (F0 m 28 ls [])) (hK1 : ∀ (x1 : Int32) (x2 : Int32) (x3 : Int32) (S : MS), K (.inr (x1, x2, x3)) S → ∀ (H : Heap) (locs : List Loc), va_P (dC, dI) vwCl (wM q cI cJ cZ S) H → va_D A (wM q cI cJ cZ S) → va_S A s.heap H locs → ∀ ls : Array Slot, lv_has ls 4 [(0, .ref (q 0)), (1, .int x1), (2, .int x2), (3, .int x3)] → W p l e (headSpec ww_later ({ frames := 2, cells := 0, slots := 0, locals := 44 } : Room)).room s m args below meth c H locs 0 0 (MQ below (va_Qi Post (atM dC dI q cI cJ cZ A) A) args s 0 0 A) (F0 m 49 ls [])) (x1 : Int32) (x2 : Int32) (S : MS) (h : B_later Post K (.inl (x1, x2)) S) : ∀ (H : Heap) (locs : List Loc), va_P (dC, dI) vwCl (wM q cI cJ cZ S) H → va_D A (wM q cI cJ cZ S) → va_S A s.heap H locs → ∀ ls : Array Slot, lv_has ls 4 [(0, .ref (q 0)), (1, .int x1), (2, .int x2)] → W p l e (headSpec ww_later ({ frames := 2, cells := 0, slots := 0, locals := 44 } : Room)).room s m args below meth c H locs 0 0 (MQ below (va_Qi Post (atM dC dI q cI cJ cZ A) A) args s 0 0 A) (F0 m 28 ls []) := by
  have hx := X.1
  have hb := X.2.1
  intro H locs hP hD hS ls hl
  have lk7 := X.2.2.2.2.1 (.fieldLink RX12 7 "BreathOnLoanModel" "a" "[I") (inW 5 rfl)
  dsimp only [B_later] at h
  refine lv_iload_n hx hb (dk DX12_later 17 rfl) rfl (lv_at hl 2 rfl) ?_
  refine lv_iload_n hx hb (dk DX12_later 18 rfl) rfl (lv_at hl 1 rfl) ?_
  refine lv_icmp_ge (tgt := 74) hx hb (dk DX12_later 19 rfl) (by decide) (fun hc => ?_) (fun hc => ?_)
  · have h := h.1 hc
    refine lv_aload_n hx hb (dk DX12_later 44 rfl) rfl (lv_at hl 0 rfl) ?_
    refine gM X hP 0 (by decide) rfl lk7 (dk DX12_later 45 rfl) ?_
    refine lv_iconst (v := 3) hx hb (dk DX12_later 46 rfl) (by decide) ?_
    obtain ⟨hin, h⟩ := h
    refine ldM X hP 1 rfl hin (dk DX12_later 47 rfl) ?_
    exact W.iret (v := (S.2.2.1 0) (3 : Int32).toNatClampNeg) hx hb hr (fun t ht hW => ⟨⟨_, _, rfl, h, by rw [ht]; exact hP, va_K.moved hW.alike X.2.2.2.2.2.2.1, hD⟩, hS.F ht⟩) hS.2.2 (dk DX12_later 48 rfl)
  · have h := h.2 hc
    refine lv_aload_n hx hb (dk DX12_later 20 rfl) rfl (lv_at hl 0 rfl) ?_
    refine cMv (As := []) (rest := []) X (m_keep (l := l) (dC := dC) (dI := dI) (q := q) (cI := cI) (cJ := cJ) (cZ := cZ) (sz := _) S h) (cwV 0 X.2.2.2.2.1 (gwV 263 264 265 24 257 rfl rfl rfl rfl rfl) rfl rfl rfl q_keep ⟨Nat.le_of_ble_eq_true rfl, Nat.le_of_ble_eq_true rfl⟩) hP hD hS rfl hl.1 rfl (Nat.le_of_ble_eq_true rfl) (dk DX12_later 21 rfl) (fun S2 H locs h hP hD hS => ?_)
    refine lv_aload_n hx hb (dk DX12_later 22 rfl) rfl (lv_at hl 0 rfl) ?_
    refine gM X hP 0 (by decide) rfl lk7 (dk DX12_later 23 rfl) ?_
    refine lv_iconst (v := 3) hx hb (dk DX12_later 24 rfl) (by decide) ?_
    refine lv_dup2_11 hx hb (dk DX12_later 25 rfl) rfl rfl ?_
    obtain ⟨hin, h⟩ := h
    refine ldM X hP 1 rfl hin (dk DX12_later 26 rfl) ?_
    refine lv_iconst (v := 1) hx hb (dk DX12_later 27 rfl) (by decide) ?_
    refine lv_iadd hx hb (dk DX12_later 28 rfl) ?_
    refine lv_topi (fun v3 ev3 => ?_)
    have h := h v3 ev3
    obtain ⟨hin, h⟩ := h
    refine stM_0 X hP hD hS hin (dk DX12_later 29 rfl) (fun S4 eS4 H locs hP hD hS => ?_)
    have h := h S4 eS4
    refine lv_iconst (v := 0) hx hb (dk DX12_later 30 rfl) (by decide) ?_
    refine lv_istore_n (lv' := [(3, .int 0), (0, .ref (q 0)), (1, .int x1), (2, .int x2)]) hx hb (dk DX12_later 31 rfl) rfl hl (by decide) rfl (fun ls hl => ?_)
    exact hK1 x1 x2 0 S4 h _ _ hP hD hS ls (lv_sub hl [1, 2, 3, 0] rfl)
set_option maxHeartbeats 4000000 in
set_option maxRecDepth 100000 in
theorem h_later_1 {p : Program} {l : Launch} {e : Env} {s : State} {m : MethodId} {below : List Frame} {meth : Method} {c : Code} {dC : Nat → ClassId} {dI : Nat → Nat → Nat} {q : Nat → Nat} {cI cJ cZ : ClassId} {A : Nat → Prop} {args : Array Value} {Post : Int32 → MS → Prop} {K : Hd_later → MS → Prop} (X : XM p s m args c cX12_later 4 ww_later dC dI cI cJ cZ A) (hr : meth.sig.returnType = (some .int)) (hlocks : meth.locks = false) (hK0 : ∀ (x1 : Int32) (x2 : Int32) (S : MS), K (.inl (x1, x2)) S → ∀ (H : Heap) (locs : List Loc), va_P (dC, dI) vwCl (wM q cI cJ cZ S) H → va_D A (wM q cI cJ cZ S) → va_S A s.heap H locs → ∀ ls : Array Slot, lv_has ls 4 [(0, .ref (q 0)), (1, .int x1), (2, .int x2)] → W p l e (headSpec ww_later ({ frames := 2, cells := 0, slots := 0, locals := 44 } : Room)).room s m args below meth c H locs 0 0 (MQ below (va_Qi Post (atM dC dI q cI cJ cZ A) A) args s 0 0 A) (F0 m 28 ls [])) (hK1 : ∀ (x1 : Int32) (x2 : Int32) (x3 : Int32) (S : MS), K (.inr (x1, x2, x3)) S → ∀ (H : Heap) (locs : List Loc), va_P (dC, dI) vwCl (wM q cI cJ cZ S) H → va_D A (wM q cI cJ cZ S) → va_S A s.heap H locs → ∀ ls : Array Slot, lv_has ls 4 [(0, .ref (q 0)), (1, .int x1), (2, .int x2), (3, .int x3)] → W p l e (headSpec ww_later ({ frames := 2, cells := 0, slots := 0, locals := 44 } : Room)).room s m args below meth c H locs 0 0 (MQ below (va_Qi Post (atM dC dI q cI cJ cZ A) A) args s 0 0 A) (F0 m 49 ls [])) (x1 : Int32) (x2 : Int32) (x3 : Int32) (S : MS) (h : B_later Post K (.inr (x1, x2, x3)) S) : ∀ (H : Heap) (locs : List Loc), va_P (dC, dI) vwCl (wM q cI cJ cZ S) H → va_D A (wM q cI cJ cZ S) → va_S A s.heap H locs → ∀ ls : Array Slot, lv_has ls 4 [(0, .ref (q 0)), (1, .int x1), (2, .int x2), (3, .int x3)] → W p l e (headSpec ww_later ({ frames := 2, cells := 0, slots := 0, locals := 44 } : Room)).room s m args below meth c H locs 0 0 (MQ below (va_Qi Post (atM dC dI q cI cJ cZ A) A) args s 0 0 A) (F0 m 49 ls []) := by
  have hx := X.1
  have hb := X.2.1
  intro H locs hP hD hS ls hl
  have lk7 := X.2.2.2.2.1 (.fieldLink RX12 7 "BreathOnLoanModel" "a" "[I") (inW 5 rfl)
  dsimp only [B_later] at h
  refine lv_iload_n hx hb (dk DX12_later 32 rfl) rfl (lv_at hl 3 rfl) ?_
  refine lv_bipush (v := 6) hx hb (dk DX12_later 33 rfl) (by decide) ?_
  refine lv_icmp_ge (tgt := 68) hx hb (dk DX12_later 34 rfl) (by decide) (fun hc => ?_) (fun hc => ?_)
  · have h := h.1 hc
    obtain ⟨v5, ev5⟩ : ∃ y : Int32, y = x2 + 1 := ⟨_, rfl⟩
    have h := h v5 ev5
    refine lv_iinc (v := v5) (lv' := [(2, .int v5), (0, .ref (q 0)), (1, .int x1), (3, .int x3)]) hx hb (dk DX12_later 42 rfl) hl (k := 2) rfl (by rw [ev5]; rfl) (by decide) rfl (fun ls hl => ?_)
    refine lv_goto (tgt := 28) hx hb (dk DX12_later 43 rfl) (by decide) ?_
    exact hK0 x1 v5 S h _ _ hP hD hS ls (lv_sub hl [1, 2, 0] rfl)
  · have h := h.2 hc
    refine lv_aload_n hx hb (dk DX12_later 35 rfl) rfl (lv_at hl 0 rfl) ?_
    refine lv_iload_n hx hb (dk DX12_later 36 rfl) rfl (lv_at hl 3 rfl) ?_
    refine lv_iconst (v := 3) hx hb (dk DX12_later 37 rfl) (by decide) ?_
    refine lv_iconst (v := 0) hx hb (dk DX12_later 38 rfl) (by decide) ?_
    refine cMv (As := [.int x3, .int 3, .int 0]) (rest := []) X (m_set (l := l) (dC := dC) (dI := dI) (q := q) (cI := cI) (cJ := cJ) (cZ := cZ) (sz := _) x3 3 0 S h) (cwV 3 X.2.2.2.2.1 (gwV 43 44 45 24 37 rfl rfl rfl rfl rfl) rfl rfl rfl q_set ⟨Nat.le_of_ble_eq_true rfl, Nat.le_of_ble_eq_true rfl⟩) hP hD hS rfl hl.1 rfl (Nat.le_of_ble_eq_true rfl) (dk DX12_later 39 rfl) (fun S6 H locs h hP hD hS => ?_)
    obtain ⟨v7, ev7⟩ : ∃ y : Int32, y = x3 + 1 := ⟨_, rfl⟩
    have h := h v7 ev7
    refine lv_iinc (v := v7) (lv' := [(3, .int v7), (0, .ref (q 0)), (1, .int x1), (2, .int x2)]) hx hb (dk DX12_later 40 rfl) hl (k := 3) rfl (by rw [ev7]; rfl) (by decide) rfl (fun ls hl => ?_)
    refine lv_goto (tgt := 49) hx hb (dk DX12_later 41 rfl) (by decide) ?_
    exact hK1 x1 x2 v7 S6 h _ _ hP hD hS ls (lv_sub hl [1, 2, 3, 0] rfl)
set_option maxHeartbeats 4000000 in
set_option maxRecDepth 100000 in
theorem m_later {l : Launch} {dC : Nat → ClassId} {dI : Nat → Nat → Nat} {q : Nat → Nat} {cI cJ cZ : ClassId} {sz : Nat} {Post : Int32 → MS → Prop} (a0 : Int32) (S : MS) (h : VC_later Post a0 S) : Met l yX12_later ww_later ({ frames := 2, cells := 0, slots := 0, locals := 44 } : Room) (va_Pc [.ref (q 0), .int a0] (preM dC dI q cI cJ cZ S sz)) (va_Qi Post (atM dC dI q cI cJ cZ (va_A (wM q cI cJ cZ S) sz)) (va_A (wM q cI cJ cZ S) sz)) 0 0 (va_A (wM q cI cJ cZ S) sz) := by
  refine oM (cc := cX12_later) (maxL := 4) (ret := (some .int)) (Qc := fun A => va_Qi Post (atM dC dI q cI cJ cZ A) A) (by decide) rfl (fun w h => List.mem_cons_of_mem _ (List.mem_append_right _ h)) rfl (Nat.le_of_ble_eq_true rfl) (fun p e s m below meth c A ls X hr hlocks hP hD hS hl => ?_)
  have hx := X.1
  have hb := X.2.1
  have hl : lv_has ls 4 [(0, .ref (q 0)), (1, .int a0)] := hl
  have lk7 := X.2.2.2.2.1 (.fieldLink RX12 7 "BreathOnLoanModel" "a" "[I") (inW 5 rfl)
  generalize hargs : ([.ref (q 0), .int a0] : List Value).toArray = args at X ⊢
  have h := h (fun hd S => match hd with | (.inl (x1, x2)) => ∀ (H : Heap) (locs : List Loc), va_P (dC, dI) vwCl (wM q cI cJ cZ S) H → va_D A (wM q cI cJ cZ S) → va_S A s.heap H locs → ∀ ls : Array Slot, lv_has ls 4 [(0, .ref (q 0)), (1, .int x1), (2, .int x2)] → W p l e (headSpec ww_later ({ frames := 2, cells := 0, slots := 0, locals := 44 } : Room)).room s m args below meth c H locs 0 0 (MQ below (va_Qi Post (atM dC dI q cI cJ cZ A) A) args s 0 0 A) (F0 m 28 ls []) | (.inr (x1, x2, x3)) => ∀ (H : Heap) (locs : List Loc), va_P (dC, dI) vwCl (wM q cI cJ cZ S) H → va_D A (wM q cI cJ cZ S) → va_S A s.heap H locs → ∀ ls : Array Slot, lv_has ls 4 [(0, .ref (q 0)), (1, .int x1), (2, .int x2), (3, .int x3)] → W p l e (headSpec ww_later ({ frames := 2, cells := 0, slots := 0, locals := 44 } : Room)).room s m args below meth c H locs 0 0 (MQ below (va_Qi Post (atM dC dI q cI cJ cZ A) A) args s 0 0 A) (F0 m 49 ls [])) ?_
  · skip
    refine lv_iload_n hx hb (dk DX12_later 0 rfl) rfl (lv_at hl 1 rfl) ?_
    refine lv_iconst (v := 1) hx hb (dk DX12_later 1 rfl) (by decide) ?_
    refine lv_bipush (v := 99) hx hb (dk DX12_later 2 rfl) (by decide) ?_
    refine cSi (As := [.int a0, .int 1, .int 99]) (rest := []) ⟨X.1, X.2.1, X.2.2.1, X.2.2.2.1, X.2.2.2.2.1⟩ (m_isIn (l := l) a0 1 99 h) (va_cwS 3 X.2.2.2.2.1 (gwS 31 32 24 26 rfl rfl rfl rfl) rfl rfl rfl q_isIn ⟨Nat.le_of_ble_eq_true rfl, Nat.le_of_ble_eq_true rfl⟩) rfl hl.1 rfl (Nat.le_of_ble_eq_true rfl) (dk DX12_later 3 rfl) (fun r1 h => ?_)
    refine lv_if_eq (tgt := 24) hx hb (dk DX12_later 4 rfl) (by decide) (fun hc => ?_) (fun hc => ?_)
    · have h := h.1 hc
      refine lv_iconst (v := (-1)) hx hb (dk DX12_later 13 rfl) (by decide) ?_
      exact W.iret (v := (-1)) hx hb hr (fun t ht hW => ⟨⟨_, _, rfl, h, by rw [ht]; exact hP, va_K.moved hW.alike X.2.2.2.2.2.2.1, hD⟩, hS.F ht⟩) hS.2.2 (dk DX12_later 14 rfl)
    · have h := h.2 hc
      refine lv_aload_n hx hb (dk DX12_later 5 rfl) rfl (lv_at hl 0 rfl) ?_
      refine gM X hP 0 (by decide) rfl lk7 (dk DX12_later 6 rfl) ?_
      refine lv_iconst (v := 3) hx hb (dk DX12_later 7 rfl) (by decide) ?_
      obtain ⟨hin, h⟩ := h
      refine ldM X hP 1 rfl hin (dk DX12_later 8 rfl) ?_
      refine lv_iload_n hx hb (dk DX12_later 9 rfl) rfl (lv_at hl 1 rfl) ?_
      refine lv_iadd hx hb (dk DX12_later 10 rfl) ?_
      refine lv_sipush (v := 999) hx hb (dk DX12_later 11 rfl) (by decide) ?_
      refine lv_icmp_le (tgt := 26) hx hb (dk DX12_later 12 rfl) (by decide) (fun hc => ?_) (fun hc => ?_)
      · have h := h.1 hc
        refine lv_iconst (v := 0) hx hb (dk DX12_later 15 rfl) (by decide) ?_
        refine lv_istore_n (lv' := [(2, .int 0), (0, .ref (q 0)), (1, .int a0)]) hx hb (dk DX12_later 16 rfl) rfl hl (by decide) rfl (fun ls hl => ?_)
        exact h _ _ hP hD hS ls (lv_sub hl [1, 2, 0] rfl)
      · have h := h.2 hc
        refine lv_iconst (v := (-1)) hx hb (dk DX12_later 13 rfl) (by decide) ?_
        exact W.iret (v := (-1)) hx hb hr (fun t ht hW => ⟨⟨_, _, rfl, h, by rw [ht]; exact hP, va_K.moved hW.alike X.2.2.2.2.2.2.1, hD⟩, hS.F ht⟩) hS.2.2 (dk DX12_later 14 rfl)
  · rintro (⟨x1, x2⟩ | ⟨x1, x2, x3⟩) S hB
    · exact h_later_0 X hr hlocks (hK0 := fun _ _ _ h => h) (hK1 := fun _ _ _ _ h => h) x1 x2 S hB
    · exact h_later_1 X hr hlocks (hK0 := fun _ _ _ h => h) (hK1 := fun _ _ _ _ h => h) x1 x2 x3 S hB

