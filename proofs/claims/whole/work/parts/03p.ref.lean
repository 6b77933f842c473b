-- bubble common odds
def ww_bubble : List Cond := .code yX12_bubble cX12_bubble 3 (some .int) :: (WdM ++ wsX120)
theorem q_bubble : yX12_bubble.cls = RX12 ∧ yX12_bubble.cls ≠ "java/lang/invoke/MethodHandle" ∧ yX12_bubble.cls ≠ "java/lang/invoke/VarHandle" ∧ (parseMethodDescriptor yX12_bubble.desc).map (fun d => d.parameters.length) = some 2 := by decide +kernel
def VC_bubble (Post : Int32 → MS → Prop) (a0 : Int32) (a1 : Int32) (S : MS) : Prop := ((¬ a0 = (-1) → vp_in (9 : Int32) 3890 ∧ VC_isIn (fun r1 => ((r1 = 0 → Post (-1) S) ∧ (¬ r1 = 0 → VC_isIn (fun r2 => ((r2 = 0 → Post (-1) S) ∧ (¬ r2 = 0 → vp_in ((250 + (4 * a0)) + a1) 3890 ∧ Post ((S.2.2.1 0) ((250 + (4 * a0)) + a1).toNatClampNeg) S))) a1 0 3))) a0 0 (((S.2.2.1 0) (9 : Int32).toNatClampNeg) - 1)) ∧ (a0 = (-1) → vp_in (9 : Int32) 3890 ∧ Post ((S.2.2.1 0) (9 : Int32).toNatClampNeg) S))
set_option maxHeartbeats 4000000 in
set_option maxRecDepth 100000 in
theorem m_bubble {l : Launch} {dC : Nat → ClassId} {dI : Nat → Nat → Nat} {q : Nat → Nat} {cI cJ cZ : ClassId} {sz : Nat} {Post : Int32 → MS → Prop} (a0 : Int32) (a1 : Int32) (S : MS) (h : VC_bubble Post a0 a1 S) : Met l yX12_bubble ww_bubble ({ frames := 1, cells := 0, slots := 0, locals := 22 } : Room) (va_Pc [.ref (q 0), .int a0, .int a1] (preM dC dI q cI cJ cZ S sz)) (va_Qi Post (atM dC dI q cI cJ cZ (va_A (wM q cI cJ cZ S) sz)) (va_A (wM q cI cJ cZ S) sz)) 0 0 (va_A (wM q cI cJ cZ S) sz) := by
  refine oM (cc := cX12_bubble) (maxL := 3) (ret := (some .int)) (Qc := fun A => va_Qi Post (atM dC dI q cI cJ cZ A) A) (by decide) rfl (fun w h => List.mem_cons_of_mem _ (List.mem_append_right _ h)) rfl (Nat.le_of_ble_eq_true rfl) (fun p e s m below meth c A ls X hr hlocks hP hD hS hl => ?_)
  have hx := X.1
  have hb := X.2.1
  have hl : lv_has ls 3 [(0, .ref (q 0)), (1, .int a0), (2, .int a1)] := hl
  have lk7 := X.2.2.2.2.1 (.fieldLink RX12 7 "BreathOnLoanModel" "a" "[I") (inW 5 rfl)
  dsimp only [VC_bubble] at h
  refine lv_iload_n hx hb (dk DX12_bubble 0 rfl) rfl (lv_at hl 1 rfl) ?_
  refine lv_iconst (v := (-1)) hx hb (dk DX12_bubble 1 rfl) (by decide) ?_
  refine lv_icmp_ne (tgt := 13) hx hb (dk DX12_bubble 2 rfl) (by decide) (fun hc => ?_) (fun hc => ?_)
  · have h := h.1 hc
    refine lv_iload_n hx hb (dk DX12_bubble 8 rfl) rfl (lv_at hl 1 rfl) ?_
    refine lv_iconst (v := 0) hx hb (dk DX12_bubble 9 rfl) (by decide) ?_
    refine lv_aload_n hx hb (dk DX12_bubble 10 rfl) rfl (lv_at hl 0 rfl) ?_
    refine gM X hP 0 (by decide) rfl lk7 (dk DX12_bubble 11 rfl) ?_
    refine lv_bipush (v := 9) hx hb (dk DX12_bubble 12 rfl) (by decide) ?_
    obtain ⟨hin, h⟩ := h
    refine ldM X hP 1 rfl hin (dk DX12_bubble 13 rfl) ?_
    refine lv_iconst (v := 1) hx hb (dk DX12_bubble 14 rfl) (by decide) ?_
    refine lv_isub hx hb (dk DX12_bubble 15 rfl) ?_
    refine cSi (As := [.int a0, .int 0, .int (((S.2.2.1 0) (9 : Int32).toNatClampNeg) - 1)]) (rest := []) ⟨X.1, X.2.1, X.2.2.1, X.2.2.2.1, X.2.2.2.2.1⟩ (m_isIn (l := l) a0 0 (((S.2.2.1 0) (9 : Int32).toNatClampNeg) - 1) h) (va_cwS 3 X.2.2.2.2.1 (gwS 31 32 24 26 rfl rfl rfl rfl) rfl rfl rfl q_isIn ⟨Nat.le_of_ble_eq_true rfl, Nat.le_of_ble_eq_true rfl⟩) rfl hl.1 rfl (Nat.le_of_ble_eq_true rfl) (dk DX12_bubble 16 rfl) (fun r1 h => ?_)
    refine lv_if_eq (tgt := 56) hx hb (dk DX12_bubble 17 rfl) (by decide) (fun hc => ?_) (fun hc => ?_)
    · have h := h.1 hc
      refine lv_iconst (v := (-1)) hx hb (dk DX12_bubble 34 rfl) (by decide) ?_
      exact W.iret (v := (-1)) hx hb hr (fun t ht hW => ⟨⟨_, _, rfl, h, by rw [ht]; exact hP, va_K.moved hW.alike X.2.2.2.2.2.2.1, hD⟩, hS.F ht⟩) hS.2.2 (dk DX12_bubble 35 rfl)
    · have h := h.2 hc
      refine lv_iload_n hx hb (dk DX12_bubble 18 rfl) rfl (lv_at hl 2 rfl) ?_
      refine lv_iconst (v := 0) hx hb (dk DX12_bubble 19 rfl) (by decide) ?_
      refine lv_iconst (v := 3) hx hb (dk DX12_bubble 20 rfl) (by decide) ?_
      refine cSi (As := [.int a1, .int 0, .int 3]) (rest := []) ⟨X.1, X.2.1, X.2.2.1, X.2.2.2.1, X.2.2.2.2.1⟩ (m_isIn (l := l) a1 0 3 h) (va_cwS 3 X.2.2.2.2.1 (gwS 31 32 24 26 rfl rfl rfl rfl) rfl rfl rfl q_isIn ⟨Nat.le_of_ble_eq_true rfl, Nat.le_of_ble_eq_true rfl⟩) rfl hl.1 rfl (Nat.le_of_ble_eq_true rfl) (dk DX12_bubble 21 rfl) (fun r2 h => ?_)
      refine lv_if_eq (tgt := 56) hx hb (dk DX12_bubble 22 rfl) (by decide) (fun hc => ?_) (fun hc => ?_)
      · have h := h.1 hc
        refine lv_iconst (v := (-1)) hx hb (dk DX12_bubble 34 rfl) (by decide) ?_
        exact W.iret (v := (-1)) hx hb hr (fun t ht hW => ⟨⟨_, _, rfl, h, by rw [ht]; exact hP, va_K.moved hW.alike X.2.2.2.2.2.2.1, hD⟩, hS.F ht⟩) hS.2.2 (dk DX12_bubble 35 rfl)
      · have h := h.2 hc
        refine lv_aload_n hx hb (dk DX12_bubble 23 rfl) rfl (lv_at hl 0 rfl) ?_
        refine gM X hP 0 (by decide) rfl lk7 (dk DX12_bubble 24 rfl) ?_
        refine lv_sipush (v := 250) hx hb (dk DX12_bubble 25 rfl) (by decide) ?_
        refine lv_iconst (v := 4) hx hb (dk DX12_bubble 26 rfl) (by decide) ?_
        refine lv_iload_n hx hb (dk DX12_bubble 27 rfl) rfl (lv_at hl 1 rfl) ?_
        refine lv_imul hx hb (dk DX12_bubble 28 rfl) ?_
        refine lv_iadd hx hb (dk DX12_bubble 29 rfl) ?_
        refine lv_iload_n hx hb (dk DX12_bubble 30 rfl) rfl (lv_at hl 2 rfl) ?_
        refine lv_iadd hx hb (dk DX12_bubble 31 rfl) ?_
        obtain ⟨hin, h⟩ := h
        refine ldM X hP 1 rfl hin (dk DX12_bubble 32 rfl) ?_
        refine lv_goto (tgt := 57) hx hb (dk DX12_bubble 33 rfl) (by decide) ?_
        exact W.iret (v := (S.2.2.1 0) ((250 + (4 * a0)) + a1).toNatClampNeg) hx hb hr (fun t ht hW => ⟨⟨_, _, rfl, h, by rw [ht]; exact hP, va_K.moved hW.alike X.2.2.2.2.2.2.1, hD⟩, hS.F ht⟩) hS.2.2 (dk DX12_bubble 35 rfl)
  · have h := h.2 hc
    refine lv_aload_n hx hb (dk DX12_bubble 3 rfl) rfl (lv_at hl 0 rfl) ?_
    refine gM X hP 0 (by decide) rfl lk7 (dk DX12_bubble 4 rfl) ?_
    refine lv_bipush (v := 9) hx hb (dk DX12_bubble 5 rfl) (by decide) ?_
    obtain ⟨hin, h⟩ := h
    refine ldM X hP 1 rfl hin (dk DX12_bubble 6 rfl) ?_
    exact W.iret (v := (S.2.2.1 0) (9 : Int32).toNatClampNeg) hx hb hr (fun t ht hW => ⟨⟨_, _, rfl, h, by rw [ht]; exact hP, va_K.moved hW.alike X.2.2.2.2.2.2.1, hD⟩, hS.F ht⟩) hS.2.2 (dk DX12_bubble 7 rfl)

def ww_common : List Cond := .code yX12_common cX12_common 10 (some .long) :: (WdM ++ wsX120)
theorem q_common : yX12_common.cls ≠ "java/lang/invoke/MethodHandle" ∧ yX12_common.cls ≠ "java/lang/invoke/VarHandle" ∧ (parseMethodDescriptor yX12_common.desc).map (fun d => d.parameters.length) = some 2 := by decide +kernel
abbrev Hd_common : Type := (Int64 × Int64 × Int64 × Int64)
def B_common (Post : Int64 → Prop) (K : Hd_common → Prop) : Hd_common → Prop
  | (x0, x2, x4, x6) => (((lg_cmp x6 0) = 0 → Post x4) ∧ (¬ (lg_cmp x6 0) = 0 → ¬ x6 = 0 ∧ ∀ v1 : Int64, v1 = x4 - x4 / x6 * x6 → K (x0, x2, x6, v1)))
def VC_common (Post : Int64 → Prop) (a0 : Int64) (a1 : Int64) : Prop := ∀ K : Hd_common → Prop, (∀ h, B_common Post K h → K h) → K (a0, a1, a0, a1)
set_option maxHeartbeats 4000000 in
set_option maxRecDepth 100000 in
theorem h_common_0 {p : Program} {l : Launch} {e : Env} {s : State} {m : MethodId} {below : List Frame} {meth : Method} {c : Code} {args : Array Value} {Post : Int64 → Prop} {K : Hd_common → Prop} (X : CallFix p m c cX12_common 10 s args ww_common yX12_common.cls) (hr : meth.sig.returnType = (some .long)) (hlocks : meth.locks = false) (hK0 : ∀ (x0 : Int64) (x2 : Int64) (x4 : Int64) (x6 : Int64), K (x0, x2, x4, x6) → ∀ ls : Array Slot, lv_has ls 10 [(0, .long x0), (2, .long x2), (4, .long x4), (6, .long x6)] → W p l e (headSpec ww_common ({ frames := 0, cells := 0, slots := 0, locals := 0 } : Room)).room s m args below meth c s.heap [] 0 0 (MQ below (vp_Sl Post) args s 0 0 (fun _ => False)) (F0 m 6 ls [])) (x0 : Int64) (x2 : Int64) (x4 : Int64) (x6 : Int64) (h : B_common Post K (x0, x2, x4, x6)) : ∀ ls : Array Slot, lv_has ls 10 [(0, .long x0), (2, .long x2), (4, .long x4), (6, .long x6)] → W p l e (headSpec ww_common ({ frames := 0, cells := 0, slots := 0, locals := 0 } : Room)).room s m args below meth c s.heap [] 0 0 (MQ below (vp_Sl Post) args s 0 0 (fun _ => False)) (F0 m 6 ls []) := by
  have hx := X.1
  have hb := X.2.1
  intro ls hl
  dsimp only [B_common] at h
  refine lv_lload hx hb (dk DX12_common 4 rfl) (lv_at hl 3 rfl) ?_
  refine lv_lconst (v := 0) hx hb (dk DX12_common 5 rfl) (by decide) ?_
  refine W.lcmp hx hb (dk DX12_common 6 rfl) ?_
  refine lv_if_eq (tgt := 31) hx hb (dk DX12_common 7 rfl) (by decide) (fun hc => ?_) (fun hc => ?_)
  · have h := h.1 hc
    refine lv_lload hx hb (dk DX12_common 17 rfl) (lv_at hl 2 rfl) ?_
    exact W.lret (v := x4) hx hb hr (fun t ht hW => ⟨_, rfl, h, ht⟩) (fun _ h => by cases h) (dk DX12_common 18 rfl)
  · have h := h.2 hc
    refine lv_lload hx hb (dk DX12_common 8 rfl) (lv_at hl 2 rfl) ?_
    refine lv_lload hx hb (dk DX12_common 9 rfl) (lv_at hl 3 rfl) ?_
    obtain ⟨hz, h⟩ := h
    refine lv_lrem hx hb (dk DX12_common 10 rfl) hz ?_
    refine lv_topl (fun v1 ev1 => ?_)
    have h := h v1 ev1
    refine lv_lstore (lv' := [(8, .long v1), (0, .long x0), (2, .long x2), (4, .long x4), (6, .long x6)]) hx hb (dk DX12_common 11 rfl) hl (by decide) rfl (fun ls hl => ?_)
    refine lv_lload hx hb (dk DX12_common 12 rfl) (lv_at hl 4 rfl) ?_
    refine lv_lstore (lv' := [(4, .long x6), (8, .long v1), (0, .long x0), (2, .long x2), (6, .long x6)]) hx hb (dk DX12_common 13 rfl) hl (by decide) rfl (fun ls hl => ?_)
    refine lv_lload hx hb (dk DX12_common 14 rfl) (lv_at hl 1 rfl) ?_
    refine lv_lstore (lv' := [(6, .long v1), (4, .long x6), (8, .long v1), (0, .long x0), (2, .long x2)]) hx hb (dk DX12_common 15 rfl) hl (by decide) rfl (fun ls hl => ?_)
    refine lv_goto (tgt := 6) hx hb (dk DX12_common 16 rfl) (by decide) ?_
    exact hK0 x0 x2 x6 v1 h  ls (lv_sub hl [3, 4, 1, 0] rfl)
set_option maxHeartbeats 4000000 in
set_option maxRecDepth 100000 in
theorem m_common {l : Launch} {Post : Int64 → Prop} (a0 : Int64) (a1 : Int64) (h : VC_common Post a0 a1) : Met l yX12_common ww_common ({ frames := 0, cells := 0, slots := 0, locals := 0 } : Room) (va_Pc [.long a0, .long a1] (fun _ => True)) (vp_Sl Post) 0 0 (fun _ => False) := by
  refine oS (cc := cX12_common) (maxL := 10) (ret := (some .long)) (Qc := vp_Sl Post) (by decide) rfl (Nat.le_of_ble_eq_true rfl) (fun p e s m below meth c ls X hr hlocks hl => ?_)
  have hx := X.1
  have hb := X.2.1
  have hl : lv_has ls 10 [(0, .long a0), (2, .long a1)] := hl
  generalize hargs : ([.long a0, .long a1] : List Value).toArray = args at X ⊢
  have h := h (fun hd => match hd with | (x0, x2, x4, x6) => ∀ ls : Array Slot, lv_has ls 10 [(0, .long x0), (2, .long x2), (4, .long x4), (6, .long x6)] → W p l e (headSpec ww_common ({ frames := 0, cells := 0, slots := 0, locals := 0 } : Room)).room s m args below meth c s.heap [] 0 0 (MQ below (vp_Sl Post) args s 0 0 (fun _ => False)) (F0 m 6 ls [])) ?_
  · skip
    refine lv_lload_n hx hb (dk DX12_common 0 rfl) rfl (lv_at hl 0 rfl) ?_
    refine lv_lstore (lv' := [(4, .long a0), (0, .long a0), (2, .long a1)]) hx hb (dk DX12_common 1 rfl) hl (by decide) rfl (fun ls hl => ?_)
    refine lv_lload_n hx hb (dk DX12_common 2 rfl) rfl (lv_at hl 2 rfl) ?_
    refine lv_lstore (lv' := [(6, .long a1), (4, .long a0), (0, .long a0), (2, .long a1)]) hx hb (dk DX12_common 3 rfl) hl (by decide) rfl (fun ls hl => ?_)
    exact h  ls (lv_sub hl [2, 3, 1, 0] rfl)
  · rintro ⟨x0, x2, x4, x6⟩ hB
    exact h_common_0 X hr hlocks (hK0 := fun _ _ _ _ h => h) x0 x2 x4 x6 hB

def ww_odds : List Cond := .code yX12_odds cX12_odds 8 (some .long) :: (WdM ++ wsX120)
theorem q_odds : yX12_odds.cls = RX12 ∧ yX12_odds.cls ≠ "java/lang/invoke/MethodHandle" ∧ yX12_odds.cls ≠ "java/lang/invoke/VarHandle" ∧ (parseMethodDescriptor yX12_odds.desc).map (fun d => d.parameters.length) = some 2 := by decide +kernel
abbrev Hd_odds : Type := (Int32 × Int32 × Int64 × Int64 × Int32) ⊕ (Int32 × Int32 × Int64 × Int64 × Int32 × Int64)
def B_odds (Post : Int64 → MS → Prop) (K : Hd_odds → MS → Prop) : Hd_odds → MS → Prop
  | (.inl (x1, x2, x3, x5, x7)), S => vp_in (2 : Int32) 3890 ∧ ((((S.2.2.1 0) (2 : Int32).toNatClampNeg) ≤ x7 → ((¬ x2 = 0 → K (.inr (x1, x2, x3, x5, x7, x5)) S) ∧ (x2 = 0 → K (.inr (x1, x2, x3, x5, x7, x3)) S))) ∧ (¬ ((S.2.2.1 0) (2 : Int32).toNatClampNeg) ≤ x7 → VC_has (fun r3 => ((¬ r3 = 0 → VC_pieceAt (fun r4 => vp_in (r4 + 1) 3890 ∧ ((((S.2.2.1 0) (r4 + 1).toNatClampNeg) = 1 → VC_brittleOf (fun r6 S5 => ∀ v7 : Int64, v7 = x3 * ((10 - r6).toInt64) → ∀ v8 : Int64, v8 = x5 * (10) → ∀ v9 : Int32, v9 = x7 + 1 → K (.inl (x1, x2, v7, v8, v9)) S5) x7 S) ∧ (¬ ((S.2.2.1 0) (r4 + 1).toNatClampNeg) = 1 → Post (-1) S))) x7) ∧ (r3 = 0 → ∀ v10 : Int32, v10 = x7 + 1 → K (.inl (x1, x2, x3, x5, v10)) S))) x1 x7))
  | (.inr (x1, x2, x3, x5, x7, t0)), S => VC_common (fun r11 => ¬ r11 = 0 ∧ Post (t0 / r11) S) x3 x5
def VC_odds (Post : Int64 → MS → Prop) (a0 : Int32) (a1 : Int32) (S : MS) : Prop := ∀ K : Hd_odds → MS → Prop, (∀ h S, B_odds Post K h S → K h S) → vp_in (2 : Int32) 3890 ∧ VC_isIn (fun r1 => ((r1 = 0 → Post (-1) S) ∧ (¬ r1 = 0 → VC_isIn (fun r2 => ((¬ r2 = 0 → K (.inl (a0, a1, 1, 1, 0)) S) ∧ (r2 = 0 → Post (-1) S))) a1 0 1))) a0 0 (((1 : Int32) <<< (((S.2.2.1 0) (2 : Int32).toNatClampNeg) &&& 31)) - 1)
set_option maxHeartbeats 4000000 in
set_option maxRecDepth 100000 in
theorem h_odds_0 {p : Program} {l : Launch} {e : Env} {s : State} {m : MethodId} {below : List Frame} {meth : Method} {c : Code} {dC : Nat → ClassId} {dI : Nat → Nat → Nat} {q : Nat → Nat} {cI cJ cZ : ClassId} {A : Nat → Prop} {args : Array Value} {Post : Int64 → MS → Prop} {K : Hd_odds → MS → Prop} (X : XM p s m args c cX12_odds 8 ww_odds dC dI cI cJ cZ A) (hr : meth.sig.returnType = (some .long)) (hlocks : meth.locks = false) (hK0 : ∀ (x1 : Int32) (x2 : Int32) (x3 : Int64) (x5 : Int64) (x7 : Int32) (S : MS), K (.inl (x1, x2, x3, x5, x7)) S → ∀ (H : Heap) (locs : List Loc), va_P (dC, dI) vwCl (wM q cI cJ cZ S) H → va_D A (wM q cI cJ cZ S) → va_S A s.heap H locs → ∀ ls : Array Slot, lv_has ls 8 [(0, .ref (q 0)), (1, .int x1), (2, .int x2), (3, .long x3), (5, .long x5), (7, .int x7)] → W p l e (headSpec ww_odds ({ frames := 5, cells := 0, slots := 0, locals := 120 } : Room)).room s m args below meth c H locs 0 0 (MQ below (va_Ql Post (atM dC dI q cI cJ cZ A) A) args s 0 0 A) (F0 m 39 ls [])) (hK1 : ∀ (x1 : Int32) (x2 : Int32) (x3 : Int64) (x5 : Int64) (x7 : Int32) (t0 : Int64) (S : MS), K (.inr (x1, x2, x3, x5, x7, t0)) S → ∀ (H : Heap) (locs : List Loc), va_P (dC, dI) vwCl (wM q cI cJ cZ S) H → va_D A (wM q cI cJ cZ S) → va_S A s.heap H locs → ∀ ls : Array Slot, lv_has ls 8 [(0, .ref (q 0)), (1, .int x1), (2, .int x2), (3, .long x3), (5, .long x5), (7, .int x7)] → W p l e (headSpec ww_odds ({ frames := 5, cells := 0, slots := 0, locals := 120 } : Room)).room s m args below meth c H locs 0 0 (MQ below (va_Ql Post (atM dC dI q cI cJ cZ A) A) args s 0 0 A) (F0 m 119 ls [.long t0])) (x1 : Int32) (x2 : Int32) (x3 : Int64) (x5 : Int64) (x7 : Int32) (S : MS) (h : B_odds Post K (.inl (x1, x2, x3, x5, x7)) S) : ∀ (H : Heap) (locs : List Loc), va_P (dC, dI) vwCl (wM q cI cJ cZ S) H → va_D A (wM q cI cJ cZ S) → va_S A s.heap H locs → ∀ ls : Array Slot, lv_has ls 8 [(0, .ref (q 0)), (1, .int x1), (2, .int x2), (3, .long x3), (5, .long x5), (7, .int x7)] → W p l e (headSpec ww_odds ({ frames := 5, cells := 0, slots := 0, locals := 120 } : Room)).room s m args below meth c H locs 0 0 (MQ below (va_Ql Post (atM dC dI q cI cJ cZ A) A) args s 0 0 A) (F0 m 39 ls []) := by
  have hx := X.1
  have hb := X.2.1
  intro H locs hP hD hS ls hl
  have lk7 := X.2.2.2.2.1 (.fieldLink RX12 7 "BreathOnLoanModel" "a" "[I") (inW 5 rfl)
  dsimp only [B_odds] at h
  refine lv_iload hx hb (dk DX12_odds 25 rfl) (lv_at hl 5 rfl) ?_
  refine lv_aload_n hx hb (dk DX12_odds 26 rfl) rfl (lv_at hl 0 rfl) ?_
  refine gM X hP 0 (by decide) rfl lk7 (dk DX12_odds 27 rfl) ?_
  refine lv_iconst (v := 2) hx hb (dk DX12_odds 28 rfl) (by decide) ?_
  obtain ⟨hin, h⟩ := h
  refine ldM X hP 1 rfl hin (dk DX12_odds 29 rfl) ?_
  refine lv_icmp_ge (tgt := 109) hx hb (dk DX12_odds 30 rfl) (by decide) (fun hc => ?_) (fun hc => ?_)
  · have h := h.1 hc
    refine lv_iload_n hx hb (dk DX12_odds 62 rfl) rfl (lv_at hl 2 rfl) ?_
    refine lv_if_ne (tgt := 117) hx hb (dk DX12_odds 63 rfl) (by decide) (fun hc => ?_) (fun hc => ?_)
    · have h := h.1 hc
      refine lv_lload hx hb (dk DX12_odds 66 rfl) (lv_at hl 4 rfl) ?_
      exact hK1 x1 x2 x3 x5 x7 x5 S h _ _ hP hD hS ls (lv_sub hl [0, 1, 2, 3, 4, 5] rfl)
    · have h := h.2 hc
      refine lv_lload_n hx hb (dk DX12_odds 64 rfl) rfl (lv_at hl 3 rfl) ?_
      refine lv_goto (tgt := 119) hx hb (dk DX12_odds 65 rfl) (by decide) ?_
      exact hK1 x1 x2 x3 x5 x7 x3 S h _ _ hP hD hS ls (lv_sub hl [0, 1, 2, 3, 4, 5] rfl)
  · have h := h.2 hc
    refine lv_iload_n hx hb (dk DX12_odds 31 rfl) rfl (lv_at hl 1 rfl) ?_
    refine lv_iload hx hb (dk DX12_odds 32 rfl) (lv_at hl 5 rfl) ?_
    refine cSi (As := [.int x1, .int x7]) (rest := []) ⟨X.1, X.2.1, X.2.2.1, X.2.2.2.1, X.2.2.2.2.1⟩ (m_has (l := l) x1 x7 h) (va_cwS 2 X.2.2.2.2.1 (gwS 244 245 24 28 rfl rfl rfl rfl) rfl rfl rfl q_has ⟨Nat.le_of_ble_eq_true rfl, Nat.le_of_ble_eq_true rfl⟩) rfl hl.1 rfl (Nat.le_of_ble_eq_true rfl) (dk DX12_odds 33 rfl) (fun r3 h => ?_)
    refine lv_if_ne (tgt := 62) hx hb (dk DX12_odds 34 rfl) (by decide) (fun hc => ?_) (fun hc => ?_)
    · have h := h.1 hc
      refine lv_aload_n hx hb (dk DX12_odds 36 rfl) rfl (lv_at hl 0 rfl) ?_
      refine gM X hP 0 (by decide) rfl lk7 (dk DX12_odds 37 rfl) ?_
      refine lv_iload hx hb (dk DX12_odds 38 rfl) (lv_at hl 5 rfl) ?_
      refine cSi (As := [.int x7]) (rest := [.ref (q 1)]) ⟨X.1, X.2.1, X.2.2.1, X.2.2.2.1, X.2.2.2.2.1⟩ (m_pieceAt (l := l) x7 h) (va_cwS 1 X.2.2.2.2.1 (gwS 40 41 24 38 rfl rfl rfl rfl) rfl rfl rfl q_pieceAt ⟨Nat.le_of_ble_eq_true rfl, Nat.le_of_ble_eq_true rfl⟩) rfl hl.1 rfl (Nat.le_of_ble_eq_true rfl) (dk DX12_odds 39 rfl) (fun r4 h => ?_)
      refine lv_iconst (v := 1) hx hb (dk DX12_odds 40 rfl) (by decide) ?_
      refine lv_iadd hx hb (dk DX12_odds 41 rfl) ?_
      obtain ⟨hin, h⟩ := h
      refine ldM X hP 1 rfl hin (dk DX12_odds 42 rfl) ?_
      refine lv_iconst (v := 1) hx hb (dk DX12_odds 43 rfl) (by decide) ?_
      refine lv_icmp_eq (tgt := 82) hx hb (dk DX12_odds 44 rfl) (by decide) (fun hc => ?_) (fun hc => ?_)
      · have h := h.1 hc
        refine lv_lload_n hx hb (dk DX12_odds 47 rfl) rfl (lv_at hl 3 rfl) ?_
        refine lv_bipush (v := 10) hx hb (dk DX12_odds 48 rfl) (by decide) ?_
        refine lv_aload_n hx hb (dk DX12_odds 49 rfl) rfl (lv_at hl 0 rfl) ?_
        refine lv_iload hx hb (dk DX12_odds 50 rfl) (lv_at hl 5 rfl) ?_
        refine cMi (As := [.int x7]) (rest := [.int 10, .long x3]) X (m_brittleOf (l := l) (dC := dC) (dI := dI) (q := q) (cI := cI) (cJ := cJ) (cZ := cZ) (sz := _) x7 S h) (cwV 1 X.2.2.2.2.1 (gwV 303 304 305 24 246 rfl rfl rfl rfl rfl) rfl rfl rfl q_brittleOf ⟨Nat.le_of_ble_eq_true rfl, Nat.le_of_ble_eq_true rfl⟩) hP hD hS rfl hl.1 rfl (Nat.le_of_ble_eq_true rfl) (dk DX12_odds 51 rfl) (fun r6 S5 H locs h hP hD hS => ?_)
        refine lv_isub hx hb (dk DX12_odds 52 rfl) ?_
        refine lv_i2l hx hb (dk DX12_odds 53 rfl) rfl ?_
        refine lv_lmul hx hb (dk DX12_odds 54 rfl) ?_
        refine lv_topl (fun v7 ev7 => ?_)
        have h := h v7 ev7
        refine lv_lstore_n (lv' := [(3, .long v7), (0, .ref (q 0)), (1, .int x1), (2, .int x2), (5, .long x5), (7, .int x7)]) hx hb (dk DX12_odds 55 rfl) rfl hl (by decide) rfl (fun ls hl => ?_)
        refine lv_lload hx hb (dk DX12_odds 56 rfl) (lv_at hl 4 rfl) ?_
        refine lv_ldc2 (v := (10)) hx hb X.2.2.2.1 (X.2.2.2.2.1 (.constantLong RX12 331 (10)) (inW 302 rfl)) (dk DX12_odds 57 rfl) ?_
        refine lv_lmul hx hb (dk DX12_odds 58 rfl) ?_
        refine lv_topl (fun v8 ev8 => ?_)
        have h := h v8 ev8
        refine lv_lstore (lv' := [(5, .long v8), (3, .long v7), (0, .ref (q 0)), (1, .int x1), (2, .int x2), (7, .int x7)]) hx hb (dk DX12_odds 59 rfl) hl (by decide) rfl (fun ls hl => ?_)
        obtain ⟨v9, ev9⟩ : ∃ y : Int32, y = x7 + 1 := ⟨_, rfl⟩
        have h := h v9 ev9
        refine lv_iinc (v := v9) (lv' := [(7, .int v9), (5, .long v8), (3, .long v7), (0, .ref (q 0)), (1, .int x1), (2, .int x2)]) hx hb (dk DX12_odds 60 rfl) hl (k := 5) rfl (by rw [ev9]; rfl) (by decide) rfl (fun ls hl => ?_)
        refine lv_goto (tgt := 39) hx hb (dk DX12_odds 61 rfl) (by decide) ?_
        exact hK0 x1 x2 v7 v8 v9 S5 h _ _ hP hD hS ls (lv_sub hl [3, 4, 5, 2, 1, 0] rfl)
      · have h := h.2 hc
        refine lv_ldc2 (v := (-1)) hx hb X.2.2.2.1 (X.2.2.2.2.1 (.constantLong RX12 326 (-1)) (inW 301 rfl)) (dk DX12_odds 45 rfl) ?_
        exact W.lret (v := (-1)) hx hb hr (fun t ht hW => ⟨⟨_, _, rfl, h, by rw [ht]; exact hP, va_K.moved hW.alike X.2.2.2.2.2.2.1, hD⟩, hS.F ht⟩) hS.2.2 (dk DX12_odds 46 rfl)
    · have h := h.2 hc
      refine lv_goto (tgt := 103) hx hb (dk DX12_odds 35 rfl) (by decide) ?_
      obtain ⟨v10, ev10⟩ : ∃ y : Int32, y = x7 + 1 := ⟨_, rfl⟩
      have h := h v10 ev10
      refine lv_iinc (v := v10) (lv' := [(7, .int v10), (0, .ref (q 0)), (1, .int x1), (2, .int x2), (3, .long x3), (5, .long x5)]) hx hb (dk DX12_odds 60 rfl) hl (k := 5) rfl (by rw [ev10]; rfl) (by decide) rfl (fun ls hl => ?_)
      refine lv_goto (tgt := 39) hx hb (dk DX12_odds 61 rfl) (by decide) ?_
      exact hK0 x1 x2 x3 x5 v10 S h _ _ hP hD hS ls (lv_sub hl [1, 2, 3, 4, 5, 0] rfl)
set_option maxHeartbeats 4000000 in
set_option maxRecDepth 100000 in
theorem h_odds_1 {p : Program} {l : Launch} {e : Env} {s : State} {m : MethodId} {below : List Frame} {meth : Method} {c : Code} {dC : Nat → ClassId} {dI : Nat → Nat → Nat} {q : Nat → Nat} {cI cJ cZ : ClassId} {A : Nat → Prop} {args : Array Value} {Post : Int64 → MS → Prop} {K : Hd_odds → MS → Prop} (X : XM p s m args c cX12_odds 8 ww_odds dC dI cI cJ cZ A) (hr : meth.sig.returnType = (some .long)) (hlocks : meth.locks = false) (hK0 : ∀ (x1 : Int32) (x2 : Int32) (x3 : Int64) (x5 : Int64) (x7 : Int32) (S : MS), K (.inl (x1, x2, x3, x5, x7)) S → ∀ (H : Heap) (locs : List Loc), va_P (dC, dI) vwCl (wM q cI cJ cZ S) H → va_D A (wM q cI cJ cZ S) → va_S A s.heap H locs → ∀ ls : Array Slot, lv_has ls 8 [(0, .ref (q 0)), (1, .int x1), (2, .int x2), (3, .long x3), (5, .long x5), (7, .int x7)] → W p l e (headSpec ww_odds ({ frames := 5, cells := 0, slots := 0, locals := 120 } : Room)).room s m args below meth c H locs 0 0 (MQ below (va_Ql Post (atM dC dI q cI cJ cZ A) A) args s 0 0 A) (F0 m 39 ls [])) (hK1 : ∀ (x1 : Int32) (x2 : Int32) (x3 : Int64) (x5 : Int64) (x7 : Int32) (t0 : Int64) (S : MS), K (.inr (x1, x2, x3, x5, x7, t0)) S → ∀ (H : Heap) (locs : List Loc), va_P (dC, dI) vwCl (wM q cI cJ cZ S) H → va_D A (wM q cI cJ cZ S) → va_S A s.heap H locs → ∀ ls : Array Slot, lv_has ls 8 [(0, .ref (q 0)), (1, .int x1), (2, .int x2), (3, .long x3), (5, .long x5), (7, .int x7)] → W p l e (headSpec ww_odds ({ frames := 5, cells := 0, slots := 0, locals := 120 } : Room)).room s m args below meth c H locs 0 0 (MQ below (va_Ql Post (atM dC dI q cI cJ cZ A) A) args s 0 0 A) (F0 m 119 ls [.long t0])) (x1 : Int32) (x2 : Int32) (x3 : Int64) (x5 : Int64) (x7 : Int32) (t0 : Int64) (S : MS) (h : B_odds Post K (.inr (x1, x2, x3, x5, x7, t0)) S) : ∀ (H : Heap) (locs : List Loc), va_P (dC, dI) vwCl (wM q cI cJ cZ S) H → va_D A (wM q cI cJ cZ S) → va_S A s.heap H locs → ∀ ls : Array Slot, lv_has ls 8 [(0, .ref (q 0)), (1, .int x1), (2, .int x2), (3, .long x3), (5, .long x5), (7, .int x7)] → W p l e (headSpec ww_odds ({ frames := 5, cells := 0, slots := 0, locals := 120 } : Room)).room s m args below meth c H locs 0 0 (MQ below (va_Ql Post (atM dC dI q cI cJ cZ A) A) args s 0 0 A) (F0 m 119 ls [.long t0]) := by
  have hx := X.1
  have hb := X.2.1
  intro H locs hP hD hS ls hl
  have lk7 := X.2.2.2.2.1 (.fieldLink RX12 7 "BreathOnLoanModel" "a" "[I") (inW 5 rfl)
  dsimp only [B_odds] at h
  refine lv_lload_n hx hb (dk DX12_odds 67 rfl) rfl (lv_at hl 3 rfl) ?_
  refine lv_lload hx hb (dk DX12_odds 68 rfl) (lv_at hl 4 rfl) ?_
  refine cSl (As := [.long x3, .long x5]) (rest := [.long t0]) ⟨X.1, X.2.1, X.2.2.1, X.2.2.2.1, X.2.2.2.2.1⟩ (m_common (l := l) x3 x5 h) (va_cwS 2 X.2.2.2.2.1 (gwS 306 307 24 300 rfl rfl rfl rfl) rfl rfl rfl q_common ⟨Nat.le_of_ble_eq_true rfl, Nat.le_of_ble_eq_true rfl⟩) rfl hl.1 rfl (Nat.le_of_ble_eq_true rfl) (dk DX12_odds 69 rfl) (fun r11 h => ?_)
  obtain ⟨hz, h⟩ := h
  refine lv_ldiv hx hb (dk DX12_odds 70 rfl) hz ?_
  exact W.lret (v := t0 / r11) hx hb hr (fun t ht hW => ⟨⟨_, _, rfl, h, by rw [ht]; exact hP, va_K.moved hW.alike X.2.2.2.2.2.2.1, hD⟩, hS.F ht⟩) hS.2.2 (dk DX12_odds 71 rfl)
set_option maxHeartbeats 4000000 in
set_option maxRecDepth 100000 in
theorem m_odds {l : Launch} {dC : Nat → ClassId} {dI : Nat → Nat → Nat} {q : Nat → Nat} {cI cJ cZ : ClassId} {sz : Nat} {Post : Int64 → MS → Prop} (a0 : Int32) (a1 : Int32) (S : MS) (h : VC_odds Post a0 a1 S) : Met l yX12_odds ww_odds ({ frames := 5, cells := 0, slots := 0, locals := 120 } : Room) (va_Pc [.ref (q 0), .int a0, .int a1] (preM dC dI q cI cJ cZ S sz)) (va_Ql Post (atM dC dI q cI cJ cZ (va_A (wM q cI cJ cZ S) sz)) (va_A (wM q cI cJ cZ S) sz)) 0 0 (va_A (wM q cI cJ cZ S) sz) := by
  refine oM (cc := cX12_odds) (maxL := 8) (ret := (some .long)) (Qc := fun A => va_Ql Post (atM dC dI q cI cJ cZ A) A) (by decide) rfl (fun w h => List.mem_cons_of_mem _ (List.mem_append_right _ h)) rfl (Nat.le_of_ble_eq_true rfl) (fun p e s m below meth c A ls X hr hlocks hP hD hS hl => ?_)
  have hx := X.1
  have hb := X.2.1
  have hl : lv_has ls 8 [(0, .ref (q 0)), (1, .int a0), (2, .int a1)] := hl
  have lk7 := X.2.2.2.2.1 (.fieldLink RX12 7 "BreathOnLoanModel" "a" "[I") (inW 5 rfl)
  generalize hargs : ([.ref (q 0), .int a0, .int a1] : List Value).toArray = args at X ⊢
  have h := h (fun hd S => match hd with | (.inl (x1, x2, x3, x5, x7)) => ∀ (H : Heap) (locs : List Loc), va_P (dC, dI) vwCl (wM q cI cJ cZ S) H → va_D A (wM q cI cJ cZ S) → va_S A s.heap H locs → ∀ ls : Array Slot, lv_has ls 8 [(0, .ref (q 0)), (1, .int x1), (2, .int x2), (3, .long x3), (5, .long x5), (7, .int x7)] → W p l e (headSpec ww_odds ({ frames := 5, cells := 0, slots := 0, locals := 120 } : Room)).room s m args below meth c H locs 0 0 (MQ below (va_Ql Post (atM dC dI q cI cJ cZ A) A) args s 0 0 A) (F0 m 39 ls []) | (.inr (x1, x2, x3, x5, x7, t0)) => ∀ (H : Heap) (locs : List Loc), va_P (dC, dI) vwCl (wM q cI cJ cZ S) H → va_D A (wM q cI cJ cZ S) → va_S A s.heap H locs → ∀ ls : Array Slot, lv_has ls 8 [(0, .ref (q 0)), (1, .int x1), (2, .int x2), (3, .long x3), (5, .long x5), (7, .int x7)] → W p l e (headSpec ww_odds ({ frames := 5, cells := 0, slots := 0, locals := 120 } : Room)).room s m args below meth c H locs 0 0 (MQ below (va_Ql Post (atM dC dI q cI cJ cZ A) A) args s 0 0 A) (F0 m 119 ls [.long t0])) ?_
  · skip
    refine lv_iload_n hx hb (dk DX12_odds 0 rfl) rfl (lv_at hl 1 rfl) ?_
    refine lv_iconst (v := 0) hx hb (dk DX12_odds 1 rfl) (by decide) ?_
    refine lv_iconst (v := 1) hx hb (dk DX12_odds 2 rfl) (by decide) ?_
    refine lv_aload_n hx hb (dk DX12_odds 3 rfl) rfl (lv_at hl 0 rfl) ?_
    refine gM X hP 0 (by decide) rfl lk7 (dk DX12_odds 4 rfl) ?_
    refine lv_iconst (v := 2) hx hb (dk DX12_odds 5 rfl) (by decide) ?_
    obtain ⟨hin, h⟩ := h
    refine ldM X hP 1 rfl hin (dk DX12_odds 6 rfl) ?_
    refine lv_ishl hx hb (dk DX12_odds 7 rfl) ?_
    refine lv_iconst (v := 1) hx hb (dk DX12_odds 8 rfl) (by decide) ?_
    refine lv_isub hx hb (dk DX12_odds 9 rfl) ?_
    refine cSi (As := [.int a0, .int 0, .int (((1 : Int32) <<< (((S.2.2.1 0) (2 : Int32).toNatClampNeg) &&& 31)) - 1)]) (rest := []) ⟨X.1, X.2.1, X.2.2.1, X.2.2.2.1, X.2.2.2.2.1⟩ (m_isIn (l := l) a0 0 (((1 : Int32) <<< (((S.2.2.1 0) (2 : Int32).toNatClampNeg) &&& 31)) - 1) h) (va_cwS 3 X.2.2.2.2.1 (gwS 31 32 24 26 rfl rfl rfl rfl) rfl rfl rfl q_isIn ⟨Nat.le_of_ble_eq_true rfl, Nat.le_of_ble_eq_true rfl⟩) rfl hl.1 rfl (Nat.le_of_ble_eq_true rfl) (dk DX12_odds 10 rfl) (fun r1 h => ?_)
    refine lv_if_eq (tgt := 27) hx hb (dk DX12_odds 11 rfl) (by decide) (fun hc => ?_) (fun hc => ?_)
    · have h := h.1 hc
      refine lv_ldc2 (v := (-1)) hx hb X.2.2.2.1 (X.2.2.2.2.1 (.constantLong RX12 326 (-1)) (inW 301 rfl)) (dk DX12_odds 17 rfl) ?_
      exact W.lret (v := (-1)) hx hb hr (fun t ht hW => ⟨⟨_, _, rfl, h, by rw [ht]; exact hP, va_K.moved hW.alike X.2.2.2.2.2.2.1, hD⟩, hS.F ht⟩) hS.2.2 (dk DX12_odds 18 rfl)
    · have h := h.2 hc
      refine lv_iload_n hx hb (dk DX12_odds 12 rfl) rfl (lv_at hl 2 rfl) ?_
      refine lv_iconst (v := 0) hx hb (dk DX12_odds 13 rfl) (by decide) ?_
      refine lv_iconst (v := 1) hx hb (dk DX12_odds 14 rfl) (by decide) ?_
      refine cSi (As := [.int a1, .int 0, .int 1]) (rest := []) ⟨X.1, X.2.1, X.2.2.1, X.2.2.2.1, X.2.2.2.2.1⟩ (m_isIn (l := l) a1 0 1 h) (va_cwS 3 X.2.2.2.2.1 (gwS 31 32 24 26 rfl rfl rfl rfl) rfl rfl rfl q_isIn ⟨Nat.le_of_ble_eq_true rfl, Nat.le_of_ble_eq_true rfl⟩) rfl hl.1 rfl (Nat.le_of_ble_eq_true rfl) (dk DX12_odds 15 rfl) (fun r2 h => ?_)
      refine lv_if_ne (tgt := 31) hx hb (dk DX12_odds 16 rfl) (by decide) (fun hc => ?_) (fun hc => ?_)
      · have h := h.1 hc
        refine lv_lconst (v := 1) hx hb (dk DX12_odds 19 rfl) (by decide) ?_
        refine lv_lstore_n (lv' := [(3, .long 1), (0, .ref (q 0)), (1, .int a0), (2, .int a1)]) hx hb (dk DX12_odds 20 rfl) rfl hl (by decide) rfl (fun ls hl => ?_)
        refine lv_lconst (v := 1) hx hb (dk DX12_odds 21 rfl) (by decide) ?_
        refine lv_lstore (lv' := [(5, .long 1), (3, .long 1), (0, .ref (q 0)), (1, .int a0), (2, .int a1)]) hx hb (dk DX12_odds 22 rfl) hl (by decide) rfl (fun ls hl => ?_)
        refine lv_iconst (v := 0) hx hb (dk DX12_odds 23 rfl) (by decide) ?_
        refine lv_istore (lv' := [(7, .int 0), (5, .long 1), (3, .long 1), (0, .ref (q 0)), (1, .int a0), (2, .int a1)]) hx hb (dk DX12_odds 24 rfl) hl (by decide) rfl (fun ls hl => ?_)
        exact h _ _ hP hD hS ls (lv_sub hl [3, 4, 5, 2, 1, 0] rfl)
      · have h := h.2 hc
        refine lv_ldc2 (v := (-1)) hx hb X.2.2.2.1 (X.2.2.2.2.1 (.constantLong RX12 326 (-1)) (inW 301 rfl)) (dk DX12_odds 17 rfl) ?_
        exact W.lret (v := (-1)) hx hb hr (fun t ht hW => ⟨⟨_, _, rfl, h, by rw [ht]; exact hP, va_K.moved hW.alike X.2.2.2.2.2.2.1, hD⟩, hS.F ht⟩) hS.2.2 (dk DX12_odds 18 rfl)
  · rintro (⟨x1, x2, x3, x5, x7⟩ | ⟨x1, x2, x3, x5, x7, t0⟩) S hB
    · exact h_odds_0 X hr hlocks (hK0 := fun _ _ _ _ _ _ h => h) (hK1 := fun _ _ _ _ _ _ _ h => h) x1 x2 x3 x5 x7 S hB
    · exact h_odds_1 X hr hlocks (hK0 := fun _ _ _ _ _ _ h => h) (hK1 := fun _ _ _ _ _ _ _ h => h) x1 x2 x3 x5 x7 t0 S hB

