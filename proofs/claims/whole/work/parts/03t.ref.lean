-- canBe whose tell
def ww_canBe : List Cond := .code yX12_canBe cX12_canBe 5 (some .boolean) :: (WdM ++ wsX120)
theorem q_canBe : yX12_canBe.cls = RX12 ∧ yX12_canBe.cls ≠ "java/lang/invoke/MethodHandle" ∧ yX12_canBe.cls ≠ "java/lang/invoke/VarHandle" ∧ (parseMethodDescriptor yX12_canBe.desc).map (fun d => d.parameters.length) = some 1 := by decide +kernel
abbrev Hd_canBe : Type := (Int32 × Int32 × Int32) ⊕ (Int32 × Int32 × Int32 × Int32) ⊕ (Int32 × Int32 × Int32 × Int32)
def B_canBe (Post : Int32 → MS → Prop) (K : Hd_canBe → MS → Prop) : Hd_canBe → MS → Prop
  | (.inl (x1, x2, x3)), S => vp_in (7 : Int32) 3890 ∧ ((((S.2.2.1 0) (7 : Int32).toNatClampNeg) ≤ x3 → K (.inr (.inl (x1, x2, 0, 0))) S) ∧ (¬ ((S.2.2.1 0) (7 : Int32).toNatClampNeg) ≤ x3 → vp_in (60 + x3) 3890 ∧ ((((S.2.2.1 0) (60 + x3).toNatClampNeg) ≤ x2 → ∀ v1 : Int32, v1 = x3 + 1 → K (.inl (x1, x2, v1)) S) ∧ (¬ ((S.2.2.1 0) (60 + x3).toNatClampNeg) ≤ x2 → vp_in (60 + x3) 3890 ∧ ∀ v2 : Int32, v2 = (S.2.2.1 0) (60 + x3).toNatClampNeg → ∀ v3 : Int32, v3 = x3 + 1 → K (.inl (x1, v2, v3)) S))))
  | (.inr (.inl (x1, x2, x3, x4))), S => vp_in (0 : Int32) 3890 ∧ ((((S.2.2.1 0) (0 : Int32).toNatClampNeg) ≤ x4 → ((x2 ≤ x3 → K (.inr (.inr (x1, x2, x3, 0))) S) ∧ (¬ x2 ≤ x3 → Post 0 S))) ∧ (¬ ((S.2.2.1 0) (0 : Int32).toNatClampNeg) ≤ x4 → VC_has (fun r4 => ((r4 = 0 → ∀ v5 : Int32, v5 = x3 + 0 → ∀ v6 : Int32, v6 = x4 + 1 → K (.inr (.inl (x1, x2, v5, v6))) S) ∧ (¬ r4 = 0 → VC_get (fun r8 S7 => ∀ v9 : Int32, v9 = x3 + r8 → ∀ v10 : Int32, v10 = x4 + 1 → K (.inr (.inl (x1, x2, v9, v10))) S7) x4 0 S))) x1 x4))
  | (.inr (.inr (x1, x2, x3, x4))), S => vp_in (0 : Int32) 3890 ∧ ((((S.2.2.1 0) (0 : Int32).toNatClampNeg) ≤ x4 → Post 1 S) ∧ (¬ ((S.2.2.1 0) (0 : Int32).toNatClampNeg) ≤ x4 → VC_bits (fun r11 => ((r11 ≤ 1 → Post 1 S) ∧ (¬ r11 ≤ 1 → VC_has (fun r12 => ((r12 = 0 → ∀ v13 : Int32, v13 = x4 + 1 → K (.inr (.inr (x1, x2, x3, v13))) S) ∧ (¬ r12 = 0 → VC_get (fun r15 S14 => (((x3 - r15) < x2 → ∀ v16 : Int32, v16 = x4 + 1 → K (.inr (.inr (x1, x2, x3, v16))) S14) ∧ (¬ (x3 - r15) < x2 → Post 0 S14))) x4 0 S))) x1 x4))) x1))
def VC_canBe (Post : Int32 → MS → Prop) (a0 : Int32) (S : MS) : Prop := ∀ K : Hd_canBe → MS → Prop, (∀ h S, B_canBe Post K h S → K h S) → K (.inl (a0, 0, 0)) S
set_option maxHeartbeats 4000000 in
set_option maxRecDepth 100000 in
theorem h_canBe_0 {p : Program} {l : Launch} {e : Env} {s : State} {m : MethodId} {below : List Frame} {meth : Method} {c : Code} {dC : Nat → ClassId} {dI : Nat → Nat → Nat} {q : Nat → Nat} {cI cJ cZ : ClassId} {A : Nat → Prop} {args : Array Value} {Post : Int32 → MS → Prop} {K : Hd_canBe → MS → Prop} (X : XM p s m args c cX12_canBe 5 ww_canBe dC dI cI cJ cZ A) (hr : meth.sig.returnType = (some .boolean)) (hlocks : meth.locks = false) (hK0 : ∀ (x1 : Int32) (x2 : Int32) (x3 : Int32) (S : MS), K (.inl (x1, x2, x3)) S → ∀ (H : Heap) (locs : List Loc), va_P (dC, dI) vwCl (wM q cI cJ cZ S) H → va_D A (wM q cI cJ cZ S) → va_S A s.heap H locs → ∀ ls : Array Slot, lv_has ls 5 [(0, .ref (q 0)), (1, .int x1), (2, .int x2), (3, .int x3)] → W p l e (headSpec ww_canBe ({ frames := 1, cells := 0, slots := 0, locals := 22 } : Room)).room s m args below meth c H locs 0 0 (MQ below (va_Qi Post (atM dC dI q cI cJ cZ A) A) args s 0 0 A) (F0 m 4 ls [])) (hK1 : ∀ (x1 : Int32) (x2 : Int32) (x3 : Int32) (x4 : Int32) (S : MS), K (.inr (.inl (x1, x2, x3, x4))) S → ∀ (H : Heap) (locs : List Loc), va_P (dC, dI) vwCl (wM q cI cJ cZ S) H → va_D A (wM q cI cJ cZ S) → va_S A s.heap H locs → ∀ ls : Array Slot, lv_has ls 5 [(0, .ref (q 0)), (1, .int x1), (2, .int x2), (3, .int x3), (4, .int x4)] → W p l e (headSpec ww_canBe ({ frames := 1, cells := 0, slots := 0, locals := 22 } : Room)).room s m args below meth c H locs 0 0 (MQ below (va_Qi Post (atM dC dI q cI cJ cZ A) A) args s 0 0 A) (F0 m 49 ls [])) (hK2 : ∀ (x1 : Int32) (x2 : Int32) (x3 : Int32) (x4 : Int32) (S : MS), K (.inr (.inr (x1, x2, x3, x4))) S → ∀ (H : Heap) (locs : List Loc), va_P (dC, dI) vwCl (wM q cI cJ cZ S) H → va_D A (wM q cI cJ cZ S) → va_S A s.heap H locs → ∀ ls : Array Slot, lv_has ls 5 [(0, .ref (q 0)), (1, .int x1), (2, .int x2), (3, .int x3), (4, .int x4)] → W p l e (headSpec ww_canBe ({ frames := 1, cells := 0, slots := 0, locals := 22 } : Room)).room s m args below meth c H locs 0 0 (MQ below (va_Qi Post (atM dC dI q cI cJ cZ A) A) args s 0 0 A) (F0 m 99 ls [])) (x1 : Int32) (x2 : Int32) (x3 : Int32) (S : MS) (h : B_canBe Post K (.inl (x1, x2, x3)) S) : ∀ (H : Heap) (locs : List Loc), va_P (dC, dI) vwCl (wM q cI cJ cZ S) H → va_D A (wM q cI cJ cZ S) → va_S A s.heap H locs → ∀ ls : Array Slot, lv_has ls 5 [(0, .ref (q 0)), (1, .int x1), (2, .int x2), (3, .int x3)] → W p l e (headSpec ww_canBe ({ frames := 1, cells := 0, slots := 0, locals := 22 } : Room)).room s m args below meth c H locs 0 0 (MQ below (va_Qi Post (atM dC dI q cI cJ cZ A) A) args s 0 0 A) (F0 m 4 ls []) := by
  have hx := X.1
  have hb := X.2.1
  intro H locs hP hD hS ls hl
  have lk7 := X.2.2.2.2.1 (.fieldLink RX12 7 "BreathOnLoanModel" "a" "[I") (inW 5 rfl)
  dsimp only [B_canBe] at h
  refine lv_iload_n hx hb (dk DX12_canBe 4 rfl) rfl (lv_at hl 3 rfl) ?_
  refine lv_aload_n hx hb (dk DX12_canBe 5 rfl) rfl (lv_at hl 0 rfl) ?_
  refine gM X hP 0 (by decide) rfl lk7 (dk DX12_canBe 6 rfl) ?_
  refine lv_bipush (v := 7) hx hb (dk DX12_canBe 7 rfl) (by decide) ?_
  obtain ⟨hin, h⟩ := h
  refine ldM X hP 1 rfl hin (dk DX12_canBe 8 rfl) ?_
  refine lv_icmp_ge (tgt := 44) hx hb (dk DX12_canBe 9 rfl) (by decide) (fun hc => ?_) (fun hc => ?_)
  · have h := h.1 hc
    refine lv_iconst (v := 0) hx hb (dk DX12_canBe 27 rfl) (by decide) ?_
    refine lv_istore_n (lv' := [(3, .int 0), (0, .ref (q 0)), (1, .int x1), (2, .int x2)]) hx hb (dk DX12_canBe 28 rfl) rfl hl (by decide) rfl (fun ls hl => ?_)
    refine lv_iconst (v := 0) hx hb (dk DX12_canBe 29 rfl) (by decide) ?_
    refine lv_istore (lv' := [(4, .int 0), (3, .int 0), (0, .ref (q 0)), (1, .int x1), (2, .int x2)]) hx hb (dk DX12_canBe 30 rfl) hl (by decide) rfl (fun ls hl => ?_)
    exact hK1 x1 x2 0 0 S h _ _ hP hD hS ls (lv_sub hl [2, 3, 4, 1, 0] rfl)
  · have h := h.2 hc
    refine lv_aload_n hx hb (dk DX12_canBe 10 rfl) rfl (lv_at hl 0 rfl) ?_
    refine gM X hP 0 (by decide) rfl lk7 (dk DX12_canBe 11 rfl) ?_
    refine lv_bipush (v := 60) hx hb (dk DX12_canBe 12 rfl) (by decide) ?_
    refine lv_iload_n hx hb (dk DX12_canBe 13 rfl) rfl (lv_at hl 3 rfl) ?_
    refine lv_iadd hx hb (dk DX12_canBe 14 rfl) ?_
    obtain ⟨hin, h⟩ := h
    refine ldM X hP 1 rfl hin (dk DX12_canBe 15 rfl) ?_
    refine lv_iload_n hx hb (dk DX12_canBe 16 rfl) rfl (lv_at hl 2 rfl) ?_
    refine lv_icmp_le (tgt := 38) hx hb (dk DX12_canBe 17 rfl) (by decide) (fun hc => ?_) (fun hc => ?_)
    · have h := h.1 hc
      obtain ⟨v1, ev1⟩ : ∃ y : Int32, y = x3 + 1 := ⟨_, rfl⟩
      have h := h v1 ev1
      refine lv_iinc (v := v1) (lv' := [(3, .int v1), (0, .ref (q 0)), (1, .int x1), (2, .int x2)]) hx hb (dk DX12_canBe 25 rfl) hl (k := 3) rfl (by rw [ev1]; rfl) (by decide) rfl (fun ls hl => ?_)
      refine lv_goto (tgt := 4) hx hb (dk DX12_canBe 26 rfl) (by decide) ?_
      exact hK0 x1 x2 v1 S h _ _ hP hD hS ls (lv_sub hl [1, 2, 3, 0] rfl)
    · have h := h.2 hc
      refine lv_aload_n hx hb (dk DX12_canBe 18 rfl) rfl (lv_at hl 0 rfl) ?_
      refine gM X hP 0 (by decide) rfl lk7 (dk DX12_canBe 19 rfl) ?_
      refine lv_bipush (v := 60) hx hb (dk DX12_canBe 20 rfl) (by decide) ?_
      refine lv_iload_n hx hb (dk DX12_canBe 21 rfl) rfl (lv_at hl 3 rfl) ?_
      refine lv_iadd hx hb (dk DX12_canBe 22 rfl) ?_
      obtain ⟨hin, h⟩ := h
      refine ldM X hP 1 rfl hin (dk DX12_canBe 23 rfl) ?_
      refine lv_topi (fun v2 ev2 => ?_)
      have h := h v2 ev2
      refine lv_istore_n (lv' := [(2, .int v2), (0, .ref (q 0)), (1, .int x1), (3, .int x3)]) hx hb (dk DX12_canBe 24 rfl) rfl hl (by decide) rfl (fun ls hl => ?_)
      obtain ⟨v3, ev3⟩ : ∃ y : Int32, y = x3 + 1 := ⟨_, rfl⟩
      have h := h v3 ev3
      refine lv_iinc (v := v3) (lv' := [(3, .int v3), (2, .int v2), (0, .ref (q 0)), (1, .int x1)]) hx hb (dk DX12_canBe 25 rfl) hl (k := 3) rfl (by rw [ev3]; rfl) (by decide) rfl (fun ls hl => ?_)
      refine lv_goto (tgt := 4) hx hb (dk DX12_canBe 26 rfl) (by decide) ?_
      exact hK0 x1 v2 v3 S h _ _ hP hD hS ls (lv_sub hl [2, 3, 1, 0] rfl)
set_option maxHeartbeats 4000000 in
set_option maxRecDepth 100000 in
theorem h_canBe_1 {p : Program} {l : Launch} {e : Env} {s : State} {m : MethodId} {below : List Frame} {meth : Method} {c : Code} {dC : Nat → ClassId} {dI : Nat → Nat → Nat} {q : Nat → Nat} {cI cJ cZ : ClassId} {A : Nat → Prop} {args : Array Value} {Post : Int32 → MS → Prop} {K : Hd_canBe → MS → Prop} (X : XM p s m args c cX12_canBe 5 ww_canBe dC dI cI cJ cZ A) (hr : meth.sig.returnType = (some .boolean)) (hlocks : meth.locks = false) (hK0 : ∀ (x1 : Int32) (x2 : Int32) (x3 : Int32) (S : MS), K (.inl (x1, x2, x3)) S → ∀ (H : Heap) (locs : List Loc), va_P (dC, dI) vwCl (wM q cI cJ cZ S) H → va_D A (wM q cI cJ cZ S) → va_S A s.heap H locs → ∀ ls : Array Slot, lv_has ls 5 [(0, .ref (q 0)), (1, .int x1), (2, .int x2), (3, .int x3)] → W p l e (headSpec ww_canBe ({ frames := 1, cells := 0, slots := 0, locals := 22 } : Room)).room s m args below meth c H locs 0 0 (MQ below (va_Qi Post (atM dC dI q cI cJ cZ A) A) args s 0 0 A) (F0 m 4 ls [])) (hK1 : ∀ (x1 : Int32) (x2 : Int32) (x3 : Int32) (x4 : Int32) (S : MS), K (.inr (.inl (x1, x2, x3, x4))) S → ∀ (H : Heap) (locs : List Loc), va_P (dC, dI) vwCl (wM q cI cJ cZ S) H → va_D A (wM q cI cJ cZ S) → va_S A s.heap H locs → ∀ ls : Array Slot, lv_has ls 5 [(0, .ref (q 0)), (1, .int x1), (2, .int x2), (3, .int x3), (4, .int x4)] → W p l e (headSpec ww_canBe ({ frames := 1, cells := 0, slots := 0, locals := 22 } : Room)).room s m args below meth c H locs 0 0 (MQ below (va_Qi Post (atM dC dI q cI cJ cZ A) A) args s 0 0 A) (F0 m 49 ls [])) (hK2 : ∀ (x1 : Int32) (x2 : Int32) (x3 : Int32) (x4 : Int32) (S : MS), K (.inr (.inr (x1, x2, x3, x4))) S → ∀ (H : Heap) (locs : List Loc), va_P (dC, dI) vwCl (wM q cI cJ cZ S) H → va_D A (wM q cI cJ cZ S) → va_S A s.heap H locs → ∀ ls : Array Slot, lv_has ls 5 [(0, .ref (q 0)), (1, .int x1), (2, .int x2), (3, .int x3), (4, .int x4)] → W p l e (headSpec ww_canBe ({ frames := 1, cells := 0, slots := 0, locals := 22 } : Room)).room s m args below meth c H locs 0 0 (MQ below (va_Qi Post (atM dC dI q cI cJ cZ A) A) args s 0 0 A) (F0 m 99 ls [])) (x1 : Int32) (x2 : Int32) (x3 : Int32) (x4 : Int32) (S : MS) (h : B_canBe Post K (.inr (.inl (x1, x2, x3, x4))) S) : ∀ (H : Heap) (locs : List Loc), va_P (dC, dI) vwCl (wM q cI cJ cZ S) H → va_D A (wM q cI cJ cZ S) → va_S A s.heap H locs → ∀ ls : Array Slot, lv_has ls 5 [(0, .ref (q 0)), (1, .int x1), (2, .int x2), (3, .int x3), (4, .int x4)] → W p l e (headSpec ww_canBe ({ frames := 1, cells := 0, slots := 0, locals := 22 } : Room)).room s m args below meth c H locs 0 0 (MQ below (va_Qi Post (atM dC dI q cI cJ cZ A) A) args s 0 0 A) (F0 m 49 ls []) := by
  have hx := X.1
  have hb := X.2.1
  intro H locs hP hD hS ls hl
  have lk7 := X.2.2.2.2.1 (.fieldLink RX12 7 "BreathOnLoanModel" "a" "[I") (inW 5 rfl)
  dsimp only [B_canBe] at h
  refine lv_iload hx hb (dk DX12_canBe 31 rfl) (lv_at hl 4 rfl) ?_
  refine lv_aload_n hx hb (dk DX12_canBe 32 rfl) rfl (lv_at hl 0 rfl) ?_
  refine gM X hP 0 (by decide) rfl lk7 (dk DX12_canBe 33 rfl) ?_
  refine lv_iconst (v := 0) hx hb (dk DX12_canBe 34 rfl) (by decide) ?_
  obtain ⟨hin, h⟩ := h
  refine ldM X hP 1 rfl hin (dk DX12_canBe 35 rfl) ?_
  refine lv_icmp_ge (tgt := 89) hx hb (dk DX12_canBe 36 rfl) (by decide) (fun hc => ?_) (fun hc => ?_)
  · have h := h.1 hc
    refine lv_iload_n hx hb (dk DX12_canBe 52 rfl) rfl (lv_at hl 3 rfl) ?_
    refine lv_iload_n hx hb (dk DX12_canBe 53 rfl) rfl (lv_at hl 2 rfl) ?_
    refine lv_icmp_ge (tgt := 96) hx hb (dk DX12_canBe 54 rfl) (by decide) (fun hc => ?_) (fun hc => ?_)
    · have h := h.1 hc
      refine lv_iconst (v := 0) hx hb (dk DX12_canBe 57 rfl) (by decide) ?_
      refine lv_istore (lv' := [(4, .int 0), (0, .ref (q 0)), (1, .int x1), (2, .int x2), (3, .int x3)]) hx hb (dk DX12_canBe 58 rfl) hl (by decide) rfl (fun ls hl => ?_)
      exact hK2 x1 x2 x3 0 S h _ _ hP hD hS ls (lv_sub hl [1, 2, 3, 4, 0] rfl)
    · have h := h.2 hc
      refine lv_iconst (v := 0) hx hb (dk DX12_canBe 55 rfl) (by decide) ?_
      exact W.zret (v := 0) hx hb hr (by decide) (fun t ht hW => ⟨⟨_, _, rfl, h, by rw [ht]; exact hP, va_K.moved hW.alike X.2.2.2.2.2.2.1, hD⟩, hS.F ht⟩) hS.2.2 (dk DX12_canBe 56 rfl)
  · have h := h.2 hc
    refine lv_iload_n hx hb (dk DX12_canBe 37 rfl) rfl (lv_at hl 3 rfl) ?_
    refine lv_iload_n hx hb (dk DX12_canBe 38 rfl) rfl (lv_at hl 1 rfl) ?_
    refine lv_iload hx hb (dk DX12_canBe 39 rfl) (lv_at hl 4 rfl) ?_
    refine cSi (As := [.int x1, .int x4]) (rest := [.int x3]) ⟨X.1, X.2.1, X.2.2.1, X.2.2.2.1, X.2.2.2.2.1⟩ (m_has (l := l) x1 x4 h) (va_cwS 2 X.2.2.2.2.1 (gwS 244 245 24 28 rfl rfl rfl rfl) rfl rfl rfl q_has ⟨Nat.le_of_ble_eq_true rfl, Nat.le_of_ble_eq_true rfl⟩) rfl hl.1 rfl (Nat.le_of_ble_eq_true rfl) (dk DX12_canBe 40 rfl) (fun r4 h => ?_)
    refine lv_if_eq (tgt := 80) hx hb (dk DX12_canBe 41 rfl) (by decide) (fun hc => ?_) (fun hc => ?_)
    · have h := h.1 hc
      refine lv_iconst (v := 0) hx hb (dk DX12_canBe 47 rfl) (by decide) ?_
      refine lv_iadd hx hb (dk DX12_canBe 48 rfl) ?_
      refine lv_topi (fun v5 ev5 => ?_)
      have h := h v5 ev5
      refine lv_istore_n (lv' := [(3, .int v5), (0, .ref (q 0)), (1, .int x1), (2, .int x2), (4, .int x4)]) hx hb (dk DX12_canBe 49 rfl) rfl hl (by decide) rfl (fun ls hl => ?_)
      obtain ⟨v6, ev6⟩ : ∃ y : Int32, y = x4 + 1 := ⟨_, rfl⟩
      have h := h v6 ev6
      refine lv_iinc (v := v6) (lv' := [(4, .int v6), (3, .int v5), (0, .ref (q 0)), (1, .int x1), (2, .int x2)]) hx hb (dk DX12_canBe 50 rfl) hl (k := 4) rfl (by rw [ev6]; rfl) (by decide) rfl (fun ls hl => ?_)
      refine lv_goto (tgt := 49) hx hb (dk DX12_canBe 51 rfl) (by decide) ?_
      exact hK1 x1 x2 v5 v6 S h _ _ hP hD hS ls (lv_sub hl [2, 3, 4, 1, 0] rfl)
    · have h := h.2 hc
      refine lv_aload_n hx hb (dk DX12_canBe 42 rfl) rfl (lv_at hl 0 rfl) ?_
      refine lv_iload hx hb (dk DX12_canBe 43 rfl) (lv_at hl 4 rfl) ?_
      refine lv_iconst (v := 0) hx hb (dk DX12_canBe 44 rfl) (by decide) ?_
      refine cMi (As := [.int x4, .int 0]) (rest := [.int x3]) X (m_get (l := l) (dC := dC) (dI := dI) (q := q) (cI := cI) (cJ := cJ) (cZ := cZ) (sz := _) x4 0 S h) (cwV 2 X.2.2.2.2.1 (gwV 47 48 49 24 36 rfl rfl rfl rfl rfl) rfl rfl rfl q_get ⟨Nat.le_of_ble_eq_true rfl, Nat.le_of_ble_eq_true rfl⟩) hP hD hS rfl hl.1 rfl (Nat.le_of_ble_eq_true rfl) (dk DX12_canBe 45 rfl) (fun r8 S7 H locs h hP hD hS => ?_)
      refine lv_goto (tgt := 81) hx hb (dk DX12_canBe 46 rfl) (by decide) ?_
      refine lv_iadd hx hb (dk DX12_canBe 48 rfl) ?_
      refine lv_topi (fun v9 ev9 => ?_)
      have h := h v9 ev9
      refine lv_istore_n (lv' := [(3, .int v9), (0, .ref (q 0)), (1, .int x1), (2, .int x2), (4, .int x4)]) hx hb (dk DX12_canBe 49 rfl) rfl hl (by decide) rfl (fun ls hl => ?_)
      obtain ⟨v10, ev10⟩ : ∃ y : Int32, y = x4 + 1 := ⟨_, rfl⟩
      have h := h v10 ev10
      refine lv_iinc (v := v10) (lv' := [(4, .int v10), (3, .int v9), (0, .ref (q 0)), (1, .int x1), (2, .int x2)]) hx hb (dk DX12_canBe 50 rfl) hl (k := 4) rfl (by rw [ev10]; rfl) (by decide) rfl (fun ls hl => ?_)
      refine lv_goto (tgt := 49) hx hb (dk DX12_canBe 51 rfl) (by decide) ?_
      exact hK1 x1 x2 v9 v10 S7 h _ _ hP hD hS ls (lv_sub hl [2, 3, 4, 1, 0] rfl)
set_option maxHeartbeats 4000000 in
set_option maxRecDepth 100000 in
theorem h_canBe_2 {p : Program} {l : Launch} {e : Env} {s : State} {m : MethodId} {below : List Frame} {meth : Method} {c : Code} {dC : Nat → ClassId} {dI : Nat → Nat → Nat} {q : Nat → Nat} {cI cJ cZ : ClassId} {A : Nat → Prop} {args : Array Value} {Post : Int32 → MS → Prop} {K : Hd_canBe → MS → Prop} (X : XM p s m args c cX12_canBe 5 ww_canBe dC dI cI cJ cZ A) (hr : meth.sig.returnType = (some .boolean)) (hlocks : meth.locks = false) (hK0 : ∀ (x1 : Int32) (x2 : Int32) (x3 : Int32) (S : MS), K (.inl (x1, x2, x3)) S → ∀ (H : Heap) (locs : List Loc), va_P (dC, dI) vwCl (wM q cI cJ cZ S) H → va_D A (wM q cI cJ cZ S) → va_S A s.heap H locs → ∀ ls : Array Slot, lv_has ls 5 [(0, .ref (q 0)), (1, .int x1), (2, .int x2), (3, .int x3)] → W p l e (headSpec ww_canBe ({ frames := 1, cells := 0, slots := 0, locals := 22 } : Room)).room s m args below meth c H locs 0 0 (MQ below (va_Qi Post (atM dC dI q cI cJ cZ A) A) args s 0 0 A) (F0 m 4 ls [])) (hK1 : ∀ (x1 : Int32) (x2 : Int32) (x3 : Int32) (x4 : Int32) (S : MS), K (.inr (.inl (x1, x2, x3, x4))) S → ∀ (H : Heap) (locs : List Loc), va_P (dC, dI) vwCl (wM q cI cJ cZ S) H → va_D A (wM q cI cJ cZ S) → va_S A s.heap H locs → ∀ ls : Array Slot, lv_has ls 5 [(0, .ref (q 0)), (1, .int x1), (2, .int x2), (3, .int x3), (4, .int x4)] → W p l e (headSpec ww_canBe ({ frames := 1, cells := 0, slots := 0, locals := 22 } : Room)).room s m args below meth c H locs 0 0 (MQ below (va_Qi Post (atM dC dI q cI cJ cZ A) A) args s 0 0 A) (F0 m 49 ls [])) (hK2 : ∀ (x1 : Int32) (x2 : Int32) (x3 : Int32) (x4 : Int32) (S : MS), K (.inr (.inr (x1, x2, x3, x4))) S → ∀ (H : Heap) (locs : List Loc), va_P (dC, dI) vwCl (wM q cI cJ cZ S) H → va_D A (wM q cI cJ cZ S) → va_S A s.heap H locs → ∀ ls : Array Slot, lv_has ls 5 [(0, .ref (q 0)), (1, .int x1), (2, .int x2), (3, .int x3), (4, .int x4)] → W p l e (headSpec ww_canBe ({ frames := 1, cells := 0, slots := 0, locals := 22 } : Room)).room s m args below meth c H locs 0 0 (MQ below (va_Qi Post (atM dC dI q cI cJ cZ A) A) args s 0 0 A) (F0 m 99 ls [])) (x1 : Int32) (x2 : Int32) (x3 : Int32) (x4 : Int32) (S : MS) (h : B_canBe Post K (.inr (.inr (x1, x2, x3, x4))) S) : ∀ (H : Heap) (locs : List Loc), va_P (dC, dI) vwCl (wM q cI cJ cZ S) H → va_D A (wM q cI cJ cZ S) → va_S A s.heap H locs → ∀ ls : Array Slot, lv_has ls 5 [(0, .ref (q 0)), (1, .int x1), (2, .int x2), (3, .int x3), (4, .int x4)] → W p l e (headSpec ww_canBe ({ frames := 1, cells := 0, slots := 0, locals := 22 } : Room)).room s m args below meth c H locs 0 0 (MQ below (va_Qi Post (atM dC dI q cI cJ cZ A) A) args s 0 0 A) (F0 m 99 ls []) := by
  have hx := X.1
  have hb := X.2.1
  intro H locs hP hD hS ls hl
  have lk7 := X.2.2.2.2.1 (.fieldLink RX12 7 "BreathOnLoanModel" "a" "[I") (inW 5 rfl)
  dsimp only [B_canBe] at h
  refine lv_iload hx hb (dk DX12_canBe 59 rfl) (lv_at hl 4 rfl) ?_
  refine lv_aload_n hx hb (dk DX12_canBe 60 rfl) rfl (lv_at hl 0 rfl) ?_
  refine gM X hP 0 (by decide) rfl lk7 (dk DX12_canBe 61 rfl) ?_
  refine lv_iconst (v := 0) hx hb (dk DX12_canBe 62 rfl) (by decide) ?_
  obtain ⟨hin, h⟩ := h
  refine ldM X hP 1 rfl hin (dk DX12_canBe 63 rfl) ?_
  refine lv_icmp_ge (tgt := 148) hx hb (dk DX12_canBe 64 rfl) (by decide) (fun hc => ?_) (fun hc => ?_)
  · have h := h.1 hc
    refine lv_iconst (v := 1) hx hb (dk DX12_canBe 85 rfl) (by decide) ?_
    exact W.zret (v := 1) hx hb hr (by decide) (fun t ht hW => ⟨⟨_, _, rfl, h, by rw [ht]; exact hP, va_K.moved hW.alike X.2.2.2.2.2.2.1, hD⟩, hS.F ht⟩) hS.2.2 (dk DX12_canBe 86 rfl)
  · have h := h.2 hc
    refine lv_iload_n hx hb (dk DX12_canBe 65 rfl) rfl (lv_at hl 1 rfl) ?_
    refine cSi (As := [.int x1]) (rest := []) ⟨X.1, X.2.1, X.2.2.1, X.2.2.2.1, X.2.2.2.2.1⟩ (m_bits (l := l) x1 h) (va_cwS 1 X.2.2.2.2.1 (gwS 327 328 24 29 rfl rfl rfl rfl) rfl rfl rfl q_bits ⟨Nat.le_of_ble_eq_true rfl, Nat.le_of_ble_eq_true rfl⟩) rfl hl.1 rfl (Nat.le_of_ble_eq_true rfl) (dk DX12_canBe 66 rfl) (fun r11 h => ?_)
    refine lv_iconst (v := 1) hx hb (dk DX12_canBe 67 rfl) (by decide) ?_
    refine lv_icmp_le (tgt := 148) hx hb (dk DX12_canBe 68 rfl) (by decide) (fun hc => ?_) (fun hc => ?_)
    · have h := h.1 hc
      refine lv_iconst (v := 1) hx hb (dk DX12_canBe 85 rfl) (by decide) ?_
      exact W.zret (v := 1) hx hb hr (by decide) (fun t ht hW => ⟨⟨_, _, rfl, h, by rw [ht]; exact hP, va_K.moved hW.alike X.2.2.2.2.2.2.1, hD⟩, hS.F ht⟩) hS.2.2 (dk DX12_canBe 86 rfl)
    · have h := h.2 hc
      refine lv_iload_n hx hb (dk DX12_canBe 69 rfl) rfl (lv_at hl 1 rfl) ?_
      refine lv_iload hx hb (dk DX12_canBe 70 rfl) (lv_at hl 4 rfl) ?_
      refine cSi (As := [.int x1, .int x4]) (rest := []) ⟨X.1, X.2.1, X.2.2.1, X.2.2.2.1, X.2.2.2.2.1⟩ (m_has (l := l) x1 x4 h) (va_cwS 2 X.2.2.2.2.1 (gwS 244 245 24 28 rfl rfl rfl rfl) rfl rfl rfl q_has ⟨Nat.le_of_ble_eq_true rfl, Nat.le_of_ble_eq_true rfl⟩) rfl hl.1 rfl (Nat.le_of_ble_eq_true rfl) (dk DX12_canBe 71 rfl) (fun r12 h => ?_)
      refine lv_if_eq (tgt := 142) hx hb (dk DX12_canBe 72 rfl) (by decide) (fun hc => ?_) (fun hc => ?_)
      · have h := h.1 hc
        obtain ⟨v13, ev13⟩ : ∃ y : Int32, y = x4 + 1 := ⟨_, rfl⟩
        have h := h v13 ev13
        refine lv_iinc (v := v13) (lv' := [(4, .int v13), (0, .ref (q 0)), (1, .int x1), (2, .int x2), (3, .int x3)]) hx hb (dk DX12_canBe 83 rfl) hl (k := 4) rfl (by rw [ev13]; rfl) (by decide) rfl (fun ls hl => ?_)
        refine lv_goto (tgt := 99) hx hb (dk DX12_canBe 84 rfl) (by decide) ?_
        exact hK2 x1 x2 x3 v13 S h _ _ hP hD hS ls (lv_sub hl [1, 2, 3, 4, 0] rfl)
      · have h := h.2 hc
        refine lv_iload_n hx hb (dk DX12_canBe 73 rfl) rfl (lv_at hl 3 rfl) ?_
        refine lv_aload_n hx hb (dk DX12_canBe 74 rfl) rfl (lv_at hl 0 rfl) ?_
        refine lv_iload hx hb (dk DX12_canBe 75 rfl) (lv_at hl 4 rfl) ?_
        refine lv_iconst (v := 0) hx hb (dk DX12_canBe 76 rfl) (by decide) ?_
        refine cMi (As := [.int x4, .int 0]) (rest := [.int x3]) X (m_get (l := l) (dC := dC) (dI := dI) (q := q) (cI := cI) (cJ := cJ) (cZ := cZ) (sz := _) x4 0 S h) (cwV 2 X.2.2.2.2.1 (gwV 47 48 49 24 36 rfl rfl rfl rfl rfl) rfl rfl rfl q_get ⟨Nat.le_of_ble_eq_true rfl, Nat.le_of_ble_eq_true rfl⟩) hP hD hS rfl hl.1 rfl (Nat.le_of_ble_eq_true rfl) (dk DX12_canBe 77 rfl) (fun r15 S14 H locs h hP hD hS => ?_)
        refine lv_isub hx hb (dk DX12_canBe 78 rfl) ?_
        refine lv_iload_n hx hb (dk DX12_canBe 79 rfl) rfl (lv_at hl 2 rfl) ?_
        refine lv_icmp_lt (tgt := 142) hx hb (dk DX12_canBe 80 rfl) (by decide) (fun hc => ?_) (fun hc => ?_)
        · have h := h.1 hc
          obtain ⟨v16, ev16⟩ : ∃ y : Int32, y = x4 + 1 := ⟨_, rfl⟩
          have h := h v16 ev16
          refine lv_iinc (v := v16) (lv' := [(4, .int v16), (0, .ref (q 0)), (1, .int x1), (2, .int x2), (3, .int x3)]) hx hb (dk DX12_canBe 83 rfl) hl (k := 4) rfl (by rw [ev16]; rfl) (by decide) rfl (fun ls hl => ?_)
          refine lv_goto (tgt := 99) hx hb (dk DX12_canBe 84 rfl) (by decide) ?_
          exact hK2 x1 x2 x3 v16 S14 h _ _ hP hD hS ls (lv_sub hl [1, 2, 3, 4, 0] rfl)
        · have h := h.2 hc
          refine lv_iconst (v := 0) hx hb (dk DX12_canBe 81 rfl) (by decide) ?_
          exact W.zret (v := 0) hx hb hr (by decide) (fun t ht hW => ⟨⟨_, _, rfl, h, by rw [ht]; exact hP, va_K.moved hW.alike X.2.2.2.2.2.2.1, hD⟩, hS.F ht⟩) hS.2.2 (dk DX12_canBe 82 rfl)
set_option maxHeartbeats 4000000 in
set_option maxRecDepth 100000 in
theorem m_canBe {l : Launch} {dC : Nat → ClassId} {dI : Nat → Nat → Nat} {q : Nat → Nat} {cI cJ cZ : ClassId} {sz : Nat} {Post : Int32 → MS → Prop} (a0 : Int32) (S : MS) (h : VC_canBe Post a0 S) : Met l yX12_canBe ww_canBe ({ frames := 1, cells := 0, slots := 0, locals := 22 } : Room) (va_Pc [.ref (q 0), .int a0] (preM dC dI q cI cJ cZ S sz)) (va_Qi Post (atM dC dI q cI cJ cZ (va_A (wM q cI cJ cZ S) sz)) (va_A (wM q cI cJ cZ S) sz)) 0 0 (va_A (wM q cI cJ cZ S) sz) := by
  refine oM (cc := cX12_canBe) (maxL := 5) (ret := (some .boolean)) (Qc := fun A => va_Qi Post (atM dC dI q cI cJ cZ A) A) (by decide) rfl (fun w h => List.mem_cons_of_mem _ (List.mem_append_right _ h)) rfl (Nat.le_of_ble_eq_true rfl) (fun p e s m below meth c A ls X hr hlocks hP hD hS hl => ?_)
  have hx := X.1
  have hb := X.2.1
  have hl : lv_has ls 5 [(0, .ref (q 0)), (1, .int a0)] := hl
  have lk7 := X.2.2.2.2.1 (.fieldLink RX12 7 "BreathOnLoanModel" "a" "[I") (inW 5 rfl)
  generalize hargs : ([.ref (q 0), .int a0] : List Value).toArray = args at X ⊢
  have h := h (fun hd S => match hd with | (.inl (x1, x2, x3)) => ∀ (H : Heap) (locs : List Loc), va_P (dC, dI) vwCl (wM q cI cJ cZ S) H → va_D A (wM q cI cJ cZ S) → va_S A s.heap H locs → ∀ ls : Array Slot, lv_has ls 5 [(0, .ref (q 0)), (1, .int x1), (2, .int x2), (3, .int x3)] → W p l e (headSpec ww_canBe ({ frames := 1, cells := 0, slots := 0, locals := 22 } : Room)).room s m args below meth c H locs 0 0 (MQ below (va_Qi Post (atM dC dI q cI cJ cZ A) A) args s 0 0 A) (F0 m 4 ls []) | (.inr (.inl (x1, x2, x3, x4))) => ∀ (H : Heap) (locs : List Loc), va_P (dC, dI) vwCl (wM q cI cJ cZ S) H → va_D A (wM q cI cJ cZ S) → va_S A s.heap H locs → ∀ ls : Array Slot, lv_has ls 5 [(0, .ref (q 0)), (1, .int x1), (2, .int x2), (3, .int x3), (4, .int x4)] → W p l e (headSpec ww_canBe ({ frames := 1, cells := 0, slots := 0, locals := 22 } : Room)).room s m args below meth c H locs 0 0 (MQ below (va_Qi Post (atM dC dI q cI cJ cZ A) A) args s 0 0 A) (F0 m 49 ls []) | (.inr (.inr (x1, x2, x3, x4))) => ∀ (H : Heap) (locs : List Loc), va_P (dC, dI) vwCl (wM q cI cJ cZ S) H → va_D A (wM q cI cJ cZ S) → va_S A s.heap H locs → ∀ ls : Array Slot, lv_has ls 5 [(0, .ref (q 0)), (1, .int x1), (2, .int x2), (3, .int x3), (4, .int x4)] → W p l e (headSpec ww_canBe ({ frames := 1, cells := 0, slots := 0, locals := 22 } : Room)).room s m args below meth c H locs 0 0 (MQ below (va_Qi Post (atM dC dI q cI cJ cZ A) A) args s 0 0 A) (F0 m 99 ls [])) ?_
  · skip
    refine lv_iconst (v := 0) hx hb (dk DX12_canBe 0 rfl) (by decide) ?_
    refine lv_istore_n (lv' := [(2, .int 0), (0, .ref (q 0)), (1, .int a0)]) hx hb (dk DX12_canBe 1 rfl) rfl hl (by decide) rfl (fun ls hl => ?_)
    refine lv_iconst (v := 0) hx hb (dk DX12_canBe 2 rfl) (by decide) ?_
    refine lv_istore_n (lv' := [(3, .int 0), (2, .int 0), (0, .ref (q 0)), (1, .int a0)]) hx hb (dk DX12_canBe 3 rfl) rfl hl (by decide) rfl (fun ls hl => ?_)
    exact h _ _ hP hD hS ls (lv_sub hl [2, 3, 1, 0] rfl)
  · rintro (⟨x1, x2, x3⟩ | ⟨x1, x2, x3, x4⟩ | ⟨x1, x2, x3, x4⟩) S hB
    · exact h_canBe_0 X hr hlocks (hK0 := fun _ _ _ _ h => h) (hK1 := fun _ _ _ _ _ h => h) (hK2 := fun _ _ _ _ _ h => h) x1 x2 x3 S hB
    · exact h_canBe_1 X hr hlocks (hK0 := fun _ _ _ _ h => h) (hK1 := fun _ _ _ _ _ h => h) (hK2 := fun _ _ _ _ _ h => h) x1 x2 x3 x4 S hB
    · exact h_canBe_2 X hr hlocks (hK0 := fun _ _ _ _ h => h) (hK1 := fun _ _ _ _ _ h => h) (hK2 := fun _ _ _ _ _ h => h) x1 x2 x3 x4 S hB

def ww_whose : List Cond := .code yX12_whose cX12_whose 4 (some .int) :: (WdM ++ wsX120)
theorem q_whose : yX12_whose.cls = RX12 ∧ yX12_whose.cls ≠ "java/lang/invoke/MethodHandle" ∧ yX12_whose.cls ≠ "java/lang/invoke/VarHandle" ∧ (parseMethodDescriptor yX12_whose.desc).map (fun d => d.parameters.length) = some 1 := by decide +kernel
abbrev Hd_whose : Type := (Int32 × Int32 × Int32) ⊕ (Int32 × Int32 × Int32)
def B_whose (Post : Int32 → MS → Prop) (K : Hd_whose → MS → Prop) : Hd_whose → MS → Prop
  | (.inl (x1, x2, x3)), S => vp_in (0 : Int32) 3890 ∧ ((((1 : Int32) <<< (((S.2.2.1 0) (0 : Int32).toNatClampNeg) &&& 31)) ≤ x3 → K (.inr (x1, x2, x3)) S) ∧ (¬ ((1 : Int32) <<< (((S.2.2.1 0) (0 : Int32).toNatClampNeg) &&& 31)) ≤ x3 → vp_in (7 : Int32) 3890 ∧ ((((S.2.2.1 0) (7 : Int32).toNatClampNeg) ≤ 0 → K (.inr (x1, x2, x3)) S) ∧ (¬ ((S.2.2.1 0) (7 : Int32).toNatClampNeg) ≤ 0 → VC_bits (fun r1 => ((3 < r1 → ∀ v2 : Int32, v2 = x3 + 1 → K (.inl (x1, x2, v2)) S) ∧ (¬ 3 < r1 → VC_canBe (fun r4 S3 => ((¬ r4 = 0 → ((¬ x2 = x1 → ∀ v5 : Int32, v5 = x2 + 1 → ∀ v6 : Int32, v6 = x3 + 1 → K (.inl (x1, v5, v6)) S3) ∧ (x2 = x1 → Post x3 S3))) ∧ (r4 = 0 → ∀ v7 : Int32, v7 = x3 + 1 → K (.inl (x1, x2, v7)) S3))) x3 S))) x3))))
  | (.inr (x1, x2, x3)), S => ((¬ x1 = (-1) → Post (-1) S) ∧ (x1 = (-1) → Post x2 S))
def VC_whose (Post : Int32 → MS → Prop) (a0 : Int32) (S : MS) : Prop := ∀ K : Hd_whose → MS → Prop, (∀ h S, B_whose Post K h S → K h S) → (((-1) ≤ a0 → K (.inl (a0, 0, 1)) S) ∧ (¬ (-1) ≤ a0 → Post (-1) S))
set_option maxHeartbeats 4000000 in
set_option maxRecDepth 100000 in
theorem h_whose_0 {p : Program} {l : Launch} {e : Env} {s : State} {m : MethodId} {below : List Frame} {meth : Method} {c : Code} {dC : Nat → ClassId} {dI : Nat → Nat → Nat} {q : Nat → Nat} {cI cJ cZ : ClassId} {A : Nat → Prop} {args : Array Value} {Post : Int32 → MS → Prop} {K : Hd_whose → MS → Prop} (X : XM p s m args c cX12_whose 4 ww_whose dC dI cI cJ cZ A) (hr : meth.sig.returnType = (some .int)) (hlocks : meth.locks = false) (hK0 : ∀ (x1 : Int32) (x2 : Int32) (x3 : Int32) (S : MS), K (.inl (x1, x2, x3)) S → ∀ (H : Heap) (locs : List Loc), va_P (dC, dI) vwCl (wM q cI cJ cZ S) H → va_D A (wM q cI cJ cZ S) → va_S A s.heap H locs → ∀ ls : Array Slot, lv_has ls 4 [(0, .ref (q 0)), (1, .int x1), (2, .int x2), (3, .int x3)] → W p l e (headSpec ww_whose ({ frames := 2, cells := 0, slots := 0, locals := 46 } : Room)).room s m args below meth c H locs 0 0 (MQ below (va_Qi Post (atM dC dI q cI cJ cZ A) A) args s 0 0 A) (F0 m 11 ls [])) (hK1 : ∀ (x1 : Int32) (x2 : Int32) (x3 : Int32) (S : MS), K (.inr (x1, x2, x3)) S → ∀ (H : Heap) (locs : List Loc), va_P (dC, dI) vwCl (wM q cI cJ cZ S) H → va_D A (wM q cI cJ cZ S) → va_S A s.heap H locs → ∀ ls : Array Slot, lv_has ls 4 [(0, .ref (q 0)), (1, .int x1), (2, .int x2), (3, .int x3)] → W p l e (headSpec ww_whose ({ frames := 2, cells := 0, slots := 0, locals := 46 } : Room)).room s m args below meth c H locs 0 0 (MQ below (va_Qi Post (atM dC dI q cI cJ cZ A) A) args s 0 0 A) (F0 m 68 ls [])) (x1 : Int32) (x2 : Int32) (x3 : Int32) (S : MS) (h : B_whose Post K (.inl (x1, x2, x3)) S) : ∀ (H : Heap) (locs : List Loc), va_P (dC, dI) vwCl (wM q cI cJ cZ S) H → va_D A (wM q cI cJ cZ S) → va_S A s.heap H locs → ∀ ls : Array Slot, lv_has ls 4 [(0, .ref (q 0)), (1, .int x1), (2, .int x2), (3, .int x3)] → W p l e (headSpec ww_whose ({ frames := 2, cells := 0, slots := 0, locals := 46 } : Room)).room s m args below meth c H locs 0 0 (MQ below (va_Qi Post (atM dC dI q cI cJ cZ A) A) args s 0 0 A) (F0 m 11 ls []) := by
  have hx := X.1
  have hb := X.2.1
  intro H locs hP hD hS ls hl
  have lk7 := X.2.2.2.2.1 (.fieldLink RX12 7 "BreathOnLoanModel" "a" "[I") (inW 5 rfl)
  dsimp only [B_whose] at h
  refine lv_iload_n hx hb (dk DX12_whose 9 rfl) rfl (lv_at hl 3 rfl) ?_
  refine lv_iconst (v := 1) hx hb (dk DX12_whose 10 rfl) (by decide) ?_
  refine lv_aload_n hx hb (dk DX12_whose 11 rfl) rfl (lv_at hl 0 rfl) ?_
  refine gM X hP 0 (by decide) rfl lk7 (dk DX12_whose 12 rfl) ?_
  refine lv_iconst (v := 0) hx hb (dk DX12_whose 13 rfl) (by decide) ?_
  obtain ⟨hin, h⟩ := h
  refine ldM X hP 1 rfl hin (dk DX12_whose 14 rfl) ?_
  refine lv_ishl hx hb (dk DX12_whose 15 rfl) ?_
  refine lv_icmp_ge (tgt := 68) hx hb (dk DX12_whose 16 rfl) (by decide) (fun hc => ?_) (fun hc => ?_)
  · have h := h.1 hc
    exact hK1 x1 x2 x3 S h _ _ hP hD hS ls (lv_sub hl [0, 1, 2, 3] rfl)
  · have h := h.2 hc
    refine lv_aload_n hx hb (dk DX12_whose 17 rfl) rfl (lv_at hl 0 rfl) ?_
    refine gM X hP 0 (by decide) rfl lk7 (dk DX12_whose 18 rfl) ?_
    refine lv_bipush (v := 7) hx hb (dk DX12_whose 19 rfl) (by decide) ?_
    obtain ⟨hin, h⟩ := h
    refine ldM X hP 1 rfl hin (dk DX12_whose 20 rfl) ?_
    refine lv_if_le (tgt := 68) hx hb (dk DX12_whose 21 rfl) (by decide) (fun hc => ?_) (fun hc => ?_)
    · have h := h.1 hc
      exact hK1 x1 x2 x3 S h _ _ hP hD hS ls (lv_sub hl [0, 1, 2, 3] rfl)
    · have h := h.2 hc
      refine lv_iload_n hx hb (dk DX12_whose 22 rfl) rfl (lv_at hl 3 rfl) ?_
      refine cSi (As := [.int x3]) (rest := []) ⟨X.1, X.2.1, X.2.2.1, X.2.2.2.1, X.2.2.2.2.1⟩ (m_bits (l := l) x3 h) (va_cwS 1 X.2.2.2.2.1 (gwS 327 328 24 29 rfl rfl rfl rfl) rfl rfl rfl q_bits ⟨Nat.le_of_ble_eq_true rfl, Nat.le_of_ble_eq_true rfl⟩) rfl hl.1 rfl (Nat.le_of_ble_eq_true rfl) (dk DX12_whose 23 rfl) (fun r1 h => ?_)
      refine lv_iconst (v := 3) hx hb (dk DX12_whose 24 rfl) (by decide) ?_
      refine lv_icmp_gt (tgt := 62) hx hb (dk DX12_whose 25 rfl) (by decide) (fun hc => ?_) (fun hc => ?_)
      · have h := h.1 hc
        obtain ⟨v2, ev2⟩ : ∃ y : Int32, y = x3 + 1 := ⟨_, rfl⟩
        have h := h v2 ev2
        refine lv_iinc (v := v2) (lv' := [(3, .int v2), (0, .ref (q 0)), (1, .int x1), (2, .int x2)]) hx hb (dk DX12_whose 37 rfl) hl (k := 3) rfl (by rw [ev2]; rfl) (by decide) rfl (fun ls hl => ?_)
        refine lv_goto (tgt := 11) hx hb (dk DX12_whose 38 rfl) (by decide) ?_
        exact hK0 x1 x2 v2 S h _ _ hP hD hS ls (lv_sub hl [1, 2, 3, 0] rfl)
      · have h := h.2 hc
        refine lv_aload_n hx hb (dk DX12_whose 26 rfl) rfl (lv_at hl 0 rfl) ?_
        refine lv_iload_n hx hb (dk DX12_whose 27 rfl) rfl (lv_at hl 3 rfl) ?_
        refine cMi (As := [.int x3]) (rest := []) X (m_canBe (l := l) (dC := dC) (dI := dI) (q := q) (cI := cI) (cJ := cJ) (cZ := cZ) (sz := _) x3 S h) (cwV 1 X.2.2.2.2.1 (gwV 339 340 341 24 337 rfl rfl rfl rfl rfl) rfl rfl rfl q_canBe ⟨Nat.le_of_ble_eq_true rfl, Nat.le_of_ble_eq_true rfl⟩) hP hD hS rfl hl.1 rfl (Nat.le_of_ble_eq_true rfl) (dk DX12_whose 28 rfl) (fun r4 S3 H locs h hP hD hS => ?_)
        refine lv_if_ne (tgt := 52) hx hb (dk DX12_whose 29 rfl) (by decide) (fun hc => ?_) (fun hc => ?_)
        · have h := h.1 hc
          refine lv_iload_n hx hb (dk DX12_whose 31 rfl) rfl (lv_at hl 2 rfl) ?_
          refine lv_iload_n hx hb (dk DX12_whose 32 rfl) rfl (lv_at hl 1 rfl) ?_
          refine lv_icmp_ne (tgt := 59) hx hb (dk DX12_whose 33 rfl) (by decide) (fun hc => ?_) (fun hc => ?_)
          · have h := h.1 hc
            obtain ⟨v5, ev5⟩ : ∃ y : Int32, y = x2 + 1 := ⟨_, rfl⟩
            have h := h v5 ev5
            refine lv_iinc (v := v5) (lv' := [(2, .int v5), (0, .ref (q 0)), (1, .int x1), (3, .int x3)]) hx hb (dk DX12_whose 36 rfl) hl (k := 2) rfl (by rw [ev5]; rfl) (by decide) rfl (fun ls hl => ?_)
            obtain ⟨v6, ev6⟩ : ∃ y : Int32, y = x3 + 1 := ⟨_, rfl⟩
            have h := h v6 ev6
            refine lv_iinc (v := v6) (lv' := [(3, .int v6), (2, .int v5), (0, .ref (q 0)), (1, .int x1)]) hx hb (dk DX12_whose 37 rfl) hl (k := 3) rfl (by rw [ev6]; rfl) (by decide) rfl (fun ls hl => ?_)
            refine lv_goto (tgt := 11) hx hb (dk DX12_whose 38 rfl) (by decide) ?_
            exact hK0 x1 v5 v6 S3 h _ _ hP hD hS ls (lv_sub hl [2, 3, 1, 0] rfl)
          · have h := h.2 hc
            refine lv_iload_n hx hb (dk DX12_whose 34 rfl) rfl (lv_at hl 3 rfl) ?_
            exact W.iret (v := x3) hx hb hr (fun t ht hW => ⟨⟨_, _, rfl, h, by rw [ht]; exact hP, va_K.moved hW.alike X.2.2.2.2.2.2.1, hD⟩, hS.F ht⟩) hS.2.2 (dk DX12_whose 35 rfl)
        · have h := h.2 hc
          refine lv_goto (tgt := 62) hx hb (dk DX12_whose 30 rfl) (by decide) ?_
          obtain ⟨v7, ev7⟩ : ∃ y : Int32, y = x3 + 1 := ⟨_, rfl⟩
          have h := h v7 ev7
          refine lv_iinc (v := v7) (lv' := [(3, .int v7), (0, .ref (q 0)), (1, .int x1), (2, .int x2)]) hx hb (dk DX12_whose 37 rfl) hl (k := 3) rfl (by rw [ev7]; rfl) (by decide) rfl (fun ls hl => ?_)
          refine lv_goto (tgt := 11) hx hb (dk DX12_whose 38 rfl) (by decide) ?_
          exact hK0 x1 x2 v7 S3 h _ _ hP hD hS ls (lv_sub hl [1, 2, 3, 0] rfl)
set_option maxHeartbeats 4000000 in
set_option maxRecDepth 100000 in
theorem h_whose_1 {p : Program} {l : Launch} {e : Env} {s : State} {m : MethodId} {below : List Frame} {meth : Method} {c : Code} {dC : Nat → ClassId} {dI : Nat → Nat → Nat} {q : Nat → Nat} {cI cJ cZ : ClassId} {A : Nat → Prop} {args : Array Value} {Post : Int32 → MS → Prop} {K : Hd_whose → MS → Prop} (X : XM p s m args c cX12_whose 4 ww_whose dC dI cI cJ cZ A) (hr : meth.sig.returnType = (some .int)) (hlocks : meth.locks = false) (hK0 : ∀ (x1 : Int32) (x2 : Int32) (x3 : Int32) (S : MS), K (.inl (x1, x2, x3)) S → ∀ (H : Heap) (locs : List Loc), va_P (dC, dI) vwCl (wM q cI cJ cZ S) H → va_D A (wM q cI cJ cZ S) → va_S A s.heap H locs → ∀ ls : Array Slot, lv_has ls 4 [(0, .ref (q 0)), (1, .int x1), (2, .int x2), (3, .int x3)] → W p l e (headSpec ww_whose ({ frames := 2, cells := 0, slots := 0, locals := 46 } : Room)).room s m args below meth c H locs 0 0 (MQ below (va_Qi Post (atM dC dI q cI cJ cZ A) A) args s 0 0 A) (F0 m 11 ls [])) (hK1 : ∀ (x1 : Int32) (x2 : Int32) (x3 : Int32) (S : MS), K (.inr (x1, x2, x3)) S → ∀ (H : Heap) (locs : List Loc), va_P (dC, dI) vwCl (wM q cI cJ cZ S) H → va_D A (wM q cI cJ cZ S) → va_S A s.heap H locs → ∀ ls : Array Slot, lv_has ls 4 [(0, .ref (q 0)), (1, .int x1), (2, .int x2), (3, .int x3)] → W p l e (headSpec ww_whose ({ frames := 2, cells := 0, slots := 0, locals := 46 } : Room)).room s m args below meth c H locs 0 0 (MQ below (va_Qi Post (atM dC dI q cI cJ cZ A) A) args s 0 0 A) (F0 m 68 ls [])) (x1 : Int32) (x2 : Int32) (x3 : Int32) (S : MS) (h : B_whose Post K (.inr (x1, x2, x3)) S) : ∀ (H : Heap) (locs : List Loc), va_P (dC, dI) vwCl (wM q cI cJ cZ S) H → va_D A (wM q cI cJ cZ S) → va_S A s.heap H locs → ∀ ls : Array Slot, lv_has ls 4 [(0, .ref (q 0)), (1, .int x1), (2, .int x2), (3, .int x3)] → W p l e (headSpec ww_whose ({ frames := 2, cells := 0, slots := 0, locals := 46 } : Room)).room s m args below meth c H locs 0 0 (MQ below (va_Qi Post (atM dC dI q cI cJ cZ A) A) args s 0 0 A) (F0 m 68 ls []) := by
  have hx := X.1
  have hb := X.2.1
  intro H locs hP hD hS ls hl
  have lk7 := X.2.2.2.2.1 (.fieldLink RX12 7 "BreathOnLoanModel" "a" "[I") (inW 5 rfl)
  dsimp only [B_whose] at h
  refine lv_iload_n hx hb (dk DX12_whose 39 rfl) rfl (lv_at hl 1 rfl) ?_
  refine lv_iconst (v := (-1)) hx hb (dk DX12_whose 40 rfl) (by decide) ?_
  refine lv_icmp_ne (tgt := 77) hx hb (dk DX12_whose 41 rfl) (by decide) (fun hc => ?_) (fun hc => ?_)
  · have h := h.1 hc
    refine lv_iconst (v := (-1)) hx hb (dk DX12_whose 44 rfl) (by decide) ?_
    exact W.iret (v := (-1)) hx hb hr (fun t ht hW => ⟨⟨_, _, rfl, h, by rw [ht]; exact hP, va_K.moved hW.alike X.2.2.2.2.2.2.1, hD⟩, hS.F ht⟩) hS.2.2 (dk DX12_whose 45 rfl)
  · have h := h.2 hc
    refine lv_iload_n hx hb (dk DX12_whose 42 rfl) rfl (lv_at hl 2 rfl) ?_
    refine lv_goto (tgt := 78) hx hb (dk DX12_whose 43 rfl) (by decide) ?_
    exact W.iret (v := x2) hx hb hr (fun t ht hW => ⟨⟨_, _, rfl, h, by rw [ht]; exact hP, va_K.moved hW.alike X.2.2.2.2.2.2.1, hD⟩, hS.F ht⟩) hS.2.2 (dk DX12_whose 45 rfl)
set_option maxHeartbeats 4000000 in
set_option maxRecDepth 100000 in
theorem m_whose {l : Launch} {dC : Nat → ClassId} {dI : Nat → Nat → Nat} {q : Nat → Nat} {cI cJ cZ : ClassId} {sz : Nat} {Post : Int32 → MS → Prop} (a0 : Int32) (S : MS) (h : VC_whose Post a0 S) : Met l yX12_whose ww_whose ({ frames := 2, cells := 0, slots := 0, locals := 46 } : Room) (va_Pc [.ref (q 0), .int a0] (preM dC dI q cI cJ cZ S sz)) (va_Qi Post (atM dC dI q cI cJ cZ (va_A (wM q cI cJ cZ S) sz)) (va_A (wM q cI cJ cZ S) sz)) 0 0 (va_A (wM q cI cJ cZ S) sz) := by
  refine oM (cc := cX12_whose) (maxL := 4) (ret := (some .int)) (Qc := fun A => va_Qi Post (atM dC dI q cI cJ cZ A) A) (by decide) rfl (fun w h => List.mem_cons_of_mem _ (List.mem_append_right _ h)) rfl (Nat.le_of_ble_eq_true rfl) (fun p e s m below meth c A ls X hr hlocks hP hD hS hl => ?_)
  have hx := X.1
  have hb := X.2.1
  have hl : lv_has ls 4 [(0, .ref (q 0)), (1, .int a0)] := hl
  have lk7 := X.2.2.2.2.1 (.fieldLink RX12 7 "BreathOnLoanModel" "a" "[I") (inW 5 rfl)
  generalize hargs : ([.ref (q 0), .int a0] : List Value).toArray = args at X ⊢
  have h := h (fun hd S => match hd with | (.inl (x1, x2, x3)) => ∀ (H : Heap) (locs : List Loc), va_P (dC, dI) vwCl (wM q cI cJ cZ S) H → va_D A (wM q cI cJ cZ S) → va_S A s.heap H locs → ∀ ls : Array Slot, lv_has ls 4 [(0, .ref (q 0)), (1, .int x1), (2, .int x2), (3, .int x3)] → W p l e (headSpec ww_whose ({ frames := 2, cells := 0, slots := 0, locals := 46 } : Room)).room s m args below meth c H locs 0 0 (MQ below (va_Qi Post (atM dC dI q cI cJ cZ A) A) args s 0 0 A) (F0 m 11 ls []) | (.inr (x1, x2, x3)) => ∀ (H : Heap) (locs : List Loc), va_P (dC, dI) vwCl (wM q cI cJ cZ S) H → va_D A (wM q cI cJ cZ S) → va_S A s.heap H locs → ∀ ls : Array Slot, lv_has ls 4 [(0, .ref (q 0)), (1, .int x1), (2, .int x2), (3, .int x3)] → W p l e (headSpec ww_whose ({ frames := 2, cells := 0, slots := 0, locals := 46 } : Room)).room s m args below meth c H locs 0 0 (MQ below (va_Qi Post (atM dC dI q cI cJ cZ A) A) args s 0 0 A) (F0 m 68 ls [])) ?_
  · skip
    refine lv_iload_n hx hb (dk DX12_whose 0 rfl) rfl (lv_at hl 1 rfl) ?_
    refine lv_iconst (v := (-1)) hx hb (dk DX12_whose 1 rfl) (by decide) ?_
    refine lv_icmp_ge (tgt := 7) hx hb (dk DX12_whose 2 rfl) (by decide) (fun hc => ?_) (fun hc => ?_)
    · have h := h.1 hc
      refine lv_iconst (v := 0) hx hb (dk DX12_whose 5 rfl) (by decide) ?_
      refine lv_istore_n (lv' := [(2, .int 0), (0, .ref (q 0)), (1, .int a0)]) hx hb (dk DX12_whose 6 rfl) rfl hl (by decide) rfl (fun ls hl => ?_)
      refine lv_iconst (v := 1) hx hb (dk DX12_whose 7 rfl) (by decide) ?_
      refine lv_istore_n (lv' := [(3, .int 1), (2, .int 0), (0, .ref (q 0)), (1, .int a0)]) hx hb (dk DX12_whose 8 rfl) rfl hl (by decide) rfl (fun ls hl => ?_)
      exact h _ _ hP hD hS ls (lv_sub hl [2, 3, 1, 0] rfl)
    · have h := h.2 hc
      refine lv_iconst (v := (-1)) hx hb (dk DX12_whose 3 rfl) (by decide) ?_
      exact W.iret (v := (-1)) hx hb hr (fun t ht hW => ⟨⟨_, _, rfl, h, by rw [ht]; exact hP, va_K.moved hW.alike X.2.2.2.2.2.2.1, hD⟩, hS.F ht⟩) hS.2.2 (dk DX12_whose 4 rfl)
  · rintro (⟨x1, x2, x3⟩ | ⟨x1, x2, x3⟩) S hB
    · exact h_whose_0 X hr hlocks (hK0 := fun _ _ _ _ h => h) (hK1 := fun _ _ _ _ h => h) x1 x2 x3 S hB
    · exact h_whose_1 X hr hlocks (hK0 := fun _ _ _ _ h => h) (hK1 := fun _ _ _ _ h => h) x1 x2 x3 S hB

def ww_tell : List Cond := .code yX12_tell cX12_tell 6 (some .int) :: (WdM ++ wsX120)
theorem q_tell : yX12_tell.cls = RX12 ∧ yX12_tell.cls ≠ "java/lang/invoke/MethodHandle" ∧ yX12_tell.cls ≠ "java/lang/invoke/VarHandle" ∧ (parseMethodDescriptor yX12_tell.desc).map (fun d => d.parameters.length) = some 4 := by decide +kernel
def VC_tell (Post : Int32 → MS → Prop) (a0 : Int32) (a1 : Int32) (a2 : Int32) (a3 : Int32) (S : MS) : Prop := VC_isBlower (fun r2 S1 => ((r2 = 0 → Post (-1) S1) ∧ (¬ r2 = 0 → VC_isIn (fun r3 => ((r3 = 0 → Post (-1) S1) ∧ (¬ r3 = 0 → VC_isIn (fun r4 => ((r4 = 0 → Post (-1) S1) ∧ (¬ r4 = 0 → VC_isHour (fun r5 => ((r5 = 0 → Post (-1) S1) ∧ (¬ r5 = 0 → vp_in (8 : Int32) 3890 ∧ ((¬ ((S1.2.2.1 0) (8 : Int32).toNatClampNeg) = 20 → vp_in (8 : Int32) 3890 ∧ ∀ v6 : Int32, v6 = 70 + (4 * ((S1.2.2.1 0) (8 : Int32).toNatClampNeg)) → vp_in v6 3890 ∧ ∀ S7 : MS, S7 = sF S1 0 (upd (S1.2.2.1 0) v6.toNatClampNeg a0) → vp_in (v6 + 1) 3890 ∧ ∀ S8 : MS, S8 = sF S7 0 (upd (S7.2.2.1 0) (v6 + 1).toNatClampNeg a1) → vp_in (v6 + 2) 3890 ∧ ∀ S9 : MS, S9 = sF S8 0 (upd (S8.2.2.1 0) (v6 + 2).toNatClampNeg a2) → vp_in (v6 + 3) 3890 ∧ ∀ S10 : MS, S10 = sF S9 0 (upd (S9.2.2.1 0) (v6 + 3).toNatClampNeg a3) → vp_in (8 : Int32) 3890 ∧ ∀ v11 : Int32, v11 = ((S10.2.2.1 0) (8 : Int32).toNatClampNeg) + 1 → vp_in (8 : Int32) 3890 ∧ ∀ S12 : MS, S12 = sF S10 0 (upd (S10.2.2.1 0) (8 : Int32).toNatClampNeg v11) → vp_in (8 : Int32) 3890 ∧ Post ((S12.2.2.1 0) (8 : Int32).toNatClampNeg) S12) ∧ (((S1.2.2.1 0) (8 : Int32).toNatClampNeg) = 20 → Post (-1) S1))))) a3))) a2 1 9))) a1 0 9))) a0 S
set_option maxHeartbeats 4000000 in
set_option maxRecDepth 100000 in
theorem m_tell {l : Launch} {dC : Nat → ClassId} {dI : Nat → Nat → Nat} {q : Nat → Nat} {cI cJ cZ : ClassId} {sz : Nat} {Post : Int32 → MS → Prop} (a0 : Int32) (a1 : Int32) (a2 : Int32) (a3 : Int32) (S : MS) (h : VC_tell Post a0 a1 a2 a3 S) : Met l yX12_tell ww_tell ({ frames := 2, cells := 0, slots := 0, locals := 43 } : Room) (va_Pc [.ref (q 0), .int a0, .int a1, .int a2, .int a3] (preM dC dI q cI cJ cZ S sz)) (va_Qi Post (atM dC dI q cI cJ cZ (va_A (wM q cI cJ cZ S) sz)) (va_A (wM q cI cJ cZ S) sz)) 0 0 (va_A (wM q cI cJ cZ S) sz) := by
  refine oM (cc := cX12_tell) (maxL := 6) (ret := (some .int)) (Qc := fun A => va_Qi Post (atM dC dI q cI cJ cZ A) A) (by decide) rfl (fun w h => List.mem_cons_of_mem _ (List.mem_append_right _ h)) rfl (Nat.le_of_ble_eq_true rfl) (fun p e s m below meth c A ls X hr hlocks hP hD hS hl => ?_)
  have hx := X.1
  have hb := X.2.1
  have hl : lv_has ls 6 [(0, .ref (q 0)), (1, .int a0), (2, .int a1), (3, .int a2), (4, .int a3)] := hl
  have lk7 := X.2.2.2.2.1 (.fieldLink RX12 7 "BreathOnLoanModel" "a" "[I") (inW 5 rfl)
  dsimp only [VC_tell] at h
  refine lv_aload_n hx hb (dk DX12_tell 0 rfl) rfl (lv_at hl 0 rfl) ?_
  refine lv_iload_n hx hb (dk DX12_tell 1 rfl) rfl (lv_at hl 1 rfl) ?_
  refine cMi (As := [.int a0]) (rest := []) X (m_isBlower (l := l) (dC := dC) (dI := dI) (q := q) (cI := cI) (cJ := cJ) (cZ := cZ) (sz := _) a0 S h) (cwV 1 X.2.2.2.2.1 (gwV 51 52 53 24 30 rfl rfl rfl rfl rfl) rfl rfl rfl q_isBlower ⟨Nat.le_of_ble_eq_true rfl, Nat.le_of_ble_eq_true rfl⟩) hP hD hS rfl hl.1 rfl (Nat.le_of_ble_eq_true rfl) (dk DX12_tell 2 rfl) (fun r2 S1 H locs h hP hD hS => ?_)
  refine lv_if_eq (tgt := 48) hx hb (dk DX12_tell 3 rfl) (by decide) (fun hc => ?_) (fun hc => ?_)
  · have h := h.1 hc
    refine lv_iconst (v := (-1)) hx hb (dk DX12_tell 23 rfl) (by decide) ?_
    exact W.iret (v := (-1)) hx hb hr (fun t ht hW => ⟨⟨_, _, rfl, h, by rw [ht]; exact hP, va_K.moved hW.alike X.2.2.2.2.2.2.1, hD⟩, hS.F ht⟩) hS.2.2 (dk DX12_tell 24 rfl)
  · have h := h.2 hc
    refine lv_iload_n hx hb (dk DX12_tell 4 rfl) rfl (lv_at hl 2 rfl) ?_
    refine lv_iconst (v := 0) hx hb (dk DX12_tell 5 rfl) (by decide) ?_
    refine lv_bipush (v := 9) hx hb (dk DX12_tell 6 rfl) (by decide) ?_
    refine cSi (As := [.int a1, .int 0, .int 9]) (rest := []) ⟨X.1, X.2.1, X.2.2.1, X.2.2.2.1, X.2.2.2.2.1⟩ (m_isIn (l := l) a1 0 9 h) (va_cwS 3 X.2.2.2.2.1 (gwS 31 32 24 26 rfl rfl rfl rfl) rfl rfl rfl q_isIn ⟨Nat.le_of_ble_eq_true rfl, Nat.le_of_ble_eq_true rfl⟩) rfl hl.1 rfl (Nat.le_of_ble_eq_true rfl) (dk DX12_tell 7 rfl) (fun r3 h => ?_)
    refine lv_if_eq (tgt := 48) hx hb (dk DX12_tell 8 rfl) (by decide) (fun hc => ?_) (fun hc => ?_)
    · have h := h.1 hc
      refine lv_iconst (v := (-1)) hx hb (dk DX12_tell 23 rfl) (by decide) ?_
      exact W.iret (v := (-1)) hx hb hr (fun t ht hW => ⟨⟨_, _, rfl, h, by rw [ht]; exact hP, va_K.moved hW.alike X.2.2.2.2.2.2.1, hD⟩, hS.F ht⟩) hS.2.2 (dk DX12_tell 24 rfl)
    · have h := h.2 hc
      refine lv_iload_n hx hb (dk DX12_tell 9 rfl) rfl (lv_at hl 3 rfl) ?_
      refine lv_iconst (v := 1) hx hb (dk DX12_tell 10 rfl) (by decide) ?_
      refine lv_bipush (v := 9) hx hb (dk DX12_tell 11 rfl) (by decide) ?_
      refine cSi (As := [.int a2, .int 1, .int 9]) (rest := []) ⟨X.1, X.2.1, X.2.2.1, X.2.2.2.1, X.2.2.2.2.1⟩ (m_isIn (l := l) a2 1 9 h) (va_cwS 3 X.2.2.2.2.1 (gwS 31 32 24 26 rfl rfl rfl rfl) rfl rfl rfl q_isIn ⟨Nat.le_of_ble_eq_true rfl, Nat.le_of_ble_eq_true rfl⟩) rfl hl.1 rfl (Nat.le_of_ble_eq_true rfl) (dk DX12_tell 12 rfl) (fun r4 h => ?_)
      refine lv_if_eq (tgt := 48) hx hb (dk DX12_tell 13 rfl) (by decide) (fun hc => ?_) (fun hc => ?_)
      · have h := h.1 hc
        refine lv_iconst (v := (-1)) hx hb (dk DX12_tell 23 rfl) (by decide) ?_
        exact W.iret (v := (-1)) hx hb hr (fun t ht hW => ⟨⟨_, _, rfl, h, by rw [ht]; exact hP, va_K.moved hW.alike X.2.2.2.2.2.2.1, hD⟩, hS.F ht⟩) hS.2.2 (dk DX12_tell 24 rfl)
      · have h := h.2 hc
        refine lv_iload hx hb (dk DX12_tell 14 rfl) (lv_at hl 4 rfl) ?_
        refine cSi (As := [.int a3]) (rest := []) ⟨X.1, X.2.1, X.2.2.1, X.2.2.2.1, X.2.2.2.2.1⟩ (m_isHour (l := l) a3 h) (va_cwS 1 X.2.2.2.2.1 (gwS 247 248 24 35 rfl rfl rfl rfl) rfl rfl rfl q_isHour ⟨Nat.le_of_ble_eq_true rfl, Nat.le_of_ble_eq_true rfl⟩) rfl hl.1 rfl (Nat.le_of_ble_eq_true rfl) (dk DX12_tell 15 rfl) (fun r5 h => ?_)
        refine lv_if_eq (tgt := 48) hx hb (dk DX12_tell 16 rfl) (by decide) (fun hc => ?_) (fun hc => ?_)
        · have h := h.1 hc
          refine lv_iconst (v := (-1)) hx hb (dk DX12_tell 23 rfl) (by decide) ?_
          exact W.iret (v := (-1)) hx hb hr (fun t ht hW => ⟨⟨_, _, rfl, h, by rw [ht]; exact hP, va_K.moved hW.alike X.2.2.2.2.2.2.1, hD⟩, hS.F ht⟩) hS.2.2 (dk DX12_tell 24 rfl)
        · have h := h.2 hc
          refine lv_aload_n hx hb (dk DX12_tell 17 rfl) rfl (lv_at hl 0 rfl) ?_
          refine gM X hP 0 (by decide) rfl lk7 (dk DX12_tell 18 rfl) ?_
          refine lv_bipush (v := 8) hx hb (dk DX12_tell 19 rfl) (by decide) ?_
          obtain ⟨hin, h⟩ := h
          refine ldM X hP 1 rfl hin (dk DX12_tell 20 rfl) ?_
          refine lv_bipush (v := 20) hx hb (dk DX12_tell 21 rfl) (by decide) ?_
          refine lv_icmp_ne (tgt := 50) hx hb (dk DX12_tell 22 rfl) (by decide) (fun hc => ?_) (fun hc => ?_)
          · have h := h.1 hc
            refine lv_bipush (v := 70) hx hb (dk DX12_tell 25 rfl) (by decide) ?_
            refine lv_iconst (v := 4) hx hb (dk DX12_tell 26 rfl) (by decide) ?_
            refine lv_aload_n hx hb (dk DX12_tell 27 rfl) rfl (lv_at hl 0 rfl) ?_
            refine gM X hP 0 (by decide) rfl lk7 (dk DX12_tell 28 rfl) ?_
            refine lv_bipush (v := 8) hx hb (dk DX12_tell 29 rfl) (by decide) ?_
            obtain ⟨hin, h⟩ := h
            refine ldM X hP 1 rfl hin (dk DX12_tell 30 rfl) ?_
            refine lv_imul hx hb (dk DX12_tell 31 rfl) ?_
            refine lv_iadd hx hb (dk DX12_tell 32 rfl) ?_
            refine lv_topi (fun v6 ev6 => ?_)
            have h := h v6 ev6
            refine lv_istore (lv' := [(5, .int v6), (0, .ref (q 0)), (1, .int a0), (2, .int a1), (3, .int a2), (4, .int a3)]) hx hb (dk DX12_tell 33 rfl) hl (by decide) rfl (fun ls hl => ?_)
            refine lv_aload_n hx hb (dk DX12_tell 34 rfl) rfl (lv_at hl 1 rfl) ?_
            refine gM X hP 0 (by decide) rfl lk7 (dk DX12_tell 35 rfl) ?_
            refine lv_iload hx hb (dk DX12_tell 36 rfl) (lv_at hl 0 rfl) ?_
            refine lv_iload_n hx hb (dk DX12_tell 37 rfl) rfl (lv_at hl 2 rfl) ?_
            obtain ⟨hin, h⟩ := h
            refine stM_0 X hP hD hS hin (dk DX12_tell 38 rfl) (fun S7 eS7 H locs hP hD hS => ?_)
            have h := h S7 eS7
            refine lv_aload_n hx hb (dk DX12_tell 39 rfl) rfl (lv_at hl 1 rfl) ?_
            refine gM X hP 0 (by decide) rfl lk7 (dk DX12_tell 40 rfl) ?_
            refine lv_iload hx hb (dk DX12_tell 41 rfl) (lv_at hl 0 rfl) ?_
            refine lv_iconst (v := 1) hx hb (dk DX12_tell 42 rfl) (by decide) ?_
            refine lv_iadd hx hb (dk DX12_tell 43 rfl) ?_
            refine lv_iload_n hx hb (dk DX12_tell 44 rfl) rfl (lv_at hl 3 rfl) ?_
            obtain ⟨hin, h⟩ := h
            refine stM_0 X hP hD hS hin (dk DX12_tell 45 rfl) (fun S8 eS8 H locs hP hD hS => ?_)
            have h := h S8 eS8
            refine lv_aload_n hx hb (dk DX12_tell 46 rfl) rfl (lv_at hl 1 rfl) ?_
            refine gM X hP 0 (by decide) rfl lk7 (dk DX12_tell 47 rfl) ?_
            refine lv_iload hx hb (dk DX12_tell 48 rfl) (lv_at hl 0 rfl) ?_
            refine lv_iconst (v := 2) hx hb (dk DX12_tell 49 rfl) (by decide) ?_
            refine lv_iadd hx hb (dk DX12_tell 50 rfl) ?_
            refine lv_iload_n hx hb (dk DX12_tell 51 rfl) rfl (lv_at hl 4 rfl) ?_
            obtain ⟨hin, h⟩ := h
            refine stM_0 X hP hD hS hin (dk DX12_tell 52 rfl) (fun S9 eS9 H locs hP hD hS => ?_)
            have h := h S9 eS9
            refine lv_aload_n hx hb (dk DX12_tell 53 rfl) rfl (lv_at hl 1 rfl) ?_
            refine gM X hP 0 (by decide) rfl lk7 (dk DX12_tell 54 rfl) ?_
            refine lv_iload hx hb (dk DX12_tell 55 rfl) (lv_at hl 0 rfl) ?_
            refine lv_iconst (v := 3) hx hb (dk DX12_tell 56 rfl) (by decide) ?_
            refine lv_iadd hx hb (dk DX12_tell 57 rfl) ?_
            refine lv_iload hx hb (dk DX12_tell 58 rfl) (lv_at hl 5 rfl) ?_
            obtain ⟨hin, h⟩ := h
            refine stM_0 X hP hD hS hin (dk DX12_tell 59 rfl) (fun S10 eS10 H locs hP hD hS => ?_)
            have h := h S10 eS10
            refine lv_aload_n hx hb (dk DX12_tell 60 rfl) rfl (lv_at hl 1 rfl) ?_
            refine gM X hP 0 (by decide) rfl lk7 (dk DX12_tell 61 rfl) ?_
            refine lv_bipush (v := 8) hx hb (dk DX12_tell 62 rfl) (by decide) ?_
            refine lv_dup2_11 hx hb (dk DX12_tell 63 rfl) rfl rfl ?_
            obtain ⟨hin, h⟩ := h
            refine ldM X hP 1 rfl hin (dk DX12_tell 64 rfl) ?_
            refine lv_iconst (v := 1) hx hb (dk DX12_tell 65 rfl) (by decide) ?_
            refine lv_iadd hx hb (dk DX12_tell 66 rfl) ?_
            refine lv_topi (fun v11 ev11 => ?_)
            have h := h v11 ev11
            obtain ⟨hin, h⟩ := h
            refine stM_0 X hP hD hS hin (dk DX12_tell 67 rfl) (fun S12 eS12 H locs hP hD hS => ?_)
            have h := h S12 eS12
            refine lv_aload_n hx hb (dk DX12_tell 68 rfl) rfl (lv_at hl 1 rfl) ?_
            refine gM X hP 0 (by decide) rfl lk7 (dk DX12_tell 69 rfl) ?_
            refine lv_bipush (v := 8) hx hb (dk DX12_tell 70 rfl) (by decide) ?_
            obtain ⟨hin, h⟩ := h
            refine ldM X hP 1 rfl hin (dk DX12_tell 71 rfl) ?_
            exact W.iret (v := (S12.2.2.1 0) (8 : Int32).toNatClampNeg) hx hb hr (fun t ht hW => ⟨⟨_, _, rfl, h, by rw [ht]; exact hP, va_K.moved hW.alike X.2.2.2.2.2.2.1, hD⟩, hS.F ht⟩) hS.2.2 (dk DX12_tell 72 rfl)
          · have h := h.2 hc
            refine lv_iconst (v := (-1)) hx hb (dk DX12_tell 23 rfl) (by decide) ?_
            exact W.iret (v := (-1)) hx hb hr (fun t ht hW => ⟨⟨_, _, rfl, h, by rw [ht]; exact hP, va_K.moved hW.alike X.2.2.2.2.2.2.1, hD⟩, hS.F ht⟩) hS.2.2 (dk DX12_tell 24 rfl)

