-- parsed sortOf figure blown line
def ww_parsed : List Cond := .code yX12_parsed cX12_parsed 4 (some .int) :: (WdM ++ wsX120)
theorem q_parsed : yX12_parsed.cls = RX12 ∧ yX12_parsed.cls ≠ "java/lang/invoke/MethodHandle" ∧ yX12_parsed.cls ≠ "java/lang/invoke/VarHandle" ∧ (parseMethodDescriptor yX12_parsed.desc).map (fun d => d.parameters.length) = some 1 := by decide +kernel
abbrev Hd_parsed : Type := (Int32 × Int32) ⊕ (Int32 × Int32)
def B_parsed (Post : Int32 → MS → Prop) (K : Hd_parsed → MS → Prop) : Hd_parsed → MS → Prop
  | (.inl (x1, x2)), S => ((x2 = 0 → VC_marker (fun r4 S3 => ((0 ≤ r4 → Post 1 S3) ∧ (¬ 0 ≤ r4 → ((x1 = 0 → K (.inr (x1, x2)) S3) ∧ (¬ x1 = 0 → VC_isCompared (fun r6 S5 => ((¬ r6 = 0 → K (.inr (x1, x2)) S5) ∧ (r6 = 0 → Post 1 S5))) S3))))) S) ∧ (¬ x2 = 0 → (((S.1 19) = 0 → VC_beginOne (fun r8 S7 => ((r8 = 0 → K (.inl (x1, x2)) S7) ∧ (¬ r8 = 0 → Post r8 S7))) x1 S) ∧ (¬ (S.1 19) = 0 → VC_behindOne (fun r10 S9 => K (.inl (x1, r10)) S9) x1 S))))
  | (.inr (x1, x2)), S => VC_settle (fun S11 => Post 0 S11) 1 S
def VC_parsed (Post : Int32 → MS → Prop) (a0 : Int32) (S : MS) : Prop := ∀ K : Hd_parsed → MS → Prop, (∀ h S, B_parsed Post K h S → K h S) → ∀ S1 : MS, S1 = sI S 17 0 → ∀ S2 : MS, S2 = sI S1 19 0 → K (.inl (a0, 1)) S2
set_option maxHeartbeats 4000000 in
set_option maxRecDepth 100000 in
theorem h_parsed_0 {p : Program} {l : Launch} {e : Env} {s : State} {m : MethodId} {below : List Frame} {meth : Method} {c : Code} {dC : Nat → ClassId} {dI : Nat → Nat → Nat} {q : Nat → Nat} {cI cJ cZ : ClassId} {A : Nat → Prop} {args : Array Value} {Post : Int32 → MS → Prop} {K : Hd_parsed → MS → Prop} (X : XM p s m args c cX12_parsed 4 ww_parsed dC dI cI cJ cZ A) (hr : meth.sig.returnType = (some .int)) (hlocks : meth.locks = false) (hK0 : ∀ (x1 : Int32) (x2 : Int32) (S : MS), K (.inl (x1, x2)) S → ∀ (H : Heap) (locs : List Loc), va_P (dC, dI) vwCl (wM q cI cJ cZ S) H → va_D A (wM q cI cJ cZ S) → va_S A s.heap H locs → ∀ ls : Array Slot, lv_has ls 4 [(0, .ref (q 0)), (1, .int x1), (2, .int x2)] → W p l e (headSpec ww_parsed ({ frames := 5, cells := 0, slots := 0, locals := 113 } : Room)).room s m args below meth c H locs 0 0 (MQ below (va_Qi Post (atM dC dI q cI cJ cZ A) A) args s 0 0 A) (F0 m 12 ls [])) (hK1 : ∀ (x1 : Int32) (x2 : Int32) (S : MS), K (.inr (x1, x2)) S → ∀ (H : Heap) (locs : List Loc), va_P (dC, dI) vwCl (wM q cI cJ cZ S) H → va_D A (wM q cI cJ cZ S) → va_S A s.heap H locs → ∀ ls : Array Slot, lv_has ls 4 [(0, .ref (q 0)), (1, .int x1), (2, .int x2)] → W p l e (headSpec ww_parsed ({ frames := 5, cells := 0, slots := 0, locals := 113 } : Room)).room s m args below meth c H locs 0 0 (MQ below (va_Qi Post (atM dC dI q cI cJ cZ A) A) args s 0 0 A) (F0 m 67 ls [])) (x1 : Int32) (x2 : Int32) (S : MS) (h : B_parsed Post K (.inl (x1, x2)) S) : ∀ (H : Heap) (locs : List Loc), va_P (dC, dI) vwCl (wM q cI cJ cZ S) H → va_D A (wM q cI cJ cZ S) → va_S A s.heap H locs → ∀ ls : Array Slot, lv_has ls 4 [(0, .ref (q 0)), (1, .int x1), (2, .int x2)] → W p l e (headSpec ww_parsed ({ frames := 5, cells := 0, slots := 0, locals := 113 } : Room)).room s m args below meth c H locs 0 0 (MQ below (va_Qi Post (atM dC dI q cI cJ cZ A) A) args s 0 0 A) (F0 m 12 ls []) := by
  have hx := X.1
  have hb := X.2.1
  intro H locs hP hD hS ls hl
  have lk133 := X.2.2.2.2.1 (.fieldLink RX12 133 "BreathOnLoanModel" "piled" "I") (inW 95 rfl)
  have lk146 := X.2.2.2.2.1 (.fieldLink RX12 146 "BreathOnLoanModel" "isWhole" "Z") (inW 105 rfl)
  dsimp only [B_parsed] at h
  refine lv_iload_n hx hb (dk DX12_parsed 8 rfl) rfl (lv_at hl 2 rfl) ?_
  refine lv_if_eq (tgt := 47) hx hb (dk DX12_parsed 9 rfl) (by decide) (fun hc => ?_) (fun hc => ?_)
  · have h := h.1 hc
    refine lv_aload_n hx hb (dk DX12_parsed 27 rfl) rfl (lv_at hl 0 rfl) ?_
    refine cMi (As := []) (rest := []) X (m_marker (l := l) (dC := dC) (dI := dI) (q := q) (cI := cI) (cJ := cJ) (cZ := cZ) (sz := _) S h) (cwV 0 X.2.2.2.2.1 (gwV 111 112 113 24 109 rfl rfl rfl rfl rfl) rfl rfl rfl q_marker ⟨Nat.le_of_ble_eq_true rfl, Nat.le_of_ble_eq_true rfl⟩) hP hD hS rfl hl.1 rfl (Nat.le_of_ble_eq_true rfl) (dk DX12_parsed 28 rfl) (fun r4 S3 H locs h hP hD hS => ?_)
    refine lv_if_ge (tgt := 65) hx hb (dk DX12_parsed 29 rfl) (by decide) (fun hc => ?_) (fun hc => ?_)
    · have h := h.1 hc
      refine lv_iconst (v := 1) hx hb (dk DX12_parsed 35 rfl) (by decide) ?_
      exact W.iret (v := 1) hx hb hr (fun t ht hW => ⟨⟨_, _, rfl, h, by rw [ht]; exact hP, va_K.moved hW.alike X.2.2.2.2.2.2.1, hD⟩, hS.F ht⟩) hS.2.2 (dk DX12_parsed 36 rfl)
    · have h := h.2 hc
      refine lv_iload_n hx hb (dk DX12_parsed 30 rfl) rfl (lv_at hl 1 rfl) ?_
      refine lv_if_eq (tgt := 67) hx hb (dk DX12_parsed 31 rfl) (by decide) (fun hc => ?_) (fun hc => ?_)
      · have h := h.1 hc
        exact hK1 x1 x2 S3 h _ _ hP hD hS ls (lv_sub hl [0, 1, 2] rfl)
      · have h := h.2 hc
        refine lv_aload_n hx hb (dk DX12_parsed 32 rfl) rfl (lv_at hl 0 rfl) ?_
        refine cMi (As := []) (rest := []) X (m_isCompared (l := l) (dC := dC) (dI := dI) (q := q) (cI := cI) (cJ := cJ) (cZ := cZ) (sz := _) S3 h) (cwV 0 X.2.2.2.2.1 (gwV 159 160 161 24 114 rfl rfl rfl rfl rfl) rfl rfl rfl q_isCompared ⟨Nat.le_of_ble_eq_true rfl, Nat.le_of_ble_eq_true rfl⟩) hP hD hS rfl hl.1 rfl (Nat.le_of_ble_eq_true rfl) (dk DX12_parsed 33 rfl) (fun r6 S5 H locs h hP hD hS => ?_)
        refine lv_if_ne (tgt := 67) hx hb (dk DX12_parsed 34 rfl) (by decide) (fun hc => ?_) (fun hc => ?_)
        · have h := h.1 hc
          exact hK1 x1 x2 S5 h _ _ hP hD hS ls (lv_sub hl [0, 1, 2] rfl)
        · have h := h.2 hc
          refine lv_iconst (v := 1) hx hb (dk DX12_parsed 35 rfl) (by decide) ?_
          exact W.iret (v := 1) hx hb hr (fun t ht hW => ⟨⟨_, _, rfl, h, by rw [ht]; exact hP, va_K.moved hW.alike X.2.2.2.2.2.2.1, hD⟩, hS.F ht⟩) hS.2.2 (dk DX12_parsed 36 rfl)
  · have h := h.2 hc
    refine lv_aload_n hx hb (dk DX12_parsed 10 rfl) rfl (lv_at hl 0 rfl) ?_
    refine gM X hP 19 (by decide) rfl lk146 (dk DX12_parsed 11 rfl) ?_
    refine lv_if_eq (tgt := 32) hx hb (dk DX12_parsed 12 rfl) (by decide) (fun hc => ?_) (fun hc => ?_)
    · have h := h.1 hc
      refine lv_aload_n hx hb (dk DX12_parsed 18 rfl) rfl (lv_at hl 0 rfl) ?_
      refine lv_iload_n hx hb (dk DX12_parsed 19 rfl) rfl (lv_at hl 1 rfl) ?_
      refine cMi (As := [.int x1]) (rest := []) X (m_beginOne (l := l) (dC := dC) (dI := dI) (q := q) (cI := cI) (cJ := cJ) (cZ := cZ) (sz := _) x1 S h) (cwV 1 X.2.2.2.2.1 (gwV 173 174 175 24 156 rfl rfl rfl rfl rfl) rfl rfl rfl q_beginOne ⟨Nat.le_of_ble_eq_true rfl, Nat.le_of_ble_eq_true rfl⟩) hP hD hS rfl hl.1 rfl (Nat.le_of_ble_eq_true rfl) (dk DX12_parsed 20 rfl) (fun r8 S7 H locs h hP hD hS => ?_)
      refine lv_istore_n (lv' := [(3, .int r8), (0, .ref (q 0)), (1, .int x1), (2, .int x2)]) hx hb (dk DX12_parsed 21 rfl) rfl hl (by decide) rfl (fun ls hl => ?_)
      refine lv_iload_n hx hb (dk DX12_parsed 22 rfl) rfl (lv_at hl 0 rfl) ?_
      refine lv_if_eq (tgt := 44) hx hb (dk DX12_parsed 23 rfl) (by decide) (fun hc => ?_) (fun hc => ?_)
      · have h := h.1 hc
        refine lv_goto (tgt := 12) hx hb (dk DX12_parsed 26 rfl) (by decide) ?_
        exact hK0 x1 x2 S7 h _ _ hP hD hS ls (lv_sub hl [1, 2, 3] rfl)
      · have h := h.2 hc
        refine lv_iload_n hx hb (dk DX12_parsed 24 rfl) rfl (lv_at hl 0 rfl) ?_
        exact W.iret (v := r8) hx hb hr (fun t ht hW => ⟨⟨_, _, rfl, h, by rw [ht]; exact hP, va_K.moved hW.alike X.2.2.2.2.2.2.1, hD⟩, hS.F ht⟩) hS.2.2 (dk DX12_parsed 25 rfl)
    · have h := h.2 hc
      refine lv_aload_n hx hb (dk DX12_parsed 13 rfl) rfl (lv_at hl 0 rfl) ?_
      refine lv_iload_n hx hb (dk DX12_parsed 14 rfl) rfl (lv_at hl 1 rfl) ?_
      refine cMi (As := [.int x1]) (rest := []) X (m_behindOne (l := l) (dC := dC) (dI := dI) (q := q) (cI := cI) (cJ := cJ) (cZ := cZ) (sz := _) x1 S h) (cwV 1 X.2.2.2.2.1 (gwV 170 171 172 24 169 rfl rfl rfl rfl rfl) rfl rfl rfl q_behindOne ⟨Nat.le_of_ble_eq_true rfl, Nat.le_of_ble_eq_true rfl⟩) hP hD hS rfl hl.1 rfl (Nat.le_of_ble_eq_true rfl) (dk DX12_parsed 15 rfl) (fun r10 S9 H locs h hP hD hS => ?_)
      refine lv_istore_n (lv' := [(2, .int r10), (0, .ref (q 0)), (1, .int x1)]) hx hb (dk DX12_parsed 16 rfl) rfl hl (by decide) rfl (fun ls hl => ?_)
      refine lv_goto (tgt := 12) hx hb (dk DX12_parsed 17 rfl) (by decide) ?_
      exact hK0 x1 r10 S9 h _ _ hP hD hS ls (lv_sub hl [1, 2, 0] rfl)
set_option maxHeartbeats 4000000 in
set_option maxRecDepth 100000 in
theorem h_parsed_1 {p : Program} {l : Launch} {e : Env} {s : State} {m : MethodId} {below : List Frame} {meth : Method} {c : Code} {dC : Nat → ClassId} {dI : Nat → Nat → Nat} {q : Nat → Nat} {cI cJ cZ : ClassId} {A : Nat → Prop} {args : Array Value} {Post : Int32 → MS → Prop} {K : Hd_parsed → MS → Prop} (X : XM p s m args c cX12_parsed 4 ww_parsed dC dI cI cJ cZ A) (hr : meth.sig.returnType = (some .int)) (hlocks : meth.locks = false) (hK0 : ∀ (x1 : Int32) (x2 : Int32) (S : MS), K (.inl (x1, x2)) S → ∀ (H : Heap) (locs : List Loc), va_P (dC, dI) vwCl (wM q cI cJ cZ S) H → va_D A (wM q cI cJ cZ S) → va_S A s.heap H locs → ∀ ls : Array Slot, lv_has ls 4 [(0, .ref (q 0)), (1, .int x1), (2, .int x2)] → W p l e (headSpec ww_parsed ({ frames := 5, cells := 0, slots := 0, locals := 113 } : Room)).room s m args below meth c H locs 0 0 (MQ below (va_Qi Post (atM dC dI q cI cJ cZ A) A) args s 0 0 A) (F0 m 12 ls [])) (hK1 : ∀ (x1 : Int32) (x2 : Int32) (S : MS), K (.inr (x1, x2)) S → ∀ (H : Heap) (locs : List Loc), va_P (dC, dI) vwCl (wM q cI cJ cZ S) H → va_D A (wM q cI cJ cZ S) → va_S A s.heap H locs → ∀ ls : Array Slot, lv_has ls 4 [(0, .ref (q 0)), (1, .int x1), (2, .int x2)] → W p l e (headSpec ww_parsed ({ frames := 5, cells := 0, slots := 0, locals := 113 } : Room)).room s m args below meth c H locs 0 0 (MQ below (va_Qi Post (atM dC dI q cI cJ cZ A) A) args s 0 0 A) (F0 m 67 ls [])) (x1 : Int32) (x2 : Int32) (S : MS) (h : B_parsed Post K (.inr (x1, x2)) S) : ∀ (H : Heap) (locs : List Loc), va_P (dC, dI) vwCl (wM q cI cJ cZ S) H → va_D A (wM q cI cJ cZ S) → va_S A s.heap H locs → ∀ ls : Array Slot, lv_has ls 4 [(0, .ref (q 0)), (1, .int x1), (2, .int x2)] → W p l e (headSpec ww_parsed ({ frames := 5, cells := 0, slots := 0, locals := 113 } : Room)).room s m args below meth c H locs 0 0 (MQ below (va_Qi Post (atM dC dI q cI cJ cZ A) A) args s 0 0 A) (F0 m 67 ls []) := by
  have hx := X.1
  have hb := X.2.1
  intro H locs hP hD hS ls hl
  have lk133 := X.2.2.2.2.1 (.fieldLink RX12 133 "BreathOnLoanModel" "piled" "I") (inW 95 rfl)
  have lk146 := X.2.2.2.2.1 (.fieldLink RX12 146 "BreathOnLoanModel" "isWhole" "Z") (inW 105 rfl)
  dsimp only [B_parsed] at h
  refine lv_aload_n hx hb (dk DX12_parsed 37 rfl) rfl (lv_at hl 0 rfl) ?_
  refine lv_iconst (v := 1) hx hb (dk DX12_parsed 38 rfl) (by decide) ?_
  refine cMv (As := [.int 1]) (rest := []) X (m_settle (l := l) (dC := dC) (dI := dI) (q := q) (cI := cI) (cJ := cJ) (cZ := cZ) (sz := _) 1 S h) (cwV 1 X.2.2.2.2.1 (gwV 106 107 108 24 97 rfl rfl rfl rfl rfl) rfl rfl rfl q_settle ⟨Nat.le_of_ble_eq_true rfl, Nat.le_of_ble_eq_true rfl⟩) hP hD hS rfl hl.1 rfl (Nat.le_of_ble_eq_true rfl) (dk DX12_parsed 39 rfl) (fun S11 H locs h hP hD hS => ?_)
  refine lv_iconst (v := 0) hx hb (dk DX12_parsed 40 rfl) (by decide) ?_
  exact W.iret (v := 0) hx hb hr (fun t ht hW => ⟨⟨_, _, rfl, h, by rw [ht]; exact hP, va_K.moved hW.alike X.2.2.2.2.2.2.1, hD⟩, hS.F ht⟩) hS.2.2 (dk DX12_parsed 41 rfl)
set_option maxHeartbeats 4000000 in
set_option maxRecDepth 100000 in
theorem m_parsed {l : Launch} {dC : Nat → ClassId} {dI : Nat → Nat → Nat} {q : Nat → Nat} {cI cJ cZ : ClassId} {sz : Nat} {Post : Int32 → MS → Prop} (a0 : Int32) (S : MS) (h : VC_parsed Post a0 S) : Met l yX12_parsed ww_parsed ({ frames := 5, cells := 0, slots := 0, locals := 113 } : Room) (va_Pc [.ref (q 0), .int a0] (preM dC dI q cI cJ cZ S sz)) (va_Qi Post (atM dC dI q cI cJ cZ (va_A (wM q cI cJ cZ S) sz)) (va_A (wM q cI cJ cZ S) sz)) 0 0 (va_A (wM q cI cJ cZ S) sz) := by
  refine oM (cc := cX12_parsed) (maxL := 4) (ret := (some .int)) (Qc := fun A => va_Qi Post (atM dC dI q cI cJ cZ A) A) (by decide) rfl (fun w h => List.mem_cons_of_mem _ (List.mem_append_right _ h)) rfl (Nat.le_of_ble_eq_true rfl) (fun p e s m below meth c A ls X hr hlocks hP hD hS hl => ?_)
  have hx := X.1
  have hb := X.2.1
  have hl : lv_has ls 4 [(0, .ref (q 0)), (1, .int a0)] := hl
  have lk133 := X.2.2.2.2.1 (.fieldLink RX12 133 "BreathOnLoanModel" "piled" "I") (inW 95 rfl)
  have lk146 := X.2.2.2.2.1 (.fieldLink RX12 146 "BreathOnLoanModel" "isWhole" "Z") (inW 105 rfl)
  generalize hargs : ([.ref (q 0), .int a0] : List Value).toArray = args at X ⊢
  have h := h (fun hd S => match hd with | (.inl (x1, x2)) => ∀ (H : Heap) (locs : List Loc), va_P (dC, dI) vwCl (wM q cI cJ cZ S) H → va_D A (wM q cI cJ cZ S) → va_S A s.heap H locs → ∀ ls : Array Slot, lv_has ls 4 [(0, .ref (q 0)), (1, .int x1), (2, .int x2)] → W p l e (headSpec ww_parsed ({ frames := 5, cells := 0, slots := 0, locals := 113 } : Room)).room s m args below meth c H locs 0 0 (MQ below (va_Qi Post (atM dC dI q cI cJ cZ A) A) args s 0 0 A) (F0 m 12 ls []) | (.inr (x1, x2)) => ∀ (H : Heap) (locs : List Loc), va_P (dC, dI) vwCl (wM q cI cJ cZ S) H → va_D A (wM q cI cJ cZ S) → va_S A s.heap H locs → ∀ ls : Array Slot, lv_has ls 4 [(0, .ref (q 0)), (1, .int x1), (2, .int x2)] → W p l e (headSpec ww_parsed ({ frames := 5, cells := 0, slots := 0, locals := 113 } : Room)).room s m args below meth c H locs 0 0 (MQ below (va_Qi Post (atM dC dI q cI cJ cZ A) A) args s 0 0 A) (F0 m 67 ls [])) ?_
  · skip
    refine lv_aload_n hx hb (dk DX12_parsed 0 rfl) rfl (lv_at hl 0 rfl) ?_
    refine lv_iconst (v := 0) hx hb (dk DX12_parsed 1 rfl) (by decide) ?_
    refine pM_17 X hP hD hS lk133 (dk DX12_parsed 2 rfl) (fun S1 eS1 H locs hP hD hS => ?_)
    have h := h S1 eS1
    refine lv_aload_n hx hb (dk DX12_parsed 3 rfl) rfl (lv_at hl 0 rfl) ?_
    refine lv_iconst (v := 0) hx hb (dk DX12_parsed 4 rfl) (by decide) ?_
    refine pM_19 X hP hD hS (by decide) (by decide) lk146 (dk DX12_parsed 5 rfl) (fun S2 eS2 H locs hP hD hS => ?_)
    have h := h S2 eS2
    refine lv_iconst (v := 1) hx hb (dk DX12_parsed 6 rfl) (by decide) ?_
    refine lv_istore_n (lv' := [(2, .int 1), (0, .ref (q 0)), (1, .int a0)]) hx hb (dk DX12_parsed 7 rfl) rfl hl (by decide) rfl (fun ls hl => ?_)
    exact h _ _ hP hD hS ls (lv_sub hl [1, 2, 0] rfl)
  · rintro (⟨x1, x2⟩ | ⟨x1, x2⟩) S hB
    · exact h_parsed_0 X hr hlocks (hK0 := fun _ _ _ h => h) (hK1 := fun _ _ _ h => h) x1 x2 S hB
    · exact h_parsed_1 X hr hlocks (hK0 := fun _ _ _ h => h) (hK1 := fun _ _ _ h => h) x1 x2 S hB

def ww_sortOf : List Cond := .code yX12_sortOf cX12_sortOf 1 (some .int) :: (WdM ++ wsX120)
theorem q_sortOf : yX12_sortOf.cls = RX12 ∧ yX12_sortOf.cls ≠ "java/lang/invoke/MethodHandle" ∧ yX12_sortOf.cls ≠ "java/lang/invoke/VarHandle" ∧ (parseMethodDescriptor yX12_sortOf.desc).map (fun d => d.parameters.length) = some 0 := by decide +kernel
def VC_sortOf (Post : Int32 → MS → Prop) (S : MS) : Prop := VC_w5 (fun r1 => VC_isWord (fun r3 S2 => ((r3 = 0 → VC_w4 (fun r4 => VC_isWord (fun r6 S5 => ((r6 = 0 → VC_w3 (fun r7 => VC_w4 (fun r8 => VC_isWord (fun r10 S9 => ((r10 = 0 → VC_w5 (fun r11 => VC_isWord (fun r13 S12 => ((r13 = 0 → VC_w5 (fun r14 => VC_isWord (fun r16 S15 => ((r16 = 0 → VC_w4 (fun r17 => VC_isWord (fun r19 S18 => ((r19 = 0 → VC_w4 (fun r20 => VC_isWord (fun r22 S21 => ((r22 = 0 → Post (-1) S21) ∧ (¬ r22 = 0 → Post 6 S21))) r20 S18) 119 97 105 116) ∧ (¬ r19 = 0 → Post 5 S18))) r17 S15) 98 108 111 119) ∧ (¬ r16 = 0 → Post 4 S15))) r14 S12) 98 101 103 105 110) ∧ (¬ r13 = 0 → Post 3 S12))) r11 S9) 115 104 97 114 101) ∧ (¬ r10 = 0 → Post 2 S9))) ((r7 <<< ((32 : Int32).toInt64 &&& 63)) ||| r8) S5) 116 116 108 101) 98 114 105) ∧ (¬ r6 = 0 → Post 1 S5))) r4 S2) 99 111 115 116) ∧ (¬ r3 = 0 → Post 0 S2))) r1 S) 115 109 111 107 101
set_option maxHeartbeats 4000000 in
set_option maxRecDepth 100000 in
theorem m_sortOf {l : Launch} {dC : Nat → ClassId} {dI : Nat → Nat → Nat} {q : Nat → Nat} {cI cJ cZ : ClassId} {sz : Nat} {Post : Int32 → MS → Prop} (S : MS) (h : VC_sortOf Post S) : Met l yX12_sortOf ww_sortOf ({ frames := 2, cells := 0, slots := 0, locals := 46 } : Room) (va_Pc [.ref (q 0)] (preM dC dI q cI cJ cZ S sz)) (va_Qi Post (atM dC dI q cI cJ cZ (va_A (wM q cI cJ cZ S) sz)) (va_A (wM q cI cJ cZ S) sz)) 0 0 (va_A (wM q cI cJ cZ S) sz) := by
  refine oM (cc := cX12_sortOf) (maxL := 1) (ret := (some .int)) (Qc := fun A => va_Qi Post (atM dC dI q cI cJ cZ A) A) (by decide) rfl (fun w h => List.mem_cons_of_mem _ (List.mem_append_right _ h)) rfl (Nat.le_of_ble_eq_true rfl) (fun p e s m below meth c A ls X hr hlocks hP hD hS hl => ?_)
  have hx := X.1
  have hb := X.2.1
  have hl : lv_has ls 1 [(0, .ref (q 0))] := hl
  dsimp only [VC_sortOf] at h
  refine lv_aload_n hx hb (dk DX12_sortOf 0 rfl) rfl (lv_at hl 0 rfl) ?_
  refine lv_bipush (v := 115) hx hb (dk DX12_sortOf 1 rfl) (by decide) ?_
  refine lv_bipush (v := 109) hx hb (dk DX12_sortOf 2 rfl) (by decide) ?_
  refine lv_bipush (v := 111) hx hb (dk DX12_sortOf 3 rfl) (by decide) ?_
  refine lv_bipush (v := 107) hx hb (dk DX12_sortOf 4 rfl) (by decide) ?_
  refine lv_bipush (v := 101) hx hb (dk DX12_sortOf 5 rfl) (by decide) ?_
  refine cSl (As := [.int 115, .int 109, .int 111, .int 107, .int 101]) (rest := [.ref (q 0)]) ⟨X.1, X.2.1, X.2.2.1, X.2.2.2.1, X.2.2.2.2.1⟩ (m_w5 (l := l) 115 109 111 107 101 h) (va_cwS 5 X.2.2.2.2.1 (gwS 88 89 24 83 rfl rfl rfl rfl) rfl rfl rfl q_w5 ⟨Nat.le_of_ble_eq_true rfl, Nat.le_of_ble_eq_true rfl⟩) rfl hl.1 rfl (Nat.le_of_ble_eq_true rfl) (dk DX12_sortOf 6 rfl) (fun r1 h => ?_)
  refine cMi (As := [.long r1]) (rest := []) X (m_isWord (l := l) (dC := dC) (dI := dI) (q := q) (cI := cI) (cJ := cJ) (cZ := cZ) (sz := _) r1 S h) (cwV 1 X.2.2.2.2.1 (gwV 150 151 152 24 90 rfl rfl rfl rfl rfl) rfl rfl rfl q_isWord ⟨Nat.le_of_ble_eq_true rfl, Nat.le_of_ble_eq_true rfl⟩) hP hD hS rfl hl.1 rfl (Nat.le_of_ble_eq_true rfl) (dk DX12_sortOf 7 rfl) (fun r3 S2 H locs h hP hD hS => ?_)
  refine lv_if_eq (tgt := 22) hx hb (dk DX12_sortOf 8 rfl) (by decide) (fun hc => ?_) (fun hc => ?_)
  · have h := h.1 hc
    refine lv_aload_n hx hb (dk DX12_sortOf 11 rfl) rfl (lv_at hl 0 rfl) ?_
    refine lv_bipush (v := 99) hx hb (dk DX12_sortOf 12 rfl) (by decide) ?_
    refine lv_bipush (v := 111) hx hb (dk DX12_sortOf 13 rfl) (by decide) ?_
    refine lv_bipush (v := 115) hx hb (dk DX12_sortOf 14 rfl) (by decide) ?_
    refine lv_bipush (v := 116) hx hb (dk DX12_sortOf 15 rfl) (by decide) ?_
    refine cSl (As := [.int 99, .int 111, .int 115, .int 116]) (rest := [.ref (q 0)]) ⟨X.1, X.2.1, X.2.2.1, X.2.2.2.1, X.2.2.2.2.1⟩ (m_w4 (l := l) 99 111 115 116 h) (va_cwS 4 X.2.2.2.2.1 (gwS 127 128 24 86 rfl rfl rfl rfl) rfl rfl rfl q_w4 ⟨Nat.le_of_ble_eq_true rfl, Nat.le_of_ble_eq_true rfl⟩) rfl hl.1 rfl (Nat.le_of_ble_eq_true rfl) (dk DX12_sortOf 16 rfl) (fun r4 h => ?_)
    refine cMi (As := [.long r4]) (rest := []) X (m_isWord (l := l) (dC := dC) (dI := dI) (q := q) (cI := cI) (cJ := cJ) (cZ := cZ) (sz := _) r4 S2 h) (cwV 1 X.2.2.2.2.1 (gwV 150 151 152 24 90 rfl rfl rfl rfl rfl) rfl rfl rfl q_isWord ⟨Nat.le_of_ble_eq_true rfl, Nat.le_of_ble_eq_true rfl⟩) hP hD hS rfl hl.1 rfl (Nat.le_of_ble_eq_true rfl) (dk DX12_sortOf 17 rfl) (fun r6 S5 H locs h hP hD hS => ?_)
    refine lv_if_eq (tgt := 42) hx hb (dk DX12_sortOf 18 rfl) (by decide) (fun hc => ?_) (fun hc => ?_)
    · have h := h.1 hc
      refine lv_aload_n hx hb (dk DX12_sortOf 21 rfl) rfl (lv_at hl 0 rfl) ?_
      refine lv_bipush (v := 98) hx hb (dk DX12_sortOf 22 rfl) (by decide) ?_
      refine lv_bipush (v := 114) hx hb (dk DX12_sortOf 23 rfl) (by decide) ?_
      refine lv_bipush (v := 105) hx hb (dk DX12_sortOf 24 rfl) (by decide) ?_
      refine cSl (As := [.int 98, .int 114, .int 105]) (rest := [.ref (q 0)]) ⟨X.1, X.2.1, X.2.2.1, X.2.2.2.1, X.2.2.2.2.1⟩ (m_w3 (l := l) 98 114 105 h) (va_cwS 3 X.2.2.2.2.1 (gwS 84 85 24 82 rfl rfl rfl rfl) rfl rfl rfl q_w3 ⟨Nat.le_of_ble_eq_true rfl, Nat.le_of_ble_eq_true rfl⟩) rfl hl.1 rfl (Nat.le_of_ble_eq_true rfl) (dk DX12_sortOf 25 rfl) (fun r7 h => ?_)
      refine lv_bipush (v := 32) hx hb (dk DX12_sortOf 26 rfl) (by decide) ?_
      refine lv_lshl hx hb (dk DX12_sortOf 27 rfl) rfl ?_
      refine lv_bipush (v := 116) hx hb (dk DX12_sortOf 28 rfl) (by decide) ?_
      refine lv_bipush (v := 116) hx hb (dk DX12_sortOf 29 rfl) (by decide) ?_
      refine lv_bipush (v := 108) hx hb (dk DX12_sortOf 30 rfl) (by decide) ?_
      refine lv_bipush (v := 101) hx hb (dk DX12_sortOf 31 rfl) (by decide) ?_
      refine cSl (As := [.int 116, .int 116, .int 108, .int 101]) (rest := [.long (r7 <<< ((32 : Int32).toInt64 &&& 63)), .ref (q 0)]) ⟨X.1, X.2.1, X.2.2.1, X.2.2.2.1, X.2.2.2.2.1⟩ (m_w4 (l := l) 116 116 108 101 h) (va_cwS 4 X.2.2.2.2.1 (gwS 127 128 24 86 rfl rfl rfl rfl) rfl rfl rfl q_w4 ⟨Nat.le_of_ble_eq_true rfl, Nat.le_of_ble_eq_true rfl⟩) rfl hl.1 rfl (Nat.le_of_ble_eq_true rfl) (dk DX12_sortOf 32 rfl) (fun r8 h => ?_)
      refine lv_lor hx hb (dk DX12_sortOf 33 rfl) ?_
      refine cMi (As := [.long ((r7 <<< ((32 : Int32).toInt64 &&& 63)) ||| r8)]) (rest := []) X (m_isWord (l := l) (dC := dC) (dI := dI) (q := q) (cI := cI) (cJ := cJ) (cZ := cZ) (sz := _) ((r7 <<< ((32 : Int32).toInt64 &&& 63)) ||| r8) S5 h) (cwV 1 X.2.2.2.2.1 (gwV 150 151 152 24 90 rfl rfl rfl rfl rfl) rfl rfl rfl q_isWord ⟨Nat.le_of_ble_eq_true rfl, Nat.le_of_ble_eq_true rfl⟩) hP hD hS rfl hl.1 rfl (Nat.le_of_ble_eq_true rfl) (dk DX12_sortOf 34 rfl) (fun r10 S9 H locs h hP hD hS => ?_)
      refine lv_if_eq (tgt := 75) hx hb (dk DX12_sortOf 35 rfl) (by decide) (fun hc => ?_) (fun hc => ?_)
      · have h := h.1 hc
        refine lv_aload_n hx hb (dk DX12_sortOf 38 rfl) rfl (lv_at hl 0 rfl) ?_
        refine lv_bipush (v := 115) hx hb (dk DX12_sortOf 39 rfl) (by decide) ?_
        refine lv_bipush (v := 104) hx hb (dk DX12_sortOf 40 rfl) (by decide) ?_
        refine lv_bipush (v := 97) hx hb (dk DX12_sortOf 41 rfl) (by decide) ?_
        refine lv_bipush (v := 114) hx hb (dk DX12_sortOf 42 rfl) (by decide) ?_
        refine lv_bipush (v := 101) hx hb (dk DX12_sortOf 43 rfl) (by decide) ?_
        refine cSl (As := [.int 115, .int 104, .int 97, .int 114, .int 101]) (rest := [.ref (q 0)]) ⟨X.1, X.2.1, X.2.2.1, X.2.2.2.1, X.2.2.2.2.1⟩ (m_w5 (l := l) 115 104 97 114 101 h) (va_cwS 5 X.2.2.2.2.1 (gwS 88 89 24 83 rfl rfl rfl rfl) rfl rfl rfl q_w5 ⟨Nat.le_of_ble_eq_true rfl, Nat.le_of_ble_eq_true rfl⟩) rfl hl.1 rfl (Nat.le_of_ble_eq_true rfl) (dk DX12_sortOf 44 rfl) (fun r11 h => ?_)
        refine cMi (As := [.long r11]) (rest := []) X (m_isWord (l := l) (dC := dC) (dI := dI) (q := q) (cI := cI) (cJ := cJ) (cZ := cZ) (sz := _) r11 S9 h) (cwV 1 X.2.2.2.2.1 (gwV 150 151 152 24 90 rfl rfl rfl rfl rfl) rfl rfl rfl q_isWord ⟨Nat.le_of_ble_eq_true rfl, Nat.le_of_ble_eq_true rfl⟩) hP hD hS rfl hl.1 rfl (Nat.le_of_ble_eq_true rfl) (dk DX12_sortOf 45 rfl) (fun r13 S12 H locs h hP hD hS => ?_)
        refine lv_if_eq (tgt := 97) hx hb (dk DX12_sortOf 46 rfl) (by decide) (fun hc => ?_) (fun hc => ?_)
        · have h := h.1 hc
          refine lv_aload_n hx hb (dk DX12_sortOf 49 rfl) rfl (lv_at hl 0 rfl) ?_
          refine lv_bipush (v := 98) hx hb (dk DX12_sortOf 50 rfl) (by decide) ?_
          refine lv_bipush (v := 101) hx hb (dk DX12_sortOf 51 rfl) (by decide) ?_
          refine lv_bipush (v := 103) hx hb (dk DX12_sortOf 52 rfl) (by decide) ?_
          refine lv_bipush (v := 105) hx hb (dk DX12_sortOf 53 rfl) (by decide) ?_
          refine lv_bipush (v := 110) hx hb (dk DX12_sortOf 54 rfl) (by decide) ?_
          refine cSl (As := [.int 98, .int 101, .int 103, .int 105, .int 110]) (rest := [.ref (q 0)]) ⟨X.1, X.2.1, X.2.2.1, X.2.2.2.1, X.2.2.2.2.1⟩ (m_w5 (l := l) 98 101 103 105 110 h) (va_cwS 5 X.2.2.2.2.1 (gwS 88 89 24 83 rfl rfl rfl rfl) rfl rfl rfl q_w5 ⟨Nat.le_of_ble_eq_true rfl, Nat.le_of_ble_eq_true rfl⟩) rfl hl.1 rfl (Nat.le_of_ble_eq_true rfl) (dk DX12_sortOf 55 rfl) (fun r14 h => ?_)
          refine cMi (As := [.long r14]) (rest := []) X (m_isWord (l := l) (dC := dC) (dI := dI) (q := q) (cI := cI) (cJ := cJ) (cZ := cZ) (sz := _) r14 S12 h) (cwV 1 X.2.2.2.2.1 (gwV 150 151 152 24 90 rfl rfl rfl rfl rfl) rfl rfl rfl q_isWord ⟨Nat.le_of_ble_eq_true rfl, Nat.le_of_ble_eq_true rfl⟩) hP hD hS rfl hl.1 rfl (Nat.le_of_ble_eq_true rfl) (dk DX12_sortOf 56 rfl) (fun r16 S15 H locs h hP hD hS => ?_)
          refine lv_if_eq (tgt := 119) hx hb (dk DX12_sortOf 57 rfl) (by decide) (fun hc => ?_) (fun hc => ?_)
          · have h := h.1 hc
            refine lv_aload_n hx hb (dk DX12_sortOf 60 rfl) rfl (lv_at hl 0 rfl) ?_
            refine lv_bipush (v := 98) hx hb (dk DX12_sortOf 61 rfl) (by decide) ?_
            refine lv_bipush (v := 108) hx hb (dk DX12_sortOf 62 rfl) (by decide) ?_
            refine lv_bipush (v := 111) hx hb (dk DX12_sortOf 63 rfl) (by decide) ?_
            refine lv_bipush (v := 119) hx hb (dk DX12_sortOf 64 rfl) (by decide) ?_
            refine cSl (As := [.int 98, .int 108, .int 111, .int 119]) (rest := [.ref (q 0)]) ⟨X.1, X.2.1, X.2.2.1, X.2.2.2.1, X.2.2.2.2.1⟩ (m_w4 (l := l) 98 108 111 119 h) (va_cwS 4 X.2.2.2.2.1 (gwS 127 128 24 86 rfl rfl rfl rfl) rfl rfl rfl q_w4 ⟨Nat.le_of_ble_eq_true rfl, Nat.le_of_ble_eq_true rfl⟩) rfl hl.1 rfl (Nat.le_of_ble_eq_true rfl) (dk DX12_sortOf 65 rfl) (fun r17 h => ?_)
            refine cMi (As := [.long r17]) (rest := []) X (m_isWord (l := l) (dC := dC) (dI := dI) (q := q) (cI := cI) (cJ := cJ) (cZ := cZ) (sz := _) r17 S15 h) (cwV 1 X.2.2.2.2.1 (gwV 150 151 152 24 90 rfl rfl rfl rfl rfl) rfl rfl rfl q_isWord ⟨Nat.le_of_ble_eq_true rfl, Nat.le_of_ble_eq_true rfl⟩) hP hD hS rfl hl.1 rfl (Nat.le_of_ble_eq_true rfl) (dk DX12_sortOf 66 rfl) (fun r19 S18 H locs h hP hD hS => ?_)
            refine lv_if_eq (tgt := 141) hx hb (dk DX12_sortOf 67 rfl) (by decide) (fun hc => ?_) (fun hc => ?_)
            · have h := h.1 hc
              refine lv_aload_n hx hb (dk DX12_sortOf 70 rfl) rfl (lv_at hl 0 rfl) ?_
              refine lv_bipush (v := 119) hx hb (dk DX12_sortOf 71 rfl) (by decide) ?_
              refine lv_bipush (v := 97) hx hb (dk DX12_sortOf 72 rfl) (by decide) ?_
              refine lv_bipush (v := 105) hx hb (dk DX12_sortOf 73 rfl) (by decide) ?_
              refine lv_bipush (v := 116) hx hb (dk DX12_sortOf 74 rfl) (by decide) ?_
              refine cSl (As := [.int 119, .int 97, .int 105, .int 116]) (rest := [.ref (q 0)]) ⟨X.1, X.2.1, X.2.2.1, X.2.2.2.1, X.2.2.2.2.1⟩ (m_w4 (l := l) 119 97 105 116 h) (va_cwS 4 X.2.2.2.2.1 (gwS 127 128 24 86 rfl rfl rfl rfl) rfl rfl rfl q_w4 ⟨Nat.le_of_ble_eq_true rfl, Nat.le_of_ble_eq_true rfl⟩) rfl hl.1 rfl (Nat.le_of_ble_eq_true rfl) (dk DX12_sortOf 75 rfl) (fun r20 h => ?_)
              refine cMi (As := [.long r20]) (rest := []) X (m_isWord (l := l) (dC := dC) (dI := dI) (q := q) (cI := cI) (cJ := cJ) (cZ := cZ) (sz := _) r20 S18 h) (cwV 1 X.2.2.2.2.1 (gwV 150 151 152 24 90 rfl rfl rfl rfl rfl) rfl rfl rfl q_isWord ⟨Nat.le_of_ble_eq_true rfl, Nat.le_of_ble_eq_true rfl⟩) hP hD hS rfl hl.1 rfl (Nat.le_of_ble_eq_true rfl) (dk DX12_sortOf 76 rfl) (fun r22 S21 H locs h hP hD hS => ?_)
              refine lv_if_eq (tgt := 164) hx hb (dk DX12_sortOf 77 rfl) (by decide) (fun hc => ?_) (fun hc => ?_)
              · have h := h.1 hc
                refine lv_iconst (v := (-1)) hx hb (dk DX12_sortOf 80 rfl) (by decide) ?_
                exact W.iret (v := (-1)) hx hb hr (fun t ht hW => ⟨⟨_, _, rfl, h, by rw [ht]; exact hP, va_K.moved hW.alike X.2.2.2.2.2.2.1, hD⟩, hS.F ht⟩) hS.2.2 (dk DX12_sortOf 81 rfl)
              · have h := h.2 hc
                refine lv_bipush (v := 6) hx hb (dk DX12_sortOf 78 rfl) (by decide) ?_
                refine lv_goto (tgt := 165) hx hb (dk DX12_sortOf 79 rfl) (by decide) ?_
                exact W.iret (v := 6) hx hb hr (fun t ht hW => ⟨⟨_, _, rfl, h, by rw [ht]; exact hP, va_K.moved hW.alike X.2.2.2.2.2.2.1, hD⟩, hS.F ht⟩) hS.2.2 (dk DX12_sortOf 81 rfl)
            · have h := h.2 hc
              refine lv_iconst (v := 5) hx hb (dk DX12_sortOf 68 rfl) (by decide) ?_
              refine lv_goto (tgt := 165) hx hb (dk DX12_sortOf 69 rfl) (by decide) ?_
              exact W.iret (v := 5) hx hb hr (fun t ht hW => ⟨⟨_, _, rfl, h, by rw [ht]; exact hP, va_K.moved hW.alike X.2.2.2.2.2.2.1, hD⟩, hS.F ht⟩) hS.2.2 (dk DX12_sortOf 81 rfl)
          · have h := h.2 hc
            refine lv_iconst (v := 4) hx hb (dk DX12_sortOf 58 rfl) (by decide) ?_
            exact W.iret (v := 4) hx hb hr (fun t ht hW => ⟨⟨_, _, rfl, h, by rw [ht]; exact hP, va_K.moved hW.alike X.2.2.2.2.2.2.1, hD⟩, hS.F ht⟩) hS.2.2 (dk DX12_sortOf 59 rfl)
        · have h := h.2 hc
          refine lv_iconst (v := 3) hx hb (dk DX12_sortOf 47 rfl) (by decide) ?_
          exact W.iret (v := 3) hx hb hr (fun t ht hW => ⟨⟨_, _, rfl, h, by rw [ht]; exact hP, va_K.moved hW.alike X.2.2.2.2.2.2.1, hD⟩, hS.F ht⟩) hS.2.2 (dk DX12_sortOf 48 rfl)
      · have h := h.2 hc
        refine lv_iconst (v := 2) hx hb (dk DX12_sortOf 36 rfl) (by decide) ?_
        exact W.iret (v := 2) hx hb hr (fun t ht hW => ⟨⟨_, _, rfl, h, by rw [ht]; exact hP, va_K.moved hW.alike X.2.2.2.2.2.2.1, hD⟩, hS.F ht⟩) hS.2.2 (dk DX12_sortOf 37 rfl)
    · have h := h.2 hc
      refine lv_iconst (v := 1) hx hb (dk DX12_sortOf 19 rfl) (by decide) ?_
      exact W.iret (v := 1) hx hb hr (fun t ht hW => ⟨⟨_, _, rfl, h, by rw [ht]; exact hP, va_K.moved hW.alike X.2.2.2.2.2.2.1, hD⟩, hS.F ht⟩) hS.2.2 (dk DX12_sortOf 20 rfl)
  · have h := h.2 hc
    refine lv_iconst (v := 0) hx hb (dk DX12_sortOf 9 rfl) (by decide) ?_
    exact W.iret (v := 0) hx hb hr (fun t ht hW => ⟨⟨_, _, rfl, h, by rw [ht]; exact hP, va_K.moved hW.alike X.2.2.2.2.2.2.1, hD⟩, hS.F ht⟩) hS.2.2 (dk DX12_sortOf 10 rfl)

def ww_figure : List Cond := .code yX12_figure cX12_figure 4 (some .int) :: (WdM ++ wsX120)
theorem q_figure : yX12_figure.cls = RX12 ∧ yX12_figure.cls ≠ "java/lang/invoke/MethodHandle" ∧ yX12_figure.cls ≠ "java/lang/invoke/VarHandle" ∧ (parseMethodDescriptor yX12_figure.desc).map (fun d => d.parameters.length) = some 3 := by decide +kernel
def VC_figure (Post : Int32 → MS → Prop) (a0 : Int32) (a1 : Int32) (a2 : Int32) (S : MS) : Prop := (((S.1 9) = 1 → VC_isIn (fun r1 => ((¬ r1 = 0 → ∀ v2 : Int32, v2 = (S.1 10) → vp_in a0 2720 ∧ ∀ S3 : MS, S3 = sF S 2 (upd (S.2.2.1 2) a0.toNatClampNeg v2) → VC_nextToken (fun S4 => Post 0 S4) S3) ∧ (r1 = 0 → Post 2 S))) (S.1 10) a1 a2) ∧ (¬ (S.1 9) = 1 → Post 1 S))
set_option maxHeartbeats 4000000 in
set_option maxRecDepth 100000 in
theorem m_figure {l : Launch} {dC : Nat → ClassId} {dI : Nat → Nat → Nat} {q : Nat → Nat} {cI cJ cZ : ClassId} {sz : Nat} {Post : Int32 → MS → Prop} (a0 : Int32) (a1 : Int32) (a2 : Int32) (S : MS) (h : VC_figure Post a0 a1 a2 S) : Met l yX12_figure ww_figure ({ frames := 3, cells := 0, slots := 0, locals := 64 } : Room) (va_Pc [.ref (q 0), .int a0, .int a1, .int a2] (preM dC dI q cI cJ cZ S sz)) (va_Qi Post (atM dC dI q cI cJ cZ (va_A (wM q cI cJ cZ S) sz)) (va_A (wM q cI cJ cZ S) sz)) 0 0 (va_A (wM q cI cJ cZ S) sz) := by
  refine oM (cc := cX12_figure) (maxL := 4) (ret := (some .int)) (Qc := fun A => va_Qi Post (atM dC dI q cI cJ cZ A) A) (by decide) rfl (fun w h => List.mem_cons_of_mem _ (List.mem_append_right _ h)) rfl (Nat.le_of_ble_eq_true rfl) (fun p e s m below meth c A ls X hr hlocks hP hD hS hl => ?_)
  have hx := X.1
  have hb := X.2.1
  have hl : lv_has ls 4 [(0, .ref (q 0)), (1, .int a0), (2, .int a1), (3, .int a2)] := hl
  have lk102 := X.2.2.2.2.1 (.fieldLink RX12 102 "BreathOnLoanModel" "token" "I") (inW 71 rfl)
  have lk108 := X.2.2.2.2.1 (.fieldLink RX12 108 "BreathOnLoanModel" "number" "I") (inW 72 rfl)
  have lk16 := X.2.2.2.2.1 (.fieldLink RX12 16 "BreathOnLoanModel" "texts" "[I") (inW 7 rfl)
  dsimp only [VC_figure] at h
  refine lv_aload_n hx hb (dk DX12_figure 0 rfl) rfl (lv_at hl 0 rfl) ?_
  refine gM X hP 9 (by decide) rfl lk102 (dk DX12_figure 1 rfl) ?_
  refine lv_iconst (v := 1) hx hb (dk DX12_figure 2 rfl) (by decide) ?_
  refine lv_icmp_eq (tgt := 10) hx hb (dk DX12_figure 3 rfl) (by decide) (fun hc => ?_) (fun hc => ?_)
  · have h := h.1 hc
    refine lv_aload_n hx hb (dk DX12_figure 6 rfl) rfl (lv_at hl 0 rfl) ?_
    refine gM X hP 10 (by decide) rfl lk108 (dk DX12_figure 7 rfl) ?_
    refine lv_iload_n hx hb (dk DX12_figure 8 rfl) rfl (lv_at hl 2 rfl) ?_
    refine lv_iload_n hx hb (dk DX12_figure 9 rfl) rfl (lv_at hl 3 rfl) ?_
    refine cSi (As := [.int (S.1 10), .int a1, .int a2]) (rest := []) ⟨X.1, X.2.1, X.2.2.1, X.2.2.2.1, X.2.2.2.2.1⟩ (m_isIn (l := l) (S.1 10) a1 a2 h) (va_cwS 3 X.2.2.2.2.1 (gwS 31 32 24 26 rfl rfl rfl rfl) rfl rfl rfl q_isIn ⟨Nat.le_of_ble_eq_true rfl, Nat.le_of_ble_eq_true rfl⟩) rfl hl.1 rfl (Nat.le_of_ble_eq_true rfl) (dk DX12_figure 10 rfl) (fun r1 h => ?_)
    refine lv_if_ne (tgt := 24) hx hb (dk DX12_figure 11 rfl) (by decide) (fun hc => ?_) (fun hc => ?_)
    · have h := h.1 hc
      refine lv_aload_n hx hb (dk DX12_figure 14 rfl) rfl (lv_at hl 0 rfl) ?_
      refine gM X hP 2 (by decide) rfl lk16 (dk DX12_figure 15 rfl) ?_
      refine lv_iload_n hx hb (dk DX12_figure 16 rfl) rfl (lv_at hl 1 rfl) ?_
      refine lv_aload_n hx hb (dk DX12_figure 17 rfl) rfl (lv_at hl 0 rfl) ?_
      refine gM X hP 10 (by decide) rfl lk108 (dk DX12_figure 18 rfl) ?_
      refine lv_topi (fun v2 ev2 => ?_)
      have h := h v2 ev2
      obtain ⟨hin, h⟩ := h
      refine stM_2 X hP hD hS hin (dk DX12_figure 19 rfl) (fun S3 eS3 H locs hP hD hS => ?_)
      have h := h S3 eS3
      refine lv_aload_n hx hb (dk DX12_figure 20 rfl) rfl (lv_at hl 0 rfl) ?_
      refine cMv (As := []) (rest := []) X (m_nextToken (l := l) (dC := dC) (dI := dI) (q := q) (cI := cI) (cJ := cJ) (cZ := cZ) (sz := _) S3 h) (cwV 0 X.2.2.2.2.1 (gwV 122 123 124 24 68 rfl rfl rfl rfl rfl) rfl rfl rfl q_nextToken ⟨Nat.le_of_ble_eq_true rfl, Nat.le_of_ble_eq_true rfl⟩) hP hD hS rfl hl.1 rfl (Nat.le_of_ble_eq_true rfl) (dk DX12_figure 21 rfl) (fun S4 H locs h hP hD hS => ?_)
      refine lv_iconst (v := 0) hx hb (dk DX12_figure 22 rfl) (by decide) ?_
      exact W.iret (v := 0) hx hb hr (fun t ht hW => ⟨⟨_, _, rfl, h, by rw [ht]; exact hP, va_K.moved hW.alike X.2.2.2.2.2.2.1, hD⟩, hS.F ht⟩) hS.2.2 (dk DX12_figure 23 rfl)
    · have h := h.2 hc
      refine lv_iconst (v := 2) hx hb (dk DX12_figure 12 rfl) (by decide) ?_
      exact W.iret (v := 2) hx hb hr (fun t ht hW => ⟨⟨_, _, rfl, h, by rw [ht]; exact hP, va_K.moved hW.alike X.2.2.2.2.2.2.1, hD⟩, hS.F ht⟩) hS.2.2 (dk DX12_figure 13 rfl)
  · have h := h.2 hc
    refine lv_iconst (v := 1) hx hb (dk DX12_figure 4 rfl) (by decide) ?_
    exact W.iret (v := 1) hx hb hr (fun t ht hW => ⟨⟨_, _, rfl, h, by rw [ht]; exact hP, va_K.moved hW.alike X.2.2.2.2.2.2.1, hD⟩, hS.F ht⟩) hS.2.2 (dk DX12_figure 5 rfl)

def ww_blown : List Cond := .code yX12_blown cX12_blown 4 (some .int) :: (WdM ++ wsX120)
theorem q_blown : yX12_blown.cls = RX12 ∧ yX12_blown.cls ≠ "java/lang/invoke/MethodHandle" ∧ yX12_blown.cls ≠ "java/lang/invoke/VarHandle" ∧ (parseMethodDescriptor yX12_blown.desc).map (fun d => d.parameters.length) = some 1 := by decide +kernel
def VC_blown (Post : Int32 → MS → Prop) (a0 : Int32) (S : MS) : Prop := VC_figure (fun r2 S1 => ((r2 = 0 → ((¬ (S1.1 9) = 2 → Post 1 S1) ∧ ((S1.1 9) = 2 → (((lg_cmp (S1.2.1) (25209)) = 0 → VC_nextToken (fun S3 => VC_figure (fun r5 S4 => ((r5 = 0 → VC_w4 (fun r6 => VC_isWord (fun r8 S7 => ((¬ r8 = 0 → VC_nextToken (fun S9 => vp_in (a0 + 2) 2720 ∧ ∀ v10 : Int32, v10 = (S9.2.2.1 2) (a0 + 2).toNatClampNeg → VC_figure (fun r12 S11 => vp_in (a0 + 2) 2720 ∧ ∀ v13 : Int32, v13 = ((S11.2.2.1 2) (a0 + 2).toNatClampNeg) + (10 * v10) → vp_in (a0 + 2) 2720 ∧ ∀ S14 : MS, S14 = sF S11 2 (upd (S11.2.2.1 2) (a0 + 2).toNatClampNeg v13) → Post r12 S14) (a0 + 2) 1 9 S9) S7) ∧ (r8 = 0 → Post 1 S7))) r6 S4) 103 105 118 101) ∧ (¬ r5 = 0 → Post r5 S4))) (a0 + 2) 0 5 S3) S1) ∧ (¬ (lg_cmp (S1.2.1) (25209)) = 0 → Post 1 S1))))) ∧ (¬ r2 = 0 → Post r2 S1))) (a0 + 1) 0 9 S
set_option maxHeartbeats 4000000 in
set_option maxRecDepth 100000 in
theorem m_blown {l : Launch} {dC : Nat → ClassId} {dI : Nat → Nat → Nat} {q : Nat → Nat} {cI cJ cZ : ClassId} {sz : Nat} {Post : Int32 → MS → Prop} (a0 : Int32) (S : MS) (h : VC_blown Post a0 S) : Met l yX12_blown ww_blown ({ frames := 4, cells := 0, slots := 0, locals := 87 } : Room) (va_Pc [.ref (q 0), .int a0] (preM dC dI q cI cJ cZ S sz)) (va_Qi Post (atM dC dI q cI cJ cZ (va_A (wM q cI cJ cZ S) sz)) (va_A (wM q cI cJ cZ S) sz)) 0 0 (va_A (wM q cI cJ cZ S) sz) := by
  refine oM (cc := cX12_blown) (maxL := 4) (ret := (some .int)) (Qc := fun A => va_Qi Post (atM dC dI q cI cJ cZ A) A) (by decide) rfl (fun w h => List.mem_cons_of_mem _ (List.mem_append_right _ h)) rfl (Nat.le_of_ble_eq_true rfl) (fun p e s m below meth c A ls X hr hlocks hP hD hS hl => ?_)
  have hx := X.1
  have hb := X.2.1
  have hl : lv_has ls 4 [(0, .ref (q 0)), (1, .int a0)] := hl
  have lk102 := X.2.2.2.2.1 (.fieldLink RX12 102 "BreathOnLoanModel" "token" "I") (inW 71 rfl)
  have lk115 := X.2.2.2.2.1 (.fieldLink RX12 115 "BreathOnLoanModel" "word" "J") (inW 74 rfl)
  have lk16 := X.2.2.2.2.1 (.fieldLink RX12 16 "BreathOnLoanModel" "texts" "[I") (inW 7 rfl)
  dsimp only [VC_blown] at h
  refine lv_aload_n hx hb (dk DX12_blown 0 rfl) rfl (lv_at hl 0 rfl) ?_
  refine lv_iload_n hx hb (dk DX12_blown 1 rfl) rfl (lv_at hl 1 rfl) ?_
  refine lv_iconst (v := 1) hx hb (dk DX12_blown 2 rfl) (by decide) ?_
  refine lv_iadd hx hb (dk DX12_blown 3 rfl) ?_
  refine lv_iconst (v := 0) hx hb (dk DX12_blown 4 rfl) (by decide) ?_
  refine lv_bipush (v := 9) hx hb (dk DX12_blown 5 rfl) (by decide) ?_
  refine cMi (As := [.int (a0 + 1), .int 0, .int 9]) (rest := []) X (m_figure (l := l) (dC := dC) (dI := dI) (q := q) (cI := cI) (cJ := cJ) (cZ := cZ) (sz := _) (a0 + 1) 0 9 S h) (cwV 3 X.2.2.2.2.1 (gwV 180 181 182 24 178 rfl rfl rfl rfl rfl) rfl rfl rfl q_figure ⟨Nat.le_of_ble_eq_true rfl, Nat.le_of_ble_eq_true rfl⟩) hP hD hS rfl hl.1 rfl (Nat.le_of_ble_eq_true rfl) (dk DX12_blown 6 rfl) (fun r2 S1 H locs h hP hD hS => ?_)
  refine lv_istore_n (lv' := [(2, .int r2), (0, .ref (q 0)), (1, .int a0)]) hx hb (dk DX12_blown 7 rfl) rfl hl (by decide) rfl (fun ls hl => ?_)
  refine lv_iload_n hx hb (dk DX12_blown 8 rfl) rfl (lv_at hl 0 rfl) ?_
  refine lv_if_eq (tgt := 17) hx hb (dk DX12_blown 9 rfl) (by decide) (fun hc => ?_) (fun hc => ?_)
  · have h := h.1 hc
    refine lv_aload_n hx hb (dk DX12_blown 12 rfl) rfl (lv_at hl 1 rfl) ?_
    refine gM X hP 9 (by decide) rfl lk102 (dk DX12_blown 13 rfl) ?_
    refine lv_iconst (v := 2) hx hb (dk DX12_blown 14 rfl) (by decide) ?_
    refine lv_icmp_ne (tgt := 36) hx hb (dk DX12_blown 15 rfl) (by decide) (fun hc => ?_) (fun hc => ?_)
    · have h := h.1 hc
      refine lv_iconst (v := 1) hx hb (dk DX12_blown 21 rfl) (by decide) ?_
      exact W.iret (v := 1) hx hb hr (fun t ht hW => ⟨⟨_, _, rfl, h, by rw [ht]; exact hP, va_K.moved hW.alike X.2.2.2.2.2.2.1, hD⟩, hS.F ht⟩) hS.2.2 (dk DX12_blown 22 rfl)
    · have h := h.2 hc
      refine lv_aload_n hx hb (dk DX12_blown 16 rfl) rfl (lv_at hl 1 rfl) ?_
      refine gM X hP 11 (by decide) rfl lk115 (dk DX12_blown 17 rfl) ?_
      refine lv_ldc2 (v := (25209)) hx hb X.2.2.2.1 (X.2.2.2.2.1 (.constantLong RX12 225 (25209)) (inW 179 rfl)) (dk DX12_blown 18 rfl) ?_
      refine W.lcmp hx hb (dk DX12_blown 19 rfl) ?_
      refine lv_if_eq (tgt := 38) hx hb (dk DX12_blown 20 rfl) (by decide) (fun hc => ?_) (fun hc => ?_)
      · have h := h.1 hc
        refine lv_aload_n hx hb (dk DX12_blown 23 rfl) rfl (lv_at hl 1 rfl) ?_
        refine cMv (As := []) (rest := []) X (m_nextToken (l := l) (dC := dC) (dI := dI) (q := q) (cI := cI) (cJ := cJ) (cZ := cZ) (sz := _) S1 h) (cwV 0 X.2.2.2.2.1 (gwV 122 123 124 24 68 rfl rfl rfl rfl rfl) rfl rfl rfl q_nextToken ⟨Nat.le_of_ble_eq_true rfl, Nat.le_of_ble_eq_true rfl⟩) hP hD hS rfl hl.1 rfl (Nat.le_of_ble_eq_true rfl) (dk DX12_blown 24 rfl) (fun S3 H locs h hP hD hS => ?_)
        refine lv_aload_n hx hb (dk DX12_blown 25 rfl) rfl (lv_at hl 1 rfl) ?_
        refine lv_iload_n hx hb (dk DX12_blown 26 rfl) rfl (lv_at hl 2 rfl) ?_
        refine lv_iconst (v := 2) hx hb (dk DX12_blown 27 rfl) (by decide) ?_
        refine lv_iadd hx hb (dk DX12_blown 28 rfl) ?_
        refine lv_iconst (v := 0) hx hb (dk DX12_blown 29 rfl) (by decide) ?_
        refine lv_iconst (v := 5) hx hb (dk DX12_blown 30 rfl) (by decide) ?_
        refine cMi (As := [.int (a0 + 2), .int 0, .int 5]) (rest := []) X (m_figure (l := l) (dC := dC) (dI := dI) (q := q) (cI := cI) (cJ := cJ) (cZ := cZ) (sz := _) (a0 + 2) 0 5 S3 h) (cwV 3 X.2.2.2.2.1 (gwV 180 181 182 24 178 rfl rfl rfl rfl rfl) rfl rfl rfl q_figure ⟨Nat.le_of_ble_eq_true rfl, Nat.le_of_ble_eq_true rfl⟩) hP hD hS rfl hl.1 rfl (Nat.le_of_ble_eq_true rfl) (dk DX12_blown 31 rfl) (fun r5 S4 H locs h hP hD hS => ?_)
        refine lv_istore_n (lv' := [(2, .int r5), (0, .ref (q 0)), (1, .int a0)]) hx hb (dk DX12_blown 32 rfl) rfl hl (by decide) rfl (fun ls hl => ?_)
        refine lv_iload_n hx hb (dk DX12_blown 33 rfl) rfl (lv_at hl 0 rfl) ?_
        refine lv_if_eq (tgt := 58) hx hb (dk DX12_blown 34 rfl) (by decide) (fun hc => ?_) (fun hc => ?_)
        · have h := h.1 hc
          refine lv_aload_n hx hb (dk DX12_blown 37 rfl) rfl (lv_at hl 1 rfl) ?_
          refine lv_bipush (v := 103) hx hb (dk DX12_blown 38 rfl) (by decide) ?_
          refine lv_bipush (v := 105) hx hb (dk DX12_blown 39 rfl) (by decide) ?_
          refine lv_bipush (v := 118) hx hb (dk DX12_blown 40 rfl) (by decide) ?_
          refine lv_bipush (v := 101) hx hb (dk DX12_blown 41 rfl) (by decide) ?_
          refine cSl (As := [.int 103, .int 105, .int 118, .int 101]) (rest := [.ref (q 0)]) ⟨X.1, X.2.1, X.2.2.1, X.2.2.2.1, X.2.2.2.2.1⟩ (m_w4 (l := l) 103 105 118 101 h) (va_cwS 4 X.2.2.2.2.1 (gwS 127 128 24 86 rfl rfl rfl rfl) rfl rfl rfl q_w4 ⟨Nat.le_of_ble_eq_true rfl, Nat.le_of_ble_eq_true rfl⟩) rfl hl.1 rfl (Nat.le_of_ble_eq_true rfl) (dk DX12_blown 42 rfl) (fun r6 h => ?_)
          refine cMi (As := [.long r6]) (rest := []) X (m_isWord (l := l) (dC := dC) (dI := dI) (q := q) (cI := cI) (cJ := cJ) (cZ := cZ) (sz := _) r6 S4 h) (cwV 1 X.2.2.2.2.1 (gwV 150 151 152 24 90 rfl rfl rfl rfl rfl) rfl rfl rfl q_isWord ⟨Nat.le_of_ble_eq_true rfl, Nat.le_of_ble_eq_true rfl⟩) hP hD hS rfl hl.1 rfl (Nat.le_of_ble_eq_true rfl) (dk DX12_blown 43 rfl) (fun r8 S7 H locs h hP hD hS => ?_)
          refine lv_if_ne (tgt := 78) hx hb (dk DX12_blown 44 rfl) (by decide) (fun hc => ?_) (fun hc => ?_)
          · have h := h.1 hc
            refine lv_aload_n hx hb (dk DX12_blown 47 rfl) rfl (lv_at hl 1 rfl) ?_
            refine cMv (As := []) (rest := []) X (m_nextToken (l := l) (dC := dC) (dI := dI) (q := q) (cI := cI) (cJ := cJ) (cZ := cZ) (sz := _) S7 h) (cwV 0 X.2.2.2.2.1 (gwV 122 123 124 24 68 rfl rfl rfl rfl rfl) rfl rfl rfl q_nextToken ⟨Nat.le_of_ble_eq_true rfl, Nat.le_of_ble_eq_true rfl⟩) hP hD hS rfl hl.1 rfl (Nat.le_of_ble_eq_true rfl) (dk DX12_blown 48 rfl) (fun S9 H locs h hP hD hS => ?_)
            refine lv_aload_n hx hb (dk DX12_blown 49 rfl) rfl (lv_at hl 1 rfl) ?_
            refine gM X hP 2 (by decide) rfl lk16 (dk DX12_blown 50 rfl) ?_
            refine lv_iload_n hx hb (dk DX12_blown 51 rfl) rfl (lv_at hl 2 rfl) ?_
            refine lv_iconst (v := 2) hx hb (dk DX12_blown 52 rfl) (by decide) ?_
            refine lv_iadd hx hb (dk DX12_blown 53 rfl) ?_
            obtain ⟨hin, h⟩ := h
            refine ldM X hP 3 rfl hin (dk DX12_blown 54 rfl) ?_
            refine lv_topi (fun v10 ev10 => ?_)
            have h := h v10 ev10
            refine lv_istore_n (lv' := [(3, .int v10), (2, .int r5), (0, .ref (q 0)), (1, .int a0)]) hx hb (dk DX12_blown 55 rfl) rfl hl (by decide) rfl (fun ls hl => ?_)
            refine lv_aload_n hx hb (dk DX12_blown 56 rfl) rfl (lv_at hl 2 rfl) ?_
            refine lv_iload_n hx hb (dk DX12_blown 57 rfl) rfl (lv_at hl 3 rfl) ?_
            refine lv_iconst (v := 2) hx hb (dk DX12_blown 58 rfl) (by decide) ?_
            refine lv_iadd hx hb (dk DX12_blown 59 rfl) ?_
            refine lv_iconst (v := 1) hx hb (dk DX12_blown 60 rfl) (by decide) ?_
            refine lv_bipush (v := 9) hx hb (dk DX12_blown 61 rfl) (by decide) ?_
            refine cMi (As := [.int (a0 + 2), .int 1, .int 9]) (rest := []) X (m_figure (l := l) (dC := dC) (dI := dI) (q := q) (cI := cI) (cJ := cJ) (cZ := cZ) (sz := _) (a0 + 2) 1 9 S9 h) (cwV 3 X.2.2.2.2.1 (gwV 180 181 182 24 178 rfl rfl rfl rfl rfl) rfl rfl rfl q_figure ⟨Nat.le_of_ble_eq_true rfl, Nat.le_of_ble_eq_true rfl⟩) hP hD hS rfl hl.1 rfl (Nat.le_of_ble_eq_true rfl) (dk DX12_blown 62 rfl) (fun r12 S11 H locs h hP hD hS => ?_)
            refine lv_istore_n (lv' := [(2, .int r12), (3, .int v10), (0, .ref (q 0)), (1, .int a0)]) hx hb (dk DX12_blown 63 rfl) rfl hl (by decide) rfl (fun ls hl => ?_)
            refine lv_aload_n hx hb (dk DX12_blown 64 rfl) rfl (lv_at hl 2 rfl) ?_
            refine gM X hP 2 (by decide) rfl lk16 (dk DX12_blown 65 rfl) ?_
            refine lv_iload_n hx hb (dk DX12_blown 66 rfl) rfl (lv_at hl 3 rfl) ?_
            refine lv_iconst (v := 2) hx hb (dk DX12_blown 67 rfl) (by decide) ?_
            refine lv_iadd hx hb (dk DX12_blown 68 rfl) ?_
            refine lv_dup2_11 hx hb (dk DX12_blown 69 rfl) rfl rfl ?_
            obtain ⟨hin, h⟩ := h
            refine ldM X hP 3 rfl hin (dk DX12_blown 70 rfl) ?_
            refine lv_bipush (v := 10) hx hb (dk DX12_blown 71 rfl) (by decide) ?_
            refine lv_iload_n hx hb (dk DX12_blown 72 rfl) rfl (lv_at hl 1 rfl) ?_
            refine lv_imul hx hb (dk DX12_blown 73 rfl) ?_
            refine lv_iadd hx hb (dk DX12_blown 74 rfl) ?_
            refine lv_topi (fun v13 ev13 => ?_)
            have h := h v13 ev13
            obtain ⟨hin, h⟩ := h
            refine stM_2 X hP hD hS hin (dk DX12_blown 75 rfl) (fun S14 eS14 H locs hP hD hS => ?_)
            have h := h S14 eS14
            refine lv_iload_n hx hb (dk DX12_blown 76 rfl) rfl (lv_at hl 0 rfl) ?_
            exact W.iret (v := r12) hx hb hr (fun t ht hW => ⟨⟨_, _, rfl, h, by rw [ht]; exact hP, va_K.moved hW.alike X.2.2.2.2.2.2.1, hD⟩, hS.F ht⟩) hS.2.2 (dk DX12_blown 77 rfl)
          · have h := h.2 hc
            refine lv_iconst (v := 1) hx hb (dk DX12_blown 45 rfl) (by decide) ?_
            exact W.iret (v := 1) hx hb hr (fun t ht hW => ⟨⟨_, _, rfl, h, by rw [ht]; exact hP, va_K.moved hW.alike X.2.2.2.2.2.2.1, hD⟩, hS.F ht⟩) hS.2.2 (dk DX12_blown 46 rfl)
        · have h := h.2 hc
          refine lv_iload_n hx hb (dk DX12_blown 35 rfl) rfl (lv_at hl 0 rfl) ?_
          exact W.iret (v := r5) hx hb hr (fun t ht hW => ⟨⟨_, _, rfl, h, by rw [ht]; exact hP, va_K.moved hW.alike X.2.2.2.2.2.2.1, hD⟩, hS.F ht⟩) hS.2.2 (dk DX12_blown 36 rfl)
      · have h := h.2 hc
        refine lv_iconst (v := 1) hx hb (dk DX12_blown 21 rfl) (by decide) ?_
        exact W.iret (v := 1) hx hb hr (fun t ht hW => ⟨⟨_, _, rfl, h, by rw [ht]; exact hP, va_K.moved hW.alike X.2.2.2.2.2.2.1, hD⟩, hS.F ht⟩) hS.2.2 (dk DX12_blown 22 rfl)
  · have h := h.2 hc
    refine lv_iload_n hx hb (dk DX12_blown 10 rfl) rfl (lv_at hl 0 rfl) ?_
    exact W.iret (v := r2) hx hb hr (fun t ht hW => ⟨⟨_, _, rfl, h, by rw [ht]; exact hP, va_K.moved hW.alike X.2.2.2.2.2.2.1, hD⟩, hS.F ht⟩) hS.2.2 (dk DX12_blown 11 rfl)

def ww_line : List Cond := .code yX12_line cX12_line 3 (some .int) :: (WdM ++ wsX120)
theorem q_line : yX12_line.cls = RX12 ∧ yX12_line.cls ≠ "java/lang/invoke/MethodHandle" ∧ yX12_line.cls ≠ "java/lang/invoke/VarHandle" ∧ (parseMethodDescriptor yX12_line.desc).map (fun d => d.parameters.length) = some 2 := by decide +kernel
def VC_line (Post : Int32 → MS → Prop) (a0 : Int32) (a1 : Int32) (S : MS) : Prop := ((¬ a0 = 4 → ((¬ a0 = 6 → VC_blown (fun r2 S1 => Post r2 S1) a1 S) ∧ (a0 = 6 → VC_figure (fun r4 S3 => Post r4 S3) (a1 + 1) 1 99 S))) ∧ (a0 = 4 → VC_figure (fun r6 S5 => Post r6 S5) (a1 + 1) 0 5 S))
set_option maxHeartbeats 4000000 in
set_option maxRecDepth 100000 in
theorem m_line {l : Launch} {dC : Nat → ClassId} {dI : Nat → Nat → Nat} {q : Nat → Nat} {cI cJ cZ : ClassId} {sz : Nat} {Post : Int32 → MS → Prop} (a0 : Int32) (a1 : Int32) (S : MS) (h : VC_line Post a0 a1 S) : Met l yX12_line ww_line ({ frames := 5, cells := 0, slots := 0, locals := 110 } : Room) (va_Pc [.ref (q 0), .int a0, .int a1] (preM dC dI q cI cJ cZ S sz)) (va_Qi Post (atM dC dI q cI cJ cZ (va_A (wM q cI cJ cZ S) sz)) (va_A (wM q cI cJ cZ S) sz)) 0 0 (va_A (wM q cI cJ cZ S) sz) := by
  refine oM (cc := cX12_line) (maxL := 3) (ret := (some .int)) (Qc := fun A => va_Qi Post (atM dC dI q cI cJ cZ A) A) (by decide) rfl (fun w h => List.mem_cons_of_mem _ (List.mem_append_right _ h)) rfl (Nat.le_of_ble_eq_true rfl) (fun p e s m below meth c A ls X hr hlocks hP hD hS hl => ?_)
  have hx := X.1
  have hb := X.2.1
  have hl : lv_has ls 3 [(0, .ref (q 0)), (1, .int a0), (2, .int a1)] := hl
  dsimp only [VC_line] at h
  refine lv_iload_n hx hb (dk DX12_line 0 rfl) rfl (lv_at hl 1 rfl) ?_
  refine lv_iconst (v := 4) hx hb (dk DX12_line 1 rfl) (by decide) ?_
  refine lv_icmp_ne (tgt := 17) hx hb (dk DX12_line 2 rfl) (by decide) (fun hc => ?_) (fun hc => ?_)
  · have h := h.1 hc
    refine lv_iload_n hx hb (dk DX12_line 11 rfl) rfl (lv_at hl 1 rfl) ?_
    refine lv_bipush (v := 6) hx hb (dk DX12_line 12 rfl) (by decide) ?_
    refine lv_icmp_ne (tgt := 36) hx hb (dk DX12_line 13 rfl) (by decide) (fun hc => ?_) (fun hc => ?_)
    · have h := h.1 hc
      refine lv_aload_n hx hb (dk DX12_line 22 rfl) rfl (lv_at hl 0 rfl) ?_
      refine lv_iload_n hx hb (dk DX12_line 23 rfl) rfl (lv_at hl 2 rfl) ?_
      refine cMi (As := [.int a1]) (rest := []) X (m_blown (l := l) (dC := dC) (dI := dI) (q := q) (cI := cI) (cJ := cJ) (cZ := cZ) (sz := _) a1 S h) (cwV 1 X.2.2.2.2.1 (gwV 184 185 186 24 183 rfl rfl rfl rfl rfl) rfl rfl rfl q_blown ⟨Nat.le_of_ble_eq_true rfl, Nat.le_of_ble_eq_true rfl⟩) hP hD hS rfl hl.1 rfl (Nat.le_of_ble_eq_true rfl) (dk DX12_line 24 rfl) (fun r2 S1 H locs h hP hD hS => ?_)
      exact W.iret (v := r2) hx hb hr (fun t ht hW => ⟨⟨_, _, rfl, h, by rw [ht]; exact hP, va_K.moved hW.alike X.2.2.2.2.2.2.1, hD⟩, hS.F ht⟩) hS.2.2 (dk DX12_line 25 rfl)
    · have h := h.2 hc
      refine lv_aload_n hx hb (dk DX12_line 14 rfl) rfl (lv_at hl 0 rfl) ?_
      refine lv_iload_n hx hb (dk DX12_line 15 rfl) rfl (lv_at hl 2 rfl) ?_
      refine lv_iconst (v := 1) hx hb (dk DX12_line 16 rfl) (by decide) ?_
      refine lv_iadd hx hb (dk DX12_line 17 rfl) ?_
      refine lv_iconst (v := 1) hx hb (dk DX12_line 18 rfl) (by decide) ?_
      refine lv_bipush (v := 99) hx hb (dk DX12_line 19 rfl) (by decide) ?_
      refine cMi (As := [.int (a1 + 1), .int 1, .int 99]) (rest := []) X (m_figure (l := l) (dC := dC) (dI := dI) (q := q) (cI := cI) (cJ := cJ) (cZ := cZ) (sz := _) (a1 + 1) 1 99 S h) (cwV 3 X.2.2.2.2.1 (gwV 180 181 182 24 178 rfl rfl rfl rfl rfl) rfl rfl rfl q_figure ⟨Nat.le_of_ble_eq_true rfl, Nat.le_of_ble_eq_true rfl⟩) hP hD hS rfl hl.1 rfl (Nat.le_of_ble_eq_true rfl) (dk DX12_line 20 rfl) (fun r4 S3 H locs h hP hD hS => ?_)
      refine lv_goto (tgt := 41) hx hb (dk DX12_line 21 rfl) (by decide) ?_
      exact W.iret (v := r4) hx hb hr (fun t ht hW => ⟨⟨_, _, rfl, h, by rw [ht]; exact hP, va_K.moved hW.alike X.2.2.2.2.2.2.1, hD⟩, hS.F ht⟩) hS.2.2 (dk DX12_line 25 rfl)
  · have h := h.2 hc
    refine lv_aload_n hx hb (dk DX12_line 3 rfl) rfl (lv_at hl 0 rfl) ?_
    refine lv_iload_n hx hb (dk DX12_line 4 rfl) rfl (lv_at hl 2 rfl) ?_
    refine lv_iconst (v := 1) hx hb (dk DX12_line 5 rfl) (by decide) ?_
    refine lv_iadd hx hb (dk DX12_line 6 rfl) ?_
    refine lv_iconst (v := 0) hx hb (dk DX12_line 7 rfl) (by decide) ?_
    refine lv_iconst (v := 5) hx hb (dk DX12_line 8 rfl) (by decide) ?_
    refine cMi (As := [.int (a1 + 1), .int 0, .int 5]) (rest := []) X (m_figure (l := l) (dC := dC) (dI := dI) (q := q) (cI := cI) (cJ := cJ) (cZ := cZ) (sz := _) (a1 + 1) 0 5 S h) (cwV 3 X.2.2.2.2.1 (gwV 180 181 182 24 178 rfl rfl rfl rfl rfl) rfl rfl rfl q_figure ⟨Nat.le_of_ble_eq_true rfl, Nat.le_of_ble_eq_true rfl⟩) hP hD hS rfl hl.1 rfl (Nat.le_of_ble_eq_true rfl) (dk DX12_line 9 rfl) (fun r6 S5 H locs h hP hD hS => ?_)
    refine lv_goto (tgt := 41) hx hb (dk DX12_line 10 rfl) (by decide) ?_
    exact W.iret (v := r6) hx hb hr (fun t ht hW => ⟨⟨_, _, rfl, h, by rw [ht]; exact hP, va_K.moved hW.alike X.2.2.2.2.2.2.1, hD⟩, hS.F ht⟩) hS.2.2 (dk DX12_line 25 rfl)

