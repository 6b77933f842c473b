-- nextToken
def ww_nextToken : List Cond := .code yX12_nextToken cX12_nextToken 3 none :: (WdM ++ wsX120)
theorem q_nextToken : yX12_nextToken.cls = RX12 ∧ yX12_nextToken.cls ≠ "java/lang/invoke/MethodHandle" ∧ yX12_nextToken.cls ≠ "java/lang/invoke/VarHandle" ∧ (parseMethodDescriptor yX12_nextToken.desc).map (fun d => d.parameters.length) = some 0 := by decide +kernel
abbrev Hd_nextToken : Type := Unit ⊕ (Int32) ⊕ (Int32) ⊕ (Int32) ⊕ (Int32 × Int32 × Int32) ⊕ (Int32 × Int32)
def B_nextToken (Post : MS → Prop) (K : Hd_nextToken → MS → Prop) : Hd_nextToken → MS → Prop
  | (.inl ()), S => VC_byteAt (fun r2 S1 => ((r2 = 32 → ∀ v3 : Int32, v3 = (S1.1 7) + 1 → ∀ S4 : MS, S4 = sI S1 7 v3 → K (.inl ()) S4) ∧ (¬ r2 = 32 → VC_byteAt (fun r6 S5 => ((¬ r6 = 10 → ∀ v7 : Int32, v7 = (S5.1 7) → ∀ S8 : MS, S8 = sI S5 8 v7 → VC_byteAt (fun r10 S9 => ((0 ≤ r10 → VC_isDigit (fun r11 => ((r11 = 0 → VC_isLetter (fun r12 => ((r12 = 0 → ∀ v13 : Int32, v13 = (S9.1 7) + 1 → ∀ S14 : MS, S14 = sI S9 7 v13 → ((r10 = 60 → K (.inr (.inr (.inr (.inl r10)))) S14) ∧ (¬ r10 = 60 → ((r10 = 62 → K (.inr (.inr (.inr (.inl r10)))) S14) ∧ (¬ r10 = 62 → ((r10 = 61 → K (.inr (.inr (.inr (.inl r10)))) S14) ∧ (¬ r10 = 61 → ((r10 = 35 → K (.inr (.inr (.inr (.inl r10)))) S14) ∧ (¬ r10 = 35 → ((r10 = 43 → K (.inr (.inr (.inr (.inl r10)))) S14) ∧ (¬ r10 = 43 → ((r10 = 45 → K (.inr (.inr (.inr (.inl r10)))) S14) ∧ (¬ r10 = 45 → ((r10 = 42 → K (.inr (.inr (.inr (.inl r10)))) S14) ∧ (¬ r10 = 42 → ((r10 = 47 → K (.inr (.inr (.inr (.inl r10)))) S14) ∧ (¬ r10 = 47 → ((r10 = 40 → K (.inr (.inr (.inr (.inl r10)))) S14) ∧ (¬ r10 = 40 → ((r10 = 41 → K (.inr (.inr (.inr (.inl r10)))) S14) ∧ (¬ r10 = 41 → ((r10 = 59 → K (.inr (.inr (.inr (.inl r10)))) S14) ∧ (¬ r10 = 59 → ((r10 = 44 → K (.inr (.inr (.inr (.inl r10)))) S14) ∧ (¬ r10 = 44 → ((r10 = 63 → K (.inr (.inr (.inr (.inl r10)))) S14) ∧ (¬ r10 = 63 → ((¬ r10 = 58 → (((0 : Int32) = 0 → K (.inr (.inr (.inr (.inr (.inl (r10, 0, 3)))))) S14) ∧ (¬ (0 : Int32) = 0 → K (.inr (.inr (.inr (.inr (.inl (r10, 0, r10)))))) S14))) ∧ (r10 = 58 → K (.inr (.inr (.inr (.inl r10)))) S14))))))))))))))))))))))))))))) ∧ (¬ r12 = 0 → ∀ S15 : MS, S15 = sI S9 9 2 → ∀ S16 : MS, S16 = sW S15 0 → K (.inr (.inr (.inl r10))) S16))) r10) ∧ (¬ r11 = 0 → ∀ S17 : MS, S17 = sI S9 9 1 → ∀ S18 : MS, S18 = sI S17 10 0 → K (.inr (.inl r10)) S18))) r10) ∧ (¬ 0 ≤ r10 → ∀ S19 : MS, S19 = sI S9 9 0 → Post S19))) (S8.1 7) S8) ∧ (r6 = 10 → ∀ v20 : Int32, v20 = (S5.1 7) + 1 → ∀ S21 : MS, S21 = sI S5 7 v20 → K (.inl ()) S21))) (S1.1 7) S1))) (S.1 7) S
  | (.inr (.inl x1)), S => VC_byteAt (fun r23 S22 => VC_isDigit (fun r24 => ((r24 = 0 → Post S22) ∧ (¬ r24 = 0 → (((100000) ≤ (S22.1 10) → ∀ v25 : Int32, v25 = (S22.1 7) + 1 → ∀ S26 : MS, S26 = sI S22 7 v25 → K (.inr (.inl x1)) S26) ∧ (¬ (100000) ≤ (S22.1 10) → VC_byteAt (fun r28 S27 => ∀ v29 : Int32, v29 = ((10 * (S22.1 10)) + r28) - 48 → ∀ S30 : MS, S30 = sI S27 10 v29 → ∀ v31 : Int32, v31 = (S30.1 7) + 1 → ∀ S32 : MS, S32 = sI S30 7 v31 → K (.inr (.inl x1)) S32) (S22.1 7) S22))))) r23) (S.1 7) S
  | (.inr (.inr (.inl x1))), S => VC_byteAt (fun r34 S33 => VC_isLetter (fun r35 => ((r35 = 0 → ((((S33.1 7) - (S33.1 8)) ≤ 7 → Post S33) ∧ (¬ ((S33.1 7) - (S33.1 8)) ≤ 7 → ∀ S36 : MS, S36 = sW S33 0 → Post S36))) ∧ (¬ r35 = 0 → ((7 ≤ ((S33.1 7) - (S33.1 8)) → ∀ v37 : Int32, v37 = (S33.1 7) + 1 → ∀ S38 : MS, S38 = sI S33 7 v37 → K (.inr (.inr (.inl x1))) S38) ∧ (¬ 7 ≤ ((S33.1 7) - (S33.1 8)) → VC_byteAt (fun r40 S39 => ∀ v41 : Int64, v41 = ((S33.2.1) <<< ((8 : Int32).toInt64 &&& 63)) ||| (r40.toInt64) → ∀ S42 : MS, S42 = sW S39 v41 → ∀ v43 : Int32, v43 = (S42.1 7) + 1 → ∀ S44 : MS, S44 = sI S42 7 v43 → K (.inr (.inr (.inl x1))) S44) (S33.1 7) S33))))) r34) (S.1 7) S
  | (.inr (.inr (.inr (.inl x1)))), S => (((1 : Int32) = 0 → K (.inr (.inr (.inr (.inr (.inl (x1, 1, 3)))))) S) ∧ (¬ (1 : Int32) = 0 → K (.inr (.inr (.inr (.inr (.inl (x1, 1, x1)))))) S))
  | (.inr (.inr (.inr (.inr (.inl (x1, x2, t1)))))), S => ∀ S45 : MS, S45 = sI S 9 t1 → ((x1 = 60 → K (.inr (.inr (.inr (.inr (.inr (x1, x2)))))) S45) ∧ (¬ x1 = 60 → ((¬ x1 = 62 → Post S45) ∧ (x1 = 62 → K (.inr (.inr (.inr (.inr (.inr (x1, x2)))))) S45))))
  | (.inr (.inr (.inr (.inr (.inr (x1, x2)))))), S => VC_byteAt (fun r47 S46 => ((¬ r47 = 61 → Post S46) ∧ (r47 = 61 → ∀ v48 : Int32, v48 = (S46.1 7) + 1 → ∀ S49 : MS, S49 = sI S46 7 v48 → ((¬ x1 = 60 → ∀ S50 : MS, S50 = sI S49 9 5 → Post S50) ∧ (x1 = 60 → ∀ S51 : MS, S51 = sI S49 9 4 → Post S51))))) (S.1 7) S
def VC_nextToken (Post : MS → Prop) (S : MS) : Prop := ∀ K : Hd_nextToken → MS → Prop, (∀ h S, B_nextToken Post K h S → K h S) → K (.inl ()) S
set_option maxHeartbeats 4000000 in
set_option maxRecDepth 100000 in
theorem h_nextToken_0 {p : Program} {l : Launch} {e : Env} {s : State} {m : MethodId} {below : List Frame} {meth : Method} {c : Code} {dC : Nat → ClassId} {dI : Nat → Nat → Nat} {q : Nat → Nat} {cI cJ cZ : ClassId} {A : Nat → Prop} {args : Array Value} {Post : MS → Prop} {K : Hd_nextToken → MS → Prop} (X : XM p s m args c cX12_nextToken 3 ww_nextToken dC dI cI cJ cZ A) (hr : meth.sig.returnType = none) (hlocks : meth.locks = false) (hK0 : ∀ (S : MS), K (.inl ()) S → ∀ (H : Heap) (locs : List Loc), va_P (dC, dI) vwCl (wM q cI cJ cZ S) H → va_D A (wM q cI cJ cZ S) → va_S A s.heap H locs → ∀ ls : Array Slot, lv_has ls 3 [(0, .ref (q 0))] → W p l e (headSpec ww_nextToken ({ frames := 2, cells := 0, slots := 0, locals := 42 } : Room)).room s m args below meth c H locs 0 0 (MQ below (va_Qv Post (atM dC dI q cI cJ cZ A) A) args s 0 0 A) (F0 m 0 ls [])) (hK1 : ∀ (x1 : Int32) (S : MS), K (.inr (.inl x1)) S → ∀ (H : Heap) (locs : List Loc), va_P (dC, dI) vwCl (wM q cI cJ cZ S) H → va_D A (wM q cI cJ cZ S) → va_S A s.heap H locs → ∀ ls : Array Slot, lv_has ls 3 [(0, .ref (q 0)), (1, .int x1)] → W p l e (headSpec ww_nextToken ({ frames := 2, cells := 0, slots := 0, locals := 42 } : Room)).room s m args below meth c H locs 0 0 (MQ below (va_Qv Post (atM dC dI q cI cJ cZ A) A) args s 0 0 A) (F0 m 85 ls [])) (hK2 : ∀ (x1 : Int32) (S : MS), K (.inr (.inr (.inl x1))) S → ∀ (H : Heap) (locs : List Loc), va_P (dC, dI) vwCl (wM q cI cJ cZ S) H → va_D A (wM q cI cJ cZ S) → va_S A s.heap H locs → ∀ ls : Array Slot, lv_has ls 3 [(0, .ref (q 0)), (1, .int x1)] → W p l e (headSpec ww_nextToken ({ frames := 2, cells := 0, slots := 0, locals := 42 } : Room)).room s m args below meth c H locs 0 0 (MQ below (va_Qv Post (atM dC dI q cI cJ cZ A) A) args s 0 0 A) (F0 m 161 ls [])) (hK3 : ∀ (x1 : Int32) (S : MS), K (.inr (.inr (.inr (.inl x1)))) S → ∀ (H : Heap) (locs : List Loc), va_P (dC, dI) vwCl (wM q cI cJ cZ S) H → va_D A (wM q cI cJ cZ S) → va_S A s.heap H locs → ∀ ls : Array Slot, lv_has ls 3 [(0, .ref (q 0)), (1, .int x1)] → W p l e (headSpec ww_nextToken ({ frames := 2, cells := 0, slots := 0, locals := 42 } : Room)).room s m args below meth c H locs 0 0 (MQ below (va_Qv Post (atM dC dI q cI cJ cZ A) A) args s 0 0 A) (F0 m 339 ls [])) (hK4 : ∀ (x1 : Int32) (x2 : Int32) (t1 : Int32) (S : MS), K (.inr (.inr (.inr (.inr (.inl (x1, x2, t1)))))) S → ∀ (H : Heap) (locs : List Loc), va_P (dC, dI) vwCl (wM q cI cJ cZ S) H → va_D A (wM q cI cJ cZ S) → va_S A s.heap H locs → ∀ ls : Array Slot, lv_has ls 3 [(0, .ref (q 0)), (1, .int x1), (2, .int x2)] → W p l e (headSpec ww_nextToken ({ frames := 2, cells := 0, slots := 0, locals := 42 } : Room)).room s m args below meth c H locs 0 0 (MQ below (va_Qv Post (atM dC dI q cI cJ cZ A) A) args s 0 0 A) (F0 m 355 ls [.int t1, .ref (q 0)])) (hK5 : ∀ (x1 : Int32) (x2 : Int32) (S : MS), K (.inr (.inr (.inr (.inr (.inr (x1, x2)))))) S → ∀ (H : Heap) (locs : List Loc), va_P (dC, dI) vwCl (wM q cI cJ cZ S) H → va_D A (wM q cI cJ cZ S) → va_S A s.heap H locs → ∀ ls : Array Slot, lv_has ls 3 [(0, .ref (q 0)), (1, .int x1), (2, .int x2)] → W p l e (headSpec ww_nextToken ({ frames := 2, cells := 0, slots := 0, locals := 42 } : Room)).room s m args below meth c H locs 0 0 (MQ below (va_Qv Post (atM dC dI q cI cJ cZ A) A) args s 0 0 A) (F0 m 370 ls [])) (S : MS) (h : B_nextToken Post K (.inl ()) S) : ∀ (H : Heap) (locs : List Loc), va_P (dC, dI) vwCl (wM q cI cJ cZ S) H → va_D A (wM q cI cJ cZ S) → va_S A s.heap H locs → ∀ ls : Array Slot, lv_has ls 3 [(0, .ref (q 0))] → W p l e (headSpec ww_nextToken ({ frames := 2, cells := 0, slots := 0, locals := 42 } : Room)).room s m args below meth c H locs 0 0 (MQ below (va_Qv Post (atM dC dI q cI cJ cZ A) A) args s 0 0 A) (F0 m 0 ls []) := by
  have hx := X.1
  have hb := X.2.1
  intro H locs hP hD hS ls hl
  have lk93 := X.2.2.2.2.1 (.fieldLink RX12 93 "BreathOnLoanModel" "at" "I") (inW 69 rfl)
  have lk99 := X.2.2.2.2.1 (.fieldLink RX12 99 "BreathOnLoanModel" "place" "I") (inW 70 rfl)
  have lk102 := X.2.2.2.2.1 (.fieldLink RX12 102 "BreathOnLoanModel" "token" "I") (inW 71 rfl)
  have lk115 := X.2.2.2.2.1 (.fieldLink RX12 115 "BreathOnLoanModel" "word" "J") (inW 74 rfl)
  have lk108 := X.2.2.2.2.1 (.fieldLink RX12 108 "BreathOnLoanModel" "number" "I") (inW 72 rfl)
  dsimp only [B_nextToken] at h
  refine lv_aload_n hx hb (dk DX12_nextToken 0 rfl) rfl (lv_at hl 0 rfl) ?_
  refine lv_aload_n hx hb (dk DX12_nextToken 1 rfl) rfl (lv_at hl 0 rfl) ?_
  refine gM X hP 7 (by decide) rfl lk93 (dk DX12_nextToken 2 rfl) ?_
  refine cMi (As := [.int (S.1 7)]) (rest := []) X (m_byteAt (l := l) (dC := dC) (dI := dI) (q := q) (cI := cI) (cJ := cJ) (cZ := cZ) (sz := _) (S.1 7) S h) (cwV 1 X.2.2.2.2.1 (gwV 75 76 77 24 65 rfl rfl rfl rfl rfl) rfl rfl rfl q_byteAt ⟨Nat.le_of_ble_eq_true rfl, Nat.le_of_ble_eq_true rfl⟩) hP hD hS rfl hl.1 rfl (Nat.le_of_ble_eq_true rfl) (dk DX12_nextToken 3 rfl) (fun r2 S1 H locs h hP hD hS => ?_)
  refine lv_bipush (v := 32) hx hb (dk DX12_nextToken 4 rfl) (by decide) ?_
  refine lv_icmp_eq (tgt := 26) hx hb (dk DX12_nextToken 5 rfl) (by decide) (fun hc => ?_) (fun hc => ?_)
  · have h := h.1 hc
    refine lv_aload_n hx hb (dk DX12_nextToken 12 rfl) rfl (lv_at hl 0 rfl) ?_
    refine lv_dup hx hb (dk DX12_nextToken 13 rfl) rfl ?_
    refine gM X hP 7 (by decide) rfl lk93 (dk DX12_nextToken 14 rfl) ?_
    refine lv_iconst (v := 1) hx hb (dk DX12_nextToken 15 rfl) (by decide) ?_
    refine lv_iadd hx hb (dk DX12_nextToken 16 rfl) ?_
    refine lv_topi (fun v3 ev3 => ?_)
    have h := h v3 ev3
    refine pM_7 X hP hD hS lk93 (dk DX12_nextToken 17 rfl) (fun S4 eS4 H locs hP hD hS => ?_)
    have h := h S4 eS4
    refine lv_goto (tgt := 0) hx hb (dk DX12_nextToken 18 rfl) (by decide) ?_
    exact hK0 S4 h _ _ hP hD hS ls (lv_sub hl [0] rfl)
  · have h := h.2 hc
    refine lv_aload_n hx hb (dk DX12_nextToken 6 rfl) rfl (lv_at hl 0 rfl) ?_
    refine lv_aload_n hx hb (dk DX12_nextToken 7 rfl) rfl (lv_at hl 0 rfl) ?_
    refine gM X hP 7 (by decide) rfl lk93 (dk DX12_nextToken 8 rfl) ?_
    refine cMi (As := [.int (S1.1 7)]) (rest := []) X (m_byteAt (l := l) (dC := dC) (dI := dI) (q := q) (cI := cI) (cJ := cJ) (cZ := cZ) (sz := _) (S1.1 7) S1 h) (cwV 1 X.2.2.2.2.1 (gwV 75 76 77 24 65 rfl rfl rfl rfl rfl) rfl rfl rfl q_byteAt ⟨Nat.le_of_ble_eq_true rfl, Nat.le_of_ble_eq_true rfl⟩) hP hD hS rfl hl.1 rfl (Nat.le_of_ble_eq_true rfl) (dk DX12_nextToken 9 rfl) (fun r6 S5 H locs h hP hD hS => ?_)
    refine lv_bipush (v := 10) hx hb (dk DX12_nextToken 10 rfl) (by decide) ?_
    refine lv_icmp_ne (tgt := 39) hx hb (dk DX12_nextToken 11 rfl) (by decide) (fun hc => ?_) (fun hc => ?_)
    · have h := h.1 hc
      refine lv_aload_n hx hb (dk DX12_nextToken 19 rfl) rfl (lv_at hl 0 rfl) ?_
      refine lv_aload_n hx hb (dk DX12_nextToken 20 rfl) rfl (lv_at hl 0 rfl) ?_
      refine gM X hP 7 (by decide) rfl lk93 (dk DX12_nextToken 21 rfl) ?_
      refine lv_topi (fun v7 ev7 => ?_)
      have h := h v7 ev7
      refine pM_8 X hP hD hS lk99 (dk DX12_nextToken 22 rfl) (fun S8 eS8 H locs hP hD hS => ?_)
      have h := h S8 eS8
      refine lv_aload_n hx hb (dk DX12_nextToken 23 rfl) rfl (lv_at hl 0 rfl) ?_
      refine lv_aload_n hx hb (dk DX12_nextToken 24 rfl) rfl (lv_at hl 0 rfl) ?_
      refine gM X hP 7 (by decide) rfl lk93 (dk DX12_nextToken 25 rfl) ?_
      refine cMi (As := [.int (S8.1 7)]) (rest := []) X (m_byteAt (l := l) (dC := dC) (dI := dI) (q := q) (cI := cI) (cJ := cJ) (cZ := cZ) (sz := _) (S8.1 7) S8 h) (cwV 1 X.2.2.2.2.1 (gwV 75 76 77 24 65 rfl rfl rfl rfl rfl) rfl rfl rfl q_byteAt ⟨Nat.le_of_ble_eq_true rfl, Nat.le_of_ble_eq_true rfl⟩) hP hD hS rfl hl.1 rfl (Nat.le_of_ble_eq_true rfl) (dk DX12_nextToken 26 rfl) (fun r10 S9 H locs h hP hD hS => ?_)
      refine lv_istore_n (lv' := [(1, .int r10), (0, .ref (q 0))]) hx hb (dk DX12_nextToken 27 rfl) rfl hl (by decide) rfl (fun ls hl => ?_)
      refine lv_iload_n hx hb (dk DX12_nextToken 28 rfl) rfl (lv_at hl 0 rfl) ?_
      refine lv_if_ge (tgt := 68) hx hb (dk DX12_nextToken 29 rfl) (by decide) (fun hc => ?_) (fun hc => ?_)
      · have h := h.1 hc
        refine lv_iload_n hx hb (dk DX12_nextToken 34 rfl) rfl (lv_at hl 0 rfl) ?_
        refine cSi (As := [.int r10]) (rest := []) ⟨X.1, X.2.1, X.2.2.1, X.2.2.2.1, X.2.2.2.2.1⟩ (m_isDigit (l := l) r10 h) (va_cwS 1 X.2.2.2.2.1 (gwS 78 79 24 67 rfl rfl rfl rfl) rfl rfl rfl q_isDigit ⟨Nat.le_of_ble_eq_true rfl, Nat.le_of_ble_eq_true rfl⟩) rfl hl.1 rfl (Nat.le_of_ble_eq_true rfl) (dk DX12_nextToken 35 rfl) (fun r11 h => ?_)
        refine lv_if_eq (tgt := 144) hx hb (dk DX12_nextToken 36 rfl) (by decide) (fun hc => ?_) (fun hc => ?_)
        · have h := h.1 hc
          refine lv_iload_n hx hb (dk DX12_nextToken 73 rfl) rfl (lv_at hl 0 rfl) ?_
          refine cSi (As := [.int r10]) (rest := []) ⟨X.1, X.2.1, X.2.2.1, X.2.2.2.1, X.2.2.2.2.1⟩ (m_isLetter (l := l) r10 h) (va_cwS 1 X.2.2.2.2.1 (gwS 80 81 24 66 rfl rfl rfl rfl) rfl rfl rfl q_isLetter ⟨Nat.le_of_ble_eq_true rfl, Nat.le_of_ble_eq_true rfl⟩) rfl hl.1 rfl (Nat.le_of_ble_eq_true rfl) (dk DX12_nextToken 74 rfl) (fun r12 h => ?_)
          refine lv_if_eq (tgt := 245) hx hb (dk DX12_nextToken 75 rfl) (by decide) (fun hc => ?_) (fun hc => ?_)
          · have h := h.1 hc
            refine lv_aload_n hx hb (dk DX12_nextToken 125 rfl) rfl (lv_at hl 1 rfl) ?_
            refine lv_dup hx hb (dk DX12_nextToken 126 rfl) rfl ?_
            refine gM X hP 7 (by decide) rfl lk93 (dk DX12_nextToken 127 rfl) ?_
            refine lv_iconst (v := 1) hx hb (dk DX12_nextToken 128 rfl) (by decide) ?_
            refine lv_iadd hx hb (dk DX12_nextToken 129 rfl) ?_
            refine lv_topi (fun v13 ev13 => ?_)
            have h := h v13 ev13
            refine pM_7 X hP hD hS lk93 (dk DX12_nextToken 130 rfl) (fun S14 eS14 H locs hP hD hS => ?_)
            have h := h S14 eS14
            refine lv_iload_n hx hb (dk DX12_nextToken 131 rfl) rfl (lv_at hl 0 rfl) ?_
            refine lv_bipush (v := 60) hx hb (dk DX12_nextToken 132 rfl) (by decide) ?_
            refine lv_icmp_eq (tgt := 339) hx hb (dk DX12_nextToken 133 rfl) (by decide) (fun hc => ?_) (fun hc => ?_)
            · have h := h.1 hc
              exact hK3 r10 S14 h _ _ hP hD hS ls (lv_sub hl [1, 0] rfl)
            · have h := h.2 hc
              refine lv_iload_n hx hb (dk DX12_nextToken 134 rfl) rfl (lv_at hl 0 rfl) ?_
              refine lv_bipush (v := 62) hx hb (dk DX12_nextToken 135 rfl) (by decide) ?_
              refine lv_icmp_eq (tgt := 339) hx hb (dk DX12_nextToken 136 rfl) (by decide) (fun hc => ?_) (fun hc => ?_)
              · have h := h.1 hc
                exact hK3 r10 S14 h _ _ hP hD hS ls (lv_sub hl [1, 0] rfl)
              · have h := h.2 hc
                refine lv_iload_n hx hb (dk DX12_nextToken 137 rfl) rfl (lv_at hl 0 rfl) ?_
                refine lv_bipush (v := 61) hx hb (dk DX12_nextToken 138 rfl) (by decide) ?_
                refine lv_icmp_eq (tgt := 339) hx hb (dk DX12_nextToken 139 rfl) (by decide) (fun hc => ?_) (fun hc => ?_)
                · have h := h.1 hc
                  exact hK3 r10 S14 h _ _ hP hD hS ls (lv_sub hl [1, 0] rfl)
                · have h := h.2 hc
                  refine lv_iload_n hx hb (dk DX12_nextToken 140 rfl) rfl (lv_at hl 0 rfl) ?_
                  refine lv_bipush (v := 35) hx hb (dk DX12_nextToken 141 rfl) (by decide) ?_
                  refine lv_icmp_eq (tgt := 339) hx hb (dk DX12_nextToken 142 rfl) (by decide) (fun hc => ?_) (fun hc => ?_)
                  · have h := h.1 hc
                    exact hK3 r10 S14 h _ _ hP hD hS ls (lv_sub hl [1, 0] rfl)
                  · have h := h.2 hc
                    refine lv_iload_n hx hb (dk DX12_nextToken 143 rfl) rfl (lv_at hl 0 rfl) ?_
                    refine lv_bipush (v := 43) hx hb (dk DX12_nextToken 144 rfl) (by decide) ?_
                    refine lv_icmp_eq (tgt := 339) hx hb (dk DX12_nextToken 145 rfl) (by decide) (fun hc => ?_) (fun hc => ?_)
                    · have h := h.1 hc
                      exact hK3 r10 S14 h _ _ hP hD hS ls (lv_sub hl [1, 0] rfl)
                    · have h := h.2 hc
                      refine lv_iload_n hx hb (dk DX12_nextToken 146 rfl) rfl (lv_at hl 0 rfl) ?_
                      refine lv_bipush (v := 45) hx hb (dk DX12_nextToken 147 rfl) (by decide) ?_
                      refine lv_icmp_eq (tgt := 339) hx hb (dk DX12_nextToken 148 rfl) (by decide) (fun hc => ?_) (fun hc => ?_)
                      · have h := h.1 hc
                        exact hK3 r10 S14 h _ _ hP hD hS ls (lv_sub hl [1, 0] rfl)
                      · have h := h.2 hc
                        refine lv_iload_n hx hb (dk DX12_nextToken 149 rfl) rfl (lv_at hl 0 rfl) ?_
                        refine lv_bipush (v := 42) hx hb (dk DX12_nextToken 150 rfl) (by decide) ?_
                        refine lv_icmp_eq (tgt := 339) hx hb (dk DX12_nextToken 151 rfl) (by decide) (fun hc => ?_) (fun hc => ?_)
                        · have h := h.1 hc
                          exact hK3 r10 S14 h _ _ hP hD hS ls (lv_sub hl [1, 0] rfl)
                        · have h := h.2 hc
                          refine lv_iload_n hx hb (dk DX12_nextToken 152 rfl) rfl (lv_at hl 0 rfl) ?_
                          refine lv_bipush (v := 47) hx hb (dk DX12_nextToken 153 rfl) (by decide) ?_
                          refine lv_icmp_eq (tgt := 339) hx hb (dk DX12_nextToken 154 rfl) (by decide) (fun hc => ?_) (fun hc => ?_)
                          · have h := h.1 hc
                            exact hK3 r10 S14 h _ _ hP hD hS ls (lv_sub hl [1, 0] rfl)
                          · have h := h.2 hc
                            refine lv_iload_n hx hb (dk DX12_nextToken 155 rfl) rfl (lv_at hl 0 rfl) ?_
                            refine lv_bipush (v := 40) hx hb (dk DX12_nextToken 156 rfl) (by decide) ?_
                            refine lv_icmp_eq (tgt := 339) hx hb (dk DX12_nextToken 157 rfl) (by decide) (fun hc => ?_) (fun hc => ?_)
                            · have h := h.1 hc
                              exact hK3 r10 S14 h _ _ hP hD hS ls (lv_sub hl [1, 0] rfl)
                            · have h := h.2 hc
                              refine lv_iload_n hx hb (dk DX12_nextToken 158 rfl) rfl (lv_at hl 0 rfl) ?_
                              refine lv_bipush (v := 41) hx hb (dk DX12_nextToken 159 rfl) (by decide) ?_
                              refine lv_icmp_eq (tgt := 339) hx hb (dk DX12_nextToken 160 rfl) (by decide) (fun hc => ?_) (fun hc => ?_)
                              · have h := h.1 hc
                                exact hK3 r10 S14 h _ _ hP hD hS ls (lv_sub hl [1, 0] rfl)
                              · have h := h.2 hc
                                refine lv_iload_n hx hb (dk DX12_nextToken 161 rfl) rfl (lv_at hl 0 rfl) ?_
                                refine lv_bipush (v := 59) hx hb (dk DX12_nextToken 162 rfl) (by decide) ?_
                                refine lv_icmp_eq (tgt := 339) hx hb (dk DX12_nextToken 163 rfl) (by decide) (fun hc => ?_) (fun hc => ?_)
                                · have h := h.1 hc
                                  exact hK3 r10 S14 h _ _ hP hD hS ls (lv_sub hl [1, 0] rfl)
                                · have h := h.2 hc
                                  refine lv_iload_n hx hb (dk DX12_nextToken 164 rfl) rfl (lv_at hl 0 rfl) ?_
                                  refine lv_bipush (v := 44) hx hb (dk DX12_nextToken 165 rfl) (by decide) ?_
                                  refine lv_icmp_eq (tgt := 339) hx hb (dk DX12_nextToken 166 rfl) (by decide) (fun hc => ?_) (fun hc => ?_)
                                  · have h := h.1 hc
                                    exact hK3 r10 S14 h _ _ hP hD hS ls (lv_sub hl [1, 0] rfl)
                                  · have h := h.2 hc
                                    refine lv_iload_n hx hb (dk DX12_nextToken 167 rfl) rfl (lv_at hl 0 rfl) ?_
                                    refine lv_bipush (v := 63) hx hb (dk DX12_nextToken 168 rfl) (by decide) ?_
                                    refine lv_icmp_eq (tgt := 339) hx hb (dk DX12_nextToken 169 rfl) (by decide) (fun hc => ?_) (fun hc => ?_)
                                    · have h := h.1 hc
                                      exact hK3 r10 S14 h _ _ hP hD hS ls (lv_sub hl [1, 0] rfl)
                                    · have h := h.2 hc
                                      refine lv_iload_n hx hb (dk DX12_nextToken 170 rfl) rfl (lv_at hl 0 rfl) ?_
                                      refine lv_bipush (v := 58) hx hb (dk DX12_nextToken 171 rfl) (by decide) ?_
                                      refine lv_icmp_ne (tgt := 343) hx hb (dk DX12_nextToken 172 rfl) (by decide) (fun hc => ?_) (fun hc => ?_)
                                      · have h := h.1 hc
                                        refine lv_iconst (v := 0) hx hb (dk DX12_nextToken 175 rfl) (by decide) ?_
                                        refine lv_istore_n (lv' := [(2, .int 0), (1, .int r10), (0, .ref (q 0))]) hx hb (dk DX12_nextToken 176 rfl) rfl hl (by decide) rfl (fun ls hl => ?_)
                                        refine lv_aload_n hx hb (dk DX12_nextToken 177 rfl) rfl (lv_at hl 2 rfl) ?_
                                        refine lv_iload_n hx hb (dk DX12_nextToken 178 rfl) rfl (lv_at hl 0 rfl) ?_
                                        refine lv_if_eq (tgt := 354) hx hb (dk DX12_nextToken 179 rfl) (by decide) (fun hc => ?_) (fun hc => ?_)
                                        · have h := h.1 hc
                                          refine lv_iconst (v := 3) hx hb (dk DX12_nextToken 182 rfl) (by decide) ?_
                                          exact hK4 r10 0 3 S14 h _ _ hP hD hS ls (lv_sub hl [2, 1, 0] rfl)
                                        · have h := h.2 hc
                                          refine lv_iload_n hx hb (dk DX12_nextToken 180 rfl) rfl (lv_at hl 1 rfl) ?_
                                          refine lv_goto (tgt := 355) hx hb (dk DX12_nextToken 181 rfl) (by decide) ?_
                                          exact hK4 r10 0 r10 S14 h _ _ hP hD hS ls (lv_sub hl [2, 1, 0] rfl)
                                      · have h := h.2 hc
                                        exact hK3 r10 S14 h _ _ hP hD hS ls (lv_sub hl [1, 0] rfl)
          · have h := h.2 hc
            refine lv_aload_n hx hb (dk DX12_nextToken 76 rfl) rfl (lv_at hl 1 rfl) ?_
            refine lv_iconst (v := 2) hx hb (dk DX12_nextToken 77 rfl) (by decide) ?_
            refine pM_9 X hP hD hS lk102 (dk DX12_nextToken 78 rfl) (fun S15 eS15 H locs hP hD hS => ?_)
            have h := h S15 eS15
            refine lv_aload_n hx hb (dk DX12_nextToken 79 rfl) rfl (lv_at hl 1 rfl) ?_
            refine lv_lconst (v := 0) hx hb (dk DX12_nextToken 80 rfl) (by decide) ?_
            refine pM_11 X hP hD hS lk115 (dk DX12_nextToken 81 rfl) (fun S16 eS16 H locs hP hD hS => ?_)
            have h := h S16 eS16
            exact hK2 r10 S16 h _ _ hP hD hS ls (lv_sub hl [1, 0] rfl)
        · have h := h.2 hc
          refine lv_aload_n hx hb (dk DX12_nextToken 37 rfl) rfl (lv_at hl 1 rfl) ?_
          refine lv_iconst (v := 1) hx hb (dk DX12_nextToken 38 rfl) (by decide) ?_
          refine pM_9 X hP hD hS lk102 (dk DX12_nextToken 39 rfl) (fun S17 eS17 H locs hP hD hS => ?_)
          have h := h S17 eS17
          refine lv_aload_n hx hb (dk DX12_nextToken 40 rfl) rfl (lv_at hl 1 rfl) ?_
          refine lv_iconst (v := 0) hx hb (dk DX12_nextToken 41 rfl) (by decide) ?_
          refine pM_10 X hP hD hS lk108 (dk DX12_nextToken 42 rfl) (fun S18 eS18 H locs hP hD hS => ?_)
          have h := h S18 eS18
          exact hK1 r10 S18 h _ _ hP hD hS ls (lv_sub hl [1, 0] rfl)
      · have h := h.2 hc
        refine lv_aload_n hx hb (dk DX12_nextToken 30 rfl) rfl (lv_at hl 1 rfl) ?_
        refine lv_iconst (v := 0) hx hb (dk DX12_nextToken 31 rfl) (by decide) ?_
        refine pM_9 X hP hD hS lk102 (dk DX12_nextToken 32 rfl) (fun S19 eS19 H locs hP hD hS => ?_)
        have h := h S19 eS19
        refine lv_goto (tgt := 408) hx hb (dk DX12_nextToken 33 rfl) (by decide) ?_
        exact W.vret hx hb hr (fun t ht hW => ⟨⟨_, rfl, h, by rw [ht]; exact hP, va_K.moved hW.alike X.2.2.2.2.2.2.1, hD⟩, hS.F ht⟩) hS.2.2 (dk DX12_nextToken 210 rfl)
    · have h := h.2 hc
      refine lv_aload_n hx hb (dk DX12_nextToken 12 rfl) rfl (lv_at hl 0 rfl) ?_
      refine lv_dup hx hb (dk DX12_nextToken 13 rfl) rfl ?_
      refine gM X hP 7 (by decide) rfl lk93 (dk DX12_nextToken 14 rfl) ?_
      refine lv_iconst (v := 1) hx hb (dk DX12_nextToken 15 rfl) (by decide) ?_
      refine lv_iadd hx hb (dk DX12_nextToken 16 rfl) ?_
      refine lv_topi (fun v20 ev20 => ?_)
      have h := h v20 ev20
      refine pM_7 X hP hD hS lk93 (dk DX12_nextToken 17 rfl) (fun S21 eS21 H locs hP hD hS => ?_)
      have h := h S21 eS21
      refine lv_goto (tgt := 0) hx hb (dk DX12_nextToken 18 rfl) (by decide) ?_
      exact hK0 S21 h _ _ hP hD hS ls (lv_sub hl [0] rfl)
set_option maxHeartbeats 4000000 in
set_option maxRecDepth 100000 in
theorem h_nextToken_1 {p : Program} {l : Launch} {e : Env} {s : State} {m : MethodId} {below : List Frame} {meth : Method} {c : Code} {dC : Nat → ClassId} {dI : Nat → Nat → Nat} {q : Nat → Nat} {cI cJ cZ : ClassId} {A : Nat → Prop} {args : Array Value} {Post : MS → Prop} {K : Hd_nextToken → MS → Prop} (X : XM p s m args c cX12_nextToken 3 ww_nextToken dC dI cI cJ cZ A) (hr : meth.sig.returnType = none) (hlocks : meth.locks = false) (hK0 : ∀ (S : MS), K (.inl ()) S → ∀ (H : Heap) (locs : List Loc), va_P (dC, dI) vwCl (wM q cI cJ cZ S) H → va_D A (wM q cI cJ cZ S) → va_S A s.heap H locs → ∀ ls : Array Slot, lv_has ls 3 [(0, .ref (q 0))] → W p l e (headSpec ww_nextToken ({ frames := 2, cells := 0, slots := 0, locals := 42 } : Room)).room s m args below meth c H locs 0 0 (MQ below (va_Qv Post (atM dC dI q cI cJ cZ A) A) args s 0 0 A) (F0 m 0 ls [])) (hK1 : ∀ (x1 : Int32) (S : MS), K (.inr (.inl x1)) S → ∀ (H : Heap) (locs : List Loc), va_P (dC, dI) vwCl (wM q cI cJ cZ S) H → va_D A (wM q cI cJ cZ S) → va_S A s.heap H locs → ∀ ls : Array Slot, lv_has ls 3 [(0, .ref (q 0)), (1, .int x1)] → W p l e (headSpec ww_nextToken ({ frames := 2, cells := 0, slots := 0, locals := 42 } : Room)).room s m args below meth c H locs 0 0 (MQ below (va_Qv Post (atM dC dI q cI cJ cZ A) A) args s 0 0 A) (F0 m 85 ls [])) (hK2 : ∀ (x1 : Int32) (S : MS), K (.inr (.inr (.inl x1))) S → ∀ (H : Heap) (locs : List Loc), va_P (dC, dI) vwCl (wM q cI cJ cZ S) H → va_D A (wM q cI cJ cZ S) → va_S A s.heap H locs → ∀ ls : Array Slot, lv_has ls 3 [(0, .ref (q 0)), (1, .int x1)] → W p l e (headSpec ww_nextToken ({ frames := 2, cells := 0, slots := 0, locals := 42 } : Room)).room s m args below meth c H locs 0 0 (MQ below (va_Qv Post (atM dC dI q cI cJ cZ A) A) args s 0 0 A) (F0 m 161 ls [])) (hK3 : ∀ (x1 : Int32) (S : MS), K (.inr (.inr (.inr (.inl x1)))) S → ∀ (H : Heap) (locs : List Loc), va_P (dC, dI) vwCl (wM q cI cJ cZ S) H → va_D A (wM q cI cJ cZ S) → va_S A s.heap H locs → ∀ ls : Array Slot, lv_has ls 3 [(0, .ref (q 0)), (1, .int x1)] → W p l e (headSpec ww_nextToken ({ frames := 2, cells := 0, slots := 0, locals := 42 } : Room)).room s m args below meth c H locs 0 0 (MQ below (va_Qv Post (atM dC dI q cI cJ cZ A) A) args s 0 0 A) (F0 m 339 ls [])) (hK4 : ∀ (x1 : Int32) (x2 : Int32) (t1 : Int32) (S : MS), K (.inr (.inr (.inr (.inr (.inl (x1, x2, t1)))))) S → ∀ (H : Heap) (locs : List Loc), va_P (dC, dI) vwCl (wM q cI cJ cZ S) H → va_D A (wM q cI cJ cZ S) → va_S A s.heap H locs → ∀ ls : Array Slot, lv_has ls 3 [(0, .ref (q 0)), (1, .int x1), (2, .int x2)] → W p l e (headSpec ww_nextToken ({ frames := 2, cells := 0, slots := 0, locals := 42 } : Room)).room s m args below meth c H locs 0 0 (MQ below (va_Qv Post (atM dC dI q cI cJ cZ A) A) args s 0 0 A) (F0 m 355 ls [.int t1, .ref (q 0)])) (hK5 : ∀ (x1 : Int32) (x2 : Int32) (S : MS), K (.inr (.inr (.inr (.inr (.inr (x1, x2)))))) S → ∀ (H : Heap) (locs : List Loc), va_P (dC, dI) vwCl (wM q cI cJ cZ S) H → va_D A (wM q cI cJ cZ S) → va_S A s.heap H locs → ∀ ls : Array Slot, lv_has ls 3 [(0, .ref (q 0)), (1, .int x1), (2, .int x2)] → W p l e (headSpec ww_nextToken ({ frames := 2, cells := 0, slots := 0, locals := 42 } : Room)).room s m args below meth c H locs 0 0 (MQ below (va_Qv Post (atM dC dI q cI cJ cZ A) A) args s 0 0 A) (F0 m 370 ls [])) (x1 : Int32) (S : MS) (h : B_nextToken Post K (.inr (.inl x1)) S) : ∀ (H : Heap) (locs : List Loc), va_P (dC, dI) vwCl (wM q cI cJ cZ S) H → va_D A (wM q cI cJ cZ S) → va_S A s.heap H locs → ∀ ls : Array Slot, lv_has ls 3 [(0, .ref (q 0)), (1, .int x1)] → W p l e (headSpec ww_nextToken ({ frames := 2, cells := 0, slots := 0, locals := 42 } : Room)).room s m args below meth c H locs 0 0 (MQ below (va_Qv Post (atM dC dI q cI cJ cZ A) A) args s 0 0 A) (F0 m 85 ls []) := by
  have hx := X.1
  have hb := X.2.1
  intro H locs hP hD hS ls hl
  have lk93 := X.2.2.2.2.1 (.fieldLink RX12 93 "BreathOnLoanModel" "at" "I") (inW 69 rfl)
  have lk99 := X.2.2.2.2.1 (.fieldLink RX12 99 "BreathOnLoanModel" "place" "I") (inW 70 rfl)
  have lk102 := X.2.2.2.2.1 (.fieldLink RX12 102 "BreathOnLoanModel" "token" "I") (inW 71 rfl)
  have lk115 := X.2.2.2.2.1 (.fieldLink RX12 115 "BreathOnLoanModel" "word" "J") (inW 74 rfl)
  have lk108 := X.2.2.2.2.1 (.fieldLink RX12 108 "BreathOnLoanModel" "number" "I") (inW 72 rfl)
  dsimp only [B_nextToken] at h
  refine lv_aload_n hx hb (dk DX12_nextToken 43 rfl) rfl (lv_at hl 0 rfl) ?_
  refine lv_aload_n hx hb (dk DX12_nextToken 44 rfl) rfl (lv_at hl 0 rfl) ?_
  refine gM X hP 7 (by decide) rfl lk93 (dk DX12_nextToken 45 rfl) ?_
  refine cMi (As := [.int (S.1 7)]) (rest := []) X (m_byteAt (l := l) (dC := dC) (dI := dI) (q := q) (cI := cI) (cJ := cJ) (cZ := cZ) (sz := _) (S.1 7) S h) (cwV 1 X.2.2.2.2.1 (gwV 75 76 77 24 65 rfl rfl rfl rfl rfl) rfl rfl rfl q_byteAt ⟨Nat.le_of_ble_eq_true rfl, Nat.le_of_ble_eq_true rfl⟩) hP hD hS rfl hl.1 rfl (Nat.le_of_ble_eq_true rfl) (dk DX12_nextToken 46 rfl) (fun r23 S22 H locs h hP hD hS => ?_)
  refine cSi (As := [.int r23]) (rest := []) ⟨X.1, X.2.1, X.2.2.1, X.2.2.2.1, X.2.2.2.2.1⟩ (m_isDigit (l := l) r23 h) (va_cwS 1 X.2.2.2.2.1 (gwS 78 79 24 67 rfl rfl rfl rfl) rfl rfl rfl q_isDigit ⟨Nat.le_of_ble_eq_true rfl, Nat.le_of_ble_eq_true rfl⟩) rfl hl.1 rfl (Nat.le_of_ble_eq_true rfl) (dk DX12_nextToken 47 rfl) (fun r24 h => ?_)
  refine lv_if_eq (tgt := 408) hx hb (dk DX12_nextToken 48 rfl) (by decide) (fun hc => ?_) (fun hc => ?_)
  · have h := h.1 hc
    exact W.vret hx hb hr (fun t ht hW => ⟨⟨_, rfl, h, by rw [ht]; exact hP, va_K.moved hW.alike X.2.2.2.2.2.2.1, hD⟩, hS.F ht⟩) hS.2.2 (dk DX12_nextToken 210 rfl)
  · have h := h.2 hc
    refine lv_aload_n hx hb (dk DX12_nextToken 49 rfl) rfl (lv_at hl 0 rfl) ?_
    refine gM X hP 10 (by decide) rfl lk108 (dk DX12_nextToken 50 rfl) ?_
    refine lv_ldc (v := (100000)) hx hb X.2.2.2.1 (X.2.2.2.2.1 (.constant RX12 111 (100000)) (inW 73 rfl)) (dk DX12_nextToken 51 rfl) ?_
    refine lv_icmp_ge (tgt := 131) hx hb (dk DX12_nextToken 52 rfl) (by decide) (fun hc => ?_) (fun hc => ?_)
    · have h := h.1 hc
      refine lv_aload_n hx hb (dk DX12_nextToken 66 rfl) rfl (lv_at hl 0 rfl) ?_
      refine lv_dup hx hb (dk DX12_nextToken 67 rfl) rfl ?_
      refine gM X hP 7 (by decide) rfl lk93 (dk DX12_nextToken 68 rfl) ?_
      refine lv_iconst (v := 1) hx hb (dk DX12_nextToken 69 rfl) (by decide) ?_
      refine lv_iadd hx hb (dk DX12_nextToken 70 rfl) ?_
      refine lv_topi (fun v25 ev25 => ?_)
      have h := h v25 ev25
      refine pM_7 X hP hD hS lk93 (dk DX12_nextToken 71 rfl) (fun S26 eS26 H locs hP hD hS => ?_)
      have h := h S26 eS26
      refine lv_goto (tgt := 85) hx hb (dk DX12_nextToken 72 rfl) (by decide) ?_
      exact hK1 x1 S26 h _ _ hP hD hS ls (lv_sub hl [0, 1] rfl)
    · have h := h.2 hc
      refine lv_aload_n hx hb (dk DX12_nextToken 53 rfl) rfl (lv_at hl 0 rfl) ?_
      refine lv_bipush (v := 10) hx hb (dk DX12_nextToken 54 rfl) (by decide) ?_
      refine lv_aload_n hx hb (dk DX12_nextToken 55 rfl) rfl (lv_at hl 0 rfl) ?_
      refine gM X hP 10 (by decide) rfl lk108 (dk DX12_nextToken 56 rfl) ?_
      refine lv_imul hx hb (dk DX12_nextToken 57 rfl) ?_
      refine lv_aload_n hx hb (dk DX12_nextToken 58 rfl) rfl (lv_at hl 0 rfl) ?_
      refine lv_aload_n hx hb (dk DX12_nextToken 59 rfl) rfl (lv_at hl 0 rfl) ?_
      refine gM X hP 7 (by decide) rfl lk93 (dk DX12_nextToken 60 rfl) ?_
      refine cMi (As := [.int (S22.1 7)]) (rest := [.int (10 * (S22.1 10)), .ref (q 0)]) X (m_byteAt (l := l) (dC := dC) (dI := dI) (q := q) (cI := cI) (cJ := cJ) (cZ := cZ) (sz := _) (S22.1 7) S22 h) (cwV 1 X.2.2.2.2.1 (gwV 75 76 77 24 65 rfl rfl rfl rfl rfl) rfl rfl rfl q_byteAt ⟨Nat.le_of_ble_eq_true rfl, Nat.le_of_ble_eq_true rfl⟩) hP hD hS rfl hl.1 rfl (Nat.le_of_ble_eq_true rfl) (dk DX12_nextToken 61 rfl) (fun r28 S27 H locs h hP hD hS => ?_)
      refine lv_iadd hx hb (dk DX12_nextToken 62 rfl) ?_
      refine lv_bipush (v := 48) hx hb (dk DX12_nextToken 63 rfl) (by decide) ?_
      refine lv_isub hx hb (dk DX12_nextToken 64 rfl) ?_
      refine lv_topi (fun v29 ev29 => ?_)
      have h := h v29 ev29
      refine pM_10 X hP hD hS lk108 (dk DX12_nextToken 65 rfl) (fun S30 eS30 H locs hP hD hS => ?_)
      have h := h S30 eS30
      refine lv_aload_n hx hb (dk DX12_nextToken 66 rfl) rfl (lv_at hl 0 rfl) ?_
      refine lv_dup hx hb (dk DX12_nextToken 67 rfl) rfl ?_
      refine gM X hP 7 (by decide) rfl lk93 (dk DX12_nextToken 68 rfl) ?_
      refine lv_iconst (v := 1) hx hb (dk DX12_nextToken 69 rfl) (by decide) ?_
      refine lv_iadd hx hb (dk DX12_nextToken 70 rfl) ?_
      refine lv_topi (fun v31 ev31 => ?_)
      have h := h v31 ev31
      refine pM_7 X hP hD hS lk93 (dk DX12_nextToken 71 rfl) (fun S32 eS32 H locs hP hD hS => ?_)
      have h := h S32 eS32
      refine lv_goto (tgt := 85) hx hb (dk DX12_nextToken 72 rfl) (by decide) ?_
      exact hK1 x1 S32 h _ _ hP hD hS ls (lv_sub hl [0, 1] rfl)
set_option maxHeartbeats 4000000 in
set_option maxRecDepth 100000 in
theorem h_nextToken_2 {p : Program} {l : Launch} {e : Env} {s : State} {m : MethodId} {below : List Frame} {meth : Method} {c : Code} {dC : Nat → ClassId} {dI : Nat → Nat → Nat} {q : Nat → Nat} {cI cJ cZ : ClassId} {A : Nat → Prop} {args : Array Value} {Post : MS → Prop} {K : Hd_nextToken → MS → Prop} (X : XM p s m args c cX12_nextToken 3 ww_nextToken dC dI cI cJ cZ A) (hr : meth.sig.returnType = none) (hlocks : meth.locks = false) (hK0 : ∀ (S : MS), K (.inl ()) S → ∀ (H : Heap) (locs : List Loc), va_P (dC, dI) vwCl (wM q cI cJ cZ S) H → va_D A (wM q cI cJ cZ S) → va_S A s.heap H locs → ∀ ls : Array Slot, lv_has ls 3 [(0, .ref (q 0))] → W p l e (headSpec ww_nextToken ({ frames := 2, cells := 0, slots := 0, locals := 42 } : Room)).room s m args below meth c H locs 0 0 (MQ below (va_Qv Post (atM dC dI q cI cJ cZ A) A) args s 0 0 A) (F0 m 0 ls [])) (hK1 : ∀ (x1 : Int32) (S : MS), K (.inr (.inl x1)) S → ∀ (H : Heap) (locs : List Loc), va_P (dC, dI) vwCl (wM q cI cJ cZ S) H → va_D A (wM q cI cJ cZ S) → va_S A s.heap H locs → ∀ ls : Array Slot, lv_has ls 3 [(0, .ref (q 0)), (1, .int x1)] → W p l e (headSpec ww_nextToken ({ frames := 2, cells := 0, slots := 0, locals := 42 } : Room)).room s m args below meth c H locs 0 0 (MQ below (va_Qv Post (atM dC dI q cI cJ cZ A) A) args s 0 0 A) (F0 m 85 ls [])) (hK2 : ∀ (x1 : Int32) (S : MS), K (.inr (.inr (.inl x1))) S → ∀ (H : Heap) (locs : List Loc), va_P (dC, dI) vwCl (wM q cI cJ cZ S) H → va_D A (wM q cI cJ cZ S) → va_S A s.heap H locs → ∀ ls : Array Slot, lv_has ls 3 [(0, .ref (q 0)), (1, .int x1)] → W p l e (headSpec ww_nextToken ({ frames := 2, cells := 0, slots := 0, locals := 42 } : Room)).room s m args below meth c H locs 0 0 (MQ below (va_Qv Post (atM dC dI q cI cJ cZ A) A) args s 0 0 A) (F0 m 161 ls [])) (hK3 : ∀ (x1 : Int32) (S : MS), K (.inr (.inr (.inr (.inl x1)))) S → ∀ (H : Heap) (locs : List Loc), va_P (dC, dI) vwCl (wM q cI cJ cZ S) H → va_D A (wM q cI cJ cZ S) → va_S A s.heap H locs → ∀ ls : Array Slot, lv_has ls 3 [(0, .ref (q 0)), (1, .int x1)] → W p l e (headSpec ww_nextToken ({ frames := 2, cells := 0, slots := 0, locals := 42 } : Room)).room s m args below meth c H locs 0 0 (MQ below (va_Qv Post (atM dC dI q cI cJ cZ A) A) args s 0 0 A) (F0 m 339 ls [])) (hK4 : ∀ (x1 : Int32) (x2 : Int32) (t1 : Int32) (S : MS), K (.inr (.inr (.inr (.inr (.inl (x1, x2, t1)))))) S → ∀ (H : Heap) (locs : List Loc), va_P (dC, dI) vwCl (wM q cI cJ cZ S) H → va_D A (wM q cI cJ cZ S) → va_S A s.heap H locs → ∀ ls : Array Slot, lv_has ls 3 [(0, .ref (q 0)), (1, .int x1), (2, .int x2)] → W p l e (headSpec ww_nextToken ({ frames := 2, cells := 0, slots := 0, locals := 42 } : Room)).room s m args below meth c H locs 0 0 (MQ below (va_Qv Post (atM dC dI q cI cJ cZ A) A) args s 0 0 A) (F0 m 355 ls [.int t1, .ref (q 0)])) (hK5 : ∀ (x1 : Int32) (x2 : Int32) (S : MS), K (.inr (.inr (.inr (.inr (.inr (x1, x2)))))) S → ∀ (H : Heap) (locs : List Loc), va_P (dC, dI) vwCl (wM q cI cJ cZ S) H → va_D A (wM q cI cJ cZ S) → va_S A s.heap H locs → ∀ ls : Array Slot, lv_has ls 3 [(0, .ref (q 0)), (1, .int x1), (2, .int x2)] → W p l e (headSpec ww_nextToken ({ frames := 2, cells := 0, slots := 0, locals := 42 } : Room)).room s m args below meth c H locs 0 0 (MQ below (va_Qv Post (atM dC dI q cI cJ cZ A) A) args s 0 0 A) (F0 m 370 ls [])) (x1 : Int32) (S : MS) (h : B_nextToken Post K (.inr (.inr (.inl x1))) S) : ∀ (H : Heap) (locs : List Loc), va_P (dC, dI) vwCl (wM q cI cJ cZ S) H → va_D A (wM q cI cJ cZ S) → va_S A s.heap H locs → ∀ ls : Array Slot, lv_has ls 3 [(0, .ref (q 0)), (1, .int x1)] → W p l e (headSpec ww_nextToken ({ frames := 2, cells := 0, slots := 0, locals := 42 } : Room)).room s m args below meth c H locs 0 0 (MQ below (va_Qv Post (atM dC dI q cI cJ cZ A) A) args s 0 0 A) (F0 m 161 ls []) := by
  have hx := X.1
  have hb := X.2.1
  intro H locs hP hD hS ls hl
  have lk93 := X.2.2.2.2.1 (.fieldLink RX12 93 "BreathOnLoanModel" "at" "I") (inW 69 rfl)
  have lk99 := X.2.2.2.2.1 (.fieldLink RX12 99 "BreathOnLoanModel" "place" "I") (inW 70 rfl)
  have lk102 := X.2.2.2.2.1 (.fieldLink RX12 102 "BreathOnLoanModel" "token" "I") (inW 71 rfl)
  have lk115 := X.2.2.2.2.1 (.fieldLink RX12 115 "BreathOnLoanModel" "word" "J") (inW 74 rfl)
  have lk108 := X.2.2.2.2.1 (.fieldLink RX12 108 "BreathOnLoanModel" "number" "I") (inW 72 rfl)
  dsimp only [B_nextToken] at h
  refine lv_aload_n hx hb (dk DX12_nextToken 82 rfl) rfl (lv_at hl 0 rfl) ?_
  refine lv_aload_n hx hb (dk DX12_nextToken 83 rfl) rfl (lv_at hl 0 rfl) ?_
  refine gM X hP 7 (by decide) rfl lk93 (dk DX12_nextToken 84 rfl) ?_
  refine cMi (As := [.int (S.1 7)]) (rest := []) X (m_byteAt (l := l) (dC := dC) (dI := dI) (q := q) (cI := cI) (cJ := cJ) (cZ := cZ) (sz := _) (S.1 7) S h) (cwV 1 X.2.2.2.2.1 (gwV 75 76 77 24 65 rfl rfl rfl rfl rfl) rfl rfl rfl q_byteAt ⟨Nat.le_of_ble_eq_true rfl, Nat.le_of_ble_eq_true rfl⟩) hP hD hS rfl hl.1 rfl (Nat.le_of_ble_eq_true rfl) (dk DX12_nextToken 85 rfl) (fun r34 S33 H locs h hP hD hS => ?_)
  refine cSi (As := [.int r34]) (rest := []) ⟨X.1, X.2.1, X.2.2.1, X.2.2.2.1, X.2.2.2.2.1⟩ (m_isLetter (l := l) r34 h) (va_cwS 1 X.2.2.2.2.1 (gwS 80 81 24 66 rfl rfl rfl rfl) rfl rfl rfl q_isLetter ⟨Nat.le_of_ble_eq_true rfl, Nat.le_of_ble_eq_true rfl⟩) rfl hl.1 rfl (Nat.le_of_ble_eq_true rfl) (dk DX12_nextToken 86 rfl) (fun r35 h => ?_)
  refine lv_if_eq (tgt := 223) hx hb (dk DX12_nextToken 87 rfl) (by decide) (fun hc => ?_) (fun hc => ?_)
  · have h := h.1 hc
    refine lv_aload_n hx hb (dk DX12_nextToken 114 rfl) rfl (lv_at hl 0 rfl) ?_
    refine gM X hP 7 (by decide) rfl lk93 (dk DX12_nextToken 115 rfl) ?_
    refine lv_aload_n hx hb (dk DX12_nextToken 116 rfl) rfl (lv_at hl 0 rfl) ?_
    refine gM X hP 8 (by decide) rfl lk99 (dk DX12_nextToken 117 rfl) ?_
    refine lv_isub hx hb (dk DX12_nextToken 118 rfl) ?_
    refine lv_bipush (v := 7) hx hb (dk DX12_nextToken 119 rfl) (by decide) ?_
    refine lv_icmp_le (tgt := 408) hx hb (dk DX12_nextToken 120 rfl) (by decide) (fun hc => ?_) (fun hc => ?_)
    · have h := h.1 hc
      exact W.vret hx hb hr (fun t ht hW => ⟨⟨_, rfl, h, by rw [ht]; exact hP, va_K.moved hW.alike X.2.2.2.2.2.2.1, hD⟩, hS.F ht⟩) hS.2.2 (dk DX12_nextToken 210 rfl)
    · have h := h.2 hc
      refine lv_aload_n hx hb (dk DX12_nextToken 121 rfl) rfl (lv_at hl 0 rfl) ?_
      refine lv_lconst (v := 0) hx hb (dk DX12_nextToken 122 rfl) (by decide) ?_
      refine pM_11 X hP hD hS lk115 (dk DX12_nextToken 123 rfl) (fun S36 eS36 H locs hP hD hS => ?_)
      have h := h S36 eS36
      refine lv_goto (tgt := 408) hx hb (dk DX12_nextToken 124 rfl) (by decide) ?_
      exact W.vret hx hb hr (fun t ht hW => ⟨⟨_, rfl, h, by rw [ht]; exact hP, va_K.moved hW.alike X.2.2.2.2.2.2.1, hD⟩, hS.F ht⟩) hS.2.2 (dk DX12_nextToken 210 rfl)
  · have h := h.2 hc
    refine lv_aload_n hx hb (dk DX12_nextToken 88 rfl) rfl (lv_at hl 0 rfl) ?_
    refine gM X hP 7 (by decide) rfl lk93 (dk DX12_nextToken 89 rfl) ?_
    refine lv_aload_n hx hb (dk DX12_nextToken 90 rfl) rfl (lv_at hl 0 rfl) ?_
    refine gM X hP 8 (by decide) rfl lk99 (dk DX12_nextToken 91 rfl) ?_
    refine lv_isub hx hb (dk DX12_nextToken 92 rfl) ?_
    refine lv_bipush (v := 7) hx hb (dk DX12_nextToken 93 rfl) (by decide) ?_
    refine lv_icmp_ge (tgt := 210) hx hb (dk DX12_nextToken 94 rfl) (by decide) (fun hc => ?_) (fun hc => ?_)
    · have h := h.1 hc
      refine lv_aload_n hx hb (dk DX12_nextToken 107 rfl) rfl (lv_at hl 0 rfl) ?_
      refine lv_dup hx hb (dk DX12_nextToken 108 rfl) rfl ?_
      refine gM X hP 7 (by decide) rfl lk93 (dk DX12_nextToken 109 rfl) ?_
      refine lv_iconst (v := 1) hx hb (dk DX12_nextToken 110 rfl) (by decide) ?_
      refine lv_iadd hx hb (dk DX12_nextToken 111 rfl) ?_
      refine lv_topi (fun v37 ev37 => ?_)
      have h := h v37 ev37
      refine pM_7 X hP hD hS lk93 (dk DX12_nextToken 112 rfl) (fun S38 eS38 H locs hP hD hS => ?_)
      have h := h S38 eS38
      refine lv_goto (tgt := 161) hx hb (dk DX12_nextToken 113 rfl) (by decide) ?_
      exact hK2 x1 S38 h _ _ hP hD hS ls (lv_sub hl [0, 1] rfl)
    · have h := h.2 hc
      refine lv_aload_n hx hb (dk DX12_nextToken 95 rfl) rfl (lv_at hl 0 rfl) ?_
      refine lv_aload_n hx hb (dk DX12_nextToken 96 rfl) rfl (lv_at hl 0 rfl) ?_
      refine gM X hP 11 (by decide) rfl lk115 (dk DX12_nextToken 97 rfl) ?_
      refine lv_bipush (v := 8) hx hb (dk DX12_nextToken 98 rfl) (by decide) ?_
      refine lv_lshl hx hb (dk DX12_nextToken 99 rfl) rfl ?_
      refine lv_aload_n hx hb (dk DX12_nextToken 100 rfl) rfl (lv_at hl 0 rfl) ?_
      refine lv_aload_n hx hb (dk DX12_nextToken 101 rfl) rfl (lv_at hl 0 rfl) ?_
      refine gM X hP 7 (by decide) rfl lk93 (dk DX12_nextToken 102 rfl) ?_
      refine cMi (As := [.int (S33.1 7)]) (rest := [.long ((S33.2.1) <<< ((8 : Int32).toInt64 &&& 63)), .ref (q 0)]) X (m_byteAt (l := l) (dC := dC) (dI := dI) (q := q) (cI := cI) (cJ := cJ) (cZ := cZ) (sz := _) (S33.1 7) S33 h) (cwV 1 X.2.2.2.2.1 (gwV 75 76 77 24 65 rfl rfl rfl rfl rfl) rfl rfl rfl q_byteAt ⟨Nat.le_of_ble_eq_true rfl, Nat.le_of_ble_eq_true rfl⟩) hP hD hS rfl hl.1 rfl (Nat.le_of_ble_eq_true rfl) (dk DX12_nextToken 103 rfl) (fun r40 S39 H locs h hP hD hS => ?_)
      refine lv_i2l hx hb (dk DX12_nextToken 104 rfl) rfl ?_
      refine lv_lor hx hb (dk DX12_nextToken 105 rfl) ?_
      refine lv_topl (fun v41 ev41 => ?_)
      have h := h v41 ev41
      refine pM_11 X hP hD hS lk115 (dk DX12_nextToken 106 rfl) (fun S42 eS42 H locs hP hD hS => ?_)
      have h := h S42 eS42
      refine lv_aload_n hx hb (dk DX12_nextToken 107 rfl) rfl (lv_at hl 0 rfl) ?_
      refine lv_dup hx hb (dk DX12_nextToken 108 rfl) rfl ?_
      refine gM X hP 7 (by decide) rfl lk93 (dk DX12_nextToken 109 rfl) ?_
      refine lv_iconst (v := 1) hx hb (dk DX12_nextToken 110 rfl) (by decide) ?_
      refine lv_iadd hx hb (dk DX12_nextToken 111 rfl) ?_
      refine lv_topi (fun v43 ev43 => ?_)
      have h := h v43 ev43
      refine pM_7 X hP hD hS lk93 (dk DX12_nextToken 112 rfl) (fun S44 eS44 H locs hP hD hS => ?_)
      have h := h S44 eS44
      refine lv_goto (tgt := 161) hx hb (dk DX12_nextToken 113 rfl) (by decide) ?_
      exact hK2 x1 S44 h _ _ hP hD hS ls (lv_sub hl [0, 1] rfl)
set_option maxHeartbeats 4000000 in
set_option maxRecDepth 100000 in
theorem h_nextToken_3 {p : Program} {l : Launch} {e : Env} {s : State} {m : MethodId} {below : List Frame} {meth : Method} {c : Code} {dC : Nat → ClassId} {dI : Nat → Nat → Nat} {q : Nat → Nat} {cI cJ cZ : ClassId} {A : Nat → Prop} {args : Array Value} {Post : MS → Prop} {K : Hd_nextToken → MS → Prop} (X : XM p s m args c cX12_nextToken 3 ww_nextToken dC dI cI cJ cZ A) (hr : meth.sig.returnType = none) (hlocks : meth.locks = false) (hK0 : ∀ (S : MS), K (.inl ()) S → ∀ (H : Heap) (locs : List Loc), va_P (dC, dI) vwCl (wM q cI cJ cZ S) H → va_D A (wM q cI cJ cZ S) → va_S A s.heap H locs → ∀ ls : Array Slot, lv_has ls 3 [(0, .ref (q 0))] → W p l e (headSpec ww_nextToken ({ frames := 2, cells := 0, slots := 0, locals := 42 } : Room)).room s m args below meth c H locs 0 0 (MQ below (va_Qv Post (atM dC dI q cI cJ cZ A) A) args s 0 0 A) (F0 m 0 ls [])) (hK1 : ∀ (x1 : Int32) (S : MS), K (.inr (.inl x1)) S → ∀ (H : Heap) (locs : List Loc), va_P (dC, dI) vwCl (wM q cI cJ cZ S) H → va_D A (wM q cI cJ cZ S) → va_S A s.heap H locs → ∀ ls : Array Slot, lv_has ls 3 [(0, .ref (q 0)), (1, .int x1)] → W p l e (headSpec ww_nextToken ({ frames := 2, cells := 0, slots := 0, locals := 42 } : Room)).room s m args below meth c H locs 0 0 (MQ below (va_Qv Post (atM dC dI q cI cJ cZ A) A) args s 0 0 A) (F0 m 85 ls [])) (hK2 : ∀ (x1 : Int32) (S : MS), K (.inr (.inr (.inl x1))) S → ∀ (H : Heap) (locs : List Loc), va_P (dC, dI) vwCl (wM q cI cJ cZ S) H → va_D A (wM q cI cJ cZ S) → va_S A s.heap H locs → ∀ ls : Array Slot, lv_has ls 3 [(0, .ref (q 0)), (1, .int x1)] → W p l e (headSpec ww_nextToken ({ frames := 2, cells := 0, slots := 0, locals := 42 } : Room)).room s m args below meth c H locs 0 0 (MQ below (va_Qv Post (atM dC dI q cI cJ cZ A) A) args s 0 0 A) (F0 m 161 ls [])) (hK3 : ∀ (x1 : Int32) (S : MS), K (.inr (.inr (.inr (.inl x1)))) S → ∀ (H : Heap) (locs : List Loc), va_P (dC, dI) vwCl (wM q cI cJ cZ S) H → va_D A (wM q cI cJ cZ S) → va_S A s.heap H locs → ∀ ls : Array Slot, lv_has ls 3 [(0, .ref (q 0)), (1, .int x1)] → W p l e (headSpec ww_nextToken ({ frames := 2, cells := 0, slots := 0, locals := 42 } : Room)).room s m args below meth c H locs 0 0 (MQ below (va_Qv Post (atM dC dI q cI cJ cZ A) A) args s 0 0 A) (F0 m 339 ls [])) (hK4 : ∀ (x1 : Int32) (x2 : Int32) (t1 : Int32) (S : MS), K (.inr (.inr (.inr (.inr (.inl (x1, x2, t1)))))) S → ∀ (H : Heap) (locs : List Loc), va_P (dC, dI) vwCl (wM q cI cJ cZ S) H → va_D A (wM q cI cJ cZ S) → va_S A s.heap H locs → ∀ ls : Array Slot, lv_has ls 3 [(0, .ref (q 0)), (1, .int x1), (2, .int x2)] → W p l e (headSpec ww_nextToken ({ frames := 2, cells := 0, slots := 0, locals := 42 } : Room)).room s m args below meth c H locs 0 0 (MQ below (va_Qv Post (atM dC dI q cI cJ cZ A) A) args s 0 0 A) (F0 m 355 ls [.int t1, .ref (q 0)])) (hK5 : ∀ (x1 : Int32) (x2 : Int32) (S : MS), K (.inr (.inr (.inr (.inr (.inr (x1, x2)))))) S → ∀ (H : Heap) (locs : List Loc), va_P (dC, dI) vwCl (wM q cI cJ cZ S) H → va_D A (wM q cI cJ cZ S) → va_S A s.heap H locs → ∀ ls : Array Slot, lv_has ls 3 [(0, .ref (q 0)), (1, .int x1), (2, .int x2)] → W p l e (headSpec ww_nextToken ({ frames := 2, cells := 0, slots := 0, locals := 42 } : Room)).room s m args below meth c H locs 0 0 (MQ below (va_Qv Post (atM dC dI q cI cJ cZ A) A) args s 0 0 A) (F0 m 370 ls [])) (x1 : Int32) (S : MS) (h : B_nextToken Post K (.inr (.inr (.inr (.inl x1)))) S) : ∀ (H : Heap) (locs : List Loc), va_P (dC, dI) vwCl (wM q cI cJ cZ S) H → va_D A (wM q cI cJ cZ S) → va_S A s.heap H locs → ∀ ls : Array Slot, lv_has ls 3 [(0, .ref (q 0)), (1, .int x1)] → W p l e (headSpec ww_nextToken ({ frames := 2, cells := 0, slots := 0, locals := 42 } : Room)).room s m args below meth c H locs 0 0 (MQ below (va_Qv Post (atM dC dI q cI cJ cZ A) A) args s 0 0 A) (F0 m 339 ls []) := by
  have hx := X.1
  have hb := X.2.1
  intro H locs hP hD hS ls hl
  have lk93 := X.2.2.2.2.1 (.fieldLink RX12 93 "BreathOnLoanModel" "at" "I") (inW 69 rfl)
  have lk99 := X.2.2.2.2.1 (.fieldLink RX12 99 "BreathOnLoanModel" "place" "I") (inW 70 rfl)
  have lk102 := X.2.2.2.2.1 (.fieldLink RX12 102 "BreathOnLoanModel" "token" "I") (inW 71 rfl)
  have lk115 := X.2.2.2.2.1 (.fieldLink RX12 115 "BreathOnLoanModel" "word" "J") (inW 74 rfl)
  have lk108 := X.2.2.2.2.1 (.fieldLink RX12 108 "BreathOnLoanModel" "number" "I") (inW 72 rfl)
  dsimp only [B_nextToken] at h
  refine lv_iconst (v := 1) hx hb (dk DX12_nextToken 173 rfl) (by decide) ?_
  refine lv_goto (tgt := 344) hx hb (dk DX12_nextToken 174 rfl) (by decide) ?_
  refine lv_istore_n (lv' := [(2, .int 1), (0, .ref (q 0)), (1, .int x1)]) hx hb (dk DX12_nextToken 176 rfl) rfl hl (by decide) rfl (fun ls hl => ?_)
  refine lv_aload_n hx hb (dk DX12_nextToken 177 rfl) rfl (lv_at hl 1 rfl) ?_
  refine lv_iload_n hx hb (dk DX12_nextToken 178 rfl) rfl (lv_at hl 0 rfl) ?_
  refine lv_if_eq (tgt := 354) hx hb (dk DX12_nextToken 179 rfl) (by decide) (fun hc => ?_) (fun hc => ?_)
  · have h := h.1 hc
    refine lv_iconst (v := 3) hx hb (dk DX12_nextToken 182 rfl) (by decide) ?_
    exact hK4 x1 1 3 S h _ _ hP hD hS ls (lv_sub hl [1, 2, 0] rfl)
  · have h := h.2 hc
    refine lv_iload_n hx hb (dk DX12_nextToken 180 rfl) rfl (lv_at hl 2 rfl) ?_
    refine lv_goto (tgt := 355) hx hb (dk DX12_nextToken 181 rfl) (by decide) ?_
    exact hK4 x1 1 x1 S h _ _ hP hD hS ls (lv_sub hl [1, 2, 0] rfl)
set_option maxHeartbeats 4000000 in
set_option maxRecDepth 100000 in
theorem h_nextToken_4 {p : Program} {l : Launch} {e : Env} {s : State} {m : MethodId} {below : List Frame} {meth : Method} {c : Code} {dC : Nat → ClassId} {dI : Nat → Nat → Nat} {q : Nat → Nat} {cI cJ cZ : ClassId} {A : Nat → Prop} {args : Array Value} {Post : MS → Prop} {K : Hd_nextToken → MS → Prop} (X : XM p s m args c cX12_nextToken 3 ww_nextToken dC dI cI cJ cZ A) (hr : meth.sig.returnType = none) (hlocks : meth.locks = false) (hK0 : ∀ (S : MS), K (.inl ()) S → ∀ (H : Heap) (locs : List Loc), va_P (dC, dI) vwCl (wM q cI cJ cZ S) H → va_D A (wM q cI cJ cZ S) → va_S A s.heap H locs → ∀ ls : Array Slot, lv_has ls 3 [(0, .ref (q 0))] → W p l e (headSpec ww_nextToken ({ frames := 2, cells := 0, slots := 0, locals := 42 } : Room)).room s m args below meth c H locs 0 0 (MQ below (va_Qv Post (atM dC dI q cI cJ cZ A) A) args s 0 0 A) (F0 m 0 ls [])) (hK1 : ∀ (x1 : Int32) (S : MS), K (.inr (.inl x1)) S → ∀ (H : Heap) (locs : List Loc), va_P (dC, dI) vwCl (wM q cI cJ cZ S) H → va_D A (wM q cI cJ cZ S) → va_S A s.heap H locs → ∀ ls : Array Slot, lv_has ls 3 [(0, .ref (q 0)), (1, .int x1)] → W p l e (headSpec ww_nextToken ({ frames := 2, cells := 0, slots := 0, locals := 42 } : Room)).room s m args below meth c H locs 0 0 (MQ below (va_Qv Post (atM dC dI q cI cJ cZ A) A) args s 0 0 A) (F0 m 85 ls [])) (hK2 : ∀ (x1 : Int32) (S : MS), K (.inr (.inr (.inl x1))) S → ∀ (H : Heap) (locs : List Loc), va_P (dC, dI) vwCl (wM q cI cJ cZ S) H → va_D A (wM q cI cJ cZ S) → va_S A s.heap H locs → ∀ ls : Array Slot, lv_has ls 3 [(0, .ref (q 0)), (1, .int x1)] → W p l e (headSpec ww_nextToken ({ frames := 2, cells := 0, slots := 0, locals := 42 } : Room)).room s m args below meth c H locs 0 0 (MQ below (va_Qv Post (atM dC dI q cI cJ cZ A) A) args s 0 0 A) (F0 m 161 ls [])) (hK3 : ∀ (x1 : Int32) (S : MS), K (.inr (.inr (.inr (.inl x1)))) S → ∀ (H : Heap) (locs : List Loc), va_P (dC, dI) vwCl (wM q cI cJ cZ S) H → va_D A (wM q cI cJ cZ S) → va_S A s.heap H locs → ∀ ls : Array Slot, lv_has ls 3 [(0, .ref (q 0)), (1, .int x1)] → W p l e (headSpec ww_nextToken ({ frames := 2, cells := 0, slots := 0, locals := 42 } : Room)).room s m args below meth c H locs 0 0 (MQ below (va_Qv Post (atM dC dI q cI cJ cZ A) A) args s 0 0 A) (F0 m 339 ls [])) (hK4 : ∀ (x1 : Int32) (x2 : Int32) (t1 : Int32) (S : MS), K (.inr (.inr (.inr (.inr (.inl (x1, x2, t1)))))) S → ∀ (H : Heap) (locs : List Loc), va_P (dC, dI) vwCl (wM q cI cJ cZ S) H → va_D A (wM q cI cJ cZ S) → va_S A s.heap H locs → ∀ ls : Array Slot, lv_has ls 3 [(0, .ref (q 0)), (1, .int x1), (2, .int x2)] → W p l e (headSpec ww_nextToken ({ frames := 2, cells := 0, slots := 0, locals := 42 } : Room)).room s m args below meth c H locs 0 0 (MQ below (va_Qv Post (atM dC dI q cI cJ cZ A) A) args s 0 0 A) (F0 m 355 ls [.int t1, .ref (q 0)])) (hK5 : ∀ (x1 : Int32) (x2 : Int32) (S : MS), K (.inr (.inr (.inr (.inr (.inr (x1, x2)))))) S → ∀ (H : Heap) (locs : List Loc), va_P (dC, dI) vwCl (wM q cI cJ cZ S) H → va_D A (wM q cI cJ cZ S) → va_S A s.heap H locs → ∀ ls : Array Slot, lv_has ls 3 [(0, .ref (q 0)), (1, .int x1), (2, .int x2)] → W p l e (headSpec ww_nextToken ({ frames := 2, cells := 0, slots := 0, locals := 42 } : Room)).room s m args below meth c H locs 0 0 (MQ below (va_Qv Post (atM dC dI q cI cJ cZ A) A) args s 0 0 A) (F0 m 370 ls [])) (x1 : Int32) (x2 : Int32) (t1 : Int32) (S : MS) (h : B_nextToken Post K (.inr (.inr (.inr (.inr (.inl (x1, x2, t1)))))) S) : ∀ (H : Heap) (locs : List Loc), va_P (dC, dI) vwCl (wM q cI cJ cZ S) H → va_D A (wM q cI cJ cZ S) → va_S A s.heap H locs → ∀ ls : Array Slot, lv_has ls 3 [(0, .ref (q 0)), (1, .int x1), (2, .int x2)] → W p l e (headSpec ww_nextToken ({ frames := 2, cells := 0, slots := 0, locals := 42 } : Room)).room s m args below meth c H locs 0 0 (MQ below (va_Qv Post (atM dC dI q cI cJ cZ A) A) args s 0 0 A) (F0 m 355 ls [.int t1, .ref (q 0)]) := by
  have hx := X.1
  have hb := X.2.1
  intro H locs hP hD hS ls hl
  have lk93 := X.2.2.2.2.1 (.fieldLink RX12 93 "BreathOnLoanModel" "at" "I") (inW 69 rfl)
  have lk99 := X.2.2.2.2.1 (.fieldLink RX12 99 "BreathOnLoanModel" "place" "I") (inW 70 rfl)
  have lk102 := X.2.2.2.2.1 (.fieldLink RX12 102 "BreathOnLoanModel" "token" "I") (inW 71 rfl)
  have lk115 := X.2.2.2.2.1 (.fieldLink RX12 115 "BreathOnLoanModel" "word" "J") (inW 74 rfl)
  have lk108 := X.2.2.2.2.1 (.fieldLink RX12 108 "BreathOnLoanModel" "number" "I") (inW 72 rfl)
  dsimp only [B_nextToken] at h
  refine pM_9 X hP hD hS lk102 (dk DX12_nextToken 183 rfl) (fun S45 eS45 H locs hP hD hS => ?_)
  have h := h S45 eS45
  refine lv_iload_n hx hb (dk DX12_nextToken 184 rfl) rfl (lv_at hl 1 rfl) ?_
  refine lv_bipush (v := 60) hx hb (dk DX12_nextToken 185 rfl) (by decide) ?_
  refine lv_icmp_eq (tgt := 370) hx hb (dk DX12_nextToken 186 rfl) (by decide) (fun hc => ?_) (fun hc => ?_)
  · have h := h.1 hc
    exact hK5 x1 x2 S45 h _ _ hP hD hS ls (lv_sub hl [0, 1, 2] rfl)
  · have h := h.2 hc
    refine lv_iload_n hx hb (dk DX12_nextToken 187 rfl) rfl (lv_at hl 1 rfl) ?_
    refine lv_bipush (v := 62) hx hb (dk DX12_nextToken 188 rfl) (by decide) ?_
    refine lv_icmp_ne (tgt := 408) hx hb (dk DX12_nextToken 189 rfl) (by decide) (fun hc => ?_) (fun hc => ?_)
    · have h := h.1 hc
      exact W.vret hx hb hr (fun t ht hW => ⟨⟨_, rfl, h, by rw [ht]; exact hP, va_K.moved hW.alike X.2.2.2.2.2.2.1, hD⟩, hS.F ht⟩) hS.2.2 (dk DX12_nextToken 210 rfl)
    · have h := h.2 hc
      exact hK5 x1 x2 S45 h _ _ hP hD hS ls (lv_sub hl [0, 1, 2] rfl)
set_option maxHeartbeats 4000000 in
set_option maxRecDepth 100000 in
theorem h_nextToken_5 {p : Program} {l : Launch} {e : Env} {s : State} {m : MethodId} {below : List Frame} {meth : Method} {c : Code} {dC : Nat → ClassId} {dI : Nat → Nat → Nat} {q : Nat → Nat} {cI cJ cZ : ClassId} {A : Nat → Prop} {args : Array Value} {Post : MS → Prop} {K : Hd_nextToken → MS → Prop} (X : XM p s m args c cX12_nextToken 3 ww_nextToken dC dI cI cJ cZ A) (hr : meth.sig.returnType = none) (hlocks : meth.locks = false) (hK0 : ∀ (S : MS), K (.inl ()) S → ∀ (H : Heap) (locs : List Loc), va_P (dC, dI) vwCl (wM q cI cJ cZ S) H → va_D A (wM q cI cJ cZ S) → va_S A s.heap H locs → ∀ ls : Array Slot, lv_has ls 3 [(0, .ref (q 0))] → W p l e (headSpec ww_nextToken ({ frames := 2, cells := 0, slots := 0, locals := 42 } : Room)).room s m args below meth c H locs 0 0 (MQ below (va_Qv Post (atM dC dI q cI cJ cZ A) A) args s 0 0 A) (F0 m 0 ls [])) (hK1 : ∀ (x1 : Int32) (S : MS), K (.inr (.inl x1)) S → ∀ (H : Heap) (locs : List Loc), va_P (dC, dI) vwCl (wM q cI cJ cZ S) H → va_D A (wM q cI cJ cZ S) → va_S A s.heap H locs → ∀ ls : Array Slot, lv_has ls 3 [(0, .ref (q 0)), (1, .int x1)] → W p l e (headSpec ww_nextToken ({ frames := 2, cells := 0, slots := 0, locals := 42 } : Room)).room s m args below meth c H locs 0 0 (MQ below (va_Qv Post (atM dC dI q cI cJ cZ A) A) args s 0 0 A) (F0 m 85 ls [])) (hK2 : ∀ (x1 : Int32) (S : MS), K (.inr (.inr (.inl x1))) S → ∀ (H : Heap) (locs : List Loc), va_P (dC, dI) vwCl (wM q cI cJ cZ S) H → va_D A (wM q cI cJ cZ S) → va_S A s.heap H locs → ∀ ls : Array Slot, lv_has ls 3 [(0, .ref (q 0)), (1, .int x1)] → W p l e (headSpec ww_nextToken ({ frames := 2, cells := 0, slots := 0, locals := 42 } : Room)).room s m args below meth c H locs 0 0 (MQ below (va_Qv Post (atM dC dI q cI cJ cZ A) A) args s 0 0 A) (F0 m 161 ls [])) (hK3 : ∀ (x1 : Int32) (S : MS), K (.inr (.inr (.inr (.inl x1)))) S → ∀ (H : Heap) (locs : List Loc), va_P (dC, dI) vwCl (wM q cI cJ cZ S) H → va_D A (wM q cI cJ cZ S) → va_S A s.heap H locs → ∀ ls : Array Slot, lv_has ls 3 [(0, .ref (q 0)), (1, .int x1)] → W p l e (headSpec ww_nextToken ({ frames := 2, cells := 0, slots := 0, locals := 42 } : Room)).room s m args below meth c H locs 0 0 (MQ below (va_Qv Post (atM dC dI q cI cJ cZ A) A) args s 0 0 A) (F0 m 339 ls [])) (hK4 : ∀ (x1 : Int32) (x2 : Int32) (t1 : Int32) (S : MS), K (.inr (.inr (.inr (.inr (.inl (x1, x2, t1)))))) S → ∀ (H : Heap) (locs : List Loc), va_P (dC, dI) vwCl (wM q cI cJ cZ S) H → va_D A (wM q cI cJ cZ S) → va_S A s.heap H locs → ∀ ls : Array Slot, lv_has ls 3 [(0, .ref (q 0)), (1, .int x1), (2, .int x2)] → W p l e (headSpec ww_nextToken ({ frames := 2, cells := 0, slots := 0, locals := 42 } : Room)).room s m args below meth c H locs 0 0 (MQ below (va_Qv Post (atM dC dI q cI cJ cZ A) A) args s 0 0 A) (F0 m 355 ls [.int t1, .ref (q 0)])) (hK5 : ∀ (x1 : Int32) (x2 : Int32) (S : MS), K (.inr (.inr (.inr (.inr (.inr (x1, x2)))))) S → ∀ (H : Heap) (locs : List Loc), va_P (dC, dI) vwCl (wM q cI cJ cZ S) H → va_D A (wM q cI cJ cZ S) → va_S A s.heap H locs → ∀ ls : Array Slot, lv_has ls 3 [(0, .ref (q 0)), (1, .int x1), (2, .int x2)] → W p l e (headSpec ww_nextToken ({ frames := 2, cells := 0, slots := 0, locals := 42 } : Room)).room s m args below meth c H locs 0 0 (MQ below (va_Qv Post (atM dC dI q cI cJ cZ A) A) args s 0 0 A) (F0 m 370 ls [])) (x1 : Int32) (x2 : Int32) (S : MS) (h : B_nextToken Post K (.inr (.inr (.inr (.inr (.inr (x1, x2)))))) S) : ∀ (H : Heap) (locs : List Loc), va_P (dC, dI) vwCl (wM q cI cJ cZ S) H → va_D A (wM q cI cJ cZ S) → va_S A s.heap H locs → ∀ ls : Array Slot, lv_has ls 3 [(0, .ref (q 0)), (1, .int x1), (2, .int x2)] → W p l e (headSpec ww_nextToken ({ frames := 2, cells := 0, slots := 0, locals := 42 } : Room)).room s m args below meth c H locs 0 0 (MQ below (va_Qv Post (atM dC dI q cI cJ cZ A) A) args s 0 0 A) (F0 m 370 ls []) := by
  have hx := X.1
  have hb := X.2.1
  intro H locs hP hD hS ls hl
  have lk93 := X.2.2.2.2.1 (.fieldLink RX12 93 "BreathOnLoanModel" "at" "I") (inW 69 rfl)
  have lk99 := X.2.2.2.2.1 (.fieldLink RX12 99 "BreathOnLoanModel" "place" "I") (inW 70 rfl)
  have lk102 := X.2.2.2.2.1 (.fieldLink RX12 102 "BreathOnLoanModel" "token" "I") (inW 71 rfl)
  have lk115 := X.2.2.2.2.1 (.fieldLink RX12 115 "BreathOnLoanModel" "word" "J") (inW 74 rfl)
  have lk108 := X.2.2.2.2.1 (.fieldLink RX12 108 "BreathOnLoanModel" "number" "I") (inW 72 rfl)
  dsimp only [B_nextToken] at h
  refine lv_aload_n hx hb (dk DX12_nextToken 190 rfl) rfl (lv_at hl 0 rfl) ?_
  refine lv_aload_n hx hb (dk DX12_nextToken 191 rfl) rfl (lv_at hl 0 rfl) ?_
  refine gM X hP 7 (by decide) rfl lk93 (dk DX12_nextToken 192 rfl) ?_
  refine cMi (As := [.int (S.1 7)]) (rest := []) X (m_byteAt (l := l) (dC := dC) (dI := dI) (q := q) (cI := cI) (cJ := cJ) (cZ := cZ) (sz := _) (S.1 7) S h) (cwV 1 X.2.2.2.2.1 (gwV 75 76 77 24 65 rfl rfl rfl rfl rfl) rfl rfl rfl q_byteAt ⟨Nat.le_of_ble_eq_true rfl, Nat.le_of_ble_eq_true rfl⟩) hP hD hS rfl hl.1 rfl (Nat.le_of_ble_eq_true rfl) (dk DX12_nextToken 193 rfl) (fun r47 S46 H locs h hP hD hS => ?_)
  refine lv_bipush (v := 61) hx hb (dk DX12_nextToken 194 rfl) (by decide) ?_
  refine lv_icmp_ne (tgt := 408) hx hb (dk DX12_nextToken 195 rfl) (by decide) (fun hc => ?_) (fun hc => ?_)
  · have h := h.1 hc
    exact W.vret hx hb hr (fun t ht hW => ⟨⟨_, rfl, h, by rw [ht]; exact hP, va_K.moved hW.alike X.2.2.2.2.2.2.1, hD⟩, hS.F ht⟩) hS.2.2 (dk DX12_nextToken 210 rfl)
  · have h := h.2 hc
    refine lv_aload_n hx hb (dk DX12_nextToken 196 rfl) rfl (lv_at hl 0 rfl) ?_
    refine lv_dup hx hb (dk DX12_nextToken 197 rfl) rfl ?_
    refine gM X hP 7 (by decide) rfl lk93 (dk DX12_nextToken 198 rfl) ?_
    refine lv_iconst (v := 1) hx hb (dk DX12_nextToken 199 rfl) (by decide) ?_
    refine lv_iadd hx hb (dk DX12_nextToken 200 rfl) ?_
    refine lv_topi (fun v48 ev48 => ?_)
    have h := h v48 ev48
    refine pM_7 X hP hD hS lk93 (dk DX12_nextToken 201 rfl) (fun S49 eS49 H locs hP hD hS => ?_)
    have h := h S49 eS49
    refine lv_aload_n hx hb (dk DX12_nextToken 202 rfl) rfl (lv_at hl 0 rfl) ?_
    refine lv_iload_n hx hb (dk DX12_nextToken 203 rfl) rfl (lv_at hl 1 rfl) ?_
    refine lv_bipush (v := 60) hx hb (dk DX12_nextToken 204 rfl) (by decide) ?_
    refine lv_icmp_ne (tgt := 404) hx hb (dk DX12_nextToken 205 rfl) (by decide) (fun hc => ?_) (fun hc => ?_)
    · have h := h.1 hc
      refine lv_iconst (v := 5) hx hb (dk DX12_nextToken 208 rfl) (by decide) ?_
      refine pM_9 X hP hD hS lk102 (dk DX12_nextToken 209 rfl) (fun S50 eS50 H locs hP hD hS => ?_)
      have h := h S50 eS50
      exact W.vret hx hb hr (fun t ht hW => ⟨⟨_, rfl, h, by rw [ht]; exact hP, va_K.moved hW.alike X.2.2.2.2.2.2.1, hD⟩, hS.F ht⟩) hS.2.2 (dk DX12_nextToken 210 rfl)
    · have h := h.2 hc
      refine lv_iconst (v := 4) hx hb (dk DX12_nextToken 206 rfl) (by decide) ?_
      refine lv_goto (tgt := 405) hx hb (dk DX12_nextToken 207 rfl) (by decide) ?_
      refine pM_9 X hP hD hS lk102 (dk DX12_nextToken 209 rfl) (fun S51 eS51 H locs hP hD hS => ?_)
      have h := h S51 eS51
      exact W.vret hx hb hr (fun t ht hW => ⟨⟨_, rfl, h, by rw [ht]; exact hP, va_K.moved hW.alike X.2.2.2.2.2.2.1, hD⟩, hS.F ht⟩) hS.2.2 (dk DX12_nextToken 210 rfl)
set_option maxHeartbeats 4000000 in
set_option maxRecDepth 100000 in
theorem m_nextToken {l : Launch} {dC : Nat → ClassId} {dI : Nat → Nat → Nat} {q : Nat → Nat} {cI cJ cZ : ClassId} {sz : Nat} {Post : MS → Prop} (S : MS) (h : VC_nextToken Post S) : Met l yX12_nextToken ww_nextToken ({ frames := 2, cells := 0, slots := 0, locals := 42 } : Room) (va_Pc [.ref (q 0)] (preM dC dI q cI cJ cZ S sz)) (va_Qv Post (atM dC dI q cI cJ cZ (va_A (wM q cI cJ cZ S) sz)) (va_A (wM q cI cJ cZ S) sz)) 0 0 (va_A (wM q cI cJ cZ S) sz) := by
  refine oM (cc := cX12_nextToken) (maxL := 3) (ret := none) (Qc := fun A => va_Qv Post (atM dC dI q cI cJ cZ A) A) (by decide) rfl (fun w h => List.mem_cons_of_mem _ (List.mem_append_right _ h)) rfl (Nat.le_of_ble_eq_true rfl) (fun p e s m below meth c A ls X hr hlocks hP hD hS hl => ?_)
  have hx := X.1
  have hb := X.2.1
  have hl : lv_has ls 3 [(0, .ref (q 0))] := hl
  have lk93 := X.2.2.2.2.1 (.fieldLink RX12 93 "BreathOnLoanModel" "at" "I") (inW 69 rfl)
  have lk99 := X.2.2.2.2.1 (.fieldLink RX12 99 "BreathOnLoanModel" "place" "I") (inW 70 rfl)
  have lk102 := X.2.2.2.2.1 (.fieldLink RX12 102 "BreathOnLoanModel" "token" "I") (inW 71 rfl)
  have lk115 := X.2.2.2.2.1 (.fieldLink RX12 115 "BreathOnLoanModel" "word" "J") (inW 74 rfl)
  have lk108 := X.2.2.2.2.1 (.fieldLink RX12 108 "BreathOnLoanModel" "number" "I") (inW 72 rfl)
  generalize hargs : ([.ref (q 0)] : List Value).toArray = args at X ⊢
  have h := h (fun hd S => match hd with | (.inl ()) => ∀ (H : Heap) (locs : List Loc), va_P (dC, dI) vwCl (wM q cI cJ cZ S) H → va_D A (wM q cI cJ cZ S) → va_S A s.heap H locs → ∀ ls : Array Slot, lv_has ls 3 [(0, .ref (q 0))] → W p l e (headSpec ww_nextToken ({ frames := 2, cells := 0, slots := 0, locals := 42 } : Room)).room s m args below meth c H locs 0 0 (MQ below (va_Qv Post (atM dC dI q cI cJ cZ A) A) args s 0 0 A) (F0 m 0 ls []) | (.inr (.inl x1)) => ∀ (H : Heap) (locs : List Loc), va_P (dC, dI) vwCl (wM q cI cJ cZ S) H → va_D A (wM q cI cJ cZ S) → va_S A s.heap H locs → ∀ ls : Array Slot, lv_has ls 3 [(0, .ref (q 0)), (1, .int x1)] → W p l e (headSpec ww_nextToken ({ frames := 2, cells := 0, slots := 0, locals := 42 } : Room)).room s m args below meth c H locs 0 0 (MQ below (va_Qv Post (atM dC dI q cI cJ cZ A) A) args s 0 0 A) (F0 m 85 ls []) | (.inr (.inr (.inl x1))) => ∀ (H : Heap) (locs : List Loc), va_P (dC, dI) vwCl (wM q cI cJ cZ S) H → va_D A (wM q cI cJ cZ S) → va_S A s.heap H locs → ∀ ls : Array Slot, lv_has ls 3 [(0, .ref (q 0)), (1, .int x1)] → W p l e (headSpec ww_nextToken ({ frames := 2, cells := 0, slots := 0, locals := 42 } : Room)).room s m args below meth c H locs 0 0 (MQ below (va_Qv Post (atM dC dI q cI cJ cZ A) A) args s 0 0 A) (F0 m 161 ls []) | (.inr (.inr (.inr (.inl x1)))) => ∀ (H : Heap) (locs : List Loc), va_P (dC, dI) vwCl (wM q cI cJ cZ S) H → va_D A (wM q cI cJ cZ S) → va_S A s.heap H locs → ∀ ls : Array Slot, lv_has ls 3 [(0, .ref (q 0)), (1, .int x1)] → W p l e (headSpec ww_nextToken ({ frames := 2, cells := 0, slots := 0, locals := 42 } : Room)).room s m args below meth c H locs 0 0 (MQ below (va_Qv Post (atM dC dI q cI cJ cZ A) A) args s 0 0 A) (F0 m 339 ls []) | (.inr (.inr (.inr (.inr (.inl (x1, x2, t1)))))) => ∀ (H : Heap) (locs : List Loc), va_P (dC, dI) vwCl (wM q cI cJ cZ S) H → va_D A (wM q cI cJ cZ S) → va_S A s.heap H locs → ∀ ls : Array Slot, lv_has ls 3 [(0, .ref (q 0)), (1, .int x1), (2, .int x2)] → W p l e (headSpec ww_nextToken ({ frames := 2, cells := 0, slots := 0, locals := 42 } : Room)).room s m args below meth c H locs 0 0 (MQ below (va_Qv Post (atM dC dI q cI cJ cZ A) A) args s 0 0 A) (F0 m 355 ls [.int t1, .ref (q 0)]) | (.inr (.inr (.inr (.inr (.inr (x1, x2)))))) => ∀ (H : Heap) (locs : List Loc), va_P (dC, dI) vwCl (wM q cI cJ cZ S) H → va_D A (wM q cI cJ cZ S) → va_S A s.heap H locs → ∀ ls : Array Slot, lv_has ls 3 [(0, .ref (q 0)), (1, .int x1), (2, .int x2)] → W p l e (headSpec ww_nextToken ({ frames := 2, cells := 0, slots := 0, locals := 42 } : Room)).room s m args below meth c H locs 0 0 (MQ below (va_Qv Post (atM dC dI q cI cJ cZ A) A) args s 0 0 A) (F0 m 370 ls [])) ?_
  · skip
    exact h _ _ hP hD hS ls (lv_sub hl [0] rfl)
  · rintro (⟨⟩ | x1 | x1 | x1 | ⟨x1, x2, t1⟩ | ⟨x1, x2⟩) S hB
    · exact h_nextToken_0 X hr hlocks (hK0 := fun _ h => h) (hK1 := fun _ _ h => h) (hK2 := fun _ _ h => h) (hK3 := fun _ _ h => h) (hK4 := fun _ _ _ _ h => h) (hK5 := fun _ _ _ h => h)  S hB
    · exact h_nextToken_1 X hr hlocks (hK0 := fun _ h => h) (hK1 := fun _ _ h => h) (hK2 := fun _ _ h => h) (hK3 := fun _ _ h => h) (hK4 := fun _ _ _ _ h => h) (hK5 := fun _ _ _ h => h) x1 S hB
    · exact h_nextToken_2 X hr hlocks (hK0 := fun _ h => h) (hK1 := fun _ _ h => h) (hK2 := fun _ _ h => h) (hK3 := fun _ _ h => h) (hK4 := fun _ _ _ _ h => h) (hK5 := fun _ _ _ h => h) x1 S hB
    · exact h_nextToken_3 X hr hlocks (hK0 := fun _ h => h) (hK1 := fun _ _ h => h) (hK2 := fun _ _ h => h) (hK3 := fun _ _ h => h) (hK4 := fun _ _ _ _ h => h) (hK5 := fun _ _ _ h => h) x1 S hB
    · exact h_nextToken_4 X hr hlocks (hK0 := fun _ h => h) (hK1 := fun _ _ h => h) (hK2 := fun _ _ h => h) (hK3 := fun _ _ h => h) (hK4 := fun _ _ _ _ h => h) (hK5 := fun _ _ _ h => h) x1 x2 t1 S hB
    · exact h_nextToken_5 X hr hlocks (hK0 := fun _ h => h) (hK1 := fun _ _ h => h) (hK2 := fun _ _ h => h) (hK3 := fun _ _ h => h) (hK4 := fun _ _ _ _ h => h) (hK5 := fun _ _ _ h => h) x1 x2 S hB

