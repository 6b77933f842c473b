def ww_J7_fill_53178_45 : List Cond := .code yJ7_fill_53178 cJ7_fill_53178 4 none :: (WdX ++ WsX)
theorem q_J7_fill_53178_45 : yJ7_fill_53178.cls ≠ "java/lang/invoke/MethodHandle" ∧ yJ7_fill_53178.cls ≠ "java/lang/invoke/VarHandle" ∧ (parseMethodDescriptor yJ7_fill_53178.desc).map (fun d => d.parameters.length) = some 2 := by decide +kernel
abbrev Hd_J7_fill_53178_45 : Type := (Int32 × Int32 × Int32)
def B_J7_fill_53178_45 (Post : XS → Prop) (K : Hd_J7_fill_53178_45 → XS → Prop) : Hd_J7_fill_53178_45 → XS → Prop
  | (x1, x2, x3), S => ((x3 ≤ x2 → Post S) ∧ (¬ x3 ≤ x2 → vp_in x2 4 ∧ ∀ S1 : XS, S1 = xF S 45 (upd (S.2.1 45) x2.toNatClampNeg x1) → ∀ v2 : Int32, v2 = x2 + 1 → K (x1, v2, x3) S1))
def VC_J7_fill_53178_45 (Post : XS → Prop) (a1 : Int32) (S : XS) : Prop := ∀ K : Hd_J7_fill_53178_45 → XS → Prop, (∀ h S, B_J7_fill_53178_45 Post K h S → K h S) → K (a1, 0, 4) S
set_option maxHeartbeats 4000000 in
set_option maxRecDepth 100000 in
theorem h_J7_fill_53178_45_0 {p : Program} {l : Launch} {e : Env} {s : State} {m : MethodId} {below : List Frame} {meth : Method} {c : Code} {dC : Nat → ClassId} {dI : Nat → Nat → Nat} {q : Nat → Nat} {cI cT : ClassId} {en : Nat → Nat} {A : Nat → Prop} {args : Array Value} {Post : XS → Prop} {K : Hd_J7_fill_53178_45 → XS → Prop} (X : XX p s m args c cJ7_fill_53178 4 ww_J7_fill_53178_45 RJ7 dC dI cI cT en A) (hr : meth.sig.returnType = none) (hlocks : meth.locks = false) (hK0 : ∀ (x1 : Int32) (x2 : Int32) (x3 : Int32) (S : XS), K (x1, x2, x3) S → ∀ (H : Heap) (locs : List Loc), va_P (dC, dI) vwCl (wX q cI cT S) H → va_D A (wX q cI cT S) → va_S A s.heap H locs → ∀ ls : Array Slot, lv_has ls 4 [(0, .ref (q 45)), (1, .int x1), (2, .int x2), (3, .int x3)] → W p l e (headSpec ww_J7_fill_53178_45 ({ frames := 0, cells := 0, slots := 0, locals := 0 } : Room)).room s m args below meth c H locs 0 0 (MQ below (va_Qv Post (atX dC dI q cI cT A) A) args s 0 0 A) (F0 m 5 ls [])) (x1 : Int32) (x2 : Int32) (x3 : Int32) (S : XS) (h : B_J7_fill_53178_45 Post K (x1, x2, x3) S) : ∀ (H : Heap) (locs : List Loc), va_P (dC, dI) vwCl (wX q cI cT S) H → va_D A (wX q cI cT S) → va_S A s.heap H locs → ∀ ls : Array Slot, lv_has ls 4 [(0, .ref (q 45)), (1, .int x1), (2, .int x2), (3, .int x3)] → W p l e (headSpec ww_J7_fill_53178_45 ({ frames := 0, cells := 0, slots := 0, locals := 0 } : Room)).room s m args below meth c H locs 0 0 (MQ below (va_Qv Post (atX dC dI q cI cT A) A) args s 0 0 A) (F0 m 5 ls []) := by
  have hx := X.1
  have hb := X.2.1
  intro H locs hP hD hS ls hl
  dsimp only [B_J7_fill_53178_45] at h
  refine lv_iload_n hx hb (dk DJ7_fill_53178 5 rfl) rfl (lv_at hl 2 rfl) ?_
  refine lv_iload_n hx hb (dk DJ7_fill_53178 6 rfl) rfl (lv_at hl 3 rfl) ?_
  refine lv_icmp_ge (tgt := 20) hx hb (dk DJ7_fill_53178 7 rfl) (by decide) (fun hc => ?_) (fun hc => ?_)
  · have h := h.1 hc
    exact W.vret hx hb hr (fun t ht hW => ⟨⟨_, rfl, h, by rw [ht]; exact hP, va_K.moved hW.alike X.2.2.2.2.2.2.1, hD⟩, hS.F ht⟩) hS.2.2 (dk DJ7_fill_53178 14 rfl)
  · have h := h.2 hc
    refine lv_aload_n hx hb (dk DJ7_fill_53178 8 rfl) rfl (lv_at hl 0 rfl) ?_
    refine lv_iload_n hx hb (dk DJ7_fill_53178 9 rfl) rfl (lv_at hl 2 rfl) ?_
    refine lv_iload_n hx hb (dk DJ7_fill_53178 10 rfl) rfl (lv_at hl 1 rfl) ?_
    obtain ⟨hin, h⟩ := h
    refine stX_45 X hP hD hS hin (dk DJ7_fill_53178 11 rfl) (fun S1 eS1 H locs hP hD hS => ?_)
    have h := h S1 eS1
    obtain ⟨v2, ev2⟩ : ∃ y : Int32, y = x2 + 1 := ⟨_, rfl⟩
    have h := h v2 ev2
    refine lv_iinc (v := v2) (lv' := [(2, .int v2), (0, .ref (q 45)), (1, .int x1), (3, .int x3)]) hx hb (dk DJ7_fill_53178 12 rfl) hl (k := 2) rfl (by rw [ev2]; rfl) (by decide) rfl (fun ls hl => ?_)
    refine lv_goto (tgt := 5) hx hb (dk DJ7_fill_53178 13 rfl) (by decide) ?_
    exact hK0 x1 v2 x3 S1 h _ _ hP hD hS ls (lv_sub hl [1, 2, 0, 3] rfl)
set_option maxHeartbeats 4000000 in
set_option maxRecDepth 100000 in
theorem m_J7_fill_53178_45 {l : Launch} {dC : Nat → ClassId} {dI : Nat → Nat → Nat} {q : Nat → Nat} {cI cT : ClassId} {en : Nat → Nat} {sz : Nat} {Post : XS → Prop} (a1 : Int32) (S : XS) (h : VC_J7_fill_53178_45 Post a1 S) : Met l yJ7_fill_53178 ww_J7_fill_53178_45 ({ frames := 0, cells := 0, slots := 0, locals := 0 } : Room) (va_Pc [.ref (q 45), .int a1] (preX dC dI q cI cT en S sz)) (va_Qv Post (atX dC dI q cI cT (va_A (wX q cI cT S) sz)) (va_A (wX q cI cT S) sz)) 0 0 (va_A (wX q cI cT S) sz) := by
  refine oX (cc := cJ7_fill_53178) (maxL := 4) (ret := none) (Qc := fun A => va_Qv Post (atX dC dI q cI cT A) A) (own := RJ7) (by decide) rfl (fun w h => List.mem_cons_of_mem _ (List.mem_append_right _ h)) rfl (Nat.le_of_ble_eq_true rfl) (fun p e s m below meth c A ls X hr hlocks hP hD hS hl => ?_)
  have hx := X.1
  have hb := X.2.1
  have hl : lv_has ls 4 [(0, .ref (q 45)), (1, .int a1)] := hl
  generalize hargs : ([.ref (q 45), .int a1] : List Value).toArray = args at X ⊢
  have h := h (fun hd S => match hd with | (x1, x2, x3) => ∀ (H : Heap) (locs : List Loc), va_P (dC, dI) vwCl (wX q cI cT S) H → va_D A (wX q cI cT S) → va_S A s.heap H locs → ∀ ls : Array Slot, lv_has ls 4 [(0, .ref (q 45)), (1, .int x1), (2, .int x2), (3, .int x3)] → W p l e (headSpec ww_J7_fill_53178_45 ({ frames := 0, cells := 0, slots := 0, locals := 0 } : Room)).room s m args below meth c H locs 0 0 (MQ below (va_Qv Post (atX dC dI q cI cT A) A) args s 0 0 A) (F0 m 5 ls [])) ?_
  · skip
    refine lv_iconst (v := 0) hx hb (dk DJ7_fill_53178 0 rfl) (by decide) ?_
    refine lv_istore_n (lv' := [(2, .int 0), (0, .ref (q 45)), (1, .int a1)]) hx hb (dk DJ7_fill_53178 1 rfl) rfl hl (by decide) rfl (fun ls hl => ?_)
    refine lv_aload_n hx hb (dk DJ7_fill_53178 2 rfl) rfl (lv_at hl 1 rfl) ?_
    refine alX_45 X hP (dk DJ7_fill_53178 3 rfl) ?_
    refine lv_istore_n (lv' := [(3, .int 4), (2, .int 0), (0, .ref (q 45)), (1, .int a1)]) hx hb (dk DJ7_fill_53178 4 rfl) rfl hl (by decide) rfl (fun ls hl => ?_)
    exact h _ _ hP hD hS ls (lv_sub hl [2, 3, 1, 0] rfl)
  · rintro ⟨x1, x2, x3⟩ S hB
    exact h_J7_fill_53178_45_0 X hr hlocks (hK0 := fun _ _ _ _ h => h) x1 x2 x3 S hB

def ww_J7_fill_53178_46 : List Cond := .code yJ7_fill_53178 cJ7_fill_53178 4 none :: (WdX ++ WsX)
theorem q_J7_fill_53178_46 : yJ7_fill_53178.cls ≠ "java/lang/invoke/MethodHandle" ∧ yJ7_fill_53178.cls ≠ "java/lang/invoke/VarHandle" ∧ (parseMethodDescriptor yJ7_fill_53178.desc).map (fun d => d.parameters.length) = some 2 := by decide +kernel
abbrev Hd_J7_fill_53178_46 : Type := (Int32 × Int32 × Int32)
def B_J7_fill_53178_46 (Post : XS → Prop) (K : Hd_J7_fill_53178_46 → XS → Prop) : Hd_J7_fill_53178_46 → XS → Prop
  | (x1, x2, x3), S => ((x3 ≤ x2 → Post S) ∧ (¬ x3 ≤ x2 → vp_in x2 4 ∧ ∀ S1 : XS, S1 = xF S 46 (upd (S.2.1 46) x2.toNatClampNeg x1) → ∀ v2 : Int32, v2 = x2 + 1 → K (x1, v2, x3) S1))
def VC_J7_fill_53178_46 (Post : XS → Prop) (a1 : Int32) (S : XS) : Prop := ∀ K : Hd_J7_fill_53178_46 → XS → Prop, (∀ h S, B_J7_fill_53178_46 Post K h S → K h S) → K (a1, 0, 4) S
set_option maxHeartbeats 4000000 in
set_option maxRecDepth 100000 in
theorem h_J7_fill_53178_46_0 {p : Program} {l : Launch} {e : Env} {s : State} {m : MethodId} {below : List Frame} {meth : Method} {c : Code} {dC : Nat → ClassId} {dI : Nat → Nat → Nat} {q : Nat → Nat} {cI cT : ClassId} {en : Nat → Nat} {A : Nat → Prop} {args : Array Value} {Post : XS → Prop} {K : Hd_J7_fill_53178_46 → XS → Prop} (X : XX p s m args c cJ7_fill_53178 4 ww_J7_fill_53178_46 RJ7 dC dI cI cT en A) (hr : meth.sig.returnType = none) (hlocks : meth.locks = false) (hK0 : ∀ (x1 : Int32) (x2 : Int32) (x3 : Int32) (S : XS), K (x1, x2, x3) S → ∀ (H : Heap) (locs : List Loc), va_P (dC, dI) vwCl (wX q cI cT S) H → va_D A (wX q cI cT S) → va_S A s.heap H locs → ∀ ls : Array Slot, lv_has ls 4 [(0, .ref (q 46)), (1, .int x1), (2, .int x2), (3, .int x3)] → W p l e (headSpec ww_J7_fill_53178_46 ({ frames := 0, cells := 0, slots := 0, locals := 0 } : Room)).room s m args below meth c H locs 0 0 (MQ below (va_Qv Post (atX dC dI q cI cT A) A) args s 0 0 A) (F0 m 5 ls [])) (x1 : Int32) (x2 : Int32) (x3 : Int32) (S : XS) (h : B_J7_fill_53178_46 Post K (x1, x2, x3) S) : ∀ (H : Heap) (locs : List Loc), va_P (dC, dI) vwCl (wX q cI cT S) H → va_D A (wX q cI cT S) → va_S A s.heap H locs → ∀ ls : Array Slot, lv_has ls 4 [(0, .ref (q 46)), (1, .int x1), (2, .int x2), (3, .int x3)] → W p l e (headSpec ww_J7_fill_53178_46 ({ frames := 0, cells := 0, slots := 0, locals := 0 } : Room)).room s m args below meth c H locs 0 0 (MQ below (va_Qv Post (atX dC dI q cI cT A) A) args s 0 0 A) (F0 m 5 ls []) := by
  have hx := X.1
  have hb := X.2.1
  intro H locs hP hD hS ls hl
  dsimp only [B_J7_fill_53178_46] at h
  refine lv_iload_n hx hb (dk DJ7_fill_53178 5 rfl) rfl (lv_at hl 2 rfl) ?_
  refine lv_iload_n hx hb (dk DJ7_fill_53178 6 rfl) rfl (lv_at hl 3 rfl) ?_
  refine lv_icmp_ge (tgt := 20) hx hb (dk DJ7_fill_53178 7 rfl) (by decide) (fun hc => ?_) (fun hc => ?_)
  · have h := h.1 hc
    exact W.vret hx hb hr (fun t ht hW => ⟨⟨_, rfl, h, by rw [ht]; exact hP, va_K.moved hW.alike X.2.2.2.2.2.2.1, hD⟩, hS.F ht⟩) hS.2.2 (dk DJ7_fill_53178 14 rfl)
  · have h := h.2 hc
    refine lv_aload_n hx hb (dk DJ7_fill_53178 8 rfl) rfl (lv_at hl 0 rfl) ?_
    refine lv_iload_n hx hb (dk DJ7_fill_53178 9 rfl) rfl (lv_at hl 2 rfl) ?_
    refine lv_iload_n hx hb (dk DJ7_fill_53178 10 rfl) rfl (lv_at hl 1 rfl) ?_
    obtain ⟨hin, h⟩ := h
    refine stX_46 X hP hD hS hin (dk DJ7_fill_53178 11 rfl) (fun S1 eS1 H locs hP hD hS => ?_)
    have h := h S1 eS1
    obtain ⟨v2, ev2⟩ : ∃ y : Int32, y = x2 + 1 := ⟨_, rfl⟩
    have h := h v2 ev2
    refine lv_iinc (v := v2) (lv' := [(2, .int v2), (0, .ref (q 46)), (1, .int x1), (3, .int x3)]) hx hb (dk DJ7_fill_53178 12 rfl) hl (k := 2) rfl (by rw [ev2]; rfl) (by decide) rfl (fun ls hl => ?_)
    refine lv_goto (tgt := 5) hx hb (dk DJ7_fill_53178 13 rfl) (by decide) ?_
    exact hK0 x1 v2 x3 S1 h _ _ hP hD hS ls (lv_sub hl [1, 2, 0, 3] rfl)
set_option maxHeartbeats 4000000 in
set_option maxRecDepth 100000 in
theorem m_J7_fill_53178_46 {l : Launch} {dC : Nat → ClassId} {dI : Nat → Nat → Nat} {q : Nat → Nat} {cI cT : ClassId} {en : Nat → Nat} {sz : Nat} {Post : XS → Prop} (a1 : Int32) (S : XS) (h : VC_J7_fill_53178_46 Post a1 S) : Met l yJ7_fill_53178 ww_J7_fill_53178_46 ({ frames := 0, cells := 0, slots := 0, locals := 0 } : Room) (va_Pc [.ref (q 46), .int a1] (preX dC dI q cI cT en S sz)) (va_Qv Post (atX dC dI q cI cT (va_A (wX q cI cT S) sz)) (va_A (wX q cI cT S) sz)) 0 0 (va_A (wX q cI cT S) sz) := by
  refine oX (cc := cJ7_fill_53178) (maxL := 4) (ret := none) (Qc := fun A => va_Qv Post (atX dC dI q cI cT A) A) (own := RJ7) (by decide) rfl (fun w h => List.mem_cons_of_mem _ (List.mem_append_right _ h)) rfl (Nat.le_of_ble_eq_true rfl) (fun p e s m below meth c A ls X hr hlocks hP hD hS hl => ?_)
  have hx := X.1
  have hb := X.2.1
  have hl : lv_has ls 4 [(0, .ref (q 46)), (1, .int a1)] := hl
  generalize hargs : ([.ref (q 46), .int a1] : List Value).toArray = args at X ⊢
  have h := h (fun hd S => match hd with | (x1, x2, x3) => ∀ (H : Heap) (locs : List Loc), va_P (dC, dI) vwCl (wX q cI cT S) H → va_D A (wX q cI cT S) → va_S A s.heap H locs → ∀ ls : Array Slot, lv_has ls 4 [(0, .ref (q 46)), (1, .int x1), (2, .int x2), (3, .int x3)] → W p l e (headSpec ww_J7_fill_53178_46 ({ frames := 0, cells := 0, slots := 0, locals := 0 } : Room)).room s m args below meth c H locs 0 0 (MQ below (va_Qv Post (atX dC dI q cI cT A) A) args s 0 0 A) (F0 m 5 ls [])) ?_
  · skip
    refine lv_iconst (v := 0) hx hb (dk DJ7_fill_53178 0 rfl) (by decide) ?_
    refine lv_istore_n (lv' := [(2, .int 0), (0, .ref (q 46)), (1, .int a1)]) hx hb (dk DJ7_fill_53178 1 rfl) rfl hl (by decide) rfl (fun ls hl => ?_)
    refine lv_aload_n hx hb (dk DJ7_fill_53178 2 rfl) rfl (lv_at hl 1 rfl) ?_
    refine alX_46 X hP (dk DJ7_fill_53178 3 rfl) ?_
    refine lv_istore_n (lv' := [(3, .int 4), (2, .int 0), (0, .ref (q 46)), (1, .int a1)]) hx hb (dk DJ7_fill_53178 4 rfl) rfl hl (by decide) rfl (fun ls hl => ?_)
    exact h _ _ hP hD hS ls (lv_sub hl [2, 3, 1, 0] rfl)
  · rintro ⟨x1, x2, x3⟩ S hB
    exact h_J7_fill_53178_46_0 X hr hlocks (hK0 := fun _ _ _ _ h => h) x1 x2 x3 S hB

def ww_J7_fill_53178_47 : List Cond := .code yJ7_fill_53178 cJ7_fill_53178 4 none :: (WdX ++ WsX)
theorem q_J7_fill_53178_47 : yJ7_fill_53178.cls ≠ "java/lang/invoke/MethodHandle" ∧ yJ7_fill_53178.cls ≠ "java/lang/invoke/VarHandle" ∧ (parseMethodDescriptor yJ7_fill_53178.desc).map (fun d => d.parameters.length) = some 2 := by decide +kernel
abbrev Hd_J7_fill_53178_47 : Type := (Int32 × Int32 × Int32)
def B_J7_fill_53178_47 (Post : XS → Prop) (K : Hd_J7_fill_53178_47 → XS → Prop) : Hd_J7_fill_53178_47 → XS → Prop
  | (x1, x2, x3), S => ((x3 ≤ x2 → Post S) ∧ (¬ x3 ≤ x2 → vp_in x2 96 ∧ ∀ S1 : XS, S1 = xF S 47 (upd (S.2.1 47) x2.toNatClampNeg x1) → ∀ v2 : Int32, v2 = x2 + 1 → K (x1, v2, x3) S1))
def VC_J7_fill_53178_47 (Post : XS → Prop) (a1 : Int32) (S : XS) : Prop := ∀ K : Hd_J7_fill_53178_47 → XS → Prop, (∀ h S, B_J7_fill_53178_47 Post K h S → K h S) → K (a1, 0, 96) S
set_option maxHeartbeats 4000000 in
set_option maxRecDepth 100000 in
theorem h_J7_fill_53178_47_0 {p : Program} {l : Launch} {e : Env} {s : State} {m : MethodId} {below : List Frame} {meth : Method} {c : Code} {dC : Nat → ClassId} {dI : Nat → Nat → Nat} {q : Nat → Nat} {cI cT : ClassId} {en : Nat → Nat} {A : Nat → Prop} {args : Array Value} {Post : XS → Prop} {K : Hd_J7_fill_53178_47 → XS → Prop} (X : XX p s m args c cJ7_fill_53178 4 ww_J7_fill_53178_47 RJ7 dC dI cI cT en A) (hr : meth.sig.returnType = none) (hlocks : meth.locks = false) (hK0 : ∀ (x1 : Int32) (x2 : Int32) (x3 : Int32) (S : XS), K (x1, x2, x3) S → ∀ (H : Heap) (locs : List Loc), va_P (dC, dI) vwCl (wX q cI cT S) H → va_D A (wX q cI cT S) → va_S A s.heap H locs → ∀ ls : Array Slot, lv_has ls 4 [(0, .ref (q 47)), (1, .int x1), (2, .int x2), (3, .int x3)] → W p l e (headSpec ww_J7_fill_53178_47 ({ frames := 0, cells := 0, slots := 0, locals := 0 } : Room)).room s m args below meth c H locs 0 0 (MQ below (va_Qv Post (atX dC dI q cI cT A) A) args s 0 0 A) (F0 m 5 ls [])) (x1 : Int32) (x2 : Int32) (x3 : Int32) (S : XS) (h : B_J7_fill_53178_47 Post K (x1, x2, x3) S) : ∀ (H : Heap) (locs : List Loc), va_P (dC, dI) vwCl (wX q cI cT S) H → va_D A (wX q cI cT S) → va_S A s.heap H locs → ∀ ls : Array Slot, lv_has ls 4 [(0, .ref (q 47)), (1, .int x1), (2, .int x2), (3, .int x3)] → W p l e (headSpec ww_J7_fill_53178_47 ({ frames := 0, cells := 0, slots := 0, locals := 0 } : Room)).room s m args below meth c H locs 0 0 (MQ below (va_Qv Post (atX dC dI q cI cT A) A) args s 0 0 A) (F0 m 5 ls []) := by
  have hx := X.1
  have hb := X.2.1
  intro H locs hP hD hS ls hl
  dsimp only [B_J7_fill_53178_47] at h
  refine lv_iload_n hx hb (dk DJ7_fill_53178 5 rfl) rfl (lv_at hl 2 rfl) ?_
  refine lv_iload_n hx hb (dk DJ7_fill_53178 6 rfl) rfl (lv_at hl 3 rfl) ?_
  refine lv_icmp_ge (tgt := 20) hx hb (dk DJ7_fill_53178 7 rfl) (by decide) (fun hc => ?_) (fun hc => ?_)
  · have h := h.1 hc
    exact W.vret hx hb hr (fun t ht hW => ⟨⟨_, rfl, h, by rw [ht]; exact hP, va_K.moved hW.alike X.2.2.2.2.2.2.1, hD⟩, hS.F ht⟩) hS.2.2 (dk DJ7_fill_53178 14 rfl)
  · have h := h.2 hc
    refine lv_aload_n hx hb (dk DJ7_fill_53178 8 rfl) rfl (lv_at hl 0 rfl) ?_
    refine lv_iload_n hx hb (dk DJ7_fill_53178 9 rfl) rfl (lv_at hl 2 rfl) ?_
    refine lv_iload_n hx hb (dk DJ7_fill_53178 10 rfl) rfl (lv_at hl 1 rfl) ?_
    obtain ⟨hin, h⟩ := h
    refine stX_47 X hP hD hS hin (dk DJ7_fill_53178 11 rfl) (fun S1 eS1 H locs hP hD hS => ?_)
    have h := h S1 eS1
    obtain ⟨v2, ev2⟩ : ∃ y : Int32, y = x2 + 1 := ⟨_, rfl⟩
    have h := h v2 ev2
    refine lv_iinc (v := v2) (lv' := [(2, .int v2), (0, .ref (q 47)), (1, .int x1), (3, .int x3)]) hx hb (dk DJ7_fill_53178 12 rfl) hl (k := 2) rfl (by rw [ev2]; rfl) (by decide) rfl (fun ls hl => ?_)
    refine lv_goto (tgt := 5) hx hb (dk DJ7_fill_53178 13 rfl) (by decide) ?_
    exact hK0 x1 v2 x3 S1 h _ _ hP hD hS ls (lv_sub hl [1, 2, 0, 3] rfl)
set_option maxHeartbeats 4000000 in
set_option maxRecDepth 100000 in
theorem m_J7_fill_53178_47 {l : Launch} {dC : Nat → ClassId} {dI : Nat → Nat → Nat} {q : Nat → Nat} {cI cT : ClassId} {en : Nat → Nat} {sz : Nat} {Post : XS → Prop} (a1 : Int32) (S : XS) (h : VC_J7_fill_53178_47 Post a1 S) : Met l yJ7_fill_53178 ww_J7_fill_53178_47 ({ frames := 0, cells := 0, slots := 0, locals := 0 } : Room) (va_Pc [.ref (q 47), .int a1] (preX dC dI q cI cT en S sz)) (va_Qv Post (atX dC dI q cI cT (va_A (wX q cI cT S) sz)) (va_A (wX q cI cT S) sz)) 0 0 (va_A (wX q cI cT S) sz) := by
  refine oX (cc := cJ7_fill_53178) (maxL := 4) (ret := none) (Qc := fun A => va_Qv Post (atX dC dI q cI cT A) A) (own := RJ7) (by decide) rfl (fun w h => List.mem_cons_of_mem _ (List.mem_append_right _ h)) rfl (Nat.le_of_ble_eq_true rfl) (fun p e s m below meth c A ls X hr hlocks hP hD hS hl => ?_)
  have hx := X.1
  have hb := X.2.1
  have hl : lv_has ls 4 [(0, .ref (q 47)), (1, .int a1)] := hl
  generalize hargs : ([.ref (q 47), .int a1] : List Value).toArray = args at X ⊢
  have h := h (fun hd S => match hd with | (x1, x2, x3) => ∀ (H : Heap) (locs : List Loc), va_P (dC, dI) vwCl (wX q cI cT S) H → va_D A (wX q cI cT S) → va_S A s.heap H locs → ∀ ls : Array Slot, lv_has ls 4 [(0, .ref (q 47)), (1, .int x1), (2, .int x2), (3, .int x3)] → W p l e (headSpec ww_J7_fill_53178_47 ({ frames := 0, cells := 0, slots := 0, locals := 0 } : Room)).room s m args below meth c H locs 0 0 (MQ below (va_Qv Post (atX dC dI q cI cT A) A) args s 0 0 A) (F0 m 5 ls [])) ?_
  · skip
    refine lv_iconst (v := 0) hx hb (dk DJ7_fill_53178 0 rfl) (by decide) ?_
    refine lv_istore_n (lv' := [(2, .int 0), (0, .ref (q 47)), (1, .int a1)]) hx hb (dk DJ7_fill_53178 1 rfl) rfl hl (by decide) rfl (fun ls hl => ?_)
    refine lv_aload_n hx hb (dk DJ7_fill_53178 2 rfl) rfl (lv_at hl 1 rfl) ?_
    refine alX_47 X hP (dk DJ7_fill_53178 3 rfl) ?_
    refine lv_istore_n (lv' := [(3, .int 96), (2, .int 0), (0, .ref (q 47)), (1, .int a1)]) hx hb (dk DJ7_fill_53178 4 rfl) rfl hl (by decide) rfl (fun ls hl => ?_)
    exact h _ _ hP hD hS ls (lv_sub hl [2, 3, 1, 0] rfl)
  · rintro ⟨x1, x2, x3⟩ S hB
    exact h_J7_fill_53178_47_0 X hr hlocks (hK0 := fun _ _ _ _ h => h) x1 x2 x3 S hB

theorem q_X3_parse_43 : yX3_parse.cls = RX3 ∧ yX3_parse.cls ≠ "java/lang/invoke/MethodHandle" ∧ yX3_parse.cls ≠ "java/lang/invoke/VarHandle" ∧ (parseMethodDescriptor yX3_parse.desc).map (fun d => d.parameters.length) = some 0 := by decide +kernel
abbrev Hd_X3_parse_43 : Type := (Int32)
def B_X3_parse_43 (Post : (Option Nat) → XS → Prop) (K : Hd_X3_parse_43 → XS → Prop) : Hd_X3_parse_43 → XS → Prop
  | x1, S => ((24 < x1 → (((S.1 1377) = 0 → VCt_parse Post S) ∧ (¬ (S.1 1377) = 0 → Post none S))) ∧ (¬ 24 < x1 → ((¬ (S.1 1377) = 0 → (((S.1 1377) = 0 → VCt_parse Post S) ∧ (¬ (S.1 1377) = 0 → Post none S))) ∧ ((S.1 1377) = 0 → (((S.1 1381) = 16 → (((S.1 1377) = 0 → VCt_parse Post S) ∧ (¬ (S.1 1377) = 0 → Post none S))) ∧ (¬ (S.1 1381) = 16 → VC_X3_parseClause_43 (fun S12 => ∀ v13 : Int32, v13 = x1 + 1 → K v13 S12) S))))))
def VC_X3_parse_43 (Post : (Option Nat) → XS → Prop) (S : XS) : Prop := ∀ K : Hd_X3_parse_43 → XS → Prop, (∀ h S, B_X3_parse_43 Post K h S → K h S) → ∀ S1 : XS, S1 = xI S 1376 1 → ∀ S2 : XS, S2 = xI S1 1377 0 → ∀ S3 : XS, S3 = xI S2 1378 (-1) → ∀ S4 : XS, S4 = xI S3 1380 0 → ∀ S5 : XS, S5 = xI S4 1384 0 → ∀ S6 : XS, S6 = xI S5 1386 0 → ∀ S7 : XS, S7 = xI S6 1387 0 → VC_J7_fill_53178_45 (fun S8 => VC_J7_fill_53178_46 (fun S9 => VC_J7_fill_53178_47 (fun S10 => VC_X3_advance_43 (fun S11 => K 0 S11) S10) 0 S9) (-1) S8) (-1) S7
set_option maxHeartbeats 4000000 in
set_option maxRecDepth 100000 in
theorem h_X3_parse_43_0 {p : Program} {l : Launch} {e : Env} {s : State} {m : MethodId} {below : List Frame} {meth : Method} {c : Code} {dC : Nat → ClassId} {dI : Nat → Nat → Nat} {q : Nat → Nat} {cI cT : ClassId} {en : Nat → Nat} {A : Nat → Prop} {args : Array Value} {Post : (Option Nat) → XS → Prop} {K : Hd_X3_parse_43 → XS → Prop} (X : XX p s m args c cX3_parse 2 ww_X3_parse_43 RX3 dC dI cI cT en A) (hr : meth.sig.returnType = (some (.object "BreathOnLoan$Text"))) (hlocks : meth.locks = false) (hK0 : ∀ (x1 : Int32) (S : XS), K x1 S → ∀ (H : Heap) (locs : List Loc), va_P (dC, dI) vwCl (wX q cI cT S) H → va_D A (wX q cI cT S) → va_S A s.heap H locs → ∀ ls : Array Slot, lv_has ls 2 [(0, .ref (q 43)), (1, .int x1)] → W p l e (headSpec ww_X3_parse_43 ({ frames := 120, cells := 5, slots := 412, locals := 4600 } : Room)).room s m args below meth c H locs 0 0 (MQ below (va_Qq Post (atX dC dI q cI cT A) A) args s 5 412 A) (F0 m 65 ls [])) (x1 : Int32) (S : XS) (h : B_X3_parse_43 Post K x1 S) : ∀ (H : Heap) (locs : List Loc), va_P (dC, dI) vwCl (wX q cI cT S) H → va_D A (wX q cI cT S) → va_S A s.heap H locs → ∀ ls : Array Slot, lv_has ls 2 [(0, .ref (q 43)), (1, .int x1)] → W p l e (headSpec ww_X3_parse_43 ({ frames := 120, cells := 5, slots := 412, locals := 4600 } : Room)).room s m args below meth c H locs 0 0 (MQ below (va_Qq Post (atX dC dI q cI cT A) A) args s 5 412 A) (F0 m 65 ls []) := by
  have hx := X.1
  have hb := X.2.1
  intro H locs hP hD hS ls hl
  have lk32 := X.2.2.2.2.1 (.fieldLink RX3 32 "BreathOnLoan$Parser" "hasRead" "Z") (inX 395 rfl)
  have lk36 := X.2.2.2.2.1 (.fieldLink RX3 36 "BreathOnLoan$Parser" "faultNumber" "I") (inX 302 rfl)
  have lk9 := X.2.2.2.2.1 (.fieldLink RX3 9 "BreathOnLoan$Parser" "faultPlace" "I") (inX 169 rfl)
  have lk39 := X.2.2.2.2.1 (.fieldLink RX3 39 "BreathOnLoan$Parser" "next" "I") (inX 220 rfl)
  have lk42 := X.2.2.2.2.1 (.fieldLink RX3 42 "BreathOnLoan$Parser" "open" "I") (inX 314 rfl)
  have lk45 := X.2.2.2.2.1 (.fieldLink RX3 45 "BreathOnLoan$Parser" "clauses" "I") (inX 378 rfl)
  have lk48 := X.2.2.2.2.1 (.fieldLink RX3 48 "BreathOnLoan$Parser" "size" "I") (inX 323 rfl)
  have lk19 := X.2.2.2.2.1 (.fieldLink RX3 19 "BreathOnLoan$Parser" "lawFrom" "[I") (inX 171 rfl)
  have lk22 := X.2.2.2.2.1 (.fieldLink RX3 22 "BreathOnLoan$Parser" "lawTo" "[I") (inX 172 rfl)
  have lk25 := X.2.2.2.2.1 (.fieldLink RX3 25 "BreathOnLoan$Parser" "rows" "[I") (inX 173 rfl)
  have lk60 := X.2.2.2.2.1 (.fieldLink RX3 60 "BreathOnLoan$Parser" "token" "I") (inX 228 rfl)
  dsimp only [B_X3_parse_43] at h
  refine lv_iload_n hx hb (dk DX3_parse 37 rfl) rfl (lv_at hl 1 rfl) ?_
  refine lv_bipush (v := 24) hx hb (dk DX3_parse 38 rfl) (by decide) ?_
  refine lv_icmp_gt (tgt := 97) hx hb (dk DX3_parse 39 rfl) (by decide) (fun hc => ?_) (fun hc => ?_)
  · have h := h.1 hc
    refine lv_aload_n hx hb (dk DX3_parse 51 rfl) rfl (lv_at hl 0 rfl) ?_
    refine gX_43 X hP 1 (by decide) rfl lk36 (dk DX3_parse 52 rfl) ?_
    refine lv_if_eq (tgt := 106) hx hb (dk DX3_parse 53 rfl) (by decide) (fun hc => ?_) (fun hc => ?_)
    · have h := h.1 hc
      exact t_parse X hr hlocks hP hD hS (lv_sub hl [0] rfl) h
    · have h := h.2 hc
      refine lv_null hx hb (dk DX3_parse 54 rfl) ?_
      refine W.widen (k := 5) (n := 412) (Nat.le_of_ble_eq_true rfl) (Nat.le_of_ble_eq_true rfl) ?_
      exact W.aret (v := va_rf none) hx hb hr (Or.inl ⟨_, rfl⟩) (rfOk _) (fun t ht hW => ⟨⟨none, _, rfl, h, by rw [ht]; exact hP, va_K.moved hW.alike X.2.2.2.2.2.2.1, hD⟩, hS.F ht⟩) hS.2.2 (dk DX3_parse 55 rfl)
  · have h := h.2 hc
    refine lv_aload_n hx hb (dk DX3_parse 40 rfl) rfl (lv_at hl 0 rfl) ?_
    refine gX_43 X hP 1 (by decide) rfl lk36 (dk DX3_parse 41 rfl) ?_
    refine lv_if_ne (tgt := 97) hx hb (dk DX3_parse 42 rfl) (by decide) (fun hc => ?_) (fun hc => ?_)
    · have h := h.1 hc
      refine lv_aload_n hx hb (dk DX3_parse 51 rfl) rfl (lv_at hl 0 rfl) ?_
      refine gX_43 X hP 1 (by decide) rfl lk36 (dk DX3_parse 52 rfl) ?_
      refine lv_if_eq (tgt := 106) hx hb (dk DX3_parse 53 rfl) (by decide) (fun hc => ?_) (fun hc => ?_)
      · have h := h.1 hc
        exact t_parse X hr hlocks hP hD hS (lv_sub hl [0] rfl) h
      · have h := h.2 hc
        refine lv_null hx hb (dk DX3_parse 54 rfl) ?_
        refine W.widen (k := 5) (n := 412) (Nat.le_of_ble_eq_true rfl) (Nat.le_of_ble_eq_true rfl) ?_
        exact W.aret (v := va_rf none) hx hb hr (Or.inl ⟨_, rfl⟩) (rfOk _) (fun t ht hW => ⟨⟨none, _, rfl, h, by rw [ht]; exact hP, va_K.moved hW.alike X.2.2.2.2.2.2.1, hD⟩, hS.F ht⟩) hS.2.2 (dk DX3_parse 55 rfl)
    · have h := h.2 hc
      refine lv_aload_n hx hb (dk DX3_parse 43 rfl) rfl (lv_at hl 0 rfl) ?_
      refine gX_43 X hP 5 (by decide) rfl lk60 (dk DX3_parse 44 rfl) ?_
      refine lv_bipush (v := 16) hx hb (dk DX3_parse 45 rfl) (by decide) ?_
      refine lv_icmp_eq (tgt := 97) hx hb (dk DX3_parse 46 rfl) (by decide) (fun hc => ?_) (fun hc => ?_)
      · have h := h.1 hc
        refine lv_aload_n hx hb (dk DX3_parse 51 rfl) rfl (lv_at hl 0 rfl) ?_
        refine gX_43 X hP 1 (by decide) rfl lk36 (dk DX3_parse 52 rfl) ?_
        refine lv_if_eq (tgt := 106) hx hb (dk DX3_parse 53 rfl) (by decide) (fun hc => ?_) (fun hc => ?_)
        · have h := h.1 hc
          exact t_parse X hr hlocks hP hD hS (lv_sub hl [0] rfl) h
        · have h := h.2 hc
          refine lv_null hx hb (dk DX3_parse 54 rfl) ?_
          refine W.widen (k := 5) (n := 412) (Nat.le_of_ble_eq_true rfl) (Nat.le_of_ble_eq_true rfl) ?_
          exact W.aret (v := va_rf none) hx hb hr (Or.inl ⟨_, rfl⟩) (rfOk _) (fun t ht hW => ⟨⟨none, _, rfl, h, by rw [ht]; exact hP, va_K.moved hW.alike X.2.2.2.2.2.2.1, hD⟩, hS.F ht⟩) hS.2.2 (dk DX3_parse 55 rfl)
      · have h := h.2 hc
        refine lv_aload_n hx hb (dk DX3_parse 47 rfl) rfl (lv_at hl 0 rfl) ?_
        refine cXv (As := []) (rest := []) X (m_X3_parseClause_43 (l := l) (dC := dC) (dI := dI) (q := q) (cI := cI) (cT := cT) (en := en) (sz := _) S h) (cwV 0 X.2.2.2.2.1 (gxV 403 404 405 231 382 rfl rfl rfl rfl rfl) rfl rfl rfl q_X3_parseClause_43 ⟨Nat.le_of_ble_eq_true rfl, Nat.le_of_ble_eq_true rfl⟩) (rX_43 X hP) hP hD hS rfl hl.1 rfl (Nat.le_of_ble_eq_true rfl) (dk DX3_parse 48 rfl) (fun S12 H locs h hP hD hS => ?_)
        obtain ⟨v13, ev13⟩ : ∃ y : Int32, y = x1 + 1 := ⟨_, rfl⟩
        have h := h v13 ev13
        refine lv_iinc (v := v13) (lv' := [(1, .int v13), (0, .ref (q 43))]) hx hb (dk DX3_parse 49 rfl) hl (k := 1) rfl (by rw [ev13]; rfl) (by decide) rfl (fun ls hl => ?_)
        refine lv_goto (tgt := 65) hx hb (dk DX3_parse 50 rfl) (by decide) ?_
        exact hK0 v13 S12 h _ _ hP hD hS ls (lv_sub hl [1, 0] rfl)
set_option maxHeartbeats 4000000 in
set_option maxRecDepth 100000 in
theorem m_X3_parse_43 {l : Launch} {dC : Nat → ClassId} {dI : Nat → Nat → Nat} {q : Nat → Nat} {cI cT : ClassId} {en : Nat → Nat} {sz : Nat} {Post : (Option Nat) → XS → Prop} (S : XS) (h : VC_X3_parse_43 Post S) : Met l yX3_parse ww_X3_parse_43 ({ frames := 120, cells := 5, slots := 412, locals := 4600 } : Room) (va_Pc [.ref (q 43)] (preX dC dI q cI cT en S sz)) (va_Qq Post (atX dC dI q cI cT (va_A (wX q cI cT S) sz)) (va_A (wX q cI cT S) sz)) 5 412 (va_A (wX q cI cT S) sz) := by
  refine oXA (cc := cX3_parse) (maxL := 2) (ret := (some (.object "BreathOnLoan$Text"))) (Qc := fun A => va_Qq Post (atX dC dI q cI cT A) A) (own := RX3) (by decide) rfl (fun w h => List.mem_cons_of_mem _ (List.mem_append_right _ h)) rfl (Nat.le_of_ble_eq_true rfl) (fun p e s m below meth c A ls X hr hlocks hP hD hS hl => ?_)
  have hx := X.1
  have hb := X.2.1
  have hl : lv_has ls 2 [(0, .ref (q 43))] := hl
  have lk32 := X.2.2.2.2.1 (.fieldLink RX3 32 "BreathOnLoan$Parser" "hasRead" "Z") (inX 395 rfl)
  have lk36 := X.2.2.2.2.1 (.fieldLink RX3 36 "BreathOnLoan$Parser" "faultNumber" "I") (inX 302 rfl)
  have lk9 := X.2.2.2.2.1 (.fieldLink RX3 9 "BreathOnLoan$Parser" "faultPlace" "I") (inX 169 rfl)
  have lk39 := X.2.2.2.2.1 (.fieldLink RX3 39 "BreathOnLoan$Parser" "next" "I") (inX 220 rfl)
  have lk42 := X.2.2.2.2.1 (.fieldLink RX3 42 "BreathOnLoan$Parser" "open" "I") (inX 314 rfl)
  have lk45 := X.2.2.2.2.1 (.fieldLink RX3 45 "BreathOnLoan$Parser" "clauses" "I") (inX 378 rfl)
  have lk48 := X.2.2.2.2.1 (.fieldLink RX3 48 "BreathOnLoan$Parser" "size" "I") (inX 323 rfl)
  have lk19 := X.2.2.2.2.1 (.fieldLink RX3 19 "BreathOnLoan$Parser" "lawFrom" "[I") (inX 171 rfl)
  have lk22 := X.2.2.2.2.1 (.fieldLink RX3 22 "BreathOnLoan$Parser" "lawTo" "[I") (inX 172 rfl)
  have lk25 := X.2.2.2.2.1 (.fieldLink RX3 25 "BreathOnLoan$Parser" "rows" "[I") (inX 173 rfl)
  have lk60 := X.2.2.2.2.1 (.fieldLink RX3 60 "BreathOnLoan$Parser" "token" "I") (inX 228 rfl)
  generalize hargs : ([.ref (q 43)] : List Value).toArray = args at X ⊢
  have h := h (fun hd S => match hd with | x1 => ∀ (H : Heap) (locs : List Loc), va_P (dC, dI) vwCl (wX q cI cT S) H → va_D A (wX q cI cT S) → va_S A s.heap H locs → ∀ ls : Array Slot, lv_has ls 2 [(0, .ref (q 43)), (1, .int x1)] → W p l e (headSpec ww_X3_parse_43 ({ frames := 120, cells := 5, slots := 412, locals := 4600 } : Room)).room s m args below meth c H locs 0 0 (MQ below (va_Qq Post (atX dC dI q cI cT A) A) args s 5 412 A) (F0 m 65 ls [])) ?_
  · skip
    refine lv_aload_n hx hb (dk DX3_parse 0 rfl) rfl (lv_at hl 0 rfl) ?_
    refine lv_iconst (v := 1) hx hb (dk DX3_parse 1 rfl) (by decide) ?_
    refine pX_43_0 X hP hD hS (by decide) (by decide) lk32 (dk DX3_parse 2 rfl) (fun S1 eS1 H locs hP hD hS => ?_)
    have h := h S1 eS1
    refine lv_aload_n hx hb (dk DX3_parse 3 rfl) rfl (lv_at hl 0 rfl) ?_
    refine lv_iconst (v := 0) hx hb (dk DX3_parse 4 rfl) (by decide) ?_
    refine pX_43_1 X hP hD hS lk36 (dk DX3_parse 5 rfl) (fun S2 eS2 H locs hP hD hS => ?_)
    have h := h S2 eS2
    refine lv_aload_n hx hb (dk DX3_parse 6 rfl) rfl (lv_at hl 0 rfl) ?_
    refine lv_iconst (v := (-1)) hx hb (dk DX3_parse 7 rfl) (by decide) ?_
    refine pX_43_2 X hP hD hS lk9 (dk DX3_parse 8 rfl) (fun S3 eS3 H locs hP hD hS => ?_)
    have h := h S3 eS3
    refine lv_aload_n hx hb (dk DX3_parse 9 rfl) rfl (lv_at hl 0 rfl) ?_
    refine lv_iconst (v := 0) hx hb (dk DX3_parse 10 rfl) (by decide) ?_
    refine pX_43_4 X hP hD hS lk39 (dk DX3_parse 11 rfl) (fun S4 eS4 H locs hP hD hS => ?_)
    have h := h S4 eS4
    refine lv_aload_n hx hb (dk DX3_parse 12 rfl) rfl (lv_at hl 0 rfl) ?_
    refine lv_iconst (v := 0) hx hb (dk DX3_parse 13 rfl) (by decide) ?_
    refine pX_43_8 X hP hD hS lk42 (dk DX3_parse 14 rfl) (fun S5 eS5 H locs hP hD hS => ?_)
    have h := h S5 eS5
    refine lv_aload_n hx hb (dk DX3_parse 15 rfl) rfl (lv_at hl 0 rfl) ?_
    refine lv_iconst (v := 0) hx hb (dk DX3_parse 16 rfl) (by decide) ?_
    refine pX_43_10 X hP hD hS lk45 (dk DX3_parse 17 rfl) (fun S6 eS6 H locs hP hD hS => ?_)
    have h := h S6 eS6
    refine lv_aload_n hx hb (dk DX3_parse 18 rfl) rfl (lv_at hl 0 rfl) ?_
    refine lv_iconst (v := 0) hx hb (dk DX3_parse 19 rfl) (by decide) ?_
    refine pX_43_11 X hP hD hS lk48 (dk DX3_parse 20 rfl) (fun S7 eS7 H locs hP hD hS => ?_)
    have h := h S7 eS7
    refine lv_aload_n hx hb (dk DX3_parse 21 rfl) rfl (lv_at hl 0 rfl) ?_
    refine gX_43 X hP 13 (by decide) rfl lk19 (dk DX3_parse 22 rfl) ?_
    refine lv_iconst (v := (-1)) hx hb (dk DX3_parse 23 rfl) (by decide) ?_
    refine cXsv (As := [.ref (q 45), .int (-1)]) (rest := []) X (m_J7_fill_53178_45 (l := l) (dC := dC) (dI := dI) (q := q) (cI := cI) (cT := cT) (en := en) (sz := _) (-1) S7 h) (va_cwS 2 X.2.2.2.2.1 (gxS 400 401 402 175 rfl rfl rfl rfl) rfl rfl rfl q_J7_fill_53178_45 ⟨Nat.le_of_ble_eq_true rfl, Nat.le_of_ble_eq_true rfl⟩) hP hD hS rfl hl.1 rfl (Nat.le_of_ble_eq_true rfl) (dk DX3_parse 24 rfl) (fun S8 H locs h hP hD hS => ?_)
    refine lv_aload_n hx hb (dk DX3_parse 25 rfl) rfl (lv_at hl 0 rfl) ?_
    refine gX_43 X hP 14 (by decide) rfl lk22 (dk DX3_parse 26 rfl) ?_
    refine lv_iconst (v := (-1)) hx hb (dk DX3_parse 27 rfl) (by decide) ?_
    refine cXsv (As := [.ref (q 46), .int (-1)]) (rest := []) X (m_J7_fill_53178_46 (l := l) (dC := dC) (dI := dI) (q := q) (cI := cI) (cT := cT) (en := en) (sz := _) (-1) S8 h) (va_cwS 2 X.2.2.2.2.1 (gxS 400 401 402 175 rfl rfl rfl rfl) rfl rfl rfl q_J7_fill_53178_46 ⟨Nat.le_of_ble_eq_true rfl, Nat.le_of_ble_eq_true rfl⟩) hP hD hS rfl hl.1 rfl (Nat.le_of_ble_eq_true rfl) (dk DX3_parse 28 rfl) (fun S9 H locs h hP hD hS => ?_)
    refine lv_aload_n hx hb (dk DX3_parse 29 rfl) rfl (lv_at hl 0 rfl) ?_
    refine gX_43 X hP 15 (by decide) rfl lk25 (dk DX3_parse 30 rfl) ?_
    refine lv_iconst (v := 0) hx hb (dk DX3_parse 31 rfl) (by decide) ?_
    refine cXsv (As := [.ref (q 47), .int 0]) (rest := []) X (m_J7_fill_53178_47 (l := l) (dC := dC) (dI := dI) (q := q) (cI := cI) (cT := cT) (en := en) (sz := _) 0 S9 h) (va_cwS 2 X.2.2.2.2.1 (gxS 400 401 402 175 rfl rfl rfl rfl) rfl rfl rfl q_J7_fill_53178_47 ⟨Nat.le_of_ble_eq_true rfl, Nat.le_of_ble_eq_true rfl⟩) hP hD hS rfl hl.1 rfl (Nat.le_of_ble_eq_true rfl) (dk DX3_parse 32 rfl) (fun S10 H locs h hP hD hS => ?_)
    refine lv_aload_n hx hb (dk DX3_parse 33 rfl) rfl (lv_at hl 0 rfl) ?_
    refine cXv (As := []) (rest := []) X (m_X3_advance_43 (l := l) (dC := dC) (dI := dI) (q := q) (cI := cI) (cT := cT) (en := en) (sz := _) S10 h) (cwV 0 X.2.2.2.2.1 (gxV 318 319 320 231 312 rfl rfl rfl rfl rfl) rfl rfl rfl q_X3_advance_43 ⟨Nat.le_of_ble_eq_true rfl, Nat.le_of_ble_eq_true rfl⟩) (rX_43 X hP) hP hD hS rfl hl.1 rfl (Nat.le_of_ble_eq_true rfl) (dk DX3_parse 34 rfl) (fun S11 H locs h hP hD hS => ?_)
    refine lv_iconst (v := 0) hx hb (dk DX3_parse 35 rfl) (by decide) ?_
    refine lv_istore_n (lv' := [(1, .int 0), (0, .ref (q 43))]) hx hb (dk DX3_parse 36 rfl) rfl hl (by decide) rfl (fun ls hl => ?_)
    exact h _ _ hP hD hS ls (lv_sub hl [1, 0] rfl)
  · rintro x1 S hB
    exact h_X3_parse_43_0 X hr hlocks (hK0 := fun _ _ h => h) x1 S hB

def ww_X11_text_0 : List Cond := .code yX11_text cX11_text 2 (some .int) :: (WdX ++ WsX)
theorem q_X11_text_0 : yX11_text.cls = RX11 ∧ yX11_text.cls ≠ "java/lang/invoke/MethodHandle" ∧ yX11_text.cls ≠ "java/lang/invoke/VarHandle" ∧ (parseMethodDescriptor yX11_text.desc).map (fun d => d.parameters.length) = some 0 := by decide +kernel
def VC_X11_text_0 (Post : Int32 → XS → Prop) (S : XS) : Prop := (((S.1 38) < 4 → VC_X3_parse_43 (fun r2 S1 => ((r2 = none → ∀ S4 : XS, S4 = xI S1 1313 0 → Post (-1) S4) ∧ ∀ a3 : Nat, r2 = some a3 → ∀ S5 : XS, S5 = xI S1 1313 0 → VC_X5_addText_1 (fun r7 S6 => Post r7 S6) a3 S5)) S) ∧ (¬ (S.1 38) < 4 → Post (-1) S))
set_option maxHeartbeats 4000000 in
set_option maxRecDepth 100000 in
theorem m_X11_text_0 {l : Launch} {dC : Nat → ClassId} {dI : Nat → Nat → Nat} {q : Nat → Nat} {cI cT : ClassId} {en : Nat → Nat} {sz : Nat} {Post : Int32 → XS → Prop} (S : XS) (h : VC_X11_text_0 Post S) : Met l yX11_text ww_X11_text_0 ({ frames := 121, cells := 5, slots := 412, locals := 4621 } : Room) (va_Pc [.ref (q 0)] (preX dC dI q cI cT en S sz)) (va_Qi Post (atX dC dI q cI cT (va_A (wX q cI cT S) sz)) (va_A (wX q cI cT S) sz)) 5 412 (va_A (wX q cI cT S) sz) := by
  refine oXA (cc := cX11_text) (maxL := 2) (ret := (some .int)) (Qc := fun A => va_Qi Post (atX dC dI q cI cT A) A) (own := RX11) (by decide) rfl (fun w h => List.mem_cons_of_mem _ (List.mem_append_right _ h)) rfl (Nat.le_of_ble_eq_true rfl) (fun p e s m below meth c A ls X hr hlocks hP hD hS hl => ?_)
  have hx := X.1
  have hb := X.2.1
  have hl : lv_has ls 2 [(0, .ref (q 0))] := hl
  have lk12 := X.2.2.2.2.1 (.fieldLink RX11 12 "BreathOnLoan" "now" "LBreathOnLoan$State;") (inX 568 rfl)
  have lk92 := X.2.2.2.2.1 (.fieldLink RX11 92 "BreathOnLoan$State" "textCount" "I") (inX 613 rfl)
  have lk31 := X.2.2.2.2.1 (.fieldLink RX11 31 "BreathOnLoan" "parser" "LBreathOnLoan$Parser;") (inX 576 rfl)
  have lk22 := X.2.2.2.2.1 (.fieldLink RX11 22 "BreathOnLoan" "tape" "LBreathOnLoan$Tape;") (inX 573 rfl)
  have lk84 := X.2.2.2.2.1 (.fieldLink RX11 84 "BreathOnLoan$Tape" "length" "I") (inX 608 rfl)
  dsimp only [VC_X11_text_0] at h
  refine lv_aload_n hx hb (dk DX11_text 0 rfl) rfl (lv_at hl 0 rfl) ?_
  refine gX_0 X hP 0 (by decide) rfl lk12 (dk DX11_text 1 rfl) ?_
  refine gX_1 X hP 6 (by decide) rfl lk92 (dk DX11_text 2 rfl) ?_
  refine lv_iconst (v := 4) hx hb (dk DX11_text 3 rfl) (by decide) ?_
  refine lv_icmp_lt (tgt := 13) hx hb (dk DX11_text 4 rfl) (by decide) (fun hc => ?_) (fun hc => ?_)
  · have h := h.1 hc
    refine lv_aload_n hx hb (dk DX11_text 7 rfl) rfl (lv_at hl 0 rfl) ?_
    refine gX_0 X hP 3 (by decide) rfl lk31 (dk DX11_text 8 rfl) ?_
    refine cXqA (As := []) (rest := []) X (m_X3_parse_43 (l := l) (dC := dC) (dI := dI) (q := q) (cI := cI) (cT := cT) (en := en) (sz := _) S h) (cwV 0 X.2.2.2.2.1 (gxV 614 615 616 231 410 rfl rfl rfl rfl rfl) rfl rfl rfl q_X3_parse_43 ⟨Nat.le_of_ble_eq_true rfl, Nat.le_of_ble_eq_true rfl⟩) (rX_43 X hP) hP hD hS rfl hl.1 rfl (Nat.le_of_ble_eq_true rfl) (dk DX11_text 9 rfl) (Nat.le_of_ble_eq_true rfl) (Nat.le_of_ble_eq_true rfl) (fun r2 S1 H locs h hP hD hS => ?_)
    rcases r2 with _ | a3
    · have h := h.1 rfl
      refine lv_astore_nN (lv' := [(1, .null), (0, .ref (q 0))]) hx hb (dk DX11_text 10 rfl) rfl hl (by decide) rfl (fun ls hl => ?_)
      refine lv_aload_n hx hb (dk DX11_text 11 rfl) rfl (lv_at hl 1 rfl) ?_
      refine gX_0 X hP 2 (by decide) rfl lk22 (dk DX11_text 12 rfl) ?_
      refine lv_iconst (v := 0) hx hb (dk DX11_text 13 rfl) (by decide) ?_
      refine pX_41_1 X hP hD hS lk84 (dk DX11_text 14 rfl) (fun S4 eS4 H locs hP hD hS => ?_)
      have h := h S4 eS4
      refine lv_aload_nN hx hb (dk DX11_text 15 rfl) rfl (lv_at hl 0 rfl) ?_
      refine lv_ifnonnullN hx hb (dk DX11_text 16 rfl) ?_
      refine lv_iconst (v := (-1)) hx hb (dk DX11_text 17 rfl) (by decide) ?_
      refine lv_goto (tgt := 45) hx hb (dk DX11_text 18 rfl) (by decide) ?_
      refine W.widen (k := 5) (n := 412) (Nat.le_of_ble_eq_true rfl) (Nat.le_of_ble_eq_true rfl) ?_
      exact W.iret (v := (-1)) hx hb hr (fun t ht hW => ⟨⟨_, _, rfl, h, by rw [ht]; exact hP, va_K.moved hW.alike X.2.2.2.2.2.2.1, hD⟩, hS.F ht⟩) hS.2.2 (dk DX11_text 23 rfl)
    · have h := h.2 a3 rfl
      refine lv_astore_n (lv' := [(1, .ref a3), (0, .ref (q 0))]) hx hb (dk DX11_text 10 rfl) rfl hl (by decide) rfl (fun ls hl => ?_)
      refine lv_aload_n hx hb (dk DX11_text 11 rfl) rfl (lv_at hl 1 rfl) ?_
      refine gX_0 X hP 2 (by decide) rfl lk22 (dk DX11_text 12 rfl) ?_
      refine lv_iconst (v := 0) hx hb (dk DX11_text 13 rfl) (by decide) ?_
      refine pX_41_1 X hP hD hS lk84 (dk DX11_text 14 rfl) (fun S5 eS5 H locs hP hD hS => ?_)
      have h := h S5 eS5
      refine lv_aload_n hx hb (dk DX11_text 15 rfl) rfl (lv_at hl 0 rfl) ?_
      refine lv_ifnonnull (tgt := 37) hx hb (dk DX11_text 16 rfl) (by decide) ?_
      refine lv_aload_n hx hb (dk DX11_text 19 rfl) rfl (lv_at hl 1 rfl) ?_
      refine gX_0 X hP 0 (by decide) rfl lk12 (dk DX11_text 20 rfl) ?_
      refine lv_aload_n hx hb (dk DX11_text 21 rfl) rfl (lv_at hl 0 rfl) ?_
      refine cXiG (As := [.ref a3]) (rest := []) X (m_X5_addText_1 (l := l) (dC := dC) (dI := dI) (q := q) (cI := cI) (cT := cT) (en := en) (sz := _) a3 S5 h) (cwV 1 X.2.2.2.2.1 (gxV 617 618 619 67 511 rfl rfl rfl rfl rfl) rfl rfl rfl q_X5_addText_1 ⟨Nat.le_of_ble_eq_true rfl, Nat.le_of_ble_eq_true rfl⟩) (rX_1 X hP) hP hD hS rfl hl.1 rfl (Nat.le_of_ble_eq_true rfl) (dk DX11_text 22 rfl) (Nat.le_of_ble_eq_true rfl) (Nat.le_of_ble_eq_true rfl) (fun r7 S6 H locs h hP hD hS => ?_)
      refine W.widen (k := 5) (n := 412) (Nat.le_of_ble_eq_true rfl) (Nat.le_of_ble_eq_true rfl) ?_
      exact W.iret (v := r7) hx hb hr (fun t ht hW => ⟨⟨_, _, rfl, h, by rw [ht]; exact hP, va_K.moved hW.alike X.2.2.2.2.2.2.1, hD⟩, hS.F ht⟩) hS.2.2 (dk DX11_text 23 rfl)
  · have h := h.2 hc
    refine lv_iconst (v := (-1)) hx hb (dk DX11_text 5 rfl) (by decide) ?_
    refine W.widen (k := 5) (n := 412) (Nat.le_of_ble_eq_true rfl) (Nat.le_of_ble_eq_true rfl) ?_
    exact W.iret (v := (-1)) hx hb hr (fun t ht hW => ⟨⟨_, _, rfl, h, by rw [ht]; exact hP, va_K.moved hW.alike X.2.2.2.2.2.2.1, hD⟩, hS.F ht⟩) hS.2.2 (dk DX11_text 6 rfl)
