theorem joinM {A : Nat → Prop} {D : va_G} {cl : List vw_C} {L1 w0 w1 L2 : va_W} {H H1 : Heap} (hP : va_P D cl (L1 ++ (w0 ++ L2)) H) (hD : va_D A (L1 ++ (w0 ++ L2))) (hk : ∀ q : Nat, q < H.size → ¬ va_A w0 H.size q → H1[q]? = H[q]?) (hF : ∀ q, va_A w0 H.size q → A q) (hP1 : va_P D cl w1 H1) (hD1 : va_D (va_A w0 H.size) w1) : va_P D cl (L1 ++ (w1 ++ L2)) H1 ∧ va_D A (L1 ++ (w1 ++ L2)) := by
  have h1 : ∀ (k : Nat) (q : Nat × va_E), L1[k]? = some q → q.1 < H.size ∧ ¬ va_A w0 H.size q.1 := fun k q hq => by
    have hl := (hP.left k q hq).lt
    refine ⟨hl, fun h => ?_⟩
    rcases h with ⟨j, e, hj⟩ | h
    · have hj2 : (w0 ++ L2)[j]? = some (q.1, e) := by rw [List.getElem?_append_left (List.getElem?_eq_some_iff.mp hj).1]; exact hj
      exact hD.apart hq hj2 rfl
    · omega
  have h2 : ∀ (k : Nat) (q : Nat × va_E), L2[k]? = some q → q.1 < H.size ∧ ¬ va_A w0 H.size q.1 := fun k q hq => by
    have hl := (hP.right.right k q hq).lt
    refine ⟨hl, fun h => ?_⟩
    rcases h with ⟨j, e, hj⟩ | h
    · exact hD.right.apart hj hq rfl
    · omega
  refine ⟨va_P.app (fun k q hq => (hP.left k q hq).kept (hk q.1 (h1 k q hq).1 (h1 k q hq).2)) (va_P.app hP1 (fun k q hq => (hP.right.right k q hq).kept (hk q.1 (h2 k q hq).1 (h2 k q hq).2))), va_D.app hD.left (va_D.app (hD1.weaken (fun _ z _ h => hF z.1 h)) hD.right.right (fun i j x y hx hy hxy => ?_)) (fun i j x y hx hy hxy => ?_)⟩
  · exact (h2 j y hy).2 (by rw [← hxy]; exact hD1.2 i x hx)
  · rcases List.getElem?_of_mem (List.mem_of_getElem? hy) with ⟨j2, hj2⟩
    have hm := List.mem_append.mp (List.mem_of_getElem? hy)
    rcases hm with hm | hm
    · obtain ⟨i2, hi2⟩ := List.getElem?_of_mem hm
      exact (h1 i x hx).2 (by rw [hxy]; exact hD1.2 i2 y hi2)
    · obtain ⟨i2, hi2⟩ := List.getElem?_of_mem hm
      have hi3 : (w0 ++ L2)[w0.length + i2]? = some y := by rw [List.getElem?_append_right (Nat.le_add_right _ _), Nat.add_sub_cancel_left]; exact hi2
      exact hD.apart hx hi3 hxy
theorem lastAt {α : Type} (l : List α) (x : α) : (l ++ [x])[l.length]? = some x := by simp
theorem oneP {D : va_G} {cl : List vw_C} {ws : va_W} {H : Heap} (h : va_P D cl ws H) {i : Nat} {z : Nat × va_E} (hz : ws[i]? = some z) : va_P D cl [z] H := fun k q hk => by
  match k, hk with
  | 0, hk => cases hk; exact h i _ hz
  | k + 1, hk => simp at hk
theorem oneD {A : Nat → Prop} {z : Nat × va_E} (h : A z.1) : va_D A [z] := ⟨fun i j p q hi hj _ => by
  match i, j, hi, hj with
  | 0, 0, _, _ => rfl
  | i + 1, _, hi, _ => simp at hi
  | 0, j + 1, _, hj => simp at hj, fun k q hk => by
  match k, hk with
  | 0, hk => cases hk; exact h
  | k + 1, hk => simp at hk⟩
def ww_X9_init : List Cond := .code yX9_init cX9_init 5 none :: (WdX ++ WsX)
theorem q_X9_init : yX9_init.cls ≠ "java/lang/invoke/MethodHandle" ∧ yX9_init.cls ≠ "java/lang/invoke/VarHandle" ∧ (parseMethodDescriptor yX9_init.desc).map (fun d => d.parameters.length) = some 4 := by decide +kernel
def atT (dC : Nat → ClassId) (dI : Nat → Nat → Nat) (A : Nat → Prop) (w : va_W) (_ : Unit) (t : State) : Prop := va_P (dC, dI) vwCl w t.heap ∧ va_D A w
set_option maxHeartbeats 4000000 in
set_option maxRecDepth 100000 in
theorem i_X9 {l : Launch} {dC : Nat → ClassId} {dI : Nat → Nat → Nat} {cI cT : ClassId} {sz : Nat} (h0 h1 h2 h3 h4 : Nat) : Met l yX9_init ww_X9_init ({ frames := 1, cells := 0, slots := 0, locals := 24 } : Room) (va_Pc [.ref h0, .ref h1, .ref h2, .ref h3, .ref h4] (preP dC dI cI cT [(h0, .inr (9, [.null, .null, .null, .null]))] sz)) (va_Qv (fun _ : Unit => True) (atT dC dI (va_A [(h0, .inr (9, [.null, .null, .null, .null]))] sz) [(h0, .inr (9, [.ref h1, .ref h2, .ref h3, .ref h4]))]) (va_A [(h0, .inr (9, [.null, .null, .null, .null]))] sz)) 0 0 (va_A [(h0, .inr (9, [.null, .null, .null, .null]))] sz) := by
  refine oP (cc := cX9_init) (maxL := 5) (ret := none) (own := RX9) (Qc := fun A => va_Qv (fun _ : Unit => True) (atT dC dI A [(h0, .inr (9, [.ref h1, .ref h2, .ref h3, .ref h4]))]) A) (by decide) rfl (fun w h => List.mem_cons_of_mem _ (List.mem_append_right _ h)) rfl (Nat.le_of_ble_eq_true rfl) (fun p e s m below meth c A ls X hr hlocks hmn hP hD hS hl => ?_)
  have hx := X.1
  have hb := X.2.1
  have hl : lv_has ls 5 [(0, .ref h0), (1, .ref h1), (2, .ref h2), (3, .ref h3), (4, .ref h4)] := hl
  refine lv_aload_n hx hb (dk DX9_init 0 rfl) rfl (lv_at hl 0 rfl) ?_
  refine W.objInit hx hb X.2.2.2.1 (X.2.2.2.2.1 (.methodLink RX9 3 objectInit) (inX 393 rfl)) (X.2.2.2.2.1 (.instanceMethod objectInit) (inX 2 rfl)) (X.2.2.2.2.1 (.code objectInit ⟨#[0xb1]⟩ 1 none) (inX 3 rfl)) rfl (by rw [X.2.2.1]; exact hl.1) rfl (dk DX9_init 1 rfl) (Nat.le_of_ble_eq_true rfl) (Nat.le_of_ble_eq_true rfl) ?_
  refine W.eq (g2 := F0 m 4 ls []) rfl ?_
  refine lv_aload_n hx hb (dk DX9_init 2 rfl) rfl (lv_at hl 0 rfl) ?_
  refine lv_aload_n hx hb (dk DX9_init 3 rfl) rfl (lv_at hl 1 rfl) ?_
  refine va_putF (D := (dC, dI)) (ci := 9) (v := .ref h1) (ty := .array .int) (C := RX9) (T := TX9) (N := 4) hx hb X.2.2.2.2.1 (inWs_9 X.2.2.2.2.2.1) tyX9 tyX9_ok nmX9 X.2.2.2.1 X.2.2.2.2.2.2.1 hP hD hS 0 rfl rfl 0 (by decide) (X.2.2.2.2.1 (.fieldLink RX9 9 "BreathOnLoan$Text" "code" "[I") (inX 74 rfl)) (fun _ h9 => h9) rfl hmn rfl (by decide +kernel) rfl rfl (Nat.le_of_ble_eq_true rfl) (dk DX9_init 4 rfl) (fun H locs hP hD hS => ?_)
  have hP : va_P (dC, dI) vwCl [(h0, .inr (9, [.ref h1, .null, .null, .null]))] H := hP
  have hD : va_D A [(h0, .inr (9, [.ref h1, .null, .null, .null]))] := hD
  refine lv_aload_n hx hb (dk DX9_init 5 rfl) rfl (lv_at hl 0 rfl) ?_
  refine lv_aload_n hx hb (dk DX9_init 6 rfl) rfl (lv_at hl 2 rfl) ?_
  refine va_putF (D := (dC, dI)) (ci := 9) (v := .ref h2) (ty := .array .int) (C := RX9) (T := TX9) (N := 4) hx hb X.2.2.2.2.1 (inWs_9 X.2.2.2.2.2.1) tyX9 tyX9_ok nmX9 X.2.2.2.1 X.2.2.2.2.2.2.1 hP hD hS 0 rfl rfl 1 (by decide) (X.2.2.2.2.1 (.fieldLink RX9 15 "BreathOnLoan$Text" "lawFrom" "[I") (inX 61 rfl)) (fun _ h9 => h9) rfl hmn rfl (by decide +kernel) rfl rfl (Nat.le_of_ble_eq_true rfl) (dk DX9_init 7 rfl) (fun H locs hP hD hS => ?_)
  have hP : va_P (dC, dI) vwCl [(h0, .inr (9, [.ref h1, .ref h2, .null, .null]))] H := hP
  have hD : va_D A [(h0, .inr (9, [.ref h1, .ref h2, .null, .null]))] := hD
  refine lv_aload_n hx hb (dk DX9_init 8 rfl) rfl (lv_at hl 0 rfl) ?_
  refine lv_aload_n hx hb (dk DX9_init 9 rfl) rfl (lv_at hl 3 rfl) ?_
  refine va_putF (D := (dC, dI)) (ci := 9) (v := .ref h3) (ty := .array .int) (C := RX9) (T := TX9) (N := 4) hx hb X.2.2.2.2.1 (inWs_9 X.2.2.2.2.2.1) tyX9 tyX9_ok nmX9 X.2.2.2.1 X.2.2.2.2.2.2.1 hP hD hS 0 rfl rfl 2 (by decide) (X.2.2.2.2.1 (.fieldLink RX9 18 "BreathOnLoan$Text" "lawTo" "[I") (inX 73 rfl)) (fun _ h9 => h9) rfl hmn rfl (by decide +kernel) rfl rfl (Nat.le_of_ble_eq_true rfl) (dk DX9_init 10 rfl) (fun H locs hP hD hS => ?_)
  have hP : va_P (dC, dI) vwCl [(h0, .inr (9, [.ref h1, .ref h2, .ref h3, .null]))] H := hP
  have hD : va_D A [(h0, .inr (9, [.ref h1, .ref h2, .ref h3, .null]))] := hD
  refine lv_aload_n hx hb (dk DX9_init 11 rfl) rfl (lv_at hl 0 rfl) ?_
  refine lv_aload hx hb (dk DX9_init 12 rfl) (lv_at hl 4 rfl) ?_
  refine va_putF (D := (dC, dI)) (ci := 9) (v := .ref h4) (ty := .array .int) (C := RX9) (T := TX9) (N := 4) hx hb X.2.2.2.2.1 (inWs_9 X.2.2.2.2.2.1) tyX9 tyX9_ok nmX9 X.2.2.2.1 X.2.2.2.2.2.2.1 hP hD hS 0 rfl rfl 3 (by decide) (X.2.2.2.2.1 (.fieldLink RX9 21 "BreathOnLoan$Text" "rows" "[I") (inX 394 rfl)) (fun _ h9 => h9) rfl hmn rfl (by decide +kernel) rfl rfl (Nat.le_of_ble_eq_true rfl) (dk DX9_init 13 rfl) (fun H locs hP hD hS => ?_)
  have hP : va_P (dC, dI) vwCl [(h0, .inr (9, [.ref h1, .ref h2, .ref h3, .ref h4]))] H := hP
  have hD : va_D A [(h0, .inr (9, [.ref h1, .ref h2, .ref h3, .ref h4]))] := hD
  exact W.vret hx hb hr (fun t ht hW => ⟨⟨(), rfl, trivial, by rw [ht]; exact hP, hD⟩, hS.F ht⟩) hS.2.2 (dk DX9_init 14 rfl)
def xT (S : XS) (t : TR) : XS := (S.1, S.2.1, S.2.2.1, S.2.2.2 ++ [t])
theorem wX_xT (q : Nat → Nat) (cI cT : ClassId) (S : XS) (t : TR) : wX q cI cT (xT S t) = wX q cI cT S ++ tX cI t := by
  show sX q cI cT S ++ (S.2.2.2 ++ [t]).flatMap (tX cI) = (sX q cI cT S ++ S.2.2.2.flatMap (tX cI)) ++ tX cI t
  rw [List.flatMap_append, List.append_assoc]
  simp
def VCt_parse (Post : Option Nat → XS → Prop) (S : XS) : Prop := ¬ (S.1 1387) < 0 ∧ (S.1 1387).toNatClampNeg ≤ 300 ∧ ¬ (4 * (S.1 1386)) < 0 ∧ (4 * (S.1 1386)).toNatClampNeg ≤ 96 ∧ ∀ (a c0 f0 t0 r0 : Nat) (cf rf : Nat → Int32), (∀ t ∈ S.2.2.2, t.1.1 ≠ a) → (∀ j, j < (S.1 1387).toNatClampNeg → cf j = S.2.1 44 j) → (∀ j, j < (4 * (S.1 1386)).toNatClampNeg → rf j = S.2.1 47 j) → Post (some a) (xT S ((a, c0, f0, t0, r0), ((S.1 1387).toNatClampNeg, cf), S.2.1 45, S.2.1 46, ((4 * (S.1 1386)).toNatClampNeg, rf)))
def ww_X3_parse_43 : List Cond := .code yX3_parse cX3_parse 2 (some (.object "BreathOnLoan$Text")) :: (WdX ++ WsX)
set_option maxHeartbeats 4000000 in
set_option maxRecDepth 100000 in
theorem t_parse {p : Program} {l : Launch} {e : Env} {s : State} {m : MethodId} {below : List Frame} {meth : Method} {c : Code} {dC : Nat → ClassId} {dI : Nat → Nat → Nat} {q : Nat → Nat} {cI cT : ClassId} {en : Nat → Nat} {A : Nat → Prop} {args : Array Value} {Post : Option Nat → XS → Prop} {lv : List (Nat × Value)} (X : XX p s m args c cX3_parse 2 ww_X3_parse_43 RX3 dC dI cI cT en A) (hr : meth.sig.returnType = some (.object "BreathOnLoan$Text")) (hlocks : meth.locks = false) {S : XS} {H : Heap} {locs : List Loc} (hP : va_P (dC, dI) vwCl (wX q cI cT S) H) (hD : va_D A (wX q cI cT S)) (hS : va_S A s.heap H locs) {ls : Array Slot} (hl : lv_has ls 2 ((0, .ref (q 43)) :: lv)) (h : VCt_parse Post S) : W p l e (headSpec ww_X3_parse_43 ({ frames := 120, cells := 5, slots := 412, locals := 4600 } : Room)).room s m args below meth c H locs 0 0 (MQ below (va_Qq Post (atX dC dI q cI cT A) A) args s 5 412 A) (F0 m 106 ls []) := by
  obtain ⟨hs0, hs1, hc0, hc1, h⟩ := h
  have hx := X.1
  have hb := X.2.1
  have hA := X.2.2.2.2.2.2.2.1
  have hK := X.2.2.2.2.2.2.1
  have hN := X.2.2.2.2.2.2.2.2.1
  have hml := X.2.2.1.trans hl.1.symm
  have hnm : s.vm.findClass "[I" = some cI := (hK.2 0 (cI, .int) rfl).2
  refine va_new (ci := 9) (fs := [.null, .null, .null, .null]) (C := RX9) (T := TX9) (N := 4) hx hb X.2.2.2.2.1 (inWs_9 X.2.2.2.2.2.1) tyX9 tyX9_ok X.2.2.2.1 (X.2.2.2.2.1 (.classLink RX3 66 RX9) (inX 396 rfl)) (X.2.2.2.2.1 (.instantiable RX9 4) (inX 397 rfl)) (X.2.2.2.2.1 (.initialized RX9) (inX 71 rfl)) hK hP hD hS hA rfl (by decide) (Nat.le_of_ble_eq_true rfl) (Nat.le_of_ble_eq_true rfl) (dk DX3_parse 56 rfl) (fun a H hP hD hS => ?_)
  have hfresh : ∀ t ∈ S.2.2.2, t.1.1 ≠ a := fun t ht => by
    obtain ⟨j, hj⟩ := List.getElem?_of_mem ht
    exact hD.apart (txW (q := q) (cI := cI) (cT := cT) hj 0 rfl) (j := 0) rfl
  refine W.widen (k := 1) (n := 4) (Nat.le_of_ble_eq_true rfl) (Nat.le_of_ble_eq_true rfl) ?_
  refine lv_dup hx hb (dk DX3_parse 57 rfl) rfl ?_
  refine lv_aload_n hx hb (dk DX3_parse 58 rfl) rfl (lv_at hl 0 rfl) ?_
  refine gX_43 X hP.left 12 (by decide) rfl (X.2.2.2.2.1 (.fieldLink RX3 15 "BreathOnLoan$Parser" "code" "[I") (inX 170 rfl)) (dk DX3_parse 59 rfl) ?_
  refine lv_aload_n hx hb (dk DX3_parse 60 rfl) rfl (lv_at hl 0 rfl) ?_
  refine gX_43 X hP.left 11 (by decide) rfl (X.2.2.2.2.1 (.fieldLink RX3 48 "BreathOnLoan$Parser" "size" "I") (inX 323 rfl)) (dk DX3_parse 61 rfl) ?_
  have hz44 : (wX q cI cT S ++ [(a, .inr (9, [.null, .null, .null, .null]))])[44]? = some (q 44, .inl (cI, 300, .inl (S.2.1 44))) := rfl
  have hF : ∀ z, va_A [(q 44, .inl (cI, 300, .inl (S.2.1 44)))] H.size z → A z := fun z hz => by
    rcases hz with ⟨k, e, hz⟩ | hz
    · match k, hz with
      | 0, hz => cases hz; exact hD.2 44 _ hz44
      | k + 1, hz => simp at hz
    · exact hA z (Nat.le_trans hS.1 hz)
  refine va_callr (va_runS (As := [.ref (q 44), .int (S.1 1387)]) (rest := [.ref a, .ref a]) ⟨hx, hb, X.2.2.1, X.2.2.2.1, X.2.2.2.2.1⟩ (m_copyOf (l := l) (dC := dC) (dI := dI) (cI := cI) (cT := cT) (sz := H.size) (q 44) 300 (S.2.1 44) (S.1 1387) hs0 hs1 (by decide)) (va_cwS 2 X.2.2.2.2.1 (gxS 406 407 402 383 rfl rfl rfl rfl) rfl rfl rfl q_cp ⟨Nat.le_of_ble_eq_true rfl, Nat.le_of_ble_eq_true rfl⟩) ⟨blP, fun U hU hW => ⟨rfl, by rw [hU], by rw [hU]; exact oneP hP hz44, va_K.moved hW.alike hK, oneD trivial, NWX.warm hW hN⟩⟩ rfl rfl hl.1 rfl (lv_room (Nat.le_of_ble_eq_true rfl)) (dk DX3_parse 62 rfl) ⟨Nat.le_of_ble_eq_true rfl, Nat.le_of_ble_eq_true rfl⟩) hS (fun z _ hz => hF z hz) hF (fun cf c0 t H1 locs ht hvm hcf hB hz1 hk1 hS => ?_)
  obtain ⟨hP1, hD1⟩ := hB
  rw [ht] at hP1
  obtain ⟨hP, hD⟩ := joinN hP hD (fun z hz => by rw [List.mem_singleton.mp hz]; exact List.mem_of_getElem? hz44) hk1 hF hP1 hD1
  generalize H1 = H at hP hS ⊢
  refine W.widen (k := 2) (n := 304) (Nat.le_of_ble_eq_true rfl) (Nat.le_of_ble_eq_true rfl) ?_
  refine lv_aload_n hx hb (dk DX3_parse 63 rfl) rfl (lv_at hl 0 rfl) ?_
  refine gX_43 X hP.left.left 13 (by decide) rfl (X.2.2.2.2.1 (.fieldLink RX3 19 "BreathOnLoan$Parser" "lawFrom" "[I") (inX 171 rfl)) (dk DX3_parse 64 rfl) ?_
  refine va_clone (ad := "[I") (x := (4, .inl (S.2.1 45))) hx hb hml X.2.2.2.1 (X.2.2.2.2.1 (.methodLink RX3 72 ⟨"[I", "clone", "()Ljava/lang/Object;"⟩) (inX 398 rfl)) (X.2.2.2.2.1 (.sameMethod "[I" "java/lang/Object" "clone" "()Ljava/lang/Object;") (inX 385 rfl)) (X.2.2.2.2.1 (.native ⟨"java/lang/Object", "clone", "()Ljava/lang/Object;"⟩) (inX 386 rfl)) (X.2.2.2.2.1 (.instanceMethod ⟨"java/lang/Object", "clone", "()Ljava/lang/Object;"⟩) (inX 387 rfl)) (X.2.2.2.2.1 (.selects "[I" ⟨"[I", "clone", "()Ljava/lang/Object;"⟩ ⟨"java/lang/Object", "clone", "()Ljava/lang/Object;"⟩) (inX 388 rfl)) hN.2.2 hK hP hD hS hA 45 0 rfl rfl hnm (fun i v h => fitI i v h) (Nat.le_of_ble_eq_true rfl) (Nat.le_of_ble_eq_true rfl) (Nat.le_of_ble_eq_true rfl) (Nat.le_of_ble_eq_true rfl) (dk DX3_parse 65 rfl) (fun f0 H hK1 hP hD hS => ?_)
  refine W.widen (k := 3) (n := 308) (Nat.le_of_ble_eq_true rfl) (Nat.le_of_ble_eq_true rfl) ?_
  refine va_castA (nm := "[I") hx hb X.2.2.2.1 (X.2.2.2.2.1 (.classLink RX3 73 "[I") (inX 399 rfl)) hP _ (lastAt _ _) hnm (dk DX3_parse 66 rfl) ?_
  refine lv_aload_n hx hb (dk DX3_parse 67 rfl) rfl (lv_at hl 0 rfl) ?_
  refine gX_43 X hP.left.left.left 14 (by decide) rfl (X.2.2.2.2.1 (.fieldLink RX3 22 "BreathOnLoan$Parser" "lawTo" "[I") (inX 172 rfl)) (dk DX3_parse 68 rfl) ?_
  refine va_clone (ad := "[I") (x := (4, .inl (S.2.1 46))) hx hb hml X.2.2.2.1 (X.2.2.2.2.1 (.methodLink RX3 72 ⟨"[I", "clone", "()Ljava/lang/Object;"⟩) (inX 398 rfl)) (X.2.2.2.2.1 (.sameMethod "[I" "java/lang/Object" "clone" "()Ljava/lang/Object;") (inX 385 rfl)) (X.2.2.2.2.1 (.native ⟨"java/lang/Object", "clone", "()Ljava/lang/Object;"⟩) (inX 386 rfl)) (X.2.2.2.2.1 (.instanceMethod ⟨"java/lang/Object", "clone", "()Ljava/lang/Object;"⟩) (inX 387 rfl)) (X.2.2.2.2.1 (.selects "[I" ⟨"[I", "clone", "()Ljava/lang/Object;"⟩ ⟨"java/lang/Object", "clone", "()Ljava/lang/Object;"⟩) (inX 388 rfl)) hN.2.2 hK hP hD hS hA 46 0 rfl rfl hnm (fun i v h => fitI i v h) (Nat.le_of_ble_eq_true rfl) (Nat.le_of_ble_eq_true rfl) (Nat.le_of_ble_eq_true rfl) (Nat.le_of_ble_eq_true rfl) (dk DX3_parse 69 rfl) (fun t0 H hK1 hP hD hS => ?_)
  refine W.widen (k := 4) (n := 312) (Nat.le_of_ble_eq_true rfl) (Nat.le_of_ble_eq_true rfl) ?_
  refine va_castA (nm := "[I") hx hb X.2.2.2.1 (X.2.2.2.2.1 (.classLink RX3 73 "[I") (inX 399 rfl)) hP _ (lastAt _ _) hnm (dk DX3_parse 70 rfl) ?_
  refine lv_aload_n hx hb (dk DX3_parse 71 rfl) rfl (lv_at hl 0 rfl) ?_
  refine gX_43 X hP.left.left.left.left 15 (by decide) rfl (X.2.2.2.2.1 (.fieldLink RX3 25 "BreathOnLoan$Parser" "rows" "[I") (inX 173 rfl)) (dk DX3_parse 72 rfl) ?_
  refine lv_iconst (v := 4) hx hb (dk DX3_parse 73 rfl) (by decide) ?_
  refine lv_aload_n hx hb (dk DX3_parse 74 rfl) rfl (lv_at hl 0 rfl) ?_
  refine gX_43 X hP.left.left.left.left 10 (by decide) rfl (X.2.2.2.2.1 (.fieldLink RX3 45 "BreathOnLoan$Parser" "clauses" "I") (inX 378 rfl)) (dk DX3_parse 75 rfl) ?_
  refine lv_imul hx hb (dk DX3_parse 76 rfl) ?_
  have hz47 : ((((wX q cI cT S ++ [(a, .inr (9, [.null, .null, .null, .null]))]) ++ [(c0, .inl (cI, (S.1 1387).toNatClampNeg, .inl cf))]) ++ [(f0, .inl (cI, 4, .inl (S.2.1 45)))]) ++ [(t0, .inl (cI, 4, .inl (S.2.1 46)))])[47]? = some (q 47, .inl (cI, 96, .inl (S.2.1 47))) := rfl
  have hF : ∀ z, va_A [(q 47, .inl (cI, 96, .inl (S.2.1 47)))] H.size z → A z := fun z hz => by
    rcases hz with ⟨k, e, hz⟩ | hz
    · match k, hz with
      | 0, hz => cases hz; exact hD.2 47 _ hz47
      | k + 1, hz => simp at hz
    · exact hA z (Nat.le_trans hS.1 hz)
  refine va_callr (va_runS (As := [.ref (q 47), .int (4 * (S.1 1386))]) (rest := [.ref t0, .ref f0, .ref c0, .ref a, .ref a]) ⟨hx, hb, X.2.2.1, X.2.2.2.1, X.2.2.2.2.1⟩ (m_copyOf (l := l) (dC := dC) (dI := dI) (cI := cI) (cT := cT) (sz := H.size) (q 47) 96 (S.2.1 47) (4 * (S.1 1386)) hc0 hc1 (by decide)) (va_cwS 2 X.2.2.2.2.1 (gxS 406 407 402 383 rfl rfl rfl rfl) rfl rfl rfl q_cp ⟨Nat.le_of_ble_eq_true rfl, Nat.le_of_ble_eq_true rfl⟩) ⟨blP, fun U hU hW => ⟨rfl, by rw [hU], by rw [hU]; exact oneP hP hz47, va_K.moved hW.alike hK, oneD trivial, NWX.warm hW hN⟩⟩ rfl rfl hl.1 rfl (lv_room (Nat.le_of_ble_eq_true rfl)) (dk DX3_parse 77 rfl) ⟨Nat.le_of_ble_eq_true rfl, Nat.le_of_ble_eq_true rfl⟩) hS (fun z _ hz => hF z hz) hF (fun rf r0 t H1 locs ht hvm hrf hB hz1 hk1 hS => ?_)
  obtain ⟨hP1, hD1⟩ := hB
  rw [ht] at hP1
  obtain ⟨hP, hD⟩ := joinN hP hD (fun z hz => by rw [List.mem_singleton.mp hz]; exact List.mem_of_getElem? hz47) hk1 hF hP1 hD1
  generalize H1 = H at hP hS ⊢
  refine W.widen (k := 5) (n := 408) (Nat.le_of_ble_eq_true rfl) (Nat.le_of_ble_eq_true rfl) ?_
  have hP : va_P (dC, dI) vwCl (wX q cI cT S ++ ([(a, .inr (9, [.null, .null, .null, .null]))] ++ [(c0, .inl (cI, (S.1 1387).toNatClampNeg, .inl cf)), (f0, .inl (cI, 4, .inl (S.2.1 45))), (t0, .inl (cI, 4, .inl (S.2.1 46))), (r0, .inl (cI, (4 * (S.1 1386)).toNatClampNeg, .inl rf))])) H := by
    have z := hP
    simp only [List.append_assoc] at z
    exact z
  have hD : va_D A (wX q cI cT S ++ ([(a, .inr (9, [.null, .null, .null, .null]))] ++ [(c0, .inl (cI, (S.1 1387).toNatClampNeg, .inl cf)), (f0, .inl (cI, 4, .inl (S.2.1 45))), (t0, .inl (cI, 4, .inl (S.2.1 46))), (r0, .inl (cI, (4 * (S.1 1386)).toNatClampNeg, .inl rf))])) := by
    have z := hD
    simp only [List.append_assoc] at z
    exact z
  have hF : ∀ z, va_A [(a, .inr (9, [.null, .null, .null, .null]))] H.size z → A z := fun z hz => by
    rcases hz with ⟨k, e, hz⟩ | hz
    · match k, hz with
      | 0, hz => cases hz; exact hD.right.2 0 _ rfl
      | k + 1, hz => simp at hz
    · exact hA z (Nat.le_trans hS.1 hz)
  refine va_callv (va_runI (As := [.ref c0, .ref f0, .ref t0, .ref r0]) (rest := [.ref a]) ⟨hx, hb, X.2.2.1, X.2.2.2.1, X.2.2.2.2.1⟩ (i_X9 (l := l) (dC := dC) (dI := dI) (cI := cI) (cT := cT) (sz := H.size) a c0 f0 t0 r0) (cwI 4 X.2.2.2.2.1 (gxB (List.mem_of_getElem? (i := 392) rfl)) rfl rfl rfl (X.2.2.2.2.1 (.initialized RX9) (inX 71 rfl)) (X.2.2.2.2.1 (.methodLink RX3 77 yX9_init) (inX 408 rfl)) (X.2.2.2.2.1 (.instanceMethod yX9_init) (inX 409 rfl)) rfl q_X9_init ⟨Nat.le_of_ble_eq_true rfl, Nat.le_of_ble_eq_true rfl⟩) ⟨blP, fun U hU hW => ⟨rfl, by rw [hU], by rw [hU]; exact hP.right.left, va_K.moved hW.alike hK, oneD trivial, NWX.warm hW hN⟩⟩ rfl rfl hl.1 rfl (lv_room (Nat.le_of_ble_eq_true rfl)) (dk DX3_parse 78 rfl) ⟨Nat.le_of_ble_eq_true rfl, Nat.le_of_ble_eq_true rfl⟩) hS (fun z _ hz => hF z hz) hF (fun u t H1 locs ht hvm hu hB hz1 hk1 hS => ?_)
  obtain ⟨hP1, hD1⟩ := hB
  rw [ht] at hP1
  obtain ⟨hP, hD⟩ := joinM hP hD hk1 hF hP1 hD1
  have hP : va_P (dC, dI) vwCl (wX q cI cT (xT S ((a, c0, f0, t0, r0), ((S.1 1387).toNatClampNeg, cf), S.2.1 45, S.2.1 46, ((4 * (S.1 1386)).toNatClampNeg, rf)))) H1 := by rw [wX_xT]; exact hP
  have hD : va_D A (wX q cI cT (xT S ((a, c0, f0, t0, r0), ((S.1 1387).toNatClampNeg, cf), S.2.1 45, S.2.1 46, ((4 * (S.1 1386)).toNatClampNeg, rf)))) := by rw [wX_xT]; exact hD
  refine W.widen (k := 5) (n := 412) (Nat.le_of_ble_eq_true rfl) (Nat.le_of_ble_eq_true rfl) ?_
  exact W.aret (v := va_rf (some a)) hx hb hr (Or.inl ⟨_, rfl⟩) (rfOk _) (fun t ht hW => ⟨⟨some a, _, rfl, h a c0 f0 t0 r0 cf rf hfresh hcf hrf, by rw [ht]; exact hP, va_K.moved hW.alike hK, hD⟩, hS.F ht⟩) hS.2.2 (dk DX3_parse 79 rfl)
theorem oXA {mc ms : Nat} {l : Launch} {y : MethodName} {ws ws' : List Cond} {rm : Room} {cc : ByteArray} {maxL : Nat} {ret : Option FieldType} {dC : Nat → ClassId} {dI : Nat → Nat → Nat} {cI cT : ClassId} {en : Nat → Nat} {q : Nat → Nat} {S : XS} {sz : Nat} {av : List Value} {own : String} {Qc : (Nat → Prop) → Array Value → State → Outcome → State → Prop}
    (hy : plainName y.cls = true) (hw : ws = Cond.code y cc maxL ret :: ws') (hin : ∀ w ∈ WsX, w ∈ ws) (hcl : y.cls = own) (hlen : (lg_sl av).length ≤ maxL)
    (body : ∀ (p : Program) (e : Env) (s : State) (m : MethodId) (below : List Frame) (meth : Method) (c : Code) (A : Nat → Prop) (ls : Array Slot), XX p s m av.toArray c cc maxL ws own dC dI cI cT en A → meth.sig.returnType = ret → meth.locks = false → va_P (dC, dI) vwCl (wX q cI cT S) s.heap → va_D A (wX q cI cT S) → va_S A s.heap s.heap [] → lv_has ls maxL (lv_args 0 av) → W p l e (headSpec ws rm).room s m av.toArray below meth c s.heap [] 0 0 (MQ below (Qc A) av.toArray s mc ms A) (F0 m 0 ls [])) :
    Met l y ws rm (va_Pc av (preX dC dI q cI cT en S sz)) (Qc (va_A (wX q cI cT S) sz)) mc ms (va_A (wX q cI cT S) sz) := by
  refine Met.ofW (cc := cc) (maxL := maxL) (ret := ret) hy hw ?_
  intro p e s m args below meth c s₁ B hml hv
  obtain ⟨rfl, hsz, hP, hK, hD0, hN, hz0, hE⟩ := hv
  have hts := atoms_spec (ws := ws) B.pre
  have hown : s.vm.findClass own = some m.cls := hcl ▸ findClass_of_methodNamed B.named
  subst hsz
  have hD := hD0.self (sz := s.heap.size)
  generalize hAe : va_A (wX q cI cT S) s.heap.size = A at hD ⊢
  have hA : ∀ z : Nat, s.heap.size ≤ z → A z := fun z h => by rw [← hAe]; exact Or.inr h
  have hb0 : ∀ z : Nat, A z → en 0 ≤ z := fun z h => by
    rw [← hAe] at h
    rcases h with ⟨k, e, h⟩ | h
    · exact hD0.2 k (z, e) h
    · exact Nat.le_trans hz0 h
  have hl := lv_entry av (n := maxL) hlen
  rw [lg_entry_eq]
  generalize (lg_sl av ++ List.replicate (maxL - (lg_sl av).length) Slot.unset).toArray = ls at hl ⊢
  exact body p e s m below meth c A ls ⟨B.exec, B.bytes, hml, hown, hts, hin, hK, hA, hN, hb0, hz0, hE⟩ B.returns B.notSynchronized hP hD va_S.rf hl
