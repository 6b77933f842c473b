/-! cells that a method makes behind the world that it was given -/
theorem joinN {A : Nat → Prop} {D : va_G} {cl : List vw_C} {ws w0 n : va_W} {H H1 : Heap} (hP : va_P D cl ws H) (hD : va_D A ws) (hsub : ∀ z : Nat × va_E, z ∈ w0 → z ∈ ws) (hk : ∀ q : Nat, q < H.size → ¬ va_A w0 H.size q → H1[q]? = H[q]?) (hF : ∀ q, va_A w0 H.size q → A q) (hP1 : va_P D cl (w0 ++ n) H1) (hD1 : va_D (va_A w0 H.size) (w0 ++ n)) : va_P D cl (ws ++ n) H1 ∧ va_D A (ws ++ n) := by
  have hnew : ∀ (j : Nat) (y : Nat × va_E), n[j]? = some y → H.size ≤ y.1 := fun j y hy => by
    rcases hD1.right.2 j y hy with ⟨k, e, hk2⟩ | h
    · exact (hD1.apart hk2 hy rfl).elim
    · exact h
  refine ⟨va_P.app (fun k z hz => ?_) hP1.right, va_D.app hD (hD1.right.weaken (fun _ z _ h => hF z.1 h)) (fun i j x y hx hy hxy => ?_)⟩
  · have hlt := (hP k z hz).lt
    by_cases hA : va_A w0 H.size z.1
    · rcases hA with ⟨i, e, hi⟩ | h
      · have hm := hsub _ (List.mem_of_getElem? hi)
        obtain ⟨j, hj⟩ := List.getElem?_of_mem hm
        have hkj := hD.1 k j z (z.1, e) hz hj rfl
        subst hkj
        have hze : z = (z.1, e) := Option.some.inj (hz.symm.trans hj)
        rw [hze]
        exact hP1.left i _ hi
      · omega
    · exact (hP k z hz).kept (hk z.1 hlt hA)
  · have h1 := (hP i x hx).lt
    have h2 := hnew j y hy
    omega
def preP (dC : Nat → ClassId) (dI : Nat → Nat → Nat) (cI cT : ClassId) (w0 : va_W) (sz : Nat) : State → Prop := fun U => U.heap.size = sz ∧ va_P (dC, dI) vwCl w0 U.heap ∧ va_K (dC, dI) vwCl (tyX cI cT) U ∧ va_D (fun _ => True) w0 ∧ NWX U
def XP (p : Program) (s : State) (m : MethodId) (args : Array Value) (c : Code) (cc : ByteArray) (nL : Nat) (Ts : List Cond) (own : String) (dC : Nat → ClassId) (dI : Nat → Nat → Nat) (cI cT : ClassId) (A : Nat → Prop) : Prop :=
  p.tables.exec = Jvm.exec ∧ c.code = cc ∧ c.maxLocals = nL ∧ s.vm.findClass own = some m.cls ∧ (∀ w ∈ Ts, w.before args s = true) ∧ (∀ w ∈ WsX, w ∈ Ts) ∧ va_K (dC, dI) vwCl (tyX cI cT) s ∧ (∀ z : Nat, s.heap.size ≤ z → A z) ∧ NWX s
theorem blP {dC : Nat → ClassId} {dI : Nat → Nat → Nat} {cI cT : ClassId} {av : List Value} {w0 : va_W} {sz : Nat} : FrameBlind (va_Pc av (preP dC dI cI cT w0 sz)) := fun a U g mk z => by
  obtain ⟨q0, q1, qP, qK, qD, qN⟩ := z
  exact ⟨q0, q1, qP, va_K.moved (u := U) (U := U.calling g mk a) (Vm.Alike.refl U.vm) qK, qD, NWX.same (s := U) (U := U.calling g mk a) rfl qN⟩
theorem oP {l : Launch} {y : MethodName} {ws ws' : List Cond} {rm : Room} {cc : ByteArray} {maxL mc ms : Nat} {ret : Option FieldType} {dC : Nat → ClassId} {dI : Nat → Nat → Nat} {cI cT : ClassId} {w0 : va_W} {sz : Nat} {av : List Value} {own : String} {Qc : (Nat → Prop) → Array Value → State → Outcome → State → Prop}
    (hy : plainName y.cls = true) (hw : ws = Cond.code y cc maxL ret :: ws') (hin : ∀ w ∈ WsX, w ∈ ws) (hcl : y.cls = own) (hlen : (lg_sl av).length ≤ maxL)
    (body : ∀ (p : Program) (e : Env) (s : State) (m : MethodId) (below : List Frame) (meth : Method) (c : Code) (A : Nat → Prop) (ls : Array Slot), XP p s m av.toArray c cc maxL ws own dC dI cI cT A → meth.sig.returnType = ret → meth.locks = false → meth.name = y.name → va_P (dC, dI) vwCl w0 s.heap → va_D A w0 → va_S A s.heap s.heap [] → lv_has ls maxL (lv_args 0 av) → W p l e (headSpec ws rm).room s m av.toArray below meth c s.heap [] 0 0 (MQ below (Qc A) av.toArray s mc ms A) (F0 m 0 ls [])) :
    Met l y ws rm (va_Pc av (preP dC dI cI cT w0 sz)) (Qc (va_A w0 sz)) mc ms (va_A w0 sz) := by
  refine Met.ofW (cc := cc) (maxL := maxL) (ret := ret) hy hw ?_
  intro p e s m args below meth c s₁ B hml hv
  obtain ⟨rfl, hsz, hP, hK, hD0, hN⟩ := hv
  have hts := atoms_spec (ws := ws) B.pre
  have hown : s.vm.findClass own = some m.cls := hcl ▸ findClass_of_methodNamed B.named
  subst hsz
  have hD := hD0.self (sz := s.heap.size)
  generalize hAe : va_A w0 s.heap.size = A at hD ⊢
  have hA : ∀ z : Nat, s.heap.size ≤ z → A z := fun z h => by rw [← hAe]; exact Or.inr h
  have hl := lv_entry av (n := maxL) hlen
  rw [lg_entry_eq]
  generalize (lg_sl av ++ List.replicate (maxL - (lg_sl av).length) Slot.unset).toArray = ls at hl ⊢
  exact body p e s m below meth c A ls ⟨B.exec, B.bytes, hml, hown, hts, hin, hK, hA, hN⟩ B.returns B.notSynchronized (name_of_methodNamed B.named B.method).1 hP hD va_S.rf hl
theorem fitI {cI : ClassId} {N : Nat} {f : Nat → Int32} (i : Nat) (v : Value) (h : (vp_cell cI (N, .inl f)).slots[i]? = some v) : fits .int v = true := by
  rw [vp_cell_i] at h
  by_cases hi : i < N
  · rw [arrV_read _ _ hi] at h
    cases h
    rfl
  · have hs : (arrV cI N fun j => .int (f j)).slots.size = N := arrV_size _ _ _
    have h2 := (Array.getElem?_eq_some_iff.mp h).1
    omega
def ww_cp : List Cond := .code yJ7_copyOf_59c91 cJ7_copyOf_59c91 3 (some (.array .int)) :: (WdX ++ WsX)
theorem q_cp : yJ7_copyOf_59c91.cls ≠ "java/lang/invoke/MethodHandle" ∧ yJ7_copyOf_59c91.cls ≠ "java/lang/invoke/VarHandle" ∧ (parseMethodDescriptor yJ7_copyOf_59c91.desc).map (fun d => d.parameters.length) = some 2 := by decide +kernel
def atP (dC : Nat → ClassId) (dI : Nat → Nat → Nat) (A : Nat → Prop) (w0 : va_W) (cI : ClassId) (n : Nat) (g : Nat → Int32) (a : Nat) (t : State) : Prop := va_P (dC, dI) vwCl (w0 ++ [(a, .inl (cI, n, .inl g))]) t.heap ∧ va_D A (w0 ++ [(a, .inl (cI, n, .inl g))])
set_option maxHeartbeats 4000000 in
set_option maxRecDepth 100000 in
theorem m_copyOf {l : Launch} {dC : Nat → ClassId} {dI : Nat → Nat → Nat} {cI cT : ClassId} {sz : Nat} (b N : Nat) (f : Nat → Int32) (n : Int32) (hn0 : ¬ n < 0) (hn : n.toNatClampNeg ≤ N) (hN : N ≤ 400) : Met l yJ7_copyOf_59c91 ww_cp ({ frames := 1, cells := 1, slots := N, locals := 60 } : Room) (va_Pc [.ref b, .int n] (preP dC dI cI cT [(b, .inl (cI, N, .inl f))] sz)) (va_Qr (fun g : Nat → Int32 => ∀ j, j < n.toNatClampNeg → g j = f j) (atP dC dI (va_A [(b, .inl (cI, N, .inl f))] sz) [(b, .inl (cI, N, .inl f))] cI n.toNatClampNeg) (va_A [(b, .inl (cI, N, .inl f))] sz)) 1 N (va_A [(b, .inl (cI, N, .inl f))] sz) := by
  refine oP (cc := cJ7_copyOf_59c91) (maxL := 3) (ret := (some (.array .int))) (own := RJ7) (Qc := fun A => va_Qr (fun g : Nat → Int32 => ∀ j, j < n.toNatClampNeg → g j = f j) (atP dC dI A [(b, .inl (cI, N, .inl f))] cI n.toNatClampNeg) A) (by decide) rfl (fun w h => List.mem_cons_of_mem _ (List.mem_append_right _ h)) rfl (Nat.le_of_ble_eq_true rfl) (fun p e s m below meth c A ls X hr hlocks hmn hP hD hS hl => ?_)
  have hx := X.1
  have hb := X.2.1
  have hl : lv_has ls 3 [(0, .ref b), (1, .int n)] := hl
  have hnm : s.vm.findClass "[I" = some cI := by
    have h := (X.2.2.2.2.2.2.1.2 0 (cI, .int) rfl).2
    exact h
  refine lv_iload_n hx hb (dk DJ7_copyOf_59c91 0 rfl) rfl (lv_at hl 1 rfl) ?_
  refine lv_aload_n hx hb (dk DJ7_copyOf_59c91 1 rfl) rfl (lv_at hl 0 rfl) ?_
  refine va_alen (x := (N, .inl f)) hx hb X.2.2.2.2.2.2.1 hP 0 0 rfl rfl rfl (dk DJ7_copyOf_59c91 2 rfl) ?_
  refine lv_icmp_ne (tgt := 14) hx hb (dk DJ7_copyOf_59c91 3 rfl) (by decide) (fun hc => ?_) (fun hc => ?_)
  · refine lv_iload_n hx hb (dk DJ7_copyOf_59c91 8 rfl) rfl (lv_at hl 1 rfl) ?_
    refine va_newa (atype := .int) (a0 := (n.toNatClampNeg, .inl (fun _ => 0))) (ty := .int) hx hb (X.2.2.2.2.1 (.arrayClass .int) (inX 4 rfl)) rfl X.2.2.2.2.2.2.1 hP hD hS X.2.2.2.2.2.2.2.1 (fun _ => by rw [vp_cell_i]; rfl) hn0 rfl (by show n.toNatClampNeg * 4 ≤ _; omega) (Nat.le_of_ble_eq_true rfl) (by show 0 + _ ≤ N; omega) (dk DJ7_copyOf_59c91 9 rfl) (fun q cA H hK1 hP hD hS => ?_)
    have e1 : s.vm.findClass ("[" ++ FieldType.int.toString) = some cA := (hK1.2 2 (cA, .int) rfl).2
    have e2 : s.vm.findClass ("[" ++ FieldType.int.toString) = some cI := (hK1.2 0 (cI, .int) rfl).2
    have e3 : cA = cI := Option.some.inj (e1.symm.trans e2)
    rw [e3] at hP hD
    have hP : va_P (dC, dI) vwCl [(b, .inl (cI, N, .inl f)), (q, .inl (cI, n.toNatClampNeg, .inl (fun _ => 0)))] H := hP
    have hD : va_D A [(b, .inl (cI, N, .inl f)), (q, .inl (cI, n.toNatClampNeg, .inl (fun _ => 0)))] := hD
    refine W.widen (k := 1) (n := N) (Nat.le_refl _) (by omega) ?_
    refine lv_astore_n (lv' := [(2, .ref q), (0, .ref b), (1, .int n)]) hx hb (dk DJ7_copyOf_59c91 10 rfl) rfl hl (by decide) rfl (fun ls hl => ?_)
    refine lv_aload_n hx hb (dk DJ7_copyOf_59c91 11 rfl) rfl (lv_at hl 1 rfl) ?_
    refine lv_iconst (v := 0) hx hb (dk DJ7_copyOf_59c91 12 rfl) (by decide) ?_
    refine lv_aload_n hx hb (dk DJ7_copyOf_59c91 13 rfl) rfl (lv_at hl 0 rfl) ?_
    refine lv_iconst (v := 0) hx hb (dk DJ7_copyOf_59c91 14 rfl) (by decide) ?_
    refine lv_aload_n hx hb (dk DJ7_copyOf_59c91 15 rfl) rfl (lv_at hl 1 rfl) ?_
    refine va_alen (x := (N, .inl f)) hx hb X.2.2.2.2.2.2.1 hP 0 0 rfl rfl rfl (dk DJ7_copyOf_59c91 16 rfl) ?_
    refine lv_iload_n hx hb (dk DJ7_copyOf_59c91 17 rfl) rfl (lv_at hl 2 rfl) ?_
    refine va_mmin hx hb (X.2.2.1.trans hl.1.symm) X.2.2.2.1 (X.2.2.2.2.1 (.methodLink RJ7 304 Lib.Math.min.name) (inX 390 rfl)) (X.2.2.2.2.1 (.static Lib.Math.min.name) (inX 20 rfl)) (X.2.2.2.2.1 (.initialized "java/lang/Math") (inX 21 rfl)) (X.2.2.2.2.1 (.code Lib.Math.min.name Lib.Math.min.code 2 (some .int)) (inX 22 rfl)) (Nat.le_of_ble_eq_true rfl) (Nat.le_of_ble_eq_true rfl) (Nat.le_refl _) (Nat.le_refl _) (dk DJ7_copyOf_59c91 18 rfl) ?_
    have hmin : (if n < Int32.ofNat N then n else Int32.ofNat N) = n := by
      obtain ⟨j, hj, e⟩ := nI_of hn0
      have ej : n.toNatClampNeg = j := by rw [e]; exact nI_clamp hj
      by_cases h : n < Int32.ofNat N
      · rw [if_pos h]
      · exact absurd e (fun e => hc (by
          rw [e] at h ⊢
          have : ¬ j < N := fun z => h (nI_lt z (by omega))
          rw [show j = N by omega]; rfl))
    rw [hmin]
    have z0 : (0 : Int32).toNatClampNeg = 0 := by decide
    refine va_copyi (sp := 0) (dp := 0) (n := n) hx hb (X.2.2.1.trans hl.1.symm) X.2.2.2.1 (X.2.2.2.2.1 (.methodLink RJ7 150 arraycopyName) (inX 391 rfl)) (X.2.2.2.2.1 (.native arraycopyName) (inX 24 rfl)) (X.2.2.2.2.1 (.static arraycopyName) (inX 25 rfl)) (X.2.2.2.2.1 (.initialized "java/lang/System") (inX 26 rfl)) X.2.2.2.2.2.2.1 hP hD hS 0 1 0 0 (ty := .int) rfl rfl rfl rfl rfl (by decide) (by decide) hn0 (by rw [z0]; omega) (by rw [z0]; omega) (fun _ _ => rfl) (Nat.le_of_ble_eq_true rfl) (Nat.le_of_ble_eq_true rfl) (dk DJ7_copyOf_59c91 19 rfl) (fun H locs hP hD hS => ?_)
    refine lv_aload_n hx hb (dk DJ7_copyOf_59c91 20 rfl) rfl (lv_at hl 0 rfl) ?_
    exact W.aret (v := .ref q) hx hb hr (Or.inr ⟨_, rfl⟩) (Or.inr ⟨_, rfl⟩) (fun t ht hW => ⟨⟨va_cpy f (fun _ => 0) (0 : Int32).toNatClampNeg (0 : Int32).toNatClampNeg n.toNatClampNeg, q, rfl, (fun j hj => by
      have h0 : (0 : Int32).toNatClampNeg = 0 := by decide
      rw [h0, pk_cpy_in (Nat.zero_le _) (by omega)]
      congr 1
      omega), by rw [ht]; exact hP, hD⟩, hS.F ht⟩) hS.2.2 (dk DJ7_copyOf_59c91 21 rfl)
  · have hnN : n.toNatClampNeg = N := by rw [hc]; exact nI_clamp (by omega)
    refine lv_aload_n hx hb (dk DJ7_copyOf_59c91 4 rfl) rfl (lv_at hl 0 rfl) ?_
    refine va_clone (ad := "[I") hx hb (X.2.2.1.trans hl.1.symm) X.2.2.2.1 (X.2.2.2.2.1 (.methodLink RJ7 316 ⟨"[I", "clone", "()Ljava/lang/Object;"⟩) (inX 384 rfl)) (X.2.2.2.2.1 (.sameMethod "[I" "java/lang/Object" "clone" "()Ljava/lang/Object;") (inX 385 rfl)) (X.2.2.2.2.1 (.native ⟨"java/lang/Object", "clone", "()Ljava/lang/Object;"⟩) (inX 386 rfl)) (X.2.2.2.2.1 (.instanceMethod ⟨"java/lang/Object", "clone", "()Ljava/lang/Object;"⟩) (inX 387 rfl)) (X.2.2.2.2.1 (.selects "[I" ⟨"[I", "clone", "()Ljava/lang/Object;"⟩ ⟨"java/lang/Object", "clone", "()Ljava/lang/Object;"⟩) (inX 388 rfl)) X.2.2.2.2.2.2.2.2.2.2 X.2.2.2.2.2.2.1 hP hD hS X.2.2.2.2.2.2.2.1 0 0 rfl rfl hnm (fun i v h => fitI i v h) (Nat.le_of_ble_eq_true rfl) (Nat.le_of_ble_eq_true rfl) (Nat.le_of_ble_eq_true rfl) (by show 0 + N ≤ N; omega) (dk DJ7_copyOf_59c91 5 rfl) (fun q H hK1 hP hD hS => ?_)
    have hP : va_P (dC, dI) vwCl [(b, .inl (cI, N, .inl f)), (q, .inl (cI, N, .inl f))] H := hP
    have hD : va_D A [(b, .inl (cI, N, .inl f)), (q, .inl (cI, N, .inl f))] := hD
    refine W.widen (k := 1) (n := N) (Nat.le_refl _) (by show 0 + N ≤ N; omega) ?_
    refine va_castA (nm := "[I") hx hb X.2.2.2.1 (X.2.2.2.2.1 (.classLink RJ7 317 "[I") (inX 389 rfl)) hP 1 rfl hnm (dk DJ7_copyOf_59c91 6 rfl) ?_
    exact W.aret (v := .ref q) hx hb hr (Or.inr ⟨_, rfl⟩) (Or.inr ⟨_, rfl⟩) (fun t ht hW => ⟨⟨f, q, rfl, fun _ _ => rfl, by rw [ht, hnN]; exact hP, by rw [hnN]; exact hD⟩, hS.F ht⟩) hS.2.2 (dk DJ7_copyOf_59c91 7 rfl)
