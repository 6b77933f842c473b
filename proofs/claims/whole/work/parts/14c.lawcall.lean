/-! the law: what stands, its calls, its loads -/
def LA (s : State) : Nat → Prop := fun z => s.heap.size ≤ z
def LX (p : Program) (s : State) (m : MethodId) (c : Code) (b L : Nat) (xs : Nat → Int32) (dC : Nat → ClassId) (dI : Nat → Nat → Nat) (cI cT cJ cZ : ClassId) (en : Nat → Nat) : Prop :=
  p.tables.exec = Jvm.exec ∧ c.code = code ∧ c.maxLocals = 4 ∧ s.vm.findClass RL = some m.cls ∧ (∀ w ∈ lw_tbl, w.before #[Value.ref b] s = true) ∧ va_X b L xs s s.heap ∧ b < s.heap.size ∧ va_K (dC, dI) vwCl (tyX cI cT) s ∧ va_K (dC, dI) vwCl (tyM cI cJ cZ) s ∧ NWX s ∧ en 0 = s.heap.size ∧ ENV en s s.heap
def LWd (dC : Nat → ClassId) (dI : Nat → Nat → Nat) (q q2 : Nat → Nat) (cI cT cJ cZ : ClassId) (s : State) (x : XS) (y : MS) (H : Heap) (locs : List Loc) : Prop := va_P (dC, dI) vwCl (wX q cI cT x ++ wM q2 cI cJ cZ y) H ∧ va_D (LA s) (wX q cI cT x ++ wM q2 cI cJ cZ y) ∧ va_S (LA s) s.heap H locs
section LAWC
variable {p : Program} {l : Launch} {e : Env} {s : State} {m : MethodId} {below : List Frame} {meth : Method} {c : Code} {b L i : Nat} {xs : Nat → Int32} {dC : Nat → ClassId} {dI : Nat → Nat → Nat} {q q2 : Nat → Nat} {cI cT cJ cZ : ClassId} {en : Nat → Nat} {H : Heap} {locs : List Loc} {cells slots : Nat} {Q : State → Prop} {ls : Array Slot} {x : XS} {y : MS}
variable {pc n idx maxL mc ms : Nat} {As rest st0 : List Value} {yy : MethodName} {bytes : ByteArray} {ret : Option FieldType} {ws : List Cond} {rm : Room}
theorem frL {w : va_W} (hD : va_D (LA s) w) (hS : va_S (LA s) s.heap H locs) : ∀ z, va_A w H.size z → LA s z := fun z h => by
  rcases h with ⟨k, e, h⟩ | h
  · exact hD.2 k (z, e) h
  · exact Nat.le_trans hS.1 h
theorem inLX (X : LX p s m c b L xs dC dI cI cT cJ cZ en) (hP : va_P (dC, dI) vwCl (wX q cI cT x) H) (hD : va_D (LA s) (wX q cI cT x)) (hS : va_S (LA s) s.heap H locs) (av : List Value) : ∀ U : State, U.heap = H → s.WarmedH U.vm → va_Pc av (preX dC dI q cI cT en x H.size) av.toArray U := fun U hU hW => by
  obtain ⟨h1, h2, h3, h4, h5, h6, h7, h8, h9, h10, h11, h12⟩ := X
  refine ⟨rfl, by rw [hU], by rw [hU]; exact hP, va_K.moved hW.alike h8, hD.weaken (fun _ z _ h => ?_), NWX.warm hW h10, by rw [h11]; exact hS.1, ?_⟩
  · show en 0 ≤ z.1
    rw [h11]; exact h
  · rw [hU]
    refine ENV.warm hW (h12.kept (fun a z1 z2 => hS.2.1 a z1 (fun z => z2 ?_)))
    show en 0 ≤ a
    rw [h11]; exact z
theorem lcX {Post : Int32 → XS → Prop} (X : LX p s m c b L xs dC dI cI cT cJ cZ en) (hw : LWd dC dI q q2 cI cT cJ cZ s x y H locs) (hM : Met l yy ws rm (va_Pc (.ref (q 0) :: As) (preX dC dI q cI cT en x H.size)) (va_Qi Post (atX dC dI q cI cT (va_A (wX q cI cT x) H.size)) (va_A (wX q cI cT x) H.size)) mc ms (va_A (wX q cI cT x) H.size)) (cw : CallW room_1 s #[Value.ref b] RL RX11 idx yy bytes maxL ret ws rm mc ms n) (hn : As.length = n) (hls : ls.size = 4) (hst : st0 = As.reverse ++ .ref (q 0) :: rest) (hW : (rest.map fun v => v.category).sum ≤ 8) (hd : decode code pc = .ok (.invokevirtual idx, 3)) (hc : cells + mc ≤ 600000) (hs : slots + ms ≤ 7302250)
    (kk : ∀ (r : Int32) (x1 : XS) (H1 : Heap) (locs1 : List Loc), Post r x1 → LWd dC dI q q2 cI cT cJ cZ s x1 y H1 locs1 → W p l e room_1 s m #[Value.ref b] below meth c H1 locs1 (cells + mc) (slots + ms) Q (F0 m (pc + 3) ls (.int r :: rest))) : W p l e room_1 s m #[Value.ref b] below meth c H locs cells slots Q (F0 m pc ls st0) := by
  obtain ⟨hP, hD, hS⟩ := hw
  have hF := frL hD.left hS
  refine va_calli (va_runV (As := As) (rest := rest) ⟨X.1, X.2.1, X.2.2.1, X.2.2.2.1, X.2.2.2.2.1⟩ hM cw ⟨blX, va_recv X.2.2.2.2.2.2.2.1 hP.left (ci := 11) (q0 := 0) rfl rfl, inLX X hP.left hD.left hS _⟩ rfl hn hls hst (lv_room hW) hd ⟨hc, hs⟩) hS (fun z _ h => hF z h) hF (fun r x1 t H1 locs1 ht hvm h hB hz1 hk1 hS1 => ?_)
  obtain ⟨hP1, hK1, hD1⟩ := hB
  obtain ⟨g1, g2⟩ := joinM (L1 := []) hP hD hk1 hF (ht ▸ hP1) hD1
  exact kk r x1 H1 locs1 h ⟨g1, g2, hS1⟩
theorem lcXl {Post : Int64 → XS → Prop} (X : LX p s m c b L xs dC dI cI cT cJ cZ en) (hw : LWd dC dI q q2 cI cT cJ cZ s x y H locs) (hM : Met l yy ws rm (va_Pc (.ref (q 0) :: As) (preX dC dI q cI cT en x H.size)) (va_Ql Post (atX dC dI q cI cT (va_A (wX q cI cT x) H.size)) (va_A (wX q cI cT x) H.size)) mc ms (va_A (wX q cI cT x) H.size)) (cw : CallW room_1 s #[Value.ref b] RL RX11 idx yy bytes maxL ret ws rm mc ms n) (hn : As.length = n) (hls : ls.size = 4) (hst : st0 = As.reverse ++ .ref (q 0) :: rest) (hW : (rest.map fun v => v.category).sum ≤ 8) (hd : decode code pc = .ok (.invokevirtual idx, 3)) (hc : cells + mc ≤ 600000) (hs : slots + ms ≤ 7302250)
    (kk : ∀ (r : Int64) (x1 : XS) (H1 : Heap) (locs1 : List Loc), Post r x1 → LWd dC dI q q2 cI cT cJ cZ s x1 y H1 locs1 → W p l e room_1 s m #[Value.ref b] below meth c H1 locs1 (cells + mc) (slots + ms) Q (F0 m (pc + 3) ls (.long r :: rest))) : W p l e room_1 s m #[Value.ref b] below meth c H locs cells slots Q (F0 m pc ls st0) := by
  obtain ⟨hP, hD, hS⟩ := hw
  have hF := frL hD.left hS
  refine va_calll (va_runV (As := As) (rest := rest) ⟨X.1, X.2.1, X.2.2.1, X.2.2.2.1, X.2.2.2.2.1⟩ hM cw ⟨blX, va_recv X.2.2.2.2.2.2.2.1 hP.left (ci := 11) (q0 := 0) rfl rfl, inLX X hP.left hD.left hS _⟩ rfl hn hls hst (lv_room hW) hd ⟨hc, hs⟩) hS (fun z _ h => hF z h) hF (fun r x1 t H1 locs1 ht hvm h hB hz1 hk1 hS1 => ?_)
  obtain ⟨hP1, hK1, hD1⟩ := hB
  obtain ⟨g1, g2⟩ := joinM (L1 := []) hP hD hk1 hF (ht ▸ hP1) hD1
  exact kk r x1 H1 locs1 h ⟨g1, g2, hS1⟩
theorem inLM (X : LX p s m c b L xs dC dI cI cT cJ cZ en) (hP : va_P (dC, dI) vwCl (wM q2 cI cJ cZ y) H) (hD : va_D (LA s) (wM q2 cI cJ cZ y)) (av : List Value) : ∀ U : State, U.heap = H → s.WarmedH U.vm → va_Pc av (preM dC dI q2 cI cJ cZ y H.size) av.toArray U := fun U hU hW =>
  ⟨rfl, by rw [hU], by rw [hU]; exact hP, va_K.moved hW.alike X.2.2.2.2.2.2.2.2.1, hD.weaken (fun _ _ _ _ => trivial)⟩
theorem lcM {Post : Int32 → MS → Prop} (X : LX p s m c b L xs dC dI cI cT cJ cZ en) (hw : LWd dC dI q q2 cI cT cJ cZ s x y H locs) (hM : Met l yy ws rm (va_Pc (.ref (q2 0) :: As) (preM dC dI q2 cI cJ cZ y H.size)) (va_Qi Post (atM dC dI q2 cI cJ cZ (va_A (wM q2 cI cJ cZ y) H.size)) (va_A (wM q2 cI cJ cZ y) H.size)) 0 0 (va_A (wM q2 cI cJ cZ y) H.size)) (cw : CallW room_1 s #[Value.ref b] RL RX12 idx yy bytes maxL ret ws rm 0 0 n) (hn : As.length = n) (hls : ls.size = 4) (hst : st0 = As.reverse ++ .ref (q2 0) :: rest) (hW : (rest.map fun v => v.category).sum ≤ 8) (hd : decode code pc = .ok (.invokevirtual idx, 3)) (hc : cells ≤ 600000) (hs : slots ≤ 7302250)
    (kk : ∀ (r : Int32) (y1 : MS) (H1 : Heap) (locs1 : List Loc), Post r y1 → LWd dC dI q q2 cI cT cJ cZ s x y1 H1 locs1 → W p l e room_1 s m #[Value.ref b] below meth c H1 locs1 (cells + 0) (slots + 0) Q (F0 m (pc + 3) ls (.int r :: rest))) : W p l e room_1 s m #[Value.ref b] below meth c H locs cells slots Q (F0 m pc ls st0) := by
  obtain ⟨hP, hD, hS⟩ := hw
  have hF := frL hD.right hS
  refine va_calli (va_runV (As := As) (rest := rest) ⟨X.1, X.2.1, X.2.2.1, X.2.2.2.1, X.2.2.2.2.1⟩ hM cw ⟨blM, va_recv X.2.2.2.2.2.2.2.2.1 hP.right (ci := 12) (q0 := 0) rfl rfl, inLM X hP.right hD.right _⟩ rfl hn hls hst (lv_room hW) hd ⟨hc, hs⟩) hS (fun z _ h => hF z h) hF (fun r y1 t H1 locs1 ht hvm h hB hz1 hk1 hS1 => ?_)
  obtain ⟨hP1, hK1, hD1⟩ := hB
  obtain ⟨g1, g2⟩ := joinE hP hD hk1 hF (ht ▸ hP1) hD1
  exact kk r y1 H1 locs1 h ⟨g1, g2, hS1⟩
theorem lcMl {Post : Int64 → MS → Prop} (X : LX p s m c b L xs dC dI cI cT cJ cZ en) (hw : LWd dC dI q q2 cI cT cJ cZ s x y H locs) (hM : Met l yy ws rm (va_Pc (.ref (q2 0) :: As) (preM dC dI q2 cI cJ cZ y H.size)) (va_Ql Post (atM dC dI q2 cI cJ cZ (va_A (wM q2 cI cJ cZ y) H.size)) (va_A (wM q2 cI cJ cZ y) H.size)) 0 0 (va_A (wM q2 cI cJ cZ y) H.size)) (cw : CallW room_1 s #[Value.ref b] RL RX12 idx yy bytes maxL ret ws rm 0 0 n) (hn : As.length = n) (hls : ls.size = 4) (hst : st0 = As.reverse ++ .ref (q2 0) :: rest) (hW : (rest.map fun v => v.category).sum ≤ 8) (hd : decode code pc = .ok (.invokevirtual idx, 3)) (hc : cells ≤ 600000) (hs : slots ≤ 7302250)
    (kk : ∀ (r : Int64) (y1 : MS) (H1 : Heap) (locs1 : List Loc), Post r y1 → LWd dC dI q q2 cI cT cJ cZ s x y1 H1 locs1 → W p l e room_1 s m #[Value.ref b] below meth c H1 locs1 (cells + 0) (slots + 0) Q (F0 m (pc + 3) ls (.long r :: rest))) : W p l e room_1 s m #[Value.ref b] below meth c H locs cells slots Q (F0 m pc ls st0) := by
  obtain ⟨hP, hD, hS⟩ := hw
  have hF := frL hD.right hS
  refine va_calll (va_runV (As := As) (rest := rest) ⟨X.1, X.2.1, X.2.2.1, X.2.2.2.1, X.2.2.2.2.1⟩ hM cw ⟨blM, va_recv X.2.2.2.2.2.2.2.2.1 hP.right (ci := 12) (q0 := 0) rfl rfl, inLM X hP.right hD.right _⟩ rfl hn hls hst (lv_room hW) hd ⟨hc, hs⟩) hS (fun z _ h => hF z h) hF (fun r y1 t H1 locs1 ht hvm h hB hz1 hk1 hS1 => ?_)
  obtain ⟨hP1, hK1, hD1⟩ := hB
  obtain ⟨g1, g2⟩ := joinE hP hD hk1 hF (ht ▸ hP1) hD1
  exact kk r y1 H1 locs1 h ⟨g1, g2, hS1⟩
theorem ldS {k : Nat} {nn : Int} (X : LX p s m c b L xs dC dI cI cT cJ cZ en) (hw : LWd dC dI q q2 cI cT cJ cZ s x y H locs) (hi : i + 6 ≤ L) (hL : L ≤ 3072) (hl : lv_has ls 4 [(3, .int (nI i)), (2, .ref (q2 0)), (1, .ref (q 0)), (0, .ref b)]) (k5 : k ≤ 5) (hv : Int32.ofInt nn = nI k) (d0 : decode code pc = .ok (.aload_n 0, 1)) (d1 : decode code (pc + 1) = .ok (.iload_n 3, 1)) (d2 : decode code (pc + 2) = .ok (.iconst nn, 1)) (d3 : decode code (pc + 3) = .ok (.iadd, 1)) (d4 : decode code (pc + 4) = .ok (.iaload, 1)) (kk : W p l e room_1 s m #[Value.ref b] below meth c H locs cells slots Q (F0 m (pc + 5) ls (.int (xs (i + k)) :: rest))) : W p l e room_1 s m #[Value.ref b] below meth c H locs cells slots Q (F0 m pc ls rest) := by
  refine lv_aload_n X.1 X.2.1 d0 rfl (lv_at hl 3 rfl) ?_
  refine lv_iload_n X.1 X.2.1 d1 rfl (lv_at hl 0 rfl) ?_
  refine lv_iconst (v := nI k) X.1 X.2.1 d2 hv ?_
  refine lv_iadd X.1 X.2.1 d3 ?_
  refine lv_topi (fun z ez => ?_)
  rw [nadd] at ez
  subst ez
  refine va_sld X.1 X.2.1 X.2.2.2.2.2.1 X.2.2.2.2.2.2.1 (Nat.not_le.mpr X.2.2.2.2.2.2.1) hw.2.2 (vp_in_nI (by omega) (by omega)) d4 ?_
  rw [ncl (by omega)]
  exact kk
end LAWC
