/-! the law, from its entry -/
theorem gL_init11 : GoodIn lw_tbl ww_X11_init := goodIn_app (gOne lVi_g 2 rfl) lXW
theorem gL_init12 : GoodIn lw_tbl ww_X12_init := goodIn_app (gOne lVi_g 5 rfl) lMW
theorem blMI {dC : Nat → ClassId} {dI : Nat → Nat → Nat} {cI cJ cZ : ClassId} {av : List Value} {w0 : va_W} {sz : Nat} : FrameBlind (va_Pc av (preMI dC dI cI cJ cZ w0 sz)) := fun a U g mk z => by
  obtain ⟨q0, q1, qP, qK, qD⟩ := z
  exact ⟨q0, q1, qP, va_K.moved (u := U) (U := U.calling g mk a) (Vm.Alike.refl U.vm) qK, qD⟩
def qL (h0 : Nat) (u : Nat → Nat) : Nat → Nat := fun k => match k with
  | 0 => h0
  | k + 1 => u (k + 1)
set_option maxHeartbeats 4000000 in
set_option maxRecDepth 100000 in
theorem whole_start {p : Program} {e : Env} {s : State} {m : MethodId} {below : List Frame} {meth : Method} {c : Code} (l : Launch) {b L : Nat} {xs : Nat → Int32} (hL : L ≤ 3072) (C0 : lw_At p s m meth c b L xs) : W p l e room_1 s m #[Value.ref b] below meth c s.heap [] 0 0 (lw_Z below #[Value.ref b] s) (entryFrame m ([Value.ref b] : List Value).toArray 4) := by
  obtain ⟨hx, hb, hr, hml, hown, hts, hX, hbl, hlocks, hgv⟩ := id C0
  obtain ⟨en, en0, hE⟩ := law_ENV hts hgv
  obtain ⟨dC, dI, cI, cT, cJ, cZ, hKX, hKM⟩ := law_K hts
  have hNI := law_NWI hts
  have hown : s.vm.findClass RL = some m.cls := hown
  have X : LX p s m c b L xs dC dI cI cT cJ cZ en := ⟨hx, hb, hml, hown, hts, hX, hbl, hKX, hKM, law_NWX hts, en0, hE⟩
  have tb : ∀ (k : Nat) (w : Cond), lVi[k]? = some w → w.before #[Value.ref b] s = true := fun k w h => hts w (lVi_g w (List.mem_of_getElem? h)).1
  have hA : ∀ q : Nat, s.heap.size ≤ q → LA s q := fun _ h => h
  have hS : va_S (LA s) s.heap s.heap [] := va_S.rf
  have hP : va_P (dC, dI) vwCl [] s.heap := fun k q h => by simp at h
  have hD : va_D (LA s) [] := ⟨fun i j p q h => by simp at h, fun k q h => by simp at h⟩
  have hl := lv_entry ([.ref b]) (n := 4) (Nat.le_of_ble_eq_true rfl)
  rw [lg_entry_eq]
  generalize (lg_sl ([.ref b]) ++ List.replicate (4 - (lg_sl ([.ref b])).length) Slot.unset).toArray = ls at hl ⊢
  have hl : lv_has ls 4 [(0, .ref b)] := hl
  refine va_new (ci := 11) (fs := [.null, .null, .null, .null, .null, .null, .null]) (C := RX11) (T := TX11) (N := 7) hx hb hts (fun w hw => (lW_11 w hw).1) tyX11 tyX11_ok hown (tb 6 _ rfl) (tb 8 _ rfl) (tb 10 _ rfl) hKX hP hD hS hA rfl (by decide) (Nat.le_of_ble_eq_true rfl) (Nat.le_of_ble_eq_true rfl) (dk DL_0 0 rfl) (fun h0 H hP hD hS => ?_)
  have hP : va_P (dC, dI) vwCl ([] ++ [(h0, .inr (11, [.null, .null, .null, .null, .null, .null, .null]))]) H := hP
  have hD : va_D (LA s) ([] ++ [(h0, .inr (11, [.null, .null, .null, .null, .null, .null, .null]))]) := hD
  refine W.widen (k := 1) (n := 7) (by omega) (by omega) ?_
  refine lv_dup hx hb (dk DL_0 1 rfl) rfl ?_
  have hF := frL hD hS
  refine va_callv (va_runI (As := []) (rest := [.ref h0]) ⟨hx, hb, hml, hown, hts⟩ (i_X11 (l := l) (dC := dC) (dI := dI) (cI := cI) (cT := cT) (sz := H.size) h0) (cwI 0 hts gL_init11 rfl rfl rfl (tb 10 _ rfl) (tb 0 _ rfl) (tb 1 _ rfl) rfl q_X11_init ⟨(Nat.le_of_ble_eq_true rfl), (Nat.le_of_ble_eq_true rfl)⟩) ⟨blI, fun U hU hW => ⟨rfl, by rw [hU], by rw [hU]; exact hP, va_K.moved hW.alike hKX, hD.weaken (fun _ _ _ _ => trivial), NWI.warm hW hNI⟩⟩ rfl rfl hl.1 rfl (lv_room (Nat.le_of_ble_eq_true rfl)) (dk DL_0 2 rfl) ⟨(Nat.le_of_ble_eq_true rfl), (Nat.le_of_ble_eq_true rfl)⟩) hS (fun z _ h => hF z h) hF (fun u t H1 locs ht hvm _ hB hz1 hk1 hS => ?_)
  obtain ⟨hP1, hD1⟩ := hB
  obtain ⟨hP, hD⟩ := joinE (wr := []) hP hD hk1 hF (ht ▸ hP1) hD1
  have hP : va_P (dC, dI) vwCl (wX (qL h0 u) cI cT X0) H1 := hP
  have hD : va_D (LA s) (wX (qL h0 u) cI cT X0) := hD
  generalize eq : qL h0 u = q at hP hD
  have q0 : q 0 = h0 := by rw [← eq]; rfl
  rw [← q0]
  refine lv_astore_n (lv' := [(1, .ref (q 0)), (0, .ref b)]) hx hb (dk DL_0 3 rfl) rfl hl (by decide) rfl (fun ls hl => ?_)
  refine va_new (ci := 12) (fs := [.null, .null, .null, .null, .int 0, .int 0, .int 0, .int 0, .int 0, .int 0, .int 0, .long 0, .int 0, .int 0, .int 0, .int 0, .null, .int 0, .int 0, .int 0, .int 0, .int 0, .null, .null, .null, .null, .null, .null, .int 0, .int 0, .null, .null]) (C := RX12) (T := TX12) (N := 32) hx hb hts (fun w hw => (lW_12 w hw).1) tyX12 tyX12_ok hown (tb 7 _ rfl) (tb 9 _ rfl) (tb 11 _ rfl) hKM hP hD hS hA rfl (by decide) (Nat.le_of_ble_eq_true rfl) (Nat.le_of_ble_eq_true rfl) (dk DL_0 4 rfl) (fun h1 H hP hD hS => ?_)
  refine W.widen (k := 61) (n := 3796) (by omega) (by omega) ?_
  refine lv_dup hx hb (dk DL_0 5 rfl) rfl ?_
  have hF := frL hD.right hS
  refine va_callv (va_runI (As := []) (rest := [.ref h1]) ⟨hx, hb, hml, hown, hts⟩ (i_X12 (l := l) (dC := dC) (dI := dI) (cI := cI) (cJ := cJ) (cZ := cZ) (sz := H.size) h1) (cwI 0 hts gL_init12 rfl rfl rfl (tb 11 _ rfl) (tb 3 _ rfl) (tb 4 _ rfl) rfl q_X12_init ⟨(Nat.le_of_ble_eq_true rfl), (Nat.le_of_ble_eq_true rfl)⟩) ⟨blMI, fun U hU hW => ⟨rfl, by rw [hU], by rw [hU]; exact hP.right, va_K.moved hW.alike hKM, hD.right.weaken (fun _ _ _ _ => trivial)⟩⟩ rfl rfl hl.1 rfl (lv_room (Nat.le_of_ble_eq_true rfl)) (dk DL_0 6 rfl) ⟨(Nat.le_of_ble_eq_true rfl), (Nat.le_of_ble_eq_true rfl)⟩) hS (fun z _ h => hF z h) hF (fun u2 t2 H2 locs2 ht2 hvm2 hu hB hz2 hk2 hS => ?_)
  obtain ⟨hP2, hD2⟩ := hB
  obtain ⟨gP, gD⟩ := joinE hP hD hk2 hF (ht2 ▸ hP2) hD2
  rw [← hu]
  refine lv_astore_n (lv' := [(2, .ref (u2 0)), (1, .ref (q 0)), (0, .ref b)]) hx hb (dk DL_0 7 rfl) rfl hl (by decide) rfl (fun ls hl => ?_)
  refine lv_iconst (v := nI (6 * 0)) hx hb (dk DL_0 8 rfl) (by decide) ?_
  refine lv_istore_n (lv' := [(3, .int (nI (6 * 0))), (2, .ref (u2 0)), (1, .ref (q 0)), (0, .ref b)]) hx hb (dk DL_0 9 rfl) rfl hl (by decide) rfl (fun ls hl => ?_)
  refine W.widen (k := 75 + 5 * 0) (n := 19000 + 412 * 0) (by omega) (by omega) ?_
  exact law_loop X hr hlocks hL 600 0 X0 M0 H2 locs2 ls (by omega) (by omega) rel0 ⟨gP, gD, hS⟩ hl
