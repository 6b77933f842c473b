/-! the law: its cases -/
set_option maxHeartbeats 1000000 in
set_option maxRecDepth 20000 in
theorem law_blower {p : Program} {l : Launch} {e : Env} {s : State} {m : MethodId} {below : List Frame} {meth : Method} {c : Code} {b L i : Nat} {xs : Nat → Int32} {dC : Nat → ClassId} {dI : Nat → Nat → Nat} {q q2 : Nat → Nat} {cI cT cJ cZ : ClassId} {en : Nat → Nat} {H : Heap} {locs : List Loc} {cells slots : Nat} {Q : State → Prop} {ls : Array Slot} {x : XS} {y : MS} (X : LX p s m c b L xs dC dI cI cT cJ cZ en) (hw : LWd dC dI q q2 cI cT cJ cZ s x y H locs) (hi : i + 6 ≤ L) (hL : L ≤ 3072) (hl : lv_has ls 4 [(3, .int (nI i)), (2, .ref (q2 0)), (1, .ref (q 0)), (0, .ref b)]) (hr : RelT TXd x y) (hc : cells + 5 ≤ 600000) (hs : slots + 412 ≤ 7302250) (again : ∀ (x1 : XS) (y1 : MS) (H1 : Heap) (locs1 : List Loc), RelT TXd x1 y1 → LWd dC dI q q2 cI cT cJ cZ s x1 y1 H1 locs1 → W p l e room_1 s m #[Value.ref b] below meth c H1 locs1 (cells + 5) (slots + 412) Q (F0 m 1048 ls [])) : W p l e room_1 s m #[Value.ref b] below meth c H locs (cells) (slots) Q (F0 m 164 ls []) := by
  obtain ⟨A, B, hr⟩ := hr
  refine lv_aload_n X.1 X.2.1 (dk DL_0 22 rfl) rfl (lv_at hl 2 rfl) ?_
  refine ldS (k := 1) X hw hi hL hl (by decide) (by decide) (dk DL_0 23 rfl) (dk DL_0 24 rfl) (dk DL_0 25 rfl) (dk DL_0 26 rfl) (dk DL_0 27 rfl) ?_
  refine ldS (k := 2) X hw hi hL hl (by decide) (by decide) (dk DL_0 28 rfl) (dk DL_0 29 rfl) (dk DL_1 0 rfl) (dk DL_1 1 rfl) (dk DL_1 2 rfl) ?_
  refine ldS (k := 3) X hw hi hL hl (by decide) (by decide) (dk DL_1 3 rfl) (dk DL_1 4 rfl) (dk DL_1 5 rfl) (dk DL_1 6 rfl) (dk DL_1 7 rfl) ?_
  refine lcX (As := [.int (xs (i + 1)), .int (xs (i + 2)), .int (xs (i + 3))]) (rest := []) (mc := 0) (ms := 0) X hw (m_X11_blower_0 (xs (i + 1)) (xs (i + 2)) (xs (i + 3)) x (op_blower hr)) (cwV 3 X.2.2.2.2.1 gL_X11_blower rfl rfl rfl q_X11_blower_0 ⟨Nat.le_of_ble_eq_true rfl, Nat.le_of_ble_eq_true rfl⟩) rfl hl.1 rfl (by decide) (dk DL_1 8 rfl) (by omega) (by omega) (fun r x1 H locs hv hw => ?_)
  refine lv_aload_n X.1 X.2.1 (dk DL_1 9 rfl) rfl (lv_at hl 1 rfl) ?_
  refine ldS (k := 1) X hw hi hL hl (by decide) (by decide) (dk DL_1 10 rfl) (dk DL_1 11 rfl) (dk DL_1 12 rfl) (dk DL_1 13 rfl) (dk DL_1 14 rfl) ?_
  refine ldS (k := 2) X hw hi hL hl (by decide) (by decide) (dk DL_1 15 rfl) (dk DL_1 16 rfl) (dk DL_1 17 rfl) (dk DL_1 18 rfl) (dk DL_1 19 rfl) ?_
  refine ldS (k := 3) X hw hi hL hl (by decide) (by decide) (dk DL_1 20 rfl) (dk DL_1 21 rfl) (dk DL_1 22 rfl) (dk DL_1 23 rfl) (dk DL_1 24 rfl) ?_
  refine lcM (As := [.int (xs (i + 1)), .int (xs (i + 2)), .int (xs (i + 3))]) (rest := [.int r]) X hw (m_blower (xs (i + 1)) (xs (i + 2)) (xs (i + 3)) y hv) (cwV 3 X.2.2.2.2.1 gL_X12_blower rfl rfl rfl q_blower ⟨Nat.le_of_ble_eq_true rfl, Nat.le_of_ble_eq_true rfl⟩) rfl hl.1 rfl (Nat.le_of_ble_eq_true rfl) (dk DL_1 25 rfl) (by omega) (by omega) (fun r2 y1 H locs hv hw => ?_)
  refine W.widen (k := cells + 5) (n := slots + 412) (by omega) (by omega) ?_
  refine lv_icmp_eq (tgt := 1048) X.1 X.2.1 (dk DL_1 26 rfl) (by decide) (fun _ => again x1 y1 H locs hv.2 hw) (fun z => absurd hv.1 z)
set_option maxHeartbeats 1000000 in
set_option maxRecDepth 20000 in
theorem law_kind {p : Program} {l : Launch} {e : Env} {s : State} {m : MethodId} {below : List Frame} {meth : Method} {c : Code} {b L i : Nat} {xs : Nat → Int32} {dC : Nat → ClassId} {dI : Nat → Nat → Nat} {q q2 : Nat → Nat} {cI cT cJ cZ : ClassId} {en : Nat → Nat} {H : Heap} {locs : List Loc} {cells slots : Nat} {Q : State → Prop} {ls : Array Slot} {x : XS} {y : MS} (X : LX p s m c b L xs dC dI cI cT cJ cZ en) (hw : LWd dC dI q q2 cI cT cJ cZ s x y H locs) (hi : i + 6 ≤ L) (hL : L ≤ 3072) (hl : lv_has ls 4 [(3, .int (nI i)), (2, .ref (q2 0)), (1, .ref (q 0)), (0, .ref b)]) (hr : RelT TXd x y) (hc : cells + 5 ≤ 600000) (hs : slots + 412 ≤ 7302250) (again : ∀ (x1 : XS) (y1 : MS) (H1 : Heap) (locs1 : List Loc), RelT TXd x1 y1 → LWd dC dI q q2 cI cT cJ cZ s x1 y1 H1 locs1 → W p l e room_1 s m #[Value.ref b] below meth c H1 locs1 (cells + 5) (slots + 412) Q (F0 m 1048 ls [])) : W p l e room_1 s m #[Value.ref b] below meth c H locs (cells) (slots) Q (F0 m 266 ls []) := by
  obtain ⟨A, B, hr⟩ := hr
  refine lv_aload_n X.1 X.2.1 (dk DL_3 14 rfl) rfl (lv_at hl 2 rfl) ?_
  refine ldS (k := 1) X hw hi hL hl (by decide) (by decide) (dk DL_3 15 rfl) (dk DL_3 16 rfl) (dk DL_3 17 rfl) (dk DL_3 18 rfl) (dk DL_3 19 rfl) ?_
  refine ldS (k := 2) X hw hi hL hl (by decide) (by decide) (dk DL_3 20 rfl) (dk DL_3 21 rfl) (dk DL_3 22 rfl) (dk DL_3 23 rfl) (dk DL_3 24 rfl) ?_
  refine ldS (k := 3) X hw hi hL hl (by decide) (by decide) (dk DL_3 25 rfl) (dk DL_3 26 rfl) (dk DL_3 27 rfl) (dk DL_3 28 rfl) (dk DL_3 29 rfl) ?_
  refine lcX (As := [.int (xs (i + 1)), .int (xs (i + 2)), .int (xs (i + 3))]) (rest := []) (mc := 0) (ms := 0) X hw (m_X11_kind_0 (xs (i + 1)) (xs (i + 2)) (xs (i + 3)) x (op_kind hr)) (cwV 3 X.2.2.2.2.1 gL_X11_kind rfl rfl rfl q_X11_kind_0 ⟨Nat.le_of_ble_eq_true rfl, Nat.le_of_ble_eq_true rfl⟩) rfl hl.1 rfl (by decide) (dk DL_4 0 rfl) (by omega) (by omega) (fun r x1 H locs hv hw => ?_)
  refine lv_aload_n X.1 X.2.1 (dk DL_4 1 rfl) rfl (lv_at hl 1 rfl) ?_
  refine ldS (k := 1) X hw hi hL hl (by decide) (by decide) (dk DL_4 2 rfl) (dk DL_4 3 rfl) (dk DL_4 4 rfl) (dk DL_4 5 rfl) (dk DL_4 6 rfl) ?_
  refine ldS (k := 2) X hw hi hL hl (by decide) (by decide) (dk DL_4 7 rfl) (dk DL_4 8 rfl) (dk DL_4 9 rfl) (dk DL_4 10 rfl) (dk DL_4 11 rfl) ?_
  refine ldS (k := 3) X hw hi hL hl (by decide) (by decide) (dk DL_4 12 rfl) (dk DL_4 13 rfl) (dk DL_4 14 rfl) (dk DL_4 15 rfl) (dk DL_4 16 rfl) ?_
  refine lcM (As := [.int (xs (i + 1)), .int (xs (i + 2)), .int (xs (i + 3))]) (rest := [.int r]) X hw (m_kind (xs (i + 1)) (xs (i + 2)) (xs (i + 3)) y hv) (cwV 3 X.2.2.2.2.1 gL_X12_kind rfl rfl rfl q_kind ⟨Nat.le_of_ble_eq_true rfl, Nat.le_of_ble_eq_true rfl⟩) rfl hl.1 rfl (Nat.le_of_ble_eq_true rfl) (dk DL_4 17 rfl) (by omega) (by omega) (fun r2 y1 H locs hv hw => ?_)
  refine W.widen (k := cells + 5) (n := slots + 412) (by omega) (by omega) ?_
  refine lv_icmp_eq (tgt := 1048) X.1 X.2.1 (dk DL_4 18 rfl) (by decide) (fun _ => again x1 y1 H locs hv.2 hw) (fun z => absurd hv.1 z)
set_option maxHeartbeats 1000000 in
set_option maxRecDepth 20000 in
theorem law_feed {p : Program} {l : Launch} {e : Env} {s : State} {m : MethodId} {below : List Frame} {meth : Method} {c : Code} {b L i : Nat} {xs : Nat → Int32} {dC : Nat → ClassId} {dI : Nat → Nat → Nat} {q q2 : Nat → Nat} {cI cT cJ cZ : ClassId} {en : Nat → Nat} {H : Heap} {locs : List Loc} {cells slots : Nat} {Q : State → Prop} {ls : Array Slot} {x : XS} {y : MS} (X : LX p s m c b L xs dC dI cI cT cJ cZ en) (hw : LWd dC dI q q2 cI cT cJ cZ s x y H locs) (hi : i + 6 ≤ L) (hL : L ≤ 3072) (hl : lv_has ls 4 [(3, .int (nI i)), (2, .ref (q2 0)), (1, .ref (q 0)), (0, .ref b)]) (hr : RelT TXd x y) (hc : cells + 5 ≤ 600000) (hs : slots + 412 ≤ 7302250) (again : ∀ (x1 : XS) (y1 : MS) (H1 : Heap) (locs1 : List Loc), RelT TXd x1 y1 → LWd dC dI q q2 cI cT cJ cZ s x1 y1 H1 locs1 → W p l e room_1 s m #[Value.ref b] below meth c H1 locs1 (cells + 5) (slots + 412) Q (F0 m 1048 ls [])) : W p l e room_1 s m #[Value.ref b] below meth c H locs (cells) (slots) Q (F0 m 309 ls []) := by
  obtain ⟨A, B, hr⟩ := hr
  refine lv_aload_n X.1 X.2.1 (dk DL_4 21 rfl) rfl (lv_at hl 2 rfl) ?_
  refine ldS (k := 1) X hw hi hL hl (by decide) (by decide) (dk DL_4 22 rfl) (dk DL_4 23 rfl) (dk DL_4 24 rfl) (dk DL_4 25 rfl) (dk DL_4 26 rfl) ?_
  refine ldS (k := 2) X hw hi hL hl (by decide) (by decide) (dk DL_4 27 rfl) (dk DL_4 28 rfl) (dk DL_4 29 rfl) (dk DL_5 0 rfl) (dk DL_5 1 rfl) ?_
  refine ldS (k := 3) X hw hi hL hl (by decide) (by decide) (dk DL_5 2 rfl) (dk DL_5 3 rfl) (dk DL_5 4 rfl) (dk DL_5 5 rfl) (dk DL_5 6 rfl) ?_
  refine ldS (k := 4) X hw hi hL hl (by decide) (by decide) (dk DL_5 7 rfl) (dk DL_5 8 rfl) (dk DL_5 9 rfl) (dk DL_5 10 rfl) (dk DL_5 11 rfl) ?_
  refine ldS (k := 5) X hw hi hL hl (by decide) (by decide) (dk DL_5 12 rfl) (dk DL_5 13 rfl) (dk DL_5 14 rfl) (dk DL_5 15 rfl) (dk DL_5 16 rfl) ?_
  refine lcX (As := [.int (xs (i + 1)), .int (xs (i + 2)), .int (xs (i + 3)), .int (xs (i + 4)), .int (xs (i + 5))]) (rest := []) (mc := 0) (ms := 0) X hw (m_X11_feed_0 (xs (i + 1)) (xs (i + 2)) (xs (i + 3)) (xs (i + 4)) (xs (i + 5)) x (op_feed hr)) (cwV 5 X.2.2.2.2.1 gL_X11_feed rfl rfl rfl q_X11_feed_0 ⟨Nat.le_of_ble_eq_true rfl, Nat.le_of_ble_eq_true rfl⟩) rfl hl.1 rfl (by decide) (dk DL_5 17 rfl) (by omega) (by omega) (fun r x1 H locs hv hw => ?_)
  refine lv_aload_n X.1 X.2.1 (dk DL_5 18 rfl) rfl (lv_at hl 1 rfl) ?_
  refine ldS (k := 1) X hw hi hL hl (by decide) (by decide) (dk DL_5 19 rfl) (dk DL_5 20 rfl) (dk DL_5 21 rfl) (dk DL_5 22 rfl) (dk DL_5 23 rfl) ?_
  refine ldS (k := 2) X hw hi hL hl (by decide) (by decide) (dk DL_5 24 rfl) (dk DL_5 25 rfl) (dk DL_5 26 rfl) (dk DL_5 27 rfl) (dk DL_5 28 rfl) ?_
  refine ldS (k := 3) X hw hi hL hl (by decide) (by decide) (dk DL_5 29 rfl) (dk DL_6 0 rfl) (dk DL_6 1 rfl) (dk DL_6 2 rfl) (dk DL_6 3 rfl) ?_
  refine ldS (k := 4) X hw hi hL hl (by decide) (by decide) (dk DL_6 4 rfl) (dk DL_6 5 rfl) (dk DL_6 6 rfl) (dk DL_6 7 rfl) (dk DL_6 8 rfl) ?_
  refine ldS (k := 5) X hw hi hL hl (by decide) (by decide) (dk DL_6 9 rfl) (dk DL_6 10 rfl) (dk DL_6 11 rfl) (dk DL_6 12 rfl) (dk DL_6 13 rfl) ?_
  refine lcM (As := [.int (xs (i + 1)), .int (xs (i + 2)), .int (xs (i + 3)), .int (xs (i + 4)), .int (xs (i + 5))]) (rest := [.int r]) X hw (m_feed (xs (i + 1)) (xs (i + 2)) (xs (i + 3)) (xs (i + 4)) (xs (i + 5)) y hv) (cwV 5 X.2.2.2.2.1 gL_X12_feed rfl rfl rfl q_feed ⟨Nat.le_of_ble_eq_true rfl, Nat.le_of_ble_eq_true rfl⟩) rfl hl.1 rfl (Nat.le_of_ble_eq_true rfl) (dk DL_6 14 rfl) (by omega) (by omega) (fun r2 y1 H locs hv hw => ?_)
  refine W.widen (k := cells + 5) (n := slots + 412) (by omega) (by omega) ?_
  refine lv_icmp_eq (tgt := 1048) X.1 X.2.1 (dk DL_6 15 rfl) (by decide) (fun _ => again x1 y1 H locs hv.2 hw) (fun z => absurd hv.1 z)
set_option maxHeartbeats 1000000 in
set_option maxRecDepth 20000 in
theorem law_end {p : Program} {l : Launch} {e : Env} {s : State} {m : MethodId} {below : List Frame} {meth : Method} {c : Code} {b L i : Nat} {xs : Nat → Int32} {dC : Nat → ClassId} {dI : Nat → Nat → Nat} {q q2 : Nat → Nat} {cI cT cJ cZ : ClassId} {en : Nat → Nat} {H : Heap} {locs : List Loc} {cells slots : Nat} {Q : State → Prop} {ls : Array Slot} {x : XS} {y : MS} (X : LX p s m c b L xs dC dI cI cT cJ cZ en) (hw : LWd dC dI q q2 cI cT cJ cZ s x y H locs) (hi : i + 6 ≤ L) (hL : L ≤ 3072) (hl : lv_has ls 4 [(3, .int (nI i)), (2, .ref (q2 0)), (1, .ref (q 0)), (0, .ref b)]) (hr : RelT TXd x y) (hc : cells + 5 ≤ 600000) (hs : slots + 412 ≤ 7302250) (again : ∀ (x1 : XS) (y1 : MS) (H1 : Heap) (locs1 : List Loc), RelT TXd x1 y1 → LWd dC dI q q2 cI cT cJ cZ s x1 y1 H1 locs1 → W p l e room_1 s m #[Value.ref b] below meth c H1 locs1 (cells + 5) (slots + 412) Q (F0 m 1048 ls [])) : W p l e room_1 s m #[Value.ref b] below meth c H locs (cells) (slots) Q (F0 m 372 ls []) := by
  obtain ⟨A, B, hr⟩ := hr
  refine lv_aload_n X.1 X.2.1 (dk DL_6 18 rfl) rfl (lv_at hl 2 rfl) ?_
  refine ldS (k := 1) X hw hi hL hl (by decide) (by decide) (dk DL_6 19 rfl) (dk DL_6 20 rfl) (dk DL_6 21 rfl) (dk DL_6 22 rfl) (dk DL_6 23 rfl) ?_
  refine lcX (As := [.int (xs (i + 1))]) (rest := []) (mc := 0) (ms := 0) X hw (m_X11_end_0 (xs (i + 1)) x (op_end hr)) (cwV 1 X.2.2.2.2.1 gL_X11_end rfl rfl rfl q_X11_end_0 ⟨Nat.le_of_ble_eq_true rfl, Nat.le_of_ble_eq_true rfl⟩) rfl hl.1 rfl (by decide) (dk DL_6 24 rfl) (by omega) (by omega) (fun r x1 H locs hv hw => ?_)
  refine lv_aload_n X.1 X.2.1 (dk DL_6 25 rfl) rfl (lv_at hl 1 rfl) ?_
  refine ldS (k := 1) X hw hi hL hl (by decide) (by decide) (dk DL_6 26 rfl) (dk DL_6 27 rfl) (dk DL_6 28 rfl) (dk DL_6 29 rfl) (dk DL_7 0 rfl) ?_
  refine lcM (As := [.int (xs (i + 1))]) (rest := [.int r]) X hw (m_end (xs (i + 1)) y hv) (cwV 1 X.2.2.2.2.1 gL_X12_end rfl rfl rfl q_end ⟨Nat.le_of_ble_eq_true rfl, Nat.le_of_ble_eq_true rfl⟩) rfl hl.1 rfl (Nat.le_of_ble_eq_true rfl) (dk DL_7 1 rfl) (by omega) (by omega) (fun r2 y1 H locs hv hw => ?_)
  refine W.widen (k := cells + 5) (n := slots + 412) (by omega) (by omega) ?_
  refine lv_icmp_eq (tgt := 1048) X.1 X.2.1 (dk DL_7 2 rfl) (by decide) (fun _ => again x1 y1 H locs hv.2 hw) (fun z => absurd hv.1 z)
set_option maxHeartbeats 1000000 in
set_option maxRecDepth 20000 in
theorem law_text {p : Program} {l : Launch} {e : Env} {s : State} {m : MethodId} {below : List Frame} {meth : Method} {c : Code} {b L i : Nat} {xs : Nat → Int32} {dC : Nat → ClassId} {dI : Nat → Nat → Nat} {q q2 : Nat → Nat} {cI cT cJ cZ : ClassId} {en : Nat → Nat} {H : Heap} {locs : List Loc} {cells slots : Nat} {Q : State → Prop} {ls : Array Slot} {x : XS} {y : MS} (X : LX p s m c b L xs dC dI cI cT cJ cZ en) (hw : LWd dC dI q q2 cI cT cJ cZ s x y H locs) (hi : i + 6 ≤ L) (hL : L ≤ 3072) (hl : lv_has ls 4 [(3, .int (nI i)), (2, .ref (q2 0)), (1, .ref (q 0)), (0, .ref b)]) (hr : RelT TXd x y) (hc : cells + 5 ≤ 600000) (hs : slots + 412 ≤ 7302250) (again : ∀ (x1 : XS) (y1 : MS) (H1 : Heap) (locs1 : List Loc), RelT TXd x1 y1 → LWd dC dI q q2 cI cT cJ cZ s x1 y1 H1 locs1 → W p l e room_1 s m #[Value.ref b] below meth c H1 locs1 (cells + 5) (slots + 412) Q (F0 m 1048 ls [])) : W p l e room_1 s m #[Value.ref b] below meth c H locs (cells) (slots) Q (F0 m 395 ls []) := by
  obtain ⟨A, B, hr⟩ := hr
  refine lv_aload_n X.1 X.2.1 (dk DL_7 5 rfl) rfl (lv_at hl 2 rfl) ?_
  refine lcX (As := []) (rest := []) (mc := 5) (ms := 412) X hw (m_X11_text_0  x (op_text hr)) (cwV 0 X.2.2.2.2.1 gL_X11_text rfl rfl rfl q_X11_text_0 ⟨Nat.le_of_ble_eq_true rfl, Nat.le_of_ble_eq_true rfl⟩) rfl hl.1 rfl (by decide) (dk DL_7 6 rfl) (by omega) (by omega) (fun r x1 H locs hv hw => ?_)
  refine lv_aload_n X.1 X.2.1 (dk DL_7 7 rfl) rfl (lv_at hl 1 rfl) ?_
  refine lcM (As := []) (rest := [.int r]) X hw (m_text  y hv) (cwV 0 X.2.2.2.2.1 gL_X12_text rfl rfl rfl q_text ⟨Nat.le_of_ble_eq_true rfl, Nat.le_of_ble_eq_true rfl⟩) rfl hl.1 rfl (Nat.le_of_ble_eq_true rfl) (dk DL_7 8 rfl) (by omega) (by omega) (fun r2 y1 H locs hv hw => ?_)
  refine W.widen (k := cells + 5) (n := slots + 412) (by omega) (by omega) ?_
  refine lv_icmp_eq (tgt := 1048) X.1 X.2.1 (dk DL_7 9 rfl) (by decide) (fun _ => again x1 y1 H locs hv.2 hw) (fun z => absurd hv.1 z)
set_option maxHeartbeats 1000000 in
set_option maxRecDepth 20000 in
theorem law_fault {p : Program} {l : Launch} {e : Env} {s : State} {m : MethodId} {below : List Frame} {meth : Method} {c : Code} {b L i : Nat} {xs : Nat → Int32} {dC : Nat → ClassId} {dI : Nat → Nat → Nat} {q q2 : Nat → Nat} {cI cT cJ cZ : ClassId} {en : Nat → Nat} {H : Heap} {locs : List Loc} {cells slots : Nat} {Q : State → Prop} {ls : Array Slot} {x : XS} {y : MS} (X : LX p s m c b L xs dC dI cI cT cJ cZ en) (hw : LWd dC dI q q2 cI cT cJ cZ s x y H locs) (hi : i + 6 ≤ L) (hL : L ≤ 3072) (hl : lv_has ls 4 [(3, .int (nI i)), (2, .ref (q2 0)), (1, .ref (q 0)), (0, .ref b)]) (hr : RelT TXd x y) (hc : cells + 5 ≤ 600000) (hs : slots + 412 ≤ 7302250) (again : ∀ (x1 : XS) (y1 : MS) (H1 : Heap) (locs1 : List Loc), RelT TXd x1 y1 → LWd dC dI q q2 cI cT cJ cZ s x1 y1 H1 locs1 → W p l e room_1 s m #[Value.ref b] below meth c H1 locs1 (cells + 5) (slots + 412) Q (F0 m 1048 ls [])) : W p l e room_1 s m #[Value.ref b] below meth c H locs (cells) (slots) Q (F0 m 408 ls []) := by
  obtain ⟨A, B, hr⟩ := hr
  refine lv_aload_n X.1 X.2.1 (dk DL_7 12 rfl) rfl (lv_at hl 2 rfl) ?_
  refine ldS (k := 1) X hw hi hL hl (by decide) (by decide) (dk DL_7 13 rfl) (dk DL_7 14 rfl) (dk DL_7 15 rfl) (dk DL_7 16 rfl) (dk DL_7 17 rfl) ?_
  refine lcX (As := [.int (xs (i + 1))]) (rest := []) (mc := 0) (ms := 0) X hw (m_X11_fault_0 (xs (i + 1)) x (op_fault hr)) (cwV 1 X.2.2.2.2.1 gL_X11_fault rfl rfl rfl q_X11_fault_0 ⟨Nat.le_of_ble_eq_true rfl, Nat.le_of_ble_eq_true rfl⟩) rfl hl.1 rfl (by decide) (dk DL_7 18 rfl) (by omega) (by omega) (fun r x1 H locs hv hw => ?_)
  refine lv_aload_n X.1 X.2.1 (dk DL_7 19 rfl) rfl (lv_at hl 1 rfl) ?_
  refine ldS (k := 1) X hw hi hL hl (by decide) (by decide) (dk DL_7 20 rfl) (dk DL_7 21 rfl) (dk DL_7 22 rfl) (dk DL_7 23 rfl) (dk DL_7 24 rfl) ?_
  refine lcM (As := [.int (xs (i + 1))]) (rest := [.int r]) X hw (m_fault (xs (i + 1)) y hv) (cwV 1 X.2.2.2.2.1 gL_X12_fault rfl rfl rfl q_fault ⟨Nat.le_of_ble_eq_true rfl, Nat.le_of_ble_eq_true rfl⟩) rfl hl.1 rfl (Nat.le_of_ble_eq_true rfl) (dk DL_7 25 rfl) (by omega) (by omega) (fun r2 y1 H locs hv hw => ?_)
  refine W.widen (k := cells + 5) (n := slots + 412) (by omega) (by omega) ?_
  refine lv_icmp_eq (tgt := 1048) X.1 X.2.1 (dk DL_7 26 rfl) (by decide) (fun _ => again x1 y1 H locs hv.2 hw) (fun z => absurd hv.1 z)
set_option maxHeartbeats 1000000 in
set_option maxRecDepth 20000 in
theorem law_by {p : Program} {l : Launch} {e : Env} {s : State} {m : MethodId} {below : List Frame} {meth : Method} {c : Code} {b L i : Nat} {xs : Nat → Int32} {dC : Nat → ClassId} {dI : Nat → Nat → Nat} {q q2 : Nat → Nat} {cI cT cJ cZ : ClassId} {en : Nat → Nat} {H : Heap} {locs : List Loc} {cells slots : Nat} {Q : State → Prop} {ls : Array Slot} {x : XS} {y : MS} (X : LX p s m c b L xs dC dI cI cT cJ cZ en) (hw : LWd dC dI q q2 cI cT cJ cZ s x y H locs) (hi : i + 6 ≤ L) (hL : L ≤ 3072) (hl : lv_has ls 4 [(3, .int (nI i)), (2, .ref (q2 0)), (1, .ref (q 0)), (0, .ref b)]) (hr : RelT TXd x y) (hc : cells + 5 ≤ 600000) (hs : slots + 412 ≤ 7302250) (again : ∀ (x1 : XS) (y1 : MS) (H1 : Heap) (locs1 : List Loc), RelT TXd x1 y1 → LWd dC dI q q2 cI cT cJ cZ s x1 y1 H1 locs1 → W p l e room_1 s m #[Value.ref b] below meth c H1 locs1 (cells + 5) (slots + 412) Q (F0 m 1048 ls [])) : W p l e room_1 s m #[Value.ref b] below meth c H locs (cells) (slots) Q (F0 m 431 ls []) := by
  obtain ⟨A, B, hr⟩ := hr
  refine lv_aload_n X.1 X.2.1 (dk DL_7 29 rfl) rfl (lv_at hl 2 rfl) ?_
  refine ldS (k := 1) X hw hi hL hl (by decide) (by decide) (dk DL_8 0 rfl) (dk DL_8 1 rfl) (dk DL_8 2 rfl) (dk DL_8 3 rfl) (dk DL_8 4 rfl) ?_
  refine lcX (As := [.int (xs (i + 1))]) (rest := []) (mc := 0) (ms := 0) X hw (m_X11_by_0 (xs (i + 1)) x (op_by hr)) (cwV 1 X.2.2.2.2.1 gL_X11_by rfl rfl rfl q_X11_by_0 ⟨Nat.le_of_ble_eq_true rfl, Nat.le_of_ble_eq_true rfl⟩) rfl hl.1 rfl (by decide) (dk DL_8 5 rfl) (by omega) (by omega) (fun r x1 H locs hv hw => ?_)
  refine lv_aload_n X.1 X.2.1 (dk DL_8 6 rfl) rfl (lv_at hl 1 rfl) ?_
  refine ldS (k := 1) X hw hi hL hl (by decide) (by decide) (dk DL_8 7 rfl) (dk DL_8 8 rfl) (dk DL_8 9 rfl) (dk DL_8 10 rfl) (dk DL_8 11 rfl) ?_
  refine lcM (As := [.int (xs (i + 1))]) (rest := [.int r]) X hw (m_by (xs (i + 1)) y hv) (cwV 1 X.2.2.2.2.1 gL_X12_by rfl rfl rfl q_by ⟨Nat.le_of_ble_eq_true rfl, Nat.le_of_ble_eq_true rfl⟩) rfl hl.1 rfl (Nat.le_of_ble_eq_true rfl) (dk DL_8 12 rfl) (by omega) (by omega) (fun r2 y1 H locs hv hw => ?_)
  refine W.widen (k := cells + 5) (n := slots + 412) (by omega) (by omega) ?_
  refine lv_icmp_eq (tgt := 1048) X.1 X.2.1 (dk DL_8 13 rfl) (by decide) (fun _ => again x1 y1 H locs hv.2 hw) (fun z => absurd hv.1 z)
set_option maxHeartbeats 1000000 in
set_option maxRecDepth 20000 in
theorem law_smoke {p : Program} {l : Launch} {e : Env} {s : State} {m : MethodId} {below : List Frame} {meth : Method} {c : Code} {b L i : Nat} {xs : Nat → Int32} {dC : Nat → ClassId} {dI : Nat → Nat → Nat} {q q2 : Nat → Nat} {cI cT cJ cZ : ClassId} {en : Nat → Nat} {H : Heap} {locs : List Loc} {cells slots : Nat} {Q : State → Prop} {ls : Array Slot} {x : XS} {y : MS} (X : LX p s m c b L xs dC dI cI cT cJ cZ en) (hw : LWd dC dI q q2 cI cT cJ cZ s x y H locs) (hi : i + 6 ≤ L) (hL : L ≤ 3072) (hl : lv_has ls 4 [(3, .int (nI i)), (2, .ref (q2 0)), (1, .ref (q 0)), (0, .ref b)]) (hr : RelT TXd x y) (hc : cells + 5 ≤ 600000) (hs : slots + 412 ≤ 7302250) (again : ∀ (x1 : XS) (y1 : MS) (H1 : Heap) (locs1 : List Loc), RelT TXd x1 y1 → LWd dC dI q q2 cI cT cJ cZ s x1 y1 H1 locs1 → W p l e room_1 s m #[Value.ref b] below meth c H1 locs1 (cells + 5) (slots + 412) Q (F0 m 1048 ls [])) : W p l e room_1 s m #[Value.ref b] below meth c H locs (cells) (slots) Q (F0 m 454 ls []) := by
  obtain ⟨A, B, hr⟩ := hr
  refine lv_aload_n X.1 X.2.1 (dk DL_8 16 rfl) rfl (lv_at hl 2 rfl) ?_
  refine ldS (k := 1) X hw hi hL hl (by decide) (by decide) (dk DL_8 17 rfl) (dk DL_8 18 rfl) (dk DL_8 19 rfl) (dk DL_8 20 rfl) (dk DL_8 21 rfl) ?_
  refine lcX (As := [.int (xs (i + 1))]) (rest := []) (mc := 0) (ms := 0) X hw (m_X11_smoke_0 (xs (i + 1)) x (op_smoke hr)) (cwV 1 X.2.2.2.2.1 gL_X11_smoke rfl rfl rfl q_X11_smoke_0 ⟨Nat.le_of_ble_eq_true rfl, Nat.le_of_ble_eq_true rfl⟩) rfl hl.1 rfl (by decide) (dk DL_8 22 rfl) (by omega) (by omega) (fun r x1 H locs hv hw => ?_)
  refine lv_aload_n X.1 X.2.1 (dk DL_8 23 rfl) rfl (lv_at hl 1 rfl) ?_
  refine ldS (k := 1) X hw hi hL hl (by decide) (by decide) (dk DL_8 24 rfl) (dk DL_8 25 rfl) (dk DL_8 26 rfl) (dk DL_8 27 rfl) (dk DL_8 28 rfl) ?_
  refine lcM (As := [.int (xs (i + 1))]) (rest := [.int r]) X hw (m_smoke (xs (i + 1)) y hv) (cwV 1 X.2.2.2.2.1 gL_X12_smoke rfl rfl rfl q_smoke ⟨Nat.le_of_ble_eq_true rfl, Nat.le_of_ble_eq_true rfl⟩) rfl hl.1 rfl (Nat.le_of_ble_eq_true rfl) (dk DL_8 29 rfl) (by omega) (by omega) (fun r2 y1 H locs hv hw => ?_)
  refine W.widen (k := cells + 5) (n := slots + 412) (by omega) (by omega) ?_
  refine lv_icmp_eq (tgt := 1048) X.1 X.2.1 (dk DL_9 0 rfl) (by decide) (fun _ => again x1 y1 H locs hv.2 hw) (fun z => absurd hv.1 z)
set_option maxHeartbeats 1000000 in
set_option maxRecDepth 20000 in
theorem law_cost {p : Program} {l : Launch} {e : Env} {s : State} {m : MethodId} {below : List Frame} {meth : Method} {c : Code} {b L i : Nat} {xs : Nat → Int32} {dC : Nat → ClassId} {dI : Nat → Nat → Nat} {q q2 : Nat → Nat} {cI cT cJ cZ : ClassId} {en : Nat → Nat} {H : Heap} {locs : List Loc} {cells slots : Nat} {Q : State → Prop} {ls : Array Slot} {x : XS} {y : MS} (X : LX p s m c b L xs dC dI cI cT cJ cZ en) (hw : LWd dC dI q q2 cI cT cJ cZ s x y H locs) (hi : i + 6 ≤ L) (hL : L ≤ 3072) (hl : lv_has ls 4 [(3, .int (nI i)), (2, .ref (q2 0)), (1, .ref (q 0)), (0, .ref b)]) (hr : RelT TXd x y) (hc : cells + 5 ≤ 600000) (hs : slots + 412 ≤ 7302250) (again : ∀ (x1 : XS) (y1 : MS) (H1 : Heap) (locs1 : List Loc), RelT TXd x1 y1 → LWd dC dI q q2 cI cT cJ cZ s x1 y1 H1 locs1 → W p l e room_1 s m #[Value.ref b] below meth c H1 locs1 (cells + 5) (slots + 412) Q (F0 m 1048 ls [])) : W p l e room_1 s m #[Value.ref b] below meth c H locs (cells) (slots) Q (F0 m 477 ls []) := by
  obtain ⟨A, B, hr⟩ := hr
  refine lv_aload_n X.1 X.2.1 (dk DL_9 3 rfl) rfl (lv_at hl 2 rfl) ?_
  refine ldS (k := 1) X hw hi hL hl (by decide) (by decide) (dk DL_9 4 rfl) (dk DL_9 5 rfl) (dk DL_9 6 rfl) (dk DL_9 7 rfl) (dk DL_9 8 rfl) ?_
  refine ldS (k := 2) X hw hi hL hl (by decide) (by decide) (dk DL_9 9 rfl) (dk DL_9 10 rfl) (dk DL_9 11 rfl) (dk DL_9 12 rfl) (dk DL_9 13 rfl) ?_
  refine lcX (As := [.int (xs (i + 1)), .int (xs (i + 2))]) (rest := []) (mc := 0) (ms := 0) X hw (m_X11_cost_0 (xs (i + 1)) (xs (i + 2)) x (op_cost hr)) (cwV 2 X.2.2.2.2.1 gL_X11_cost rfl rfl rfl q_X11_cost_0 ⟨Nat.le_of_ble_eq_true rfl, Nat.le_of_ble_eq_true rfl⟩) rfl hl.1 rfl (by decide) (dk DL_9 14 rfl) (by omega) (by omega) (fun r x1 H locs hv hw => ?_)
  refine lv_aload_n X.1 X.2.1 (dk DL_9 15 rfl) rfl (lv_at hl 1 rfl) ?_
  refine ldS (k := 1) X hw hi hL hl (by decide) (by decide) (dk DL_9 16 rfl) (dk DL_9 17 rfl) (dk DL_9 18 rfl) (dk DL_9 19 rfl) (dk DL_9 20 rfl) ?_
  refine ldS (k := 2) X hw hi hL hl (by decide) (by decide) (dk DL_9 21 rfl) (dk DL_9 22 rfl) (dk DL_9 23 rfl) (dk DL_9 24 rfl) (dk DL_9 25 rfl) ?_
  refine lcM (As := [.int (xs (i + 1)), .int (xs (i + 2))]) (rest := [.int r]) X hw (m_cost (xs (i + 1)) (xs (i + 2)) y hv) (cwV 2 X.2.2.2.2.1 gL_X12_cost rfl rfl rfl q_cost ⟨Nat.le_of_ble_eq_true rfl, Nat.le_of_ble_eq_true rfl⟩) rfl hl.1 rfl (Nat.le_of_ble_eq_true rfl) (dk DL_9 26 rfl) (by omega) (by omega) (fun r2 y1 H locs hv hw => ?_)
  refine W.widen (k := cells + 5) (n := slots + 412) (by omega) (by omega) ?_
  refine lv_icmp_eq (tgt := 1048) X.1 X.2.1 (dk DL_9 27 rfl) (by decide) (fun _ => again x1 y1 H locs hv.2 hw) (fun z => absurd hv.1 z)
set_option maxHeartbeats 1000000 in
set_option maxRecDepth 20000 in
theorem law_begin {p : Program} {l : Launch} {e : Env} {s : State} {m : MethodId} {below : List Frame} {meth : Method} {c : Code} {b L i : Nat} {xs : Nat → Int32} {dC : Nat → ClassId} {dI : Nat → Nat → Nat} {q q2 : Nat → Nat} {cI cT cJ cZ : ClassId} {en : Nat → Nat} {H : Heap} {locs : List Loc} {cells slots : Nat} {Q : State → Prop} {ls : Array Slot} {x : XS} {y : MS} (X : LX p s m c b L xs dC dI cI cT cJ cZ en) (hw : LWd dC dI q q2 cI cT cJ cZ s x y H locs) (hi : i + 6 ≤ L) (hL : L ≤ 3072) (hl : lv_has ls 4 [(3, .int (nI i)), (2, .ref (q2 0)), (1, .ref (q 0)), (0, .ref b)]) (hr : RelT TXd x y) (hc : cells + 5 ≤ 600000) (hs : slots + 412 ≤ 7302250) (again : ∀ (x1 : XS) (y1 : MS) (H1 : Heap) (locs1 : List Loc), RelT TXd x1 y1 → LWd dC dI q q2 cI cT cJ cZ s x1 y1 H1 locs1 → W p l e room_1 s m #[Value.ref b] below meth c H1 locs1 (cells + 5) (slots + 412) Q (F0 m 1048 ls [])) : W p l e room_1 s m #[Value.ref b] below meth c H locs (cells) (slots) Q (F0 m 510 ls []) := by
  obtain ⟨A, B, hr⟩ := hr
  refine lv_aload_n X.1 X.2.1 (dk DL_10 0 rfl) rfl (lv_at hl 2 rfl) ?_
  refine ldS (k := 1) X hw hi hL hl (by decide) (by decide) (dk DL_10 1 rfl) (dk DL_10 2 rfl) (dk DL_10 3 rfl) (dk DL_10 4 rfl) (dk DL_10 5 rfl) ?_
  refine lcX (As := [.int (xs (i + 1))]) (rest := []) (mc := 0) (ms := 0) X hw (m_X11_begin_0 (xs (i + 1)) x (op_begin hr)) (cwV 1 X.2.2.2.2.1 gL_X11_begin rfl rfl rfl q_X11_begin_0 ⟨Nat.le_of_ble_eq_true rfl, Nat.le_of_ble_eq_true rfl⟩) rfl hl.1 rfl (by decide) (dk DL_10 6 rfl) (by omega) (by omega) (fun r x1 H locs hv hw => ?_)
  refine lv_aload_n X.1 X.2.1 (dk DL_10 7 rfl) rfl (lv_at hl 1 rfl) ?_
  refine ldS (k := 1) X hw hi hL hl (by decide) (by decide) (dk DL_10 8 rfl) (dk DL_10 9 rfl) (dk DL_10 10 rfl) (dk DL_10 11 rfl) (dk DL_10 12 rfl) ?_
  refine lcM (As := [.int (xs (i + 1))]) (rest := [.int r]) X hw (m_begin (xs (i + 1)) y hv) (cwV 1 X.2.2.2.2.1 gL_X12_begin rfl rfl rfl q_begin ⟨Nat.le_of_ble_eq_true rfl, Nat.le_of_ble_eq_true rfl⟩) rfl hl.1 rfl (Nat.le_of_ble_eq_true rfl) (dk DL_10 13 rfl) (by omega) (by omega) (fun r2 y1 H locs hv hw => ?_)
  refine W.widen (k := cells + 5) (n := slots + 412) (by omega) (by omega) ?_
  refine lv_icmp_eq (tgt := 1048) X.1 X.2.1 (dk DL_10 14 rfl) (by decide) (fun _ => again x1 y1 H locs hv.2 hw) (fun z => absurd hv.1 z)
set_option maxHeartbeats 1000000 in
set_option maxRecDepth 20000 in
theorem law_blow {p : Program} {l : Launch} {e : Env} {s : State} {m : MethodId} {below : List Frame} {meth : Method} {c : Code} {b L i : Nat} {xs : Nat → Int32} {dC : Nat → ClassId} {dI : Nat → Nat → Nat} {q q2 : Nat → Nat} {cI cT cJ cZ : ClassId} {en : Nat → Nat} {H : Heap} {locs : List Loc} {cells slots : Nat} {Q : State → Prop} {ls : Array Slot} {x : XS} {y : MS} (X : LX p s m c b L xs dC dI cI cT cJ cZ en) (hw : LWd dC dI q q2 cI cT cJ cZ s x y H locs) (hi : i + 6 ≤ L) (hL : L ≤ 3072) (hl : lv_has ls 4 [(3, .int (nI i)), (2, .ref (q2 0)), (1, .ref (q 0)), (0, .ref b)]) (hr : RelT TXd x y) (hc : cells + 5 ≤ 600000) (hs : slots + 412 ≤ 7302250) (again : ∀ (x1 : XS) (y1 : MS) (H1 : Heap) (locs1 : List Loc), RelT TXd x1 y1 → LWd dC dI q q2 cI cT cJ cZ s x1 y1 H1 locs1 → W p l e room_1 s m #[Value.ref b] below meth c H1 locs1 (cells + 5) (slots + 412) Q (F0 m 1048 ls [])) : W p l e room_1 s m #[Value.ref b] below meth c H locs (cells) (slots) Q (F0 m 533 ls []) := by
  obtain ⟨A, B, hr⟩ := hr
  refine lv_aload_n X.1 X.2.1 (dk DL_10 17 rfl) rfl (lv_at hl 2 rfl) ?_
  refine ldS (k := 1) X hw hi hL hl (by decide) (by decide) (dk DL_10 18 rfl) (dk DL_10 19 rfl) (dk DL_10 20 rfl) (dk DL_10 21 rfl) (dk DL_10 22 rfl) ?_
  refine ldS (k := 2) X hw hi hL hl (by decide) (by decide) (dk DL_10 23 rfl) (dk DL_10 24 rfl) (dk DL_10 25 rfl) (dk DL_10 26 rfl) (dk DL_10 27 rfl) ?_
  refine ldS (k := 3) X hw hi hL hl (by decide) (by decide) (dk DL_10 28 rfl) (dk DL_10 29 rfl) (dk DL_11 0 rfl) (dk DL_11 1 rfl) (dk DL_11 2 rfl) ?_
  refine lcX (As := [.int (xs (i + 1)), .int (xs (i + 2)), .int (xs (i + 3))]) (rest := []) (mc := 0) (ms := 0) X hw (m_X11_blow_0 (xs (i + 1)) (xs (i + 2)) (xs (i + 3)) x (op_blow hr)) (cwV 3 X.2.2.2.2.1 gL_X11_blow rfl rfl rfl q_X11_blow_0 ⟨Nat.le_of_ble_eq_true rfl, Nat.le_of_ble_eq_true rfl⟩) rfl hl.1 rfl (by decide) (dk DL_11 3 rfl) (by omega) (by omega) (fun r x1 H locs hv hw => ?_)
  refine lv_aload_n X.1 X.2.1 (dk DL_11 4 rfl) rfl (lv_at hl 1 rfl) ?_
  refine ldS (k := 1) X hw hi hL hl (by decide) (by decide) (dk DL_11 5 rfl) (dk DL_11 6 rfl) (dk DL_11 7 rfl) (dk DL_11 8 rfl) (dk DL_11 9 rfl) ?_
  refine ldS (k := 2) X hw hi hL hl (by decide) (by decide) (dk DL_11 10 rfl) (dk DL_11 11 rfl) (dk DL_11 12 rfl) (dk DL_11 13 rfl) (dk DL_11 14 rfl) ?_
  refine ldS (k := 3) X hw hi hL hl (by decide) (by decide) (dk DL_11 15 rfl) (dk DL_11 16 rfl) (dk DL_11 17 rfl) (dk DL_11 18 rfl) (dk DL_11 19 rfl) ?_
  refine lcM (As := [.int (xs (i + 1)), .int (xs (i + 2)), .int (xs (i + 3))]) (rest := [.int r]) X hw (m_blow (xs (i + 1)) (xs (i + 2)) (xs (i + 3)) y hv) (cwV 3 X.2.2.2.2.1 gL_X12_blow rfl rfl rfl q_blow ⟨Nat.le_of_ble_eq_true rfl, Nat.le_of_ble_eq_true rfl⟩) rfl hl.1 rfl (Nat.le_of_ble_eq_true rfl) (dk DL_11 20 rfl) (by omega) (by omega) (fun r2 y1 H locs hv hw => ?_)
  refine W.widen (k := cells + 5) (n := slots + 412) (by omega) (by omega) ?_
  refine lv_icmp_eq (tgt := 1048) X.1 X.2.1 (dk DL_11 21 rfl) (by decide) (fun _ => again x1 y1 H locs hv.2 hw) (fun z => absurd hv.1 z)
set_option maxHeartbeats 1000000 in
set_option maxRecDepth 20000 in
theorem law_later {p : Program} {l : Launch} {e : Env} {s : State} {m : MethodId} {below : List Frame} {meth : Method} {c : Code} {b L i : Nat} {xs : Nat → Int32} {dC : Nat → ClassId} {dI : Nat → Nat → Nat} {q q2 : Nat → Nat} {cI cT cJ cZ : ClassId} {en : Nat → Nat} {H : Heap} {locs : List Loc} {cells slots : Nat} {Q : State → Prop} {ls : Array Slot} {x : XS} {y : MS} (X : LX p s m c b L xs dC dI cI cT cJ cZ en) (hw : LWd dC dI q q2 cI cT cJ cZ s x y H locs) (hi : i + 6 ≤ L) (hL : L ≤ 3072) (hl : lv_has ls 4 [(3, .int (nI i)), (2, .ref (q2 0)), (1, .ref (q 0)), (0, .ref b)]) (hr : RelT TXd x y) (hc : cells + 5 ≤ 600000) (hs : slots + 412 ≤ 7302250) (again : ∀ (x1 : XS) (y1 : MS) (H1 : Heap) (locs1 : List Loc), RelT TXd x1 y1 → LWd dC dI q q2 cI cT cJ cZ s x1 y1 H1 locs1 → W p l e room_1 s m #[Value.ref b] below meth c H1 locs1 (cells + 5) (slots + 412) Q (F0 m 1048 ls [])) : W p l e room_1 s m #[Value.ref b] below meth c H locs (cells) (slots) Q (F0 m 576 ls []) := by
  obtain ⟨A, B, hr⟩ := hr
  refine lv_aload_n X.1 X.2.1 (dk DL_11 24 rfl) rfl (lv_at hl 2 rfl) ?_
  refine ldS (k := 1) X hw hi hL hl (by decide) (by decide) (dk DL_11 25 rfl) (dk DL_11 26 rfl) (dk DL_11 27 rfl) (dk DL_11 28 rfl) (dk DL_11 29 rfl) ?_
  refine lcX (As := [.int (xs (i + 1))]) (rest := []) (mc := 0) (ms := 0) X hw (m_X11_later_0 (xs (i + 1)) x (op_later hr)) (cwV 1 X.2.2.2.2.1 gL_X11_later rfl rfl rfl q_X11_later_0 ⟨Nat.le_of_ble_eq_true rfl, Nat.le_of_ble_eq_true rfl⟩) rfl hl.1 rfl (by decide) (dk DL_12 0 rfl) (by omega) (by omega) (fun r x1 H locs hv hw => ?_)
  refine lv_aload_n X.1 X.2.1 (dk DL_12 1 rfl) rfl (lv_at hl 1 rfl) ?_
  refine ldS (k := 1) X hw hi hL hl (by decide) (by decide) (dk DL_12 2 rfl) (dk DL_12 3 rfl) (dk DL_12 4 rfl) (dk DL_12 5 rfl) (dk DL_12 6 rfl) ?_
  refine lcM (As := [.int (xs (i + 1))]) (rest := [.int r]) X hw (m_later (xs (i + 1)) y hv) (cwV 1 X.2.2.2.2.1 gL_X12_later rfl rfl rfl q_later ⟨Nat.le_of_ble_eq_true rfl, Nat.le_of_ble_eq_true rfl⟩) rfl hl.1 rfl (Nat.le_of_ble_eq_true rfl) (dk DL_12 7 rfl) (by omega) (by omega) (fun r2 y1 H locs hv hw => ?_)
  refine W.widen (k := cells + 5) (n := slots + 412) (by omega) (by omega) ?_
  refine lv_icmp_eq (tgt := 1048) X.1 X.2.1 (dk DL_12 8 rfl) (by decide) (fun _ => again x1 y1 H locs hv.2 hw) (fun z => absurd hv.1 z)
set_option maxHeartbeats 1000000 in
set_option maxRecDepth 20000 in
theorem law_sell {p : Program} {l : Launch} {e : Env} {s : State} {m : MethodId} {below : List Frame} {meth : Method} {c : Code} {b L i : Nat} {xs : Nat → Int32} {dC : Nat → ClassId} {dI : Nat → Nat → Nat} {q q2 : Nat → Nat} {cI cT cJ cZ : ClassId} {en : Nat → Nat} {H : Heap} {locs : List Loc} {cells slots : Nat} {Q : State → Prop} {ls : Array Slot} {x : XS} {y : MS} (X : LX p s m c b L xs dC dI cI cT cJ cZ en) (hw : LWd dC dI q q2 cI cT cJ cZ s x y H locs) (hi : i + 6 ≤ L) (hL : L ≤ 3072) (hl : lv_has ls 4 [(3, .int (nI i)), (2, .ref (q2 0)), (1, .ref (q 0)), (0, .ref b)]) (hr : RelT TXd x y) (hc : cells + 5 ≤ 600000) (hs : slots + 412 ≤ 7302250) (again : ∀ (x1 : XS) (y1 : MS) (H1 : Heap) (locs1 : List Loc), RelT TXd x1 y1 → LWd dC dI q q2 cI cT cJ cZ s x1 y1 H1 locs1 → W p l e room_1 s m #[Value.ref b] below meth c H1 locs1 (cells + 5) (slots + 412) Q (F0 m 1048 ls [])) : W p l e room_1 s m #[Value.ref b] below meth c H locs (cells) (slots) Q (F0 m 599 ls []) := by
  obtain ⟨A, B, hr⟩ := hr
  refine lv_aload_n X.1 X.2.1 (dk DL_12 11 rfl) rfl (lv_at hl 2 rfl) ?_
  refine ldS (k := 1) X hw hi hL hl (by decide) (by decide) (dk DL_12 12 rfl) (dk DL_12 13 rfl) (dk DL_12 14 rfl) (dk DL_12 15 rfl) (dk DL_12 16 rfl) ?_
  refine lcX (As := [.int (xs (i + 1))]) (rest := []) (mc := 0) (ms := 0) X hw (m_X11_sell_0 (xs (i + 1)) x (op_sell hr)) (cwV 1 X.2.2.2.2.1 gL_X11_sell rfl rfl rfl q_X11_sell_0 ⟨Nat.le_of_ble_eq_true rfl, Nat.le_of_ble_eq_true rfl⟩) rfl hl.1 rfl (by decide) (dk DL_12 17 rfl) (by omega) (by omega) (fun r x1 H locs hv hw => ?_)
  refine lv_aload_n X.1 X.2.1 (dk DL_12 18 rfl) rfl (lv_at hl 1 rfl) ?_
  refine ldS (k := 1) X hw hi hL hl (by decide) (by decide) (dk DL_12 19 rfl) (dk DL_12 20 rfl) (dk DL_12 21 rfl) (dk DL_12 22 rfl) (dk DL_12 23 rfl) ?_
  refine lcM (As := [.int (xs (i + 1))]) (rest := [.int r]) X hw (m_sell (xs (i + 1)) y hv) (cwV 1 X.2.2.2.2.1 gL_X12_sell rfl rfl rfl q_sell ⟨Nat.le_of_ble_eq_true rfl, Nat.le_of_ble_eq_true rfl⟩) rfl hl.1 rfl (Nat.le_of_ble_eq_true rfl) (dk DL_12 24 rfl) (by omega) (by omega) (fun r2 y1 H locs hv hw => ?_)
  refine W.widen (k := cells + 5) (n := slots + 412) (by omega) (by omega) ?_
  refine lv_icmp_eq (tgt := 1048) X.1 X.2.1 (dk DL_12 25 rfl) (by decide) (fun _ => again x1 y1 H locs hv.2 hw) (fun z => absurd hv.1 z)
set_option maxHeartbeats 1000000 in
set_option maxRecDepth 20000 in
theorem law_played {p : Program} {l : Launch} {e : Env} {s : State} {m : MethodId} {below : List Frame} {meth : Method} {c : Code} {b L i : Nat} {xs : Nat → Int32} {dC : Nat → ClassId} {dI : Nat → Nat → Nat} {q q2 : Nat → Nat} {cI cT cJ cZ : ClassId} {en : Nat → Nat} {H : Heap} {locs : List Loc} {cells slots : Nat} {Q : State → Prop} {ls : Array Slot} {x : XS} {y : MS} (X : LX p s m c b L xs dC dI cI cT cJ cZ en) (hw : LWd dC dI q q2 cI cT cJ cZ s x y H locs) (hi : i + 6 ≤ L) (hL : L ≤ 3072) (hl : lv_has ls 4 [(3, .int (nI i)), (2, .ref (q2 0)), (1, .ref (q 0)), (0, .ref b)]) (hr : RelT TXd x y) (hc : cells + 5 ≤ 600000) (hs : slots + 412 ≤ 7302250) (again : ∀ (x1 : XS) (y1 : MS) (H1 : Heap) (locs1 : List Loc), RelT TXd x1 y1 → LWd dC dI q q2 cI cT cJ cZ s x1 y1 H1 locs1 → W p l e room_1 s m #[Value.ref b] below meth c H1 locs1 (cells + 5) (slots + 412) Q (F0 m 1048 ls [])) : W p l e room_1 s m #[Value.ref b] below meth c H locs (cells) (slots) Q (F0 m 622 ls []) := by
  obtain ⟨A, B, hr⟩ := hr
  refine lv_aload_n X.1 X.2.1 (dk DL_12 28 rfl) rfl (lv_at hl 2 rfl) ?_
  refine ldS (k := 1) X hw hi hL hl (by decide) (by decide) (dk DL_12 29 rfl) (dk DL_13 0 rfl) (dk DL_13 1 rfl) (dk DL_13 2 rfl) (dk DL_13 3 rfl) ?_
  refine lcX (As := [.int (xs (i + 1))]) (rest := []) (mc := 0) (ms := 0) X hw (m_X11_played_0 (xs (i + 1)) x (op_played hr)) (cwV 1 X.2.2.2.2.1 gL_X11_played rfl rfl rfl q_X11_played_0 ⟨Nat.le_of_ble_eq_true rfl, Nat.le_of_ble_eq_true rfl⟩) rfl hl.1 rfl (by decide) (dk DL_13 4 rfl) (by omega) (by omega) (fun r x1 H locs hv hw => ?_)
  refine lv_aload_n X.1 X.2.1 (dk DL_13 5 rfl) rfl (lv_at hl 1 rfl) ?_
  refine ldS (k := 1) X hw hi hL hl (by decide) (by decide) (dk DL_13 6 rfl) (dk DL_13 7 rfl) (dk DL_13 8 rfl) (dk DL_13 9 rfl) (dk DL_13 10 rfl) ?_
  refine lcM (As := [.int (xs (i + 1))]) (rest := [.int r]) X hw (m_played (xs (i + 1)) y hv) (cwV 1 X.2.2.2.2.1 gL_X12_played rfl rfl rfl q_played ⟨Nat.le_of_ble_eq_true rfl, Nat.le_of_ble_eq_true rfl⟩) rfl hl.1 rfl (Nat.le_of_ble_eq_true rfl) (dk DL_13 11 rfl) (by omega) (by omega) (fun r2 y1 H locs hv hw => ?_)
  refine W.widen (k := cells + 5) (n := slots + 412) (by omega) (by omega) ?_
  refine lv_icmp_eq (tgt := 1048) X.1 X.2.1 (dk DL_13 12 rfl) (by decide) (fun _ => again x1 y1 H locs hv.2 hw) (fun z => absurd hv.1 z)
set_option maxHeartbeats 1000000 in
set_option maxRecDepth 20000 in
theorem law_undo {p : Program} {l : Launch} {e : Env} {s : State} {m : MethodId} {below : List Frame} {meth : Method} {c : Code} {b L i : Nat} {xs : Nat → Int32} {dC : Nat → ClassId} {dI : Nat → Nat → Nat} {q q2 : Nat → Nat} {cI cT cJ cZ : ClassId} {en : Nat → Nat} {H : Heap} {locs : List Loc} {cells slots : Nat} {Q : State → Prop} {ls : Array Slot} {x : XS} {y : MS} (X : LX p s m c b L xs dC dI cI cT cJ cZ en) (hw : LWd dC dI q q2 cI cT cJ cZ s x y H locs) (hi : i + 6 ≤ L) (hL : L ≤ 3072) (hl : lv_has ls 4 [(3, .int (nI i)), (2, .ref (q2 0)), (1, .ref (q 0)), (0, .ref b)]) (hr : RelT TXd x y) (hc : cells + 5 ≤ 600000) (hs : slots + 412 ≤ 7302250) (again : ∀ (x1 : XS) (y1 : MS) (H1 : Heap) (locs1 : List Loc), RelT TXd x1 y1 → LWd dC dI q q2 cI cT cJ cZ s x1 y1 H1 locs1 → W p l e room_1 s m #[Value.ref b] below meth c H1 locs1 (cells + 5) (slots + 412) Q (F0 m 1048 ls [])) : W p l e room_1 s m #[Value.ref b] below meth c H locs (cells) (slots) Q (F0 m 645 ls []) := by
  obtain ⟨A, B, hr⟩ := hr
  refine lv_aload_n X.1 X.2.1 (dk DL_13 15 rfl) rfl (lv_at hl 2 rfl) ?_
  refine lcX (As := []) (rest := []) (mc := 0) (ms := 0) X hw (m_X11_undo_0  x (op_undo hr)) (cwV 0 X.2.2.2.2.1 gL_X11_undo rfl rfl rfl q_X11_undo_0 ⟨Nat.le_of_ble_eq_true rfl, Nat.le_of_ble_eq_true rfl⟩) rfl hl.1 rfl (by decide) (dk DL_13 16 rfl) (by omega) (by omega) (fun r x1 H locs hv hw => ?_)
  refine lv_aload_n X.1 X.2.1 (dk DL_13 17 rfl) rfl (lv_at hl 1 rfl) ?_
  refine lcM (As := []) (rest := [.int r]) X hw (m_undo  y hv) (cwV 0 X.2.2.2.2.1 gL_X12_undo rfl rfl rfl q_undo ⟨Nat.le_of_ble_eq_true rfl, Nat.le_of_ble_eq_true rfl⟩) rfl hl.1 rfl (Nat.le_of_ble_eq_true rfl) (dk DL_13 18 rfl) (by omega) (by omega) (fun r2 y1 H locs hv hw => ?_)
  refine W.widen (k := cells + 5) (n := slots + 412) (by omega) (by omega) ?_
  refine lv_icmp_eq (tgt := 1048) X.1 X.2.1 (dk DL_13 19 rfl) (by decide) (fun _ => again x1 y1 H locs hv.2 hw) (fun z => absurd hv.1 z)
set_option maxHeartbeats 1000000 in
set_option maxRecDepth 20000 in
theorem law_of {p : Program} {l : Launch} {e : Env} {s : State} {m : MethodId} {below : List Frame} {meth : Method} {c : Code} {b L i : Nat} {xs : Nat → Int32} {dC : Nat → ClassId} {dI : Nat → Nat → Nat} {q q2 : Nat → Nat} {cI cT cJ cZ : ClassId} {en : Nat → Nat} {H : Heap} {locs : List Loc} {cells slots : Nat} {Q : State → Prop} {ls : Array Slot} {x : XS} {y : MS} (X : LX p s m c b L xs dC dI cI cT cJ cZ en) (hw : LWd dC dI q q2 cI cT cJ cZ s x y H locs) (hi : i + 6 ≤ L) (hL : L ≤ 3072) (hl : lv_has ls 4 [(3, .int (nI i)), (2, .ref (q2 0)), (1, .ref (q 0)), (0, .ref b)]) (hr : RelT TXd x y) (hc : cells + 5 ≤ 600000) (hs : slots + 412 ≤ 7302250) (again : ∀ (x1 : XS) (y1 : MS) (H1 : Heap) (locs1 : List Loc), RelT TXd x1 y1 → LWd dC dI q q2 cI cT cJ cZ s x1 y1 H1 locs1 → W p l e room_1 s m #[Value.ref b] below meth c H1 locs1 (cells + 5) (slots + 412) Q (F0 m 1048 ls [])) : W p l e room_1 s m #[Value.ref b] below meth c H locs (cells) (slots) Q (F0 m 658 ls []) := by
  obtain ⟨A, B, hr⟩ := hr
  refine lv_aload_n X.1 X.2.1 (dk DL_13 22 rfl) rfl (lv_at hl 2 rfl) ?_
  refine ldS (k := 1) X hw hi hL hl (by decide) (by decide) (dk DL_13 23 rfl) (dk DL_13 24 rfl) (dk DL_13 25 rfl) (dk DL_13 26 rfl) (dk DL_13 27 rfl) ?_
  refine ldS (k := 2) X hw hi hL hl (by decide) (by decide) (dk DL_13 28 rfl) (dk DL_13 29 rfl) (dk DL_14 0 rfl) (dk DL_14 1 rfl) (dk DL_14 2 rfl) ?_
  refine lcX (As := [.int (xs (i + 1)), .int (xs (i + 2))]) (rest := []) (mc := 0) (ms := 0) X hw (m_X11_of_0 (xs (i + 1)) (xs (i + 2)) x (op_of hr)) (cwV 2 X.2.2.2.2.1 gL_X11_of rfl rfl rfl q_X11_of_0 ⟨Nat.le_of_ble_eq_true rfl, Nat.le_of_ble_eq_true rfl⟩) rfl hl.1 rfl (by decide) (dk DL_14 3 rfl) (by omega) (by omega) (fun r x1 H locs hv hw => ?_)
  refine lv_aload_n X.1 X.2.1 (dk DL_14 4 rfl) rfl (lv_at hl 1 rfl) ?_
  refine ldS (k := 1) X hw hi hL hl (by decide) (by decide) (dk DL_14 5 rfl) (dk DL_14 6 rfl) (dk DL_14 7 rfl) (dk DL_14 8 rfl) (dk DL_14 9 rfl) ?_
  refine ldS (k := 2) X hw hi hL hl (by decide) (by decide) (dk DL_14 10 rfl) (dk DL_14 11 rfl) (dk DL_14 12 rfl) (dk DL_14 13 rfl) (dk DL_14 14 rfl) ?_
  refine lcM (As := [.int (xs (i + 1)), .int (xs (i + 2))]) (rest := [.int r]) X hw (m_of (xs (i + 1)) (xs (i + 2)) y hv) (cwV 2 X.2.2.2.2.1 gL_X12_of rfl rfl rfl q_of ⟨Nat.le_of_ble_eq_true rfl, Nat.le_of_ble_eq_true rfl⟩) rfl hl.1 rfl (Nat.le_of_ble_eq_true rfl) (dk DL_14 15 rfl) (by omega) (by omega) (fun r2 y1 H locs hv hw => ?_)
  refine W.widen (k := cells + 5) (n := slots + 412) (by omega) (by omega) ?_
  refine lv_icmp_eq (tgt := 1048) X.1 X.2.1 (dk DL_14 16 rfl) (by decide) (fun _ => again x1 y1 H locs hv.2 hw) (fun z => absurd hv.1 z)
set_option maxHeartbeats 1000000 in
set_option maxRecDepth 20000 in
theorem law_piece {p : Program} {l : Launch} {e : Env} {s : State} {m : MethodId} {below : List Frame} {meth : Method} {c : Code} {b L i : Nat} {xs : Nat → Int32} {dC : Nat → ClassId} {dI : Nat → Nat → Nat} {q q2 : Nat → Nat} {cI cT cJ cZ : ClassId} {en : Nat → Nat} {H : Heap} {locs : List Loc} {cells slots : Nat} {Q : State → Prop} {ls : Array Slot} {x : XS} {y : MS} (X : LX p s m c b L xs dC dI cI cT cJ cZ en) (hw : LWd dC dI q q2 cI cT cJ cZ s x y H locs) (hi : i + 6 ≤ L) (hL : L ≤ 3072) (hl : lv_has ls 4 [(3, .int (nI i)), (2, .ref (q2 0)), (1, .ref (q 0)), (0, .ref b)]) (hr : RelT TXd x y) (hc : cells + 5 ≤ 600000) (hs : slots + 412 ≤ 7302250) (again : ∀ (x1 : XS) (y1 : MS) (H1 : Heap) (locs1 : List Loc), RelT TXd x1 y1 → LWd dC dI q q2 cI cT cJ cZ s x1 y1 H1 locs1 → W p l e room_1 s m #[Value.ref b] below meth c H1 locs1 (cells + 5) (slots + 412) Q (F0 m 1048 ls [])) : W p l e room_1 s m #[Value.ref b] below meth c H locs (cells) (slots) Q (F0 m 691 ls []) := by
  obtain ⟨A, B, hr⟩ := hr
  refine lv_aload_n X.1 X.2.1 (dk DL_14 19 rfl) rfl (lv_at hl 2 rfl) ?_
  refine ldS (k := 1) X hw hi hL hl (by decide) (by decide) (dk DL_14 20 rfl) (dk DL_14 21 rfl) (dk DL_14 22 rfl) (dk DL_14 23 rfl) (dk DL_14 24 rfl) ?_
  refine ldS (k := 2) X hw hi hL hl (by decide) (by decide) (dk DL_14 25 rfl) (dk DL_14 26 rfl) (dk DL_14 27 rfl) (dk DL_14 28 rfl) (dk DL_14 29 rfl) ?_
  refine lcX (As := [.int (xs (i + 1)), .int (xs (i + 2))]) (rest := []) (mc := 0) (ms := 0) X hw (m_X11_piece_0 (xs (i + 1)) (xs (i + 2)) x (op_piece hr)) (cwV 2 X.2.2.2.2.1 gL_X11_piece rfl rfl rfl q_X11_piece_0 ⟨Nat.le_of_ble_eq_true rfl, Nat.le_of_ble_eq_true rfl⟩) rfl hl.1 rfl (by decide) (dk DL_15 0 rfl) (by omega) (by omega) (fun r x1 H locs hv hw => ?_)
  refine lv_aload_n X.1 X.2.1 (dk DL_15 1 rfl) rfl (lv_at hl 1 rfl) ?_
  refine ldS (k := 1) X hw hi hL hl (by decide) (by decide) (dk DL_15 2 rfl) (dk DL_15 3 rfl) (dk DL_15 4 rfl) (dk DL_15 5 rfl) (dk DL_15 6 rfl) ?_
  refine ldS (k := 2) X hw hi hL hl (by decide) (by decide) (dk DL_15 7 rfl) (dk DL_15 8 rfl) (dk DL_15 9 rfl) (dk DL_15 10 rfl) (dk DL_15 11 rfl) ?_
  refine lcM (As := [.int (xs (i + 1)), .int (xs (i + 2))]) (rest := [.int r]) X hw (m_piece (xs (i + 1)) (xs (i + 2)) y hv) (cwV 2 X.2.2.2.2.1 gL_X12_piece rfl rfl rfl q_piece ⟨Nat.le_of_ble_eq_true rfl, Nat.le_of_ble_eq_true rfl⟩) rfl hl.1 rfl (Nat.le_of_ble_eq_true rfl) (dk DL_15 12 rfl) (by omega) (by omega) (fun r2 y1 H locs hv hw => ?_)
  refine W.widen (k := cells + 5) (n := slots + 412) (by omega) (by omega) ?_
  refine lv_icmp_eq (tgt := 1048) X.1 X.2.1 (dk DL_15 13 rfl) (by decide) (fun _ => again x1 y1 H locs hv.2 hw) (fun z => absurd hv.1 z)
set_option maxHeartbeats 1000000 in
set_option maxRecDepth 20000 in
theorem law_bubble {p : Program} {l : Launch} {e : Env} {s : State} {m : MethodId} {below : List Frame} {meth : Method} {c : Code} {b L i : Nat} {xs : Nat → Int32} {dC : Nat → ClassId} {dI : Nat → Nat → Nat} {q q2 : Nat → Nat} {cI cT cJ cZ : ClassId} {en : Nat → Nat} {H : Heap} {locs : List Loc} {cells slots : Nat} {Q : State → Prop} {ls : Array Slot} {x : XS} {y : MS} (X : LX p s m c b L xs dC dI cI cT cJ cZ en) (hw : LWd dC dI q q2 cI cT cJ cZ s x y H locs) (hi : i + 6 ≤ L) (hL : L ≤ 3072) (hl : lv_has ls 4 [(3, .int (nI i)), (2, .ref (q2 0)), (1, .ref (q 0)), (0, .ref b)]) (hr : RelT TXd x y) (hc : cells + 5 ≤ 600000) (hs : slots + 412 ≤ 7302250) (again : ∀ (x1 : XS) (y1 : MS) (H1 : Heap) (locs1 : List Loc), RelT TXd x1 y1 → LWd dC dI q q2 cI cT cJ cZ s x1 y1 H1 locs1 → W p l e room_1 s m #[Value.ref b] below meth c H1 locs1 (cells + 5) (slots + 412) Q (F0 m 1048 ls [])) : W p l e room_1 s m #[Value.ref b] below meth c H locs (cells) (slots) Q (F0 m 724 ls []) := by
  obtain ⟨A, B, hr⟩ := hr
  refine lv_aload_n X.1 X.2.1 (dk DL_15 16 rfl) rfl (lv_at hl 2 rfl) ?_
  refine ldS (k := 1) X hw hi hL hl (by decide) (by decide) (dk DL_15 17 rfl) (dk DL_15 18 rfl) (dk DL_15 19 rfl) (dk DL_15 20 rfl) (dk DL_15 21 rfl) ?_
  refine ldS (k := 2) X hw hi hL hl (by decide) (by decide) (dk DL_15 22 rfl) (dk DL_15 23 rfl) (dk DL_15 24 rfl) (dk DL_15 25 rfl) (dk DL_15 26 rfl) ?_
  refine lcX (As := [.int (xs (i + 1)), .int (xs (i + 2))]) (rest := []) (mc := 0) (ms := 0) X hw (m_X11_bubble_0 (xs (i + 1)) (xs (i + 2)) x (op_bubble hr)) (cwV 2 X.2.2.2.2.1 gL_X11_bubble rfl rfl rfl q_X11_bubble_0 ⟨Nat.le_of_ble_eq_true rfl, Nat.le_of_ble_eq_true rfl⟩) rfl hl.1 rfl (by decide) (dk DL_15 27 rfl) (by omega) (by omega) (fun r x1 H locs hv hw => ?_)
  refine lv_aload_n X.1 X.2.1 (dk DL_15 28 rfl) rfl (lv_at hl 1 rfl) ?_
  refine ldS (k := 1) X hw hi hL hl (by decide) (by decide) (dk DL_15 29 rfl) (dk DL_16 0 rfl) (dk DL_16 1 rfl) (dk DL_16 2 rfl) (dk DL_16 3 rfl) ?_
  refine ldS (k := 2) X hw hi hL hl (by decide) (by decide) (dk DL_16 4 rfl) (dk DL_16 5 rfl) (dk DL_16 6 rfl) (dk DL_16 7 rfl) (dk DL_16 8 rfl) ?_
  refine lcM (As := [.int (xs (i + 1)), .int (xs (i + 2))]) (rest := [.int r]) X hw (m_bubble (xs (i + 1)) (xs (i + 2)) y hv) (cwV 2 X.2.2.2.2.1 gL_X12_bubble rfl rfl rfl q_bubble ⟨Nat.le_of_ble_eq_true rfl, Nat.le_of_ble_eq_true rfl⟩) rfl hl.1 rfl (Nat.le_of_ble_eq_true rfl) (dk DL_16 9 rfl) (by omega) (by omega) (fun r2 y1 H locs hv hw => ?_)
  refine W.widen (k := cells + 5) (n := slots + 412) (by omega) (by omega) ?_
  refine lv_icmp_eq (tgt := 1048) X.1 X.2.1 (dk DL_16 10 rfl) (by decide) (fun _ => again x1 y1 H locs hv.2 hw) (fun z => absurd hv.1 z)
set_option maxHeartbeats 1000000 in
set_option maxRecDepth 20000 in
theorem law_odds {p : Program} {l : Launch} {e : Env} {s : State} {m : MethodId} {below : List Frame} {meth : Method} {c : Code} {b L i : Nat} {xs : Nat → Int32} {dC : Nat → ClassId} {dI : Nat → Nat → Nat} {q q2 : Nat → Nat} {cI cT cJ cZ : ClassId} {en : Nat → Nat} {H : Heap} {locs : List Loc} {cells slots : Nat} {Q : State → Prop} {ls : Array Slot} {x : XS} {y : MS} (X : LX p s m c b L xs dC dI cI cT cJ cZ en) (hw : LWd dC dI q q2 cI cT cJ cZ s x y H locs) (hi : i + 6 ≤ L) (hL : L ≤ 3072) (hl : lv_has ls 4 [(3, .int (nI i)), (2, .ref (q2 0)), (1, .ref (q 0)), (0, .ref b)]) (hr : RelT TXd x y) (hc : cells + 5 ≤ 600000) (hs : slots + 412 ≤ 7302250) (again : ∀ (x1 : XS) (y1 : MS) (H1 : Heap) (locs1 : List Loc), RelT TXd x1 y1 → LWd dC dI q q2 cI cT cJ cZ s x1 y1 H1 locs1 → W p l e room_1 s m #[Value.ref b] below meth c H1 locs1 (cells + 5) (slots + 412) Q (F0 m 1048 ls [])) : W p l e room_1 s m #[Value.ref b] below meth c H locs (cells) (slots) Q (F0 m 757 ls []) := by
  obtain ⟨A, B, hr⟩ := hr
  refine lv_aload_n X.1 X.2.1 (dk DL_16 13 rfl) rfl (lv_at hl 2 rfl) ?_
  refine ldS (k := 1) X hw hi hL hl (by decide) (by decide) (dk DL_16 14 rfl) (dk DL_16 15 rfl) (dk DL_16 16 rfl) (dk DL_16 17 rfl) (dk DL_16 18 rfl) ?_
  refine ldS (k := 2) X hw hi hL hl (by decide) (by decide) (dk DL_16 19 rfl) (dk DL_16 20 rfl) (dk DL_16 21 rfl) (dk DL_16 22 rfl) (dk DL_16 23 rfl) ?_
  refine lcXl (As := [.int (xs (i + 1)), .int (xs (i + 2))]) (rest := []) (mc := 0) (ms := 0) X hw (m_X11_odds_0 (xs (i + 1)) (xs (i + 2)) x (op_odds hr)) (cwV 2 X.2.2.2.2.1 gL_X11_odds rfl rfl rfl q_X11_odds_0 ⟨Nat.le_of_ble_eq_true rfl, Nat.le_of_ble_eq_true rfl⟩) rfl hl.1 rfl (by decide) (dk DL_16 24 rfl) (by omega) (by omega) (fun r x1 H locs hv hw => ?_)
  refine lv_aload_n X.1 X.2.1 (dk DL_16 25 rfl) rfl (lv_at hl 1 rfl) ?_
  refine ldS (k := 1) X hw hi hL hl (by decide) (by decide) (dk DL_16 26 rfl) (dk DL_16 27 rfl) (dk DL_16 28 rfl) (dk DL_16 29 rfl) (dk DL_17 0 rfl) ?_
  refine ldS (k := 2) X hw hi hL hl (by decide) (by decide) (dk DL_17 1 rfl) (dk DL_17 2 rfl) (dk DL_17 3 rfl) (dk DL_17 4 rfl) (dk DL_17 5 rfl) ?_
  refine lcMl (As := [.int (xs (i + 1)), .int (xs (i + 2))]) (rest := [.long r]) X hw (m_odds (xs (i + 1)) (xs (i + 2)) y hv) (cwV 2 X.2.2.2.2.1 gL_X12_odds rfl rfl rfl q_odds ⟨Nat.le_of_ble_eq_true rfl, Nat.le_of_ble_eq_true rfl⟩) rfl hl.1 rfl (Nat.le_of_ble_eq_true rfl) (dk DL_17 6 rfl) (by omega) (by omega) (fun r2 y1 H locs hv hw => ?_)
  refine W.widen (k := cells + 5) (n := slots + 412) (by omega) (by omega) ?_
  refine W.lcmp X.1 X.2.1 (dk DL_17 7 rfl) ?_
  refine lv_if_eq (tgt := 1048) X.1 X.2.1 (dk DL_17 8 rfl) (by decide) (fun _ => again x1 y1 H locs hv.2 hw) (fun z => absurd ((lg_cmp_eq _ _).mpr hv.1) z)
set_option maxHeartbeats 1000000 in
set_option maxRecDepth 20000 in
theorem law_plan {p : Program} {l : Launch} {e : Env} {s : State} {m : MethodId} {below : List Frame} {meth : Method} {c : Code} {b L i : Nat} {xs : Nat → Int32} {dC : Nat → ClassId} {dI : Nat → Nat → Nat} {q q2 : Nat → Nat} {cI cT cJ cZ : ClassId} {en : Nat → Nat} {H : Heap} {locs : List Loc} {cells slots : Nat} {Q : State → Prop} {ls : Array Slot} {x : XS} {y : MS} (X : LX p s m c b L xs dC dI cI cT cJ cZ en) (hw : LWd dC dI q q2 cI cT cJ cZ s x y H locs) (hi : i + 6 ≤ L) (hL : L ≤ 3072) (hl : lv_has ls 4 [(3, .int (nI i)), (2, .ref (q2 0)), (1, .ref (q 0)), (0, .ref b)]) (hr : RelT TXd x y) (hc : cells + 5 ≤ 600000) (hs : slots + 412 ≤ 7302250) (again : ∀ (x1 : XS) (y1 : MS) (H1 : Heap) (locs1 : List Loc), RelT TXd x1 y1 → LWd dC dI q q2 cI cT cJ cZ s x1 y1 H1 locs1 → W p l e room_1 s m #[Value.ref b] below meth c H1 locs1 (cells + 5) (slots + 412) Q (F0 m 1048 ls [])) : W p l e room_1 s m #[Value.ref b] below meth c H locs (cells) (slots) Q (F0 m 791 ls []) := by
  obtain ⟨A, B, hr⟩ := hr
  refine lv_aload_n X.1 X.2.1 (dk DL_17 11 rfl) rfl (lv_at hl 2 rfl) ?_
  refine ldS (k := 1) X hw hi hL hl (by decide) (by decide) (dk DL_17 12 rfl) (dk DL_17 13 rfl) (dk DL_17 14 rfl) (dk DL_17 15 rfl) (dk DL_17 16 rfl) ?_
  refine ldS (k := 2) X hw hi hL hl (by decide) (by decide) (dk DL_17 17 rfl) (dk DL_17 18 rfl) (dk DL_17 19 rfl) (dk DL_17 20 rfl) (dk DL_17 21 rfl) ?_
  refine ldS (k := 3) X hw hi hL hl (by decide) (by decide) (dk DL_17 22 rfl) (dk DL_17 23 rfl) (dk DL_17 24 rfl) (dk DL_17 25 rfl) (dk DL_17 26 rfl) ?_
  refine lcX (As := [.int (xs (i + 1)), .int (xs (i + 2)), .int (xs (i + 3))]) (rest := []) (mc := 0) (ms := 0) X hw (m_X11_plan_0 (xs (i + 1)) (xs (i + 2)) (xs (i + 3)) x (op_plan hr)) (cwV 3 X.2.2.2.2.1 gL_X11_plan rfl rfl rfl q_X11_plan_0 ⟨Nat.le_of_ble_eq_true rfl, Nat.le_of_ble_eq_true rfl⟩) rfl hl.1 rfl (by decide) (dk DL_17 27 rfl) (by omega) (by omega) (fun r x1 H locs hv hw => ?_)
  refine lv_aload_n X.1 X.2.1 (dk DL_17 28 rfl) rfl (lv_at hl 1 rfl) ?_
  refine ldS (k := 1) X hw hi hL hl (by decide) (by decide) (dk DL_17 29 rfl) (dk DL_18 0 rfl) (dk DL_18 1 rfl) (dk DL_18 2 rfl) (dk DL_18 3 rfl) ?_
  refine ldS (k := 2) X hw hi hL hl (by decide) (by decide) (dk DL_18 4 rfl) (dk DL_18 5 rfl) (dk DL_18 6 rfl) (dk DL_18 7 rfl) (dk DL_18 8 rfl) ?_
  refine ldS (k := 3) X hw hi hL hl (by decide) (by decide) (dk DL_18 9 rfl) (dk DL_18 10 rfl) (dk DL_18 11 rfl) (dk DL_18 12 rfl) (dk DL_18 13 rfl) ?_
  refine lcM (As := [.int (xs (i + 1)), .int (xs (i + 2)), .int (xs (i + 3))]) (rest := [.int r]) X hw (m_plan (xs (i + 1)) (xs (i + 2)) (xs (i + 3)) y hv) (cwV 3 X.2.2.2.2.1 gL_X12_plan rfl rfl rfl q_plan ⟨Nat.le_of_ble_eq_true rfl, Nat.le_of_ble_eq_true rfl⟩) rfl hl.1 rfl (Nat.le_of_ble_eq_true rfl) (dk DL_18 14 rfl) (by omega) (by omega) (fun r2 y1 H locs hv hw => ?_)
  refine W.widen (k := cells + 5) (n := slots + 412) (by omega) (by omega) ?_
  refine lv_icmp_eq (tgt := 1048) X.1 X.2.1 (dk DL_18 15 rfl) (by decide) (fun _ => again x1 y1 H locs hv.2 hw) (fun z => absurd hv.1 z)
set_option maxHeartbeats 1000000 in
set_option maxRecDepth 20000 in
theorem law_seen {p : Program} {l : Launch} {e : Env} {s : State} {m : MethodId} {below : List Frame} {meth : Method} {c : Code} {b L i : Nat} {xs : Nat → Int32} {dC : Nat → ClassId} {dI : Nat → Nat → Nat} {q q2 : Nat → Nat} {cI cT cJ cZ : ClassId} {en : Nat → Nat} {H : Heap} {locs : List Loc} {cells slots : Nat} {Q : State → Prop} {ls : Array Slot} {x : XS} {y : MS} (X : LX p s m c b L xs dC dI cI cT cJ cZ en) (hw : LWd dC dI q q2 cI cT cJ cZ s x y H locs) (hi : i + 6 ≤ L) (hL : L ≤ 3072) (hl : lv_has ls 4 [(3, .int (nI i)), (2, .ref (q2 0)), (1, .ref (q 0)), (0, .ref b)]) (hr : RelT TXd x y) (hc : cells + 5 ≤ 600000) (hs : slots + 412 ≤ 7302250) (again : ∀ (x1 : XS) (y1 : MS) (H1 : Heap) (locs1 : List Loc), RelT TXd x1 y1 → LWd dC dI q q2 cI cT cJ cZ s x1 y1 H1 locs1 → W p l e room_1 s m #[Value.ref b] below meth c H1 locs1 (cells + 5) (slots + 412) Q (F0 m 1048 ls [])) : W p l e room_1 s m #[Value.ref b] below meth c H locs (cells) (slots) Q (F0 m 834 ls []) := by
  obtain ⟨A, B, hr⟩ := hr
  refine lv_aload_n X.1 X.2.1 (dk DL_18 18 rfl) rfl (lv_at hl 2 rfl) ?_
  refine ldS (k := 1) X hw hi hL hl (by decide) (by decide) (dk DL_18 19 rfl) (dk DL_18 20 rfl) (dk DL_18 21 rfl) (dk DL_18 22 rfl) (dk DL_18 23 rfl) ?_
  refine lcX (As := [.int (xs (i + 1))]) (rest := []) (mc := 0) (ms := 0) X hw (m_X11_seen_0 (xs (i + 1)) x (op_seen hr)) (cwV 1 X.2.2.2.2.1 gL_X11_seen rfl rfl rfl q_X11_seen_0 ⟨Nat.le_of_ble_eq_true rfl, Nat.le_of_ble_eq_true rfl⟩) rfl hl.1 rfl (by decide) (dk DL_18 24 rfl) (by omega) (by omega) (fun r x1 H locs hv hw => ?_)
  refine lv_aload_n X.1 X.2.1 (dk DL_18 25 rfl) rfl (lv_at hl 1 rfl) ?_
  refine ldS (k := 1) X hw hi hL hl (by decide) (by decide) (dk DL_18 26 rfl) (dk DL_18 27 rfl) (dk DL_18 28 rfl) (dk DL_18 29 rfl) (dk DL_19 0 rfl) ?_
  refine lcM (As := [.int (xs (i + 1))]) (rest := [.int r]) X hw (m_seen (xs (i + 1)) y hv) (cwV 1 X.2.2.2.2.1 gL_X12_seen rfl rfl rfl q_seen ⟨Nat.le_of_ble_eq_true rfl, Nat.le_of_ble_eq_true rfl⟩) rfl hl.1 rfl (Nat.le_of_ble_eq_true rfl) (dk DL_19 1 rfl) (by omega) (by omega) (fun r2 y1 H locs hv hw => ?_)
  refine W.widen (k := cells + 5) (n := slots + 412) (by omega) (by omega) ?_
  refine lv_icmp_eq (tgt := 1048) X.1 X.2.1 (dk DL_19 2 rfl) (by decide) (fun _ => again x1 y1 H locs hv.2 hw) (fun z => absurd hv.1 z)
set_option maxHeartbeats 1000000 in
set_option maxRecDepth 20000 in
theorem law_whose {p : Program} {l : Launch} {e : Env} {s : State} {m : MethodId} {below : List Frame} {meth : Method} {c : Code} {b L i : Nat} {xs : Nat → Int32} {dC : Nat → ClassId} {dI : Nat → Nat → Nat} {q q2 : Nat → Nat} {cI cT cJ cZ : ClassId} {en : Nat → Nat} {H : Heap} {locs : List Loc} {cells slots : Nat} {Q : State → Prop} {ls : Array Slot} {x : XS} {y : MS} (X : LX p s m c b L xs dC dI cI cT cJ cZ en) (hw : LWd dC dI q q2 cI cT cJ cZ s x y H locs) (hi : i + 6 ≤ L) (hL : L ≤ 3072) (hl : lv_has ls 4 [(3, .int (nI i)), (2, .ref (q2 0)), (1, .ref (q 0)), (0, .ref b)]) (hr : RelT TXd x y) (hc : cells + 5 ≤ 600000) (hs : slots + 412 ≤ 7302250) (again : ∀ (x1 : XS) (y1 : MS) (H1 : Heap) (locs1 : List Loc), RelT TXd x1 y1 → LWd dC dI q q2 cI cT cJ cZ s x1 y1 H1 locs1 → W p l e room_1 s m #[Value.ref b] below meth c H1 locs1 (cells + 5) (slots + 412) Q (F0 m 1048 ls [])) : W p l e room_1 s m #[Value.ref b] below meth c H locs (cells) (slots) Q (F0 m 857 ls []) := by
  obtain ⟨A, B, hr⟩ := hr
  refine lv_aload_n X.1 X.2.1 (dk DL_19 5 rfl) rfl (lv_at hl 2 rfl) ?_
  refine ldS (k := 1) X hw hi hL hl (by decide) (by decide) (dk DL_19 6 rfl) (dk DL_19 7 rfl) (dk DL_19 8 rfl) (dk DL_19 9 rfl) (dk DL_19 10 rfl) ?_
  refine lcX (As := [.int (xs (i + 1))]) (rest := []) (mc := 0) (ms := 0) X hw (m_X11_whose_0 (xs (i + 1)) x (op_whose hr)) (cwV 1 X.2.2.2.2.1 gL_X11_whose rfl rfl rfl q_X11_whose_0 ⟨Nat.le_of_ble_eq_true rfl, Nat.le_of_ble_eq_true rfl⟩) rfl hl.1 rfl (by decide) (dk DL_19 11 rfl) (by omega) (by omega) (fun r x1 H locs hv hw => ?_)
  refine lv_aload_n X.1 X.2.1 (dk DL_19 12 rfl) rfl (lv_at hl 1 rfl) ?_
  refine ldS (k := 1) X hw hi hL hl (by decide) (by decide) (dk DL_19 13 rfl) (dk DL_19 14 rfl) (dk DL_19 15 rfl) (dk DL_19 16 rfl) (dk DL_19 17 rfl) ?_
  refine lcM (As := [.int (xs (i + 1))]) (rest := [.int r]) X hw (m_whose (xs (i + 1)) y hv) (cwV 1 X.2.2.2.2.1 gL_X12_whose rfl rfl rfl q_whose ⟨Nat.le_of_ble_eq_true rfl, Nat.le_of_ble_eq_true rfl⟩) rfl hl.1 rfl (Nat.le_of_ble_eq_true rfl) (dk DL_19 18 rfl) (by omega) (by omega) (fun r2 y1 H locs hv hw => ?_)
  refine W.widen (k := cells + 5) (n := slots + 412) (by omega) (by omega) ?_
  refine lv_icmp_eq (tgt := 1048) X.1 X.2.1 (dk DL_19 19 rfl) (by decide) (fun _ => again x1 y1 H locs hv.2 hw) (fun z => absurd hv.1 z)
set_option maxHeartbeats 1000000 in
set_option maxRecDepth 20000 in
theorem law_tell {p : Program} {l : Launch} {e : Env} {s : State} {m : MethodId} {below : List Frame} {meth : Method} {c : Code} {b L i : Nat} {xs : Nat → Int32} {dC : Nat → ClassId} {dI : Nat → Nat → Nat} {q q2 : Nat → Nat} {cI cT cJ cZ : ClassId} {en : Nat → Nat} {H : Heap} {locs : List Loc} {cells slots : Nat} {Q : State → Prop} {ls : Array Slot} {x : XS} {y : MS} (X : LX p s m c b L xs dC dI cI cT cJ cZ en) (hw : LWd dC dI q q2 cI cT cJ cZ s x y H locs) (hi : i + 6 ≤ L) (hL : L ≤ 3072) (hl : lv_has ls 4 [(3, .int (nI i)), (2, .ref (q2 0)), (1, .ref (q 0)), (0, .ref b)]) (hr : RelT TXd x y) (hc : cells + 5 ≤ 600000) (hs : slots + 412 ≤ 7302250) (again : ∀ (x1 : XS) (y1 : MS) (H1 : Heap) (locs1 : List Loc), RelT TXd x1 y1 → LWd dC dI q q2 cI cT cJ cZ s x1 y1 H1 locs1 → W p l e room_1 s m #[Value.ref b] below meth c H1 locs1 (cells + 5) (slots + 412) Q (F0 m 1048 ls [])) : W p l e room_1 s m #[Value.ref b] below meth c H locs (cells) (slots) Q (F0 m 880 ls []) := by
  obtain ⟨A, B, hr⟩ := hr
  refine lv_aload_n X.1 X.2.1 (dk DL_19 22 rfl) rfl (lv_at hl 2 rfl) ?_
  refine ldS (k := 1) X hw hi hL hl (by decide) (by decide) (dk DL_19 23 rfl) (dk DL_19 24 rfl) (dk DL_19 25 rfl) (dk DL_19 26 rfl) (dk DL_19 27 rfl) ?_
  refine ldS (k := 2) X hw hi hL hl (by decide) (by decide) (dk DL_19 28 rfl) (dk DL_19 29 rfl) (dk DL_20 0 rfl) (dk DL_20 1 rfl) (dk DL_20 2 rfl) ?_
  refine ldS (k := 3) X hw hi hL hl (by decide) (by decide) (dk DL_20 3 rfl) (dk DL_20 4 rfl) (dk DL_20 5 rfl) (dk DL_20 6 rfl) (dk DL_20 7 rfl) ?_
  refine ldS (k := 4) X hw hi hL hl (by decide) (by decide) (dk DL_20 8 rfl) (dk DL_20 9 rfl) (dk DL_20 10 rfl) (dk DL_20 11 rfl) (dk DL_20 12 rfl) ?_
  refine lcX (As := [.int (xs (i + 1)), .int (xs (i + 2)), .int (xs (i + 3)), .int (xs (i + 4))]) (rest := []) (mc := 0) (ms := 0) X hw (m_X11_tell_0 (xs (i + 1)) (xs (i + 2)) (xs (i + 3)) (xs (i + 4)) x (op_tell hr)) (cwV 4 X.2.2.2.2.1 gL_X11_tell rfl rfl rfl q_X11_tell_0 ⟨Nat.le_of_ble_eq_true rfl, Nat.le_of_ble_eq_true rfl⟩) rfl hl.1 rfl (by decide) (dk DL_20 13 rfl) (by omega) (by omega) (fun r x1 H locs hv hw => ?_)
  refine lv_aload_n X.1 X.2.1 (dk DL_20 14 rfl) rfl (lv_at hl 1 rfl) ?_
  refine ldS (k := 1) X hw hi hL hl (by decide) (by decide) (dk DL_20 15 rfl) (dk DL_20 16 rfl) (dk DL_20 17 rfl) (dk DL_20 18 rfl) (dk DL_20 19 rfl) ?_
  refine ldS (k := 2) X hw hi hL hl (by decide) (by decide) (dk DL_20 20 rfl) (dk DL_20 21 rfl) (dk DL_20 22 rfl) (dk DL_20 23 rfl) (dk DL_20 24 rfl) ?_
  refine ldS (k := 3) X hw hi hL hl (by decide) (by decide) (dk DL_20 25 rfl) (dk DL_20 26 rfl) (dk DL_20 27 rfl) (dk DL_20 28 rfl) (dk DL_20 29 rfl) ?_
  refine ldS (k := 4) X hw hi hL hl (by decide) (by decide) (dk DL_21 0 rfl) (dk DL_21 1 rfl) (dk DL_21 2 rfl) (dk DL_21 3 rfl) (dk DL_21 4 rfl) ?_
  refine lcM (As := [.int (xs (i + 1)), .int (xs (i + 2)), .int (xs (i + 3)), .int (xs (i + 4))]) (rest := [.int r]) X hw (m_tell (xs (i + 1)) (xs (i + 2)) (xs (i + 3)) (xs (i + 4)) y hv) (cwV 4 X.2.2.2.2.1 gL_X12_tell rfl rfl rfl q_tell ⟨Nat.le_of_ble_eq_true rfl, Nat.le_of_ble_eq_true rfl⟩) rfl hl.1 rfl (Nat.le_of_ble_eq_true rfl) (dk DL_21 5 rfl) (by omega) (by omega) (fun r2 y1 H locs hv hw => ?_)
  refine W.widen (k := cells + 5) (n := slots + 412) (by omega) (by omega) ?_
  refine lv_icmp_eq (tgt := 1048) X.1 X.2.1 (dk DL_21 6 rfl) (by decide) (fun _ => again x1 y1 H locs hv.2 hw) (fun z => absurd hv.1 z)
set_option maxHeartbeats 1000000 in
set_option maxRecDepth 20000 in
theorem law_liars {p : Program} {l : Launch} {e : Env} {s : State} {m : MethodId} {below : List Frame} {meth : Method} {c : Code} {b L i : Nat} {xs : Nat → Int32} {dC : Nat → ClassId} {dI : Nat → Nat → Nat} {q q2 : Nat → Nat} {cI cT cJ cZ : ClassId} {en : Nat → Nat} {H : Heap} {locs : List Loc} {cells slots : Nat} {Q : State → Prop} {ls : Array Slot} {x : XS} {y : MS} (X : LX p s m c b L xs dC dI cI cT cJ cZ en) (hw : LWd dC dI q q2 cI cT cJ cZ s x y H locs) (hi : i + 6 ≤ L) (hL : L ≤ 3072) (hl : lv_has ls 4 [(3, .int (nI i)), (2, .ref (q2 0)), (1, .ref (q 0)), (0, .ref b)]) (hr : RelT TXd x y) (hc : cells + 5 ≤ 600000) (hs : slots + 412 ≤ 7302250) (again : ∀ (x1 : XS) (y1 : MS) (H1 : Heap) (locs1 : List Loc), RelT TXd x1 y1 → LWd dC dI q q2 cI cT cJ cZ s x1 y1 H1 locs1 → W p l e room_1 s m #[Value.ref b] below meth c H1 locs1 (cells + 5) (slots + 412) Q (F0 m 1048 ls [])) : W p l e room_1 s m #[Value.ref b] below meth c H locs (cells) (slots) Q (F0 m 933 ls []) := by
  obtain ⟨A, B, hr⟩ := hr
  refine lv_aload_n X.1 X.2.1 (dk DL_21 9 rfl) rfl (lv_at hl 2 rfl) ?_
  refine lcX (As := []) (rest := []) (mc := 0) (ms := 0) X hw (m_X11_liars_0  x (op_liars hr)) (cwV 0 X.2.2.2.2.1 gL_X11_liars rfl rfl rfl q_X11_liars_0 ⟨Nat.le_of_ble_eq_true rfl, Nat.le_of_ble_eq_true rfl⟩) rfl hl.1 rfl (by decide) (dk DL_21 10 rfl) (by omega) (by omega) (fun r x1 H locs hv hw => ?_)
  refine lv_aload_n X.1 X.2.1 (dk DL_21 11 rfl) rfl (lv_at hl 1 rfl) ?_
  refine lcM (As := []) (rest := [.int r]) X hw (m_liars  y hv) (cwV 0 X.2.2.2.2.1 gL_X12_liars rfl rfl rfl q_liars ⟨Nat.le_of_ble_eq_true rfl, Nat.le_of_ble_eq_true rfl⟩) rfl hl.1 rfl (Nat.le_of_ble_eq_true rfl) (dk DL_21 12 rfl) (by omega) (by omega) (fun r2 y1 H locs hv hw => ?_)
  refine W.widen (k := cells + 5) (n := slots + 412) (by omega) (by omega) ?_
  refine lv_icmp_eq (tgt := 1048) X.1 X.2.1 (dk DL_21 13 rfl) (by decide) (fun _ => again x1 y1 H locs hv.2 hw) (fun z => absurd hv.1 z)
set_option maxHeartbeats 1000000 in
set_option maxRecDepth 20000 in
theorem law_coughs {p : Program} {l : Launch} {e : Env} {s : State} {m : MethodId} {below : List Frame} {meth : Method} {c : Code} {b L i : Nat} {xs : Nat → Int32} {dC : Nat → ClassId} {dI : Nat → Nat → Nat} {q q2 : Nat → Nat} {cI cT cJ cZ : ClassId} {en : Nat → Nat} {H : Heap} {locs : List Loc} {cells slots : Nat} {Q : State → Prop} {ls : Array Slot} {x : XS} {y : MS} (X : LX p s m c b L xs dC dI cI cT cJ cZ en) (hw : LWd dC dI q q2 cI cT cJ cZ s x y H locs) (hi : i + 6 ≤ L) (hL : L ≤ 3072) (hl : lv_has ls 4 [(3, .int (nI i)), (2, .ref (q2 0)), (1, .ref (q 0)), (0, .ref b)]) (hr : RelT TXd x y) (hc : cells + 5 ≤ 600000) (hs : slots + 412 ≤ 7302250) (again : ∀ (x1 : XS) (y1 : MS) (H1 : Heap) (locs1 : List Loc), RelT TXd x1 y1 → LWd dC dI q q2 cI cT cJ cZ s x1 y1 H1 locs1 → W p l e room_1 s m #[Value.ref b] below meth c H1 locs1 (cells + 5) (slots + 412) Q (F0 m 1048 ls [])) : W p l e room_1 s m #[Value.ref b] below meth c H locs (cells) (slots) Q (F0 m 946 ls []) := by
  obtain ⟨A, B, hr⟩ := hr
  refine lv_aload_n X.1 X.2.1 (dk DL_21 16 rfl) rfl (lv_at hl 2 rfl) ?_
  refine ldS (k := 1) X hw hi hL hl (by decide) (by decide) (dk DL_21 17 rfl) (dk DL_21 18 rfl) (dk DL_21 19 rfl) (dk DL_21 20 rfl) (dk DL_21 21 rfl) ?_
  refine ldS (k := 2) X hw hi hL hl (by decide) (by decide) (dk DL_21 22 rfl) (dk DL_21 23 rfl) (dk DL_21 24 rfl) (dk DL_21 25 rfl) (dk DL_21 26 rfl) ?_
  refine ldS (k := 3) X hw hi hL hl (by decide) (by decide) (dk DL_21 27 rfl) (dk DL_21 28 rfl) (dk DL_21 29 rfl) (dk DL_22 0 rfl) (dk DL_22 1 rfl) ?_
  refine ldS (k := 4) X hw hi hL hl (by decide) (by decide) (dk DL_22 2 rfl) (dk DL_22 3 rfl) (dk DL_22 4 rfl) (dk DL_22 5 rfl) (dk DL_22 6 rfl) ?_
  refine lcX (As := [.int (xs (i + 1)), .int (xs (i + 2)), .int (xs (i + 3)), .int (xs (i + 4))]) (rest := []) (mc := 0) (ms := 0) X hw (m_X11_coughs_0 (xs (i + 1)) (xs (i + 2)) (xs (i + 3)) (xs (i + 4)) x (op_coughs hr)) (cwV 4 X.2.2.2.2.1 gL_X11_coughs rfl rfl rfl q_X11_coughs_0 ⟨Nat.le_of_ble_eq_true rfl, Nat.le_of_ble_eq_true rfl⟩) rfl hl.1 rfl (by decide) (dk DL_22 7 rfl) (by omega) (by omega) (fun r x1 H locs hv hw => ?_)
  refine lv_aload_n X.1 X.2.1 (dk DL_22 8 rfl) rfl (lv_at hl 1 rfl) ?_
  refine ldS (k := 1) X hw hi hL hl (by decide) (by decide) (dk DL_22 9 rfl) (dk DL_22 10 rfl) (dk DL_22 11 rfl) (dk DL_22 12 rfl) (dk DL_22 13 rfl) ?_
  refine ldS (k := 2) X hw hi hL hl (by decide) (by decide) (dk DL_22 14 rfl) (dk DL_22 15 rfl) (dk DL_22 16 rfl) (dk DL_22 17 rfl) (dk DL_22 18 rfl) ?_
  refine ldS (k := 3) X hw hi hL hl (by decide) (by decide) (dk DL_22 19 rfl) (dk DL_22 20 rfl) (dk DL_22 21 rfl) (dk DL_22 22 rfl) (dk DL_22 23 rfl) ?_
  refine ldS (k := 4) X hw hi hL hl (by decide) (by decide) (dk DL_22 24 rfl) (dk DL_22 25 rfl) (dk DL_22 26 rfl) (dk DL_22 27 rfl) (dk DL_22 28 rfl) ?_
  refine lcM (As := [.int (xs (i + 1)), .int (xs (i + 2)), .int (xs (i + 3)), .int (xs (i + 4))]) (rest := [.int r]) X hw (m_coughs (xs (i + 1)) (xs (i + 2)) (xs (i + 3)) (xs (i + 4)) y hv) (cwV 4 X.2.2.2.2.1 gL_X12_coughs rfl rfl rfl q_coughs ⟨Nat.le_of_ble_eq_true rfl, Nat.le_of_ble_eq_true rfl⟩) rfl hl.1 rfl (Nat.le_of_ble_eq_true rfl) (dk DL_22 29 rfl) (by omega) (by omega) (fun r2 y1 H locs hv hw => ?_)
  refine W.widen (k := cells + 5) (n := slots + 412) (by omega) (by omega) ?_
  refine lv_icmp_eq (tgt := 1048) X.1 X.2.1 (dk DL_23 0 rfl) (by decide) (fun _ => again x1 y1 H locs hv.2 hw) (fun z => absurd hv.1 z)
set_option maxHeartbeats 1000000 in
set_option maxRecDepth 20000 in
theorem law_image {p : Program} {l : Launch} {e : Env} {s : State} {m : MethodId} {below : List Frame} {meth : Method} {c : Code} {b L i : Nat} {xs : Nat → Int32} {dC : Nat → ClassId} {dI : Nat → Nat → Nat} {q q2 : Nat → Nat} {cI cT cJ cZ : ClassId} {en : Nat → Nat} {H : Heap} {locs : List Loc} {cells slots : Nat} {Q : State → Prop} {ls : Array Slot} {x : XS} {y : MS} (X : LX p s m c b L xs dC dI cI cT cJ cZ en) (hw : LWd dC dI q q2 cI cT cJ cZ s x y H locs) (hi : i + 6 ≤ L) (hL : L ≤ 3072) (hl : lv_has ls 4 [(3, .int (nI i)), (2, .ref (q2 0)), (1, .ref (q 0)), (0, .ref b)]) (hr : RelT TXd x y) (hc : cells + 5 ≤ 600000) (hs : slots + 412 ≤ 7302250) (again : ∀ (x1 : XS) (y1 : MS) (H1 : Heap) (locs1 : List Loc), RelT TXd x1 y1 → LWd dC dI q q2 cI cT cJ cZ s x1 y1 H1 locs1 → W p l e room_1 s m #[Value.ref b] below meth c H1 locs1 (cells + 5) (slots + 412) Q (F0 m 1048 ls [])) : W p l e room_1 s m #[Value.ref b] below meth c H locs (cells) (slots) Q (F0 m 999 ls []) := by
  obtain ⟨A, B, hr⟩ := hr
  refine lv_aload_n X.1 X.2.1 (dk DL_23 3 rfl) rfl (lv_at hl 2 rfl) ?_
  refine lcX (As := []) (rest := []) (mc := 0) (ms := 0) X hw (m_X11_image_0  x (op_image hr)) (cwV 0 X.2.2.2.2.1 gL_X11_image rfl rfl rfl q_X11_image_0 ⟨Nat.le_of_ble_eq_true rfl, Nat.le_of_ble_eq_true rfl⟩) rfl hl.1 rfl (by decide) (dk DL_23 4 rfl) (by omega) (by omega) (fun r x1 H locs hv hw => ?_)
  refine lv_aload_n X.1 X.2.1 (dk DL_23 5 rfl) rfl (lv_at hl 1 rfl) ?_
  refine lcM (As := []) (rest := [.int r]) X hw (m_image  y hv) (cwV 0 X.2.2.2.2.1 gL_X12_image rfl rfl rfl q_image ⟨Nat.le_of_ble_eq_true rfl, Nat.le_of_ble_eq_true rfl⟩) rfl hl.1 rfl (Nat.le_of_ble_eq_true rfl) (dk DL_23 6 rfl) (by omega) (by omega) (fun r2 y1 H locs hv hw => ?_)
  refine W.widen (k := cells + 5) (n := slots + 412) (by omega) (by omega) ?_
  refine lv_icmp_eq (tgt := 1048) X.1 X.2.1 (dk DL_23 7 rfl) (by decide) (fun _ => again x1 y1 H locs hv.2 hw) (fun z => absurd hv.1 z)
set_option maxHeartbeats 1000000 in
set_option maxRecDepth 20000 in
theorem law_back {p : Program} {l : Launch} {e : Env} {s : State} {m : MethodId} {below : List Frame} {meth : Method} {c : Code} {b L i : Nat} {xs : Nat → Int32} {dC : Nat → ClassId} {dI : Nat → Nat → Nat} {q q2 : Nat → Nat} {cI cT cJ cZ : ClassId} {en : Nat → Nat} {H : Heap} {locs : List Loc} {cells slots : Nat} {Q : State → Prop} {ls : Array Slot} {x : XS} {y : MS} (X : LX p s m c b L xs dC dI cI cT cJ cZ en) (hw : LWd dC dI q q2 cI cT cJ cZ s x y H locs) (hi : i + 6 ≤ L) (hL : L ≤ 3072) (hl : lv_has ls 4 [(3, .int (nI i)), (2, .ref (q2 0)), (1, .ref (q 0)), (0, .ref b)]) (hr : RelT TXd x y) (hc : cells + 5 ≤ 600000) (hs : slots + 412 ≤ 7302250) (again : ∀ (x1 : XS) (y1 : MS) (H1 : Heap) (locs1 : List Loc), RelT TXd x1 y1 → LWd dC dI q q2 cI cT cJ cZ s x1 y1 H1 locs1 → W p l e room_1 s m #[Value.ref b] below meth c H1 locs1 (cells + 5) (slots + 412) Q (F0 m 1048 ls [])) : W p l e room_1 s m #[Value.ref b] below meth c H locs (cells) (slots) Q (F0 m 1012 ls []) := by
  obtain ⟨A, B, hr⟩ := hr
  refine lv_aload_n X.1 X.2.1 (dk DL_23 10 rfl) rfl (lv_at hl 2 rfl) ?_
  refine lcX (As := []) (rest := []) (mc := 0) (ms := 0) X hw (m_X11_back_0  x (op_back hr)) (cwV 0 X.2.2.2.2.1 gL_X11_back rfl rfl rfl q_X11_back_0 ⟨Nat.le_of_ble_eq_true rfl, Nat.le_of_ble_eq_true rfl⟩) rfl hl.1 rfl (by decide) (dk DL_23 11 rfl) (by omega) (by omega) (fun r x1 H locs hv hw => ?_)
  refine lv_aload_n X.1 X.2.1 (dk DL_23 12 rfl) rfl (lv_at hl 1 rfl) ?_
  refine lcM (As := []) (rest := [.int r]) X hw (m_back  y hv) (cwV 0 X.2.2.2.2.1 gL_X12_back rfl rfl rfl q_back ⟨Nat.le_of_ble_eq_true rfl, Nat.le_of_ble_eq_true rfl⟩) rfl hl.1 rfl (Nat.le_of_ble_eq_true rfl) (dk DL_23 13 rfl) (by omega) (by omega) (fun r2 y1 H locs hv hw => ?_)
  refine W.widen (k := cells + 5) (n := slots + 412) (by omega) (by omega) ?_
  refine lv_icmp_eq (tgt := 1048) X.1 X.2.1 (dk DL_23 14 rfl) (by decide) (fun _ => again x1 y1 H locs hv.2 hw) (fun z => absurd hv.1 z)
set_option maxHeartbeats 1000000 in
set_option maxRecDepth 20000 in
theorem law_about {p : Program} {l : Launch} {e : Env} {s : State} {m : MethodId} {below : List Frame} {meth : Method} {c : Code} {b L i : Nat} {xs : Nat → Int32} {dC : Nat → ClassId} {dI : Nat → Nat → Nat} {q q2 : Nat → Nat} {cI cT cJ cZ : ClassId} {en : Nat → Nat} {H : Heap} {locs : List Loc} {cells slots : Nat} {Q : State → Prop} {ls : Array Slot} {x : XS} {y : MS} (X : LX p s m c b L xs dC dI cI cT cJ cZ en) (hw : LWd dC dI q q2 cI cT cJ cZ s x y H locs) (hi : i + 6 ≤ L) (hL : L ≤ 3072) (hl : lv_has ls 4 [(3, .int (nI i)), (2, .ref (q2 0)), (1, .ref (q 0)), (0, .ref b)]) (hr : RelT TXd x y) (hc : cells + 5 ≤ 600000) (hs : slots + 412 ≤ 7302250) (again : ∀ (x1 : XS) (y1 : MS) (H1 : Heap) (locs1 : List Loc), RelT TXd x1 y1 → LWd dC dI q q2 cI cT cJ cZ s x1 y1 H1 locs1 → W p l e room_1 s m #[Value.ref b] below meth c H1 locs1 (cells + 5) (slots + 412) Q (F0 m 1048 ls [])) : W p l e room_1 s m #[Value.ref b] below meth c H locs (cells) (slots) Q (F0 m 1025 ls []) := by
  obtain ⟨A, B, hr⟩ := hr
  refine lv_aload_n X.1 X.2.1 (dk DL_23 17 rfl) rfl (lv_at hl 2 rfl) ?_
  refine ldS (k := 1) X hw hi hL hl (by decide) (by decide) (dk DL_23 18 rfl) (dk DL_23 19 rfl) (dk DL_23 20 rfl) (dk DL_23 21 rfl) (dk DL_23 22 rfl) ?_
  refine lcX (As := [.int (xs (i + 1))]) (rest := []) (mc := 0) (ms := 0) X hw (m_X11_about_0 (xs (i + 1)) x (op_about hr)) (cwV 1 X.2.2.2.2.1 gL_X11_about rfl rfl rfl q_X11_about_0 ⟨Nat.le_of_ble_eq_true rfl, Nat.le_of_ble_eq_true rfl⟩) rfl hl.1 rfl (by decide) (dk DL_23 23 rfl) (by omega) (by omega) (fun r x1 H locs hv hw => ?_)
  refine lv_aload_n X.1 X.2.1 (dk DL_23 24 rfl) rfl (lv_at hl 1 rfl) ?_
  refine ldS (k := 1) X hw hi hL hl (by decide) (by decide) (dk DL_23 25 rfl) (dk DL_23 26 rfl) (dk DL_23 27 rfl) (dk DL_23 28 rfl) (dk DL_23 29 rfl) ?_
  refine lcM (As := [.int (xs (i + 1))]) (rest := [.int r]) X hw (m_about (xs (i + 1)) y hv) (cwV 1 X.2.2.2.2.1 gL_X12_about rfl rfl rfl q_about ⟨Nat.le_of_ble_eq_true rfl, Nat.le_of_ble_eq_true rfl⟩) rfl hl.1 rfl (Nat.le_of_ble_eq_true rfl) (dk DL_24 0 rfl) (by omega) (by omega) (fun r2 y1 H locs hv hw => ?_)
  refine W.widen (k := cells + 5) (n := slots + 412) (by omega) (by omega) ?_
  refine lv_icmp_eq (tgt := 1048) X.1 X.2.1 (dk DL_24 1 rfl) (by decide) (fun _ => again x1 y1 H locs hv.2 hw) (fun z => absurd hv.1 z)
set_option maxHeartbeats 1000000 in
set_option maxRecDepth 20000 in
theorem law_quarrel2 {p : Program} {l : Launch} {e : Env} {s : State} {m : MethodId} {below : List Frame} {meth : Method} {c : Code} {b L i : Nat} {xs : Nat → Int32} {dC : Nat → ClassId} {dI : Nat → Nat → Nat} {q q2 : Nat → Nat} {cI cT cJ cZ : ClassId} {en : Nat → Nat} {H : Heap} {locs : List Loc} {cells slots : Nat} {Q : State → Prop} {ls : Array Slot} {x : XS} {y : MS} {v : Int32} (X : LX p s m c b L xs dC dI cI cT cJ cZ en) (hw : LWd dC dI q q2 cI cT cJ cZ s x y H locs) (hi : i + 6 ≤ L) (hL : L ≤ 3072) (hl : lv_has ls 4 [(3, .int (nI i)), (2, .ref (q2 0)), (1, .ref (q 0)), (0, .ref b)]) (hr : RelT TXd x y) (hc : cells + 5 ≤ 600000) (hs : slots + 412 ≤ 7302250) (hv0 : (xs (i + 3) = 0 → v = 0) ∧ (¬ xs (i + 3) = 0 → v = 1)) (again : ∀ (x1 : XS) (y1 : MS) (H1 : Heap) (locs1 : List Loc), RelT TXd x1 y1 → LWd dC dI q q2 cI cT cJ cZ s x1 y1 H1 locs1 → W p l e room_1 s m #[Value.ref b] below meth c H1 locs1 (cells + 5) (slots + 412) Q (F0 m 1048 ls [])) : W p l e room_1 s m #[Value.ref b] below meth c H locs (cells) (slots) Q (F0 m 231 ls [.int v, .int (xs (i + 2)), .int (xs (i + 1)), .ref (q 0)]) := by
  obtain ⟨A, B, hr⟩ := hr
  refine lcX (As := [.int (xs (i + 1)), .int (xs (i + 2)), .int v]) (rest := []) (mc := 0) (ms := 0) X hw (m_X11_quarrel_0 (xs (i + 1)) (xs (i + 2)) v x (op_quarrel hr)) (cwV 3 X.2.2.2.2.1 gL_X11_quarrel rfl rfl rfl q_X11_quarrel_0 ⟨Nat.le_of_ble_eq_true rfl, Nat.le_of_ble_eq_true rfl⟩) rfl hl.1 rfl (by decide) (dk DL_2 19 rfl) (by omega) (by omega) (fun r x1 H locs hv hw => ?_)
  refine lv_aload_n X.1 X.2.1 (dk DL_2 20 rfl) rfl (lv_at hl 1 rfl) ?_
  refine ldS (k := 1) X hw hi hL hl (by decide) (by decide) (dk DL_2 21 rfl) (dk DL_2 22 rfl) (dk DL_2 23 rfl) (dk DL_2 24 rfl) (dk DL_2 25 rfl) ?_
  refine ldS (k := 2) X hw hi hL hl (by decide) (by decide) (dk DL_2 26 rfl) (dk DL_2 27 rfl) (dk DL_2 28 rfl) (dk DL_2 29 rfl) (dk DL_3 0 rfl) ?_
  refine ldS (k := 3) X hw hi hL hl (by decide) (by decide) (dk DL_3 1 rfl) (dk DL_3 2 rfl) (dk DL_3 3 rfl) (dk DL_3 4 rfl) (dk DL_3 5 rfl) ?_
  have fin : W p l e room_1 s m #[Value.ref b] below meth c H locs (cells + 0) (slots + 0) Q (F0 m 258 ls [.int v, .int (xs (i + 2)), .int (xs (i + 1)), .ref (q2 0), .int r]) := by
    refine lcM (As := [.int (xs (i + 1)), .int (xs (i + 2)), .int v]) (rest := [.int r]) X hw (m_quarrel (xs (i + 1)) (xs (i + 2)) v y hv) (cwV 3 X.2.2.2.2.1 gL_X12_quarrel rfl rfl rfl q_quarrel ⟨Nat.le_of_ble_eq_true rfl, Nat.le_of_ble_eq_true rfl⟩) rfl hl.1 rfl (Nat.le_of_ble_eq_true rfl) (dk DL_3 10 rfl) (by omega) (by omega) (fun r2 y1 H locs hv hw => ?_)
    refine W.widen (k := cells + 5) (n := slots + 412) (by omega) (by omega) ?_
    refine lv_icmp_eq (tgt := 1048) X.1 X.2.1 (dk DL_3 11 rfl) (by decide) (fun _ => again x1 y1 H locs hv.2 hw) (fun z => absurd hv.1 z)
  refine lv_if_eq (tgt := 257) X.1 X.2.1 (dk DL_3 6 rfl) (by decide) (fun z => ?_) (fun z => ?_)
  · have ev := hv0.1 z
    subst ev
    exact lv_iconst (v := 0) X.1 X.2.1 (dk DL_3 9 rfl) (by decide) fin
  · have ev := hv0.2 z
    subst ev
    exact lv_iconst (v := 1) X.1 X.2.1 (dk DL_3 7 rfl) (by decide) (lv_goto (tgt := 258) X.1 X.2.1 (dk DL_3 8 rfl) (by decide) fin)
set_option maxHeartbeats 1000000 in
set_option maxRecDepth 20000 in
theorem law_quarrel {p : Program} {l : Launch} {e : Env} {s : State} {m : MethodId} {below : List Frame} {meth : Method} {c : Code} {b L i : Nat} {xs : Nat → Int32} {dC : Nat → ClassId} {dI : Nat → Nat → Nat} {q q2 : Nat → Nat} {cI cT cJ cZ : ClassId} {en : Nat → Nat} {H : Heap} {locs : List Loc} {cells slots : Nat} {Q : State → Prop} {ls : Array Slot} {x : XS} {y : MS} (X : LX p s m c b L xs dC dI cI cT cJ cZ en) (hw : LWd dC dI q q2 cI cT cJ cZ s x y H locs) (hi : i + 6 ≤ L) (hL : L ≤ 3072) (hl : lv_has ls 4 [(3, .int (nI i)), (2, .ref (q2 0)), (1, .ref (q 0)), (0, .ref b)]) (hr : RelT TXd x y) (hc : cells + 5 ≤ 600000) (hs : slots + 412 ≤ 7302250) (again : ∀ (x1 : XS) (y1 : MS) (H1 : Heap) (locs1 : List Loc), RelT TXd x1 y1 → LWd dC dI q q2 cI cT cJ cZ s x1 y1 H1 locs1 → W p l e room_1 s m #[Value.ref b] below meth c H1 locs1 (cells + 5) (slots + 412) Q (F0 m 1048 ls [])) : W p l e room_1 s m #[Value.ref b] below meth c H locs (cells) (slots) Q (F0 m 207 ls []) := by
  refine lv_aload_n X.1 X.2.1 (dk DL_1 29 rfl) rfl (lv_at hl 2 rfl) ?_
  refine ldS (k := 1) X hw hi hL hl (by decide) (by decide) (dk DL_2 0 rfl) (dk DL_2 1 rfl) (dk DL_2 2 rfl) (dk DL_2 3 rfl) (dk DL_2 4 rfl) ?_
  refine ldS (k := 2) X hw hi hL hl (by decide) (by decide) (dk DL_2 5 rfl) (dk DL_2 6 rfl) (dk DL_2 7 rfl) (dk DL_2 8 rfl) (dk DL_2 9 rfl) ?_
  refine ldS (k := 3) X hw hi hL hl (by decide) (by decide) (dk DL_2 10 rfl) (dk DL_2 11 rfl) (dk DL_2 12 rfl) (dk DL_2 13 rfl) (dk DL_2 14 rfl) ?_
  refine lv_if_eq (tgt := 230) X.1 X.2.1 (dk DL_2 15 rfl) (by decide) (fun z => ?_) (fun z => ?_)
  · exact lv_iconst (v := 0) X.1 X.2.1 (dk DL_2 18 rfl) (by decide) (law_quarrel2 X hw hi hL hl hr hc hs ⟨fun _ => rfl, fun w => absurd z w⟩ again)
  · exact lv_iconst (v := 1) X.1 X.2.1 (dk DL_2 16 rfl) (by decide) (lv_goto (tgt := 231) X.1 X.2.1 (dk DL_2 17 rfl) (by decide) (law_quarrel2 X hw hi hL hl hr hc hs ⟨fun w => absurd w z, fun _ => rfl⟩ again))
