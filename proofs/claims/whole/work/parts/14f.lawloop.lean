/-! the law: its loop -/
theorem all32 (z : Int32) : ∃ n : Nat, z = nI n := ⟨z.toBitVec.toNat, by
  apply Int32.toBitVec_inj.mp
  show z.toBitVec = BitVec.ofNat 32 z.toBitVec.toNat
  rw [BitVec.ofNat_toNat, BitVec.setWidth_eq]⟩
theorem and31 (z : Int32) : ∃ n : Nat, n < 32 ∧ z &&& 31 = nI n := by
  obtain ⟨n, e⟩ := all32 z
  refine ⟨n &&& 31, ?_, by rw [e, show (31 : Int32) = nI 31 from rfl, nand]⟩
  have := Nat.and_two_pow_sub_one_eq_mod n 5
  rw [show (31 : Nat) = 2 ^ 5 - 1 from rfl, this]
  omega
section LLOOP
variable {p : Program} {l : Launch} {e : Env} {s : State} {m : MethodId} {below : List Frame} {meth : Method} {c : Code} {b L : Nat} {xs : Nat → Int32} {dC : Nat → ClassId} {dI : Nat → Nat → Nat} {q q2 : Nat → Nat} {cI cT cJ cZ : ClassId} {en : Nat → Nat}
set_option maxHeartbeats 2000000 in
set_option maxRecDepth 20000 in
theorem law_step {i : Nat} {H : Heap} {locs : List Loc} {cells slots : Nat} {Q : State → Prop} {ls : Array Slot} {x : XS} {y : MS} (X : LX p s m c b L xs dC dI cI cT cJ cZ en) (hw : LWd dC dI q q2 cI cT cJ cZ s x y H locs) (hi : i + 6 ≤ L) (hL : L ≤ 3072) (hl : lv_has ls 4 [(3, .int (nI i)), (2, .ref (q2 0)), (1, .ref (q 0)), (0, .ref b)]) (hr : RelT TXd x y) (hc : cells + 5 ≤ 600000) (hs : slots + 412 ≤ 7302250)
    (again : ∀ (x1 : XS) (y1 : MS) (H1 : Heap) (locs1 : List Loc), RelT TXd x1 y1 → LWd dC dI q q2 cI cT cJ cZ s x1 y1 H1 locs1 → W p l e room_1 s m #[Value.ref b] below meth c H1 locs1 (cells + 5) (slots + 412) Q (F0 m 1048 ls [])) : W p l e room_1 s m #[Value.ref b] below meth c H locs cells slots Q (F0 m 27 ls []) := by
  refine lv_aload_n X.1 X.2.1 (dk DL_0 16 rfl) rfl (lv_at hl 3 rfl) ?_
  refine lv_iload_n X.1 X.2.1 (dk DL_0 17 rfl) rfl (lv_at hl 0 rfl) ?_
  refine va_sld X.1 X.2.1 X.2.2.2.2.2.1 X.2.2.2.2.2.2.1 (Nat.not_le.mpr X.2.2.2.2.2.2.1) hw.2.2 (vp_in_nI (by omega) (by omega)) (dk DL_0 18 rfl) ?_
  refine lv_bipush (v := 31) X.1 X.2.1 (dk DL_0 19 rfl) (by decide) ?_
  refine lv_iand X.1 X.2.1 (dk DL_0 20 rfl) ?_
  refine lv_topi (fun z ez => ?_)
  obtain ⟨n, n32, en⟩ := and31 (xs (nI i).toNatClampNeg)
  rw [en] at ez
  subst ez
  have ti : (nI n).toInt = (n : Int) := ntoInt (by omega)
  by_cases h29 : n < 29
  · have h1 : ¬ (nI n).toInt < 0 := by rw [ti]; omega
    have h2 : ¬ 28 < (nI n).toInt := by rw [ti]; omega
    have cs : n = 0 ∨ n = 1 ∨ n = 2 ∨ n = 3 ∨ n = 4 ∨ n = 5 ∨ n = 6 ∨ n = 7 ∨ n = 8 ∨ n = 9 ∨ n = 10 ∨ n = 11 ∨ n = 12 ∨ n = 13 ∨ n = 14 ∨ n = 15 ∨ n = 16 ∨ n = 17 ∨ n = 18 ∨ n = 19 ∨ n = 20 ∨ n = 21 ∨ n = 22 ∨ n = 23 ∨ n = 24 ∨ n = 25 ∨ n = 26 ∨ n = 27 ∨ n = 28 := by omega
    rcases cs with h | h | h | h | h | h | h | h | h | h | h | h | h | h | h | h | h | h | h | h | h | h | h | h | h | h | h | h | h <;> subst h
    · exact lv_tableIn (tgt := 164) X.1 X.2.1 (dk DL_0 21 rfl) h1 h2 (show _ = some 131 from by decide) (by decide) (law_blower X hw hi hL hl hr hc hs again)
    · exact lv_tableIn (tgt := 207) X.1 X.2.1 (dk DL_0 21 rfl) h1 h2 (show _ = some 174 from by decide) (by decide) (law_quarrel X hw hi hL hl hr hc hs again)
    · exact lv_tableIn (tgt := 266) X.1 X.2.1 (dk DL_0 21 rfl) h1 h2 (show _ = some 233 from by decide) (by decide) (law_kind X hw hi hL hl hr hc hs again)
    · exact lv_tableIn (tgt := 309) X.1 X.2.1 (dk DL_0 21 rfl) h1 h2 (show _ = some 276 from by decide) (by decide) (law_feed X hw hi hL hl hr hc hs again)
    · exact lv_tableIn (tgt := 372) X.1 X.2.1 (dk DL_0 21 rfl) h1 h2 (show _ = some 339 from by decide) (by decide) (law_end X hw hi hL hl hr hc hs again)
    · exact lv_tableIn (tgt := 395) X.1 X.2.1 (dk DL_0 21 rfl) h1 h2 (show _ = some 362 from by decide) (by decide) (law_text X hw hi hL hl hr hc hs again)
    · exact lv_tableIn (tgt := 408) X.1 X.2.1 (dk DL_0 21 rfl) h1 h2 (show _ = some 375 from by decide) (by decide) (law_fault X hw hi hL hl hr hc hs again)
    · exact lv_tableIn (tgt := 431) X.1 X.2.1 (dk DL_0 21 rfl) h1 h2 (show _ = some 398 from by decide) (by decide) (law_by X hw hi hL hl hr hc hs again)
    · exact lv_tableIn (tgt := 454) X.1 X.2.1 (dk DL_0 21 rfl) h1 h2 (show _ = some 421 from by decide) (by decide) (law_smoke X hw hi hL hl hr hc hs again)
    · exact lv_tableIn (tgt := 477) X.1 X.2.1 (dk DL_0 21 rfl) h1 h2 (show _ = some 444 from by decide) (by decide) (law_cost X hw hi hL hl hr hc hs again)
    · exact lv_tableIn (tgt := 510) X.1 X.2.1 (dk DL_0 21 rfl) h1 h2 (show _ = some 477 from by decide) (by decide) (law_begin X hw hi hL hl hr hc hs again)
    · exact lv_tableIn (tgt := 533) X.1 X.2.1 (dk DL_0 21 rfl) h1 h2 (show _ = some 500 from by decide) (by decide) (law_blow X hw hi hL hl hr hc hs again)
    · exact lv_tableIn (tgt := 576) X.1 X.2.1 (dk DL_0 21 rfl) h1 h2 (show _ = some 543 from by decide) (by decide) (law_later X hw hi hL hl hr hc hs again)
    · exact lv_tableIn (tgt := 599) X.1 X.2.1 (dk DL_0 21 rfl) h1 h2 (show _ = some 566 from by decide) (by decide) (law_sell X hw hi hL hl hr hc hs again)
    · exact lv_tableIn (tgt := 622) X.1 X.2.1 (dk DL_0 21 rfl) h1 h2 (show _ = some 589 from by decide) (by decide) (law_played X hw hi hL hl hr hc hs again)
    · exact lv_tableIn (tgt := 645) X.1 X.2.1 (dk DL_0 21 rfl) h1 h2 (show _ = some 612 from by decide) (by decide) (law_undo X hw hi hL hl hr hc hs again)
    · exact lv_tableIn (tgt := 658) X.1 X.2.1 (dk DL_0 21 rfl) h1 h2 (show _ = some 625 from by decide) (by decide) (law_of X hw hi hL hl hr hc hs again)
    · exact lv_tableIn (tgt := 691) X.1 X.2.1 (dk DL_0 21 rfl) h1 h2 (show _ = some 658 from by decide) (by decide) (law_piece X hw hi hL hl hr hc hs again)
    · exact lv_tableIn (tgt := 724) X.1 X.2.1 (dk DL_0 21 rfl) h1 h2 (show _ = some 691 from by decide) (by decide) (law_bubble X hw hi hL hl hr hc hs again)
    · exact lv_tableIn (tgt := 757) X.1 X.2.1 (dk DL_0 21 rfl) h1 h2 (show _ = some 724 from by decide) (by decide) (law_odds X hw hi hL hl hr hc hs again)
    · exact lv_tableIn (tgt := 791) X.1 X.2.1 (dk DL_0 21 rfl) h1 h2 (show _ = some 758 from by decide) (by decide) (law_plan X hw hi hL hl hr hc hs again)
    · exact lv_tableIn (tgt := 834) X.1 X.2.1 (dk DL_0 21 rfl) h1 h2 (show _ = some 801 from by decide) (by decide) (law_seen X hw hi hL hl hr hc hs again)
    · exact lv_tableIn (tgt := 857) X.1 X.2.1 (dk DL_0 21 rfl) h1 h2 (show _ = some 824 from by decide) (by decide) (law_whose X hw hi hL hl hr hc hs again)
    · exact lv_tableIn (tgt := 880) X.1 X.2.1 (dk DL_0 21 rfl) h1 h2 (show _ = some 847 from by decide) (by decide) (law_tell X hw hi hL hl hr hc hs again)
    · exact lv_tableIn (tgt := 933) X.1 X.2.1 (dk DL_0 21 rfl) h1 h2 (show _ = some 900 from by decide) (by decide) (law_liars X hw hi hL hl hr hc hs again)
    · exact lv_tableIn (tgt := 946) X.1 X.2.1 (dk DL_0 21 rfl) h1 h2 (show _ = some 913 from by decide) (by decide) (law_coughs X hw hi hL hl hr hc hs again)
    · exact lv_tableIn (tgt := 999) X.1 X.2.1 (dk DL_0 21 rfl) h1 h2 (show _ = some 966 from by decide) (by decide) (law_image X hw hi hL hl hr hc hs again)
    · exact lv_tableIn (tgt := 1012) X.1 X.2.1 (dk DL_0 21 rfl) h1 h2 (show _ = some 979 from by decide) (by decide) (law_back X hw hi hL hl hr hc hs again)
    · exact lv_tableIn (tgt := 1025) X.1 X.2.1 (dk DL_0 21 rfl) h1 h2 (show _ = some 992 from by decide) (by decide) (law_about X hw hi hL hl hr hc hs again)
  · refine lv_tableOut (tgt := 1048) X.1 X.2.1 (dk DL_0 21 rfl) (Or.inr (by rw [ti]; omega)) (by decide) ?_
    exact W.widen (k := cells + 5) (n := slots + 412) (by omega) (by omega) (again x y H locs hr hw)
theorem law_gt {a L : Nat} (h : L < a + 6) (ha : a ≤ 4000) (hL : L ≤ 3072) : nI a > Int32.ofNat L - 6 := by
  show Int32.ofNat L - 6 < nI a
  rw [Int32.lt_iff_toInt_lt, ntoInt (by omega), Int32.toInt_sub, show (Int32.ofNat L).toInt = (L : Int) from ntoInt (n := L) (by omega), show (6 : Int32).toInt = 6 from by decide, bm32 (by omega) (by omega)]
  omega
theorem law_exit {H : Heap} {locs : List Loc} {cells slots : Nat} {ls : Array Slot} {x : XS} {y : MS} (X : LX p s m c b L xs dC dI cI cT cJ cZ en) (hrt : meth.sig.returnType = ret) (hlk : meth.locks = false) (hw : LWd dC dI q q2 cI cT cJ cZ s x y H locs) (hc : cells ≤ 600000) (hs : slots ≤ 7302250) : W p l e room_1 s m #[Value.ref b] below meth c H locs cells slots (lw_Z below #[Value.ref b] s) (F0 m 1054 ls []) := by
  refine lv_iconst (v := 1) X.1 X.2.1 (dk DL_24 6 rfl) (by decide) ?_
  refine va_forget (fun z hz => hw.2.2.2.2 z hz) ?_
  refine W.widen (k := 600000) (n := 7302250) hc hs ?_
  exact lw_ret X.1 X.2.1 hrt hlk (dk DL_24 7 rfl)
set_option maxHeartbeats 2000000 in
set_option maxRecDepth 20000 in
theorem law_loop (X : LX p s m c b L xs dC dI cI cT cJ cZ en) (hrt : meth.sig.returnType = ret) (hlk : meth.locks = false) (hL : L ≤ 3072) : ∀ (n k : Nat) (x : XS) (y : MS) (H : Heap) (locs : List Loc) (ls : Array Slot), L < 6 * k + 6 * n + 6 → 6 * k ≤ L → RelT TXd x y → LWd dC dI q q2 cI cT cJ cZ s x y H locs → lv_has ls 4 [(3, .int (nI (6 * k))), (2, .ref (q2 0)), (1, .ref (q 0)), (0, .ref b)] → W p l e room_1 s m #[Value.ref b] below meth c H locs (75 + 5 * k) (19000 + 412 * k) (lw_Z below #[Value.ref b] s) (F0 m 18 ls []) := by
  intro n
  induction n with
  | zero =>
    intro k x y H locs ls hn hk hr hw hl
    refine lv_iload_n X.1 X.2.1 (dk DL_0 10 rfl) rfl (lv_at hl 0 rfl) ?_
    refine lv_aload_n X.1 X.2.1 (dk DL_0 11 rfl) rfl (lv_at hl 3 rfl) ?_
    refine va_slen X.1 X.2.1 X.2.2.2.2.2.1 X.2.2.2.2.2.2.1 (Nat.not_le.mpr X.2.2.2.2.2.2.1) hw.2.2 (dk DL_0 12 rfl) ?_
    refine lv_bipush (v := 6) X.1 X.2.1 (dk DL_0 13 rfl) (by decide) ?_
    refine lv_isub X.1 X.2.1 (dk DL_0 14 rfl) ?_
    refine lv_icmp_gt (tgt := 1054) X.1 X.2.1 (dk DL_0 15 rfl) (by decide) (fun cc => ?_) (fun cc => absurd ?_ cc)
    · exact law_exit X hrt hlk hw (by omega) (by omega)
    · exact law_gt (by omega) (by omega) (by omega)
  | succ n ih =>
    intro k x y H locs ls hn hk hr hw hl
    refine lv_iload_n X.1 X.2.1 (dk DL_0 10 rfl) rfl (lv_at hl 0 rfl) ?_
    refine lv_aload_n X.1 X.2.1 (dk DL_0 11 rfl) rfl (lv_at hl 3 rfl) ?_
    refine va_slen X.1 X.2.1 X.2.2.2.2.2.1 X.2.2.2.2.2.2.1 (Nat.not_le.mpr X.2.2.2.2.2.2.1) hw.2.2 (dk DL_0 12 rfl) ?_
    refine lv_bipush (v := 6) X.1 X.2.1 (dk DL_0 13 rfl) (by decide) ?_
    refine lv_isub X.1 X.2.1 (dk DL_0 14 rfl) ?_
    refine lv_icmp_gt (tgt := 1054) X.1 X.2.1 (dk DL_0 15 rfl) (by decide) (fun cc => ?_) (fun cc => ?_)
    · exact law_exit X hrt hlk hw (by omega) (by omega)
    · have h6 : 6 * k + 6 ≤ L := by
        rcases Nat.lt_or_ge L (6 * k + 6) with z | z
        · exact absurd (law_gt z (by omega) hL) cc
        · exact z
      refine law_step X hw h6 hL hl hr (by omega) (by omega) (fun x1 y1 H1 locs1 hr1 hw1 => ?_)
      refine lv_iinc (v := nI (6 * (k + 1))) (lv' := [(3, .int (nI (6 * (k + 1)))), (2, .ref (q2 0)), (1, .ref (q 0)), (0, .ref b)]) X.1 X.2.1 (dk DL_24 4 rfl) hl (k := 0) rfl ?_ (by decide) rfl (fun ls1 hl1 => ?_)
      · rw [show Int32.ofInt 6 = nI 6 from by decide, nadd, show 6 * k + 6 = 6 * (k + 1) by omega]
      · refine lv_goto (tgt := 18) X.1 X.2.1 (dk DL_24 5 rfl) (by decide) ?_
        refine W.widen (k := 75 + 5 * (k + 1)) (n := 19000 + 412 * (k + 1)) (by omega) (by omega) ?_
        exact ih (k + 1) x1 y1 H1 locs1 ls1 (by omega) (by omega) hr1 hw1 hl1
end LLOOP
