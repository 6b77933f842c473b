/-! plan: the reference reckons; both together -/
section RECK
variable {A : Nat → Nat} {sm : Nat → Nat} {co : Nat → Nat → Nat} {H s : Nat}
/-- what the reference has of done set D from hour h1 on -/
def TabM (A : Nat → Nat) (sm : Nat → Nat) (co : Nat → Nat → Nat) (H s : Nat) (S : MS) (D h1 : Nat) : Prop := ∀ h, h1 ≤ h → h ≤ H → S.2.2.1 26 (26 * D + h) = iI (beF A sm co H (dif s D) h).1 ∧ S.2.2.1 27 (26 * D + h) = nI (beF A sm co H (dif s D) h).2.1
theorem r_by {Post : Int32 → MS → Prop} {S : MS} {D h c : Nat} (hI : Inv A) (hy : S.2.2.1 0 = enc A) (hla : laM S A sm co H) (hH : H ≤ 24) (hs : ∀ h, sm h ≤ 40) (hc : ∀ h b, co h b ≤ 99) (hk : kbOK A) (hsm : s < 2 ^ A 1) (hD : D < 64) (hh : h ≤ H) (hc6 : c < 600) (hT : ∀ D', D < D' → D' < 64 → (∀ t, D'.testBit t = true → D.testBit t = true ∨ s.testBit t = true) → TabM A sm co H s S D' 0)
    (h1 : ∀ v e g S', cdF A sm co H (beF A sm co H) (dif s D) h c = some v → doF A sm co H (c / 100) (c % 100 / 10) (c % 10) h = some (e, g) → v = (g + (beF A sm co H (clr (dif s D) (c / 100)) (e + 1)).1, (beF A sm co H (clr (dif s D) (c / 100)) (e + 1)).2.1 + 1) → D ||| 2 ^ (c / 100) < 64 → e < H → S'.2.2.1 27 (26 * (D ||| 2 ^ (c / 100)) + (e + 1)) = nI (beF A sm co H (clr (dif s D) (c / 100)) (e + 1)).2.1 → QFr S S' → S'.1 29 = nI (e + 1) → Post (iI v.1) S')
    (h0 : ∀ S', cdF A sm co H (beF A sm co H) (dif s D) h c = none → QFr S S' → Post (-100000000) S') : VC_by_ Post (nI D) (nI h) (nI c) (nI s) (nI H) S := by
  obtain ⟨b0, b1, b2, b3, b4, b5, b6, b7, b8, b9⟩ := hI.b
  have p6 : 2 ^ A 1 ≤ 64 := pow6 b1
  refine ⟨by decide, fun v1 e1 => ?_⟩
  rw [L100, pk_div (by omega) (by decide) (by decide)] at e1
  have er : nI c - nI c / 100 * 100 = nI (c % 100) := by rw [L100, pk_rem (by omega) (by decide) (by decide)]
  rw [er, e1, L1, ndif (by omega)]
  have dl := dif_lt (s := D) hsm
  refine has_of rfl rfl (by omega) (by omega) (fun hb => ⟨fun z => absurd z (by decide), fun _ => ⟨by decide, ?_⟩⟩) (fun hb => ⟨fun _ => h0 S (cd_none (fun z => by rw [hb] at z; exact absurd z.1 (by decide))) (QFr.refl S), fun z => absurd rfl z⟩)
  have et : nI (c % 100) / 10 = nI (c % 100 / 10) := by rw [L10, pk_div (by omega) (by decide) (by decide)]
  have eo : nI (c % 100) - nI (c % 100) / 10 * 10 = nI (c % 10) := by rw [L10, pk_rem (by omega) (by decide) (by decide)]; congr 1; omega
  refine ⟨by decide, by decide, ?_⟩
  rw [eo, et, nlt (by omega) (by omega)]
  refine ⟨fun hlt => ⟨fun _ => h0 S (cd_none (fun z => absurd z.2.1 (by omega))) (QFr.refl S), fun z => absurd rfl z⟩, fun hge => ⟨by decide, litIn 0 (by decide) (by decide), ?_⟩⟩
  rw [show S.2.2.1 0 (0 : Int32).toNatClampNeg = nI (A 0) from enc_cell (k := 0) hy (by decide) (by decide), nle (by omega) (by omega)]
  refine ⟨fun hle => ⟨fun _ => h0 S (cd_none (fun z => absurd z.2.2 (by omega))) (QFr.refl S), fun z => absurd rfl z⟩, fun hgt => ⟨fun z => absurd z (by decide), fun _ => ⟨by decide, ?_⟩⟩⟩
  have hkb : s.testBit (c / 100) = true ∧ D.testBit (c / 100) = false := by
    rw [dif_bit] at hb
    cases z1 : s.testBit (c / 100) <;> cases z2 : D.testBit (c / 100)
    · rw [z1] at hb; exact absurd hb (by simp)
    · rw [z1] at hb; exact absurd hb (by simp)
    · exact ⟨rfl, rfl⟩
    · rw [z1, z2] at hb; exact absurd hb (by simp)
  have k1 : c / 100 < A 1 := by
    by_cases z : c / 100 < A 1
    · exact z
    · have := hkb.1
      rw [Nat.testBit_lt_two_pow (Nat.lt_of_lt_of_le hsm (Nat.pow_le_pow_right (by decide) (by omega)))] at this
      exact absurd this (by decide)
  have ec : nI (c % 100) = nI (10 * (c % 100 / 10) + c % 10) := by congr 1; omega
  rw [ec]
  have kk := hk.2 (c / 100) k1
  refine r_done hI hy hla hH hs hc k1 (by omega) (by omega) hh (fun d S' ed f' g1 g2 => ⟨fun _ => ?_, fun z => absurd z (by decide)⟩) (fun S' ed f' => ⟨fun z => absurd rfl z, fun _ => h0 S' ?_ f'⟩)
  · have db := doF_b hc kk.2 kk.1 ed
    have sh : nI 1 <<< (nI (c / 100) &&& 31) = nI (2 ^ (c / 100)) := by rw [L31, nshl1 (by omega)]
    have d64 : D ||| 2 ^ (c / 100) < 2 ^ 6 := Nat.or_lt_two_pow hD (Nat.pow_lt_pow_right (by decide) (by omega))
    have ix : 26 * (nI D ||| nI 1 <<< (nI (c / 100) &&& 31)) + S'.1 29 = nI (26 * (D ||| 2 ^ (c / 100)) + (d.1 + 1)) := by rw [sh, nor, g1, L26, nmul, nadd]
    have tt := hT (D ||| 2 ^ (c / 100)) (or_gt hkb.2) d64 (fun t ht => by
      rw [Nat.testBit_or, Nat.testBit_two_pow] at ht
      cases z : D.testBit t
      · rw [z] at ht
        simp at ht
        right; rw [← ht]; exact hkb.1
      · left; rfl) (d.1 + 1) (by omega) (by omega)
    rw [dif_or] at tt
    rw [ix, ncl (by omega), f'.2, tt.1, g2, iI_add]
    refine ⟨vp_in_nI (by omega) (by decide), ?_⟩
    refine h1 (d.2 + (beF A sm co H (clr (dif s D) (c / 100)) (d.1 + 1)).1, (beF A sm co H (clr (dif s D) (c / 100)) (d.1 + 1)).2.1 + 1) d.1 d.2 S' ?_ ed rfl d64 db.2.1 (by rw [f'.2]; exact tt.2) f' g1
    unfold cdF
    rw [if_pos ⟨hb, (by omega), (by omega)⟩, ed]
    rfl
  · unfold cdF
    rw [ed]
    split <;> rfl
theorem r_reckon {Post : MS → Prop} {S : MS} {D h : Nat} (hI : Inv A) (hy : S.2.2.1 0 = enc A) (hla : laM S A sm co H) (hH : H ≤ 24) (hs : ∀ h, sm h ≤ 40) (hc : ∀ h b, co h b ≤ 99) (hk : kbOK A) (hsm : s < 2 ^ A 1) (hD : D < 64) (hh : h ≤ H) (hT : ∀ D', D < D' → D' < 64 → (∀ t, D'.testBit t = true → D.testBit t = true ∨ s.testBit t = true) → TabM A sm co H s S D' 0)
    (hP : ∀ S', (∀ k, k ≠ 28 → k ≠ 29 → S'.1 k = S.1 k) → (∀ k, k ≠ 26 → k ≠ 27 → S'.2.2.1 k = S.2.2.1 k) → (∀ i, i ≠ 26 * D + h → S'.2.2.1 26 i = S.2.2.1 26 i ∧ S'.2.2.1 27 i = S.2.2.1 27 i) → S'.2.2.1 26 (26 * D + h) = iI (beF A sm co H (dif s D) h).1 → S'.2.2.1 27 (26 * D + h) = nI (beF A sm co H (dif s D) h).2.1 → Post S') : VC_reckon Post (nI D) (nI h) (nI s) (nI H) S := by
  obtain ⟨b0, b1, b2, b3, b4, b5, b6, b7, b8, b9⟩ := hI.b
  have p6 : 2 ^ A 1 ≤ 64 := pow6 b1
  have hR : dif s D < 2 ^ A 1 := dif_lt hsm
  have hR6 : dif s D < 64 := Nat.lt_of_lt_of_le (dif_lt hsm) p6
  intro K hK v1 e1
  have ex : v1 = nI (26 * D + h) := by rw [e1, L26, nmul, nadd]
  rw [ex, ncl (by omega)]
  refine ⟨vp_in_nI (by omega) (by decide), fun S2 e2 => ⟨vp_in_nI (by omega) (by decide), fun S3 e3 => ?_⟩⟩
  have loop : ∀ n c : Nat, ∀ U : MS, c + n = 600 → (∀ k, k ≠ 28 → k ≠ 29 → U.1 k = S.1 k) → (∀ k, k ≠ 26 → k ≠ 27 → U.2.2.1 k = S.2.2.1 k) → (∀ i, i ≠ 26 * D + h → U.2.2.1 26 i = S.2.2.1 26 i ∧ U.2.2.1 27 i = S.2.2.1 27 i) → U.2.2.1 26 (26 * D + h) = iI (foF (cdF A sm co H (beF A sm co H) (dif s D) h) c).1 → U.2.2.1 27 (26 * D + h) = nI (foF (cdF A sm co H (beF A sm co H) (dif s D) h) c).2.1 → K (.inl (nI D, nI h, nI s, nI H, nI (26 * D + h), nI c)) U := by
    intro n
    induction n with
    | zero =>
      intro c U hn u1 u2 u3 u4 u5
      have ec : c = 600 := (by omega)
      subst ec
      refine hK _ _ ⟨fun _ => hP U u1 u2 u3 ?_ ?_, fun z => absurd (Int32.le_refl _) z⟩
      · rw [beF_eq hR6]; exact u4
      · rw [beF_eq hR6]; exact u5
    | succ n ih =>
      intro c U hn u1 u2 u3 u4 u5
      have hyU : U.2.2.1 0 = enc A := by rw [u2 0 (by decide) (by decide)]; exact hy
      have laU : laM U A sm co H := ⟨fun t ht => by rw [u2 30 (by decide) (by decide)]; exact hla.1 t ht, fun t b ht hb => by rw [u2 31 (by decide) (by decide)]; exact hla.2 t b ht hb⟩
      have tU : ∀ D', D < D' → D' < 64 → (∀ t, D'.testBit t = true → D.testBit t = true ∨ s.testBit t = true) → TabM A sm co H s U D' 0 := fun D' d1 d2 d3 h' a1 a2 => by
        have := u3 (26 * D' + h') (by omega)
        rw [this.1, this.2]; exact hT D' d1 d2 d3 h' a1 a2
      have fb := foF_b (f := cdF A sm co H (beF A sm co H) (dif s D) h) (m := 7) (fun c' d' e' => ⟨(cd_b hc hk hR e').2.1, (cd_b hc hk hR e').2.2.2⟩) c
      refine hK _ _ ⟨fun z => absurd z (nI_ge (b := 600) (by omega) (by decide)), fun _ => ?_⟩
      refine r_by hI hyU laU hH hs hc hk hsm hD hh (by omega) tU (fun v e g U' ev ed evv d64 eH w27 f' g29 => ?_) (fun U' ev f' => ?_)
      · have bd := cd_b hc hk hR ev
        have q1 : U'.2.2.1 26 (26 * D + h) = iI (foF (cdF A sm co H (beF A sm co H) (dif s D) h) c).1 := by rw [f'.2]; exact u4
        have q2 : U'.2.2.1 27 (26 * D + h) = nI (foF (cdF A sm co H (beF A sm co H) (dif s D) h) c).2.1 := by rw [f'.2]; exact u5
        have eq1 : foF (cdF A sm co H (beF A sm co H) (dif s D) h) (c + 1) = stF (foF (cdF A sm co H (beF A sm co H) (dif s D) h) c) c v := by
          conv => lhs; unfold foF
          rw [ev]; rfl
        have nv : ¬ iI v.1 = (-100000000 : Int32) := by
          rw [show (-100000000 : Int32) = iI (-100000000) from rfl, iI_eq (by omega) (by omega) (by decide) (by decide)]; omega
        generalize foF (cdF A sm co H (beF A sm co H) (dif s D) h) c = a at *
        obtain ⟨f1, f2, f3⟩ := fb
        have ix : 26 * (nI D ||| (1 : Int32) <<< ((nI c / 100) &&& 31)) + U'.1 29 = nI (26 * (D ||| 2 ^ (c / 100)) + (e + 1)) := by
          rw [L100, pk_div (by omega) (by decide) (by decide), L1, L31, nshl1 (by omega), nor, g29, L26, nmul, nadd]
        refine ⟨fun _ => ⟨by decide, ?_⟩, fun z => absurd z nv⟩
        rw [ix, ncl (by omega), w27]
        refine ⟨vp_in_nI (by omega) (by decide), fun v6 e6 => ⟨vp_in_nI (by omega) (by decide), ?_⟩⟩
        have e6' : v6 = nI v.2 := by rw [e6, nI_1, evv]
        have hev2 := bd.2.2.2
        rw [ncl (by omega), q1, q2, e6', iI_lt (by omega) (by omega) (by omega) (by omega), iI_eq (by omega) (by omega) (by omega) (by omega), nlt (by omega) (by omega)]
        have no : (v.1 < a.1 ∨ (v.1 = a.1 ∧ a.2.1 ≤ v.2)) → ∀ v7 : Int32, v7 = nI c + 1 → K (.inl (nI D, nI h, nI s, nI H, nI (26 * D + h), v7)) U' := fun hn' v7 e7 => by
          rw [e7, nI_1]
          have : stF a c v = a := if_pos hn'
          refine ih (c + 1) U' (by omega) (fun k h1 h2 => by rw [f'.1 k h1 h2, u1 k h1 h2]) (fun k h1 h2 => by rw [f'.2, u2 k h1 h2]) (fun i hi => by rw [f'.2]; exact u3 i hi) (by rw [eq1, this]; exact q1) (by rw [eq1, this]; exact q2)
        have yes : ¬ (v.1 < a.1 ∨ (v.1 = a.1 ∧ a.2.1 ≤ v.2)) → K (.inr (nI D, nI h, nI s, nI H, nI (26 * D + h), nI c, iI v.1, nI v.2)) U' := fun hy' => by
          have : stF a c v = (v.1, v.2, c) := if_neg hy'
          refine hK _ _ ⟨vp_in_nI (by omega) (by decide), fun S10 e10 => ⟨vp_in_nI (by omega) (by decide), fun S11 e11 v12 e12 => ?_⟩⟩
          rw [ncl (by omega)] at e10 e11
          rw [e12, nI_1]
          have z26 : S11.2.2.1 26 = upd (U'.2.2.1 26) (26 * D + h) (iI v.1) := by rw [e11, sF_o _ _ _ _ (by decide), e10, sF_same]
          have z27 : S11.2.2.1 27 = upd (U'.2.2.1 27) (26 * D + h) (nI v.2) := by rw [e11, sF_same, e10, sF_o _ _ _ _ (by decide)]
          refine ih (c + 1) S11 (by omega) (fun k h1 h2 => by rw [e11, sF_1, e10, sF_1, f'.1 k h1 h2, u1 k h1 h2]) (fun k h1 h2 => by rw [e11, sF_o _ _ _ _ h2, e10, sF_o _ _ _ _ h1, f'.2, u2 k h1 h2]) (fun i hi => by rw [z26, z27, upd_n _ _ hi, upd_n _ _ hi, f'.2]; exact u3 i hi) (by rw [eq1, this, z26, upd_s]) (by rw [eq1, this, z27, upd_s])
        refine ⟨fun hlt => no (Or.inl hlt), fun hge => ⟨vp_in_nI (by omega) (by decide), fun ne => yes (fun z => z.elim (fun z => hge z) (fun z => ne z.1)), fun ee => ⟨vp_in_nI (by omega) (by decide), fun hl => yes (fun z => z.elim (fun z => hge z) (fun z => absurd z.2 (by omega))), fun hg => no (Or.inr ⟨ee, (by omega)⟩)⟩⟩⟩
      · refine ⟨fun z => absurd rfl z, fun _ v9 e9 => ?_⟩
        rw [e9, nI_1]
        have eq1 : foF (cdF A sm co H (beF A sm co H) (dif s D) h) (c + 1) = foF (cdF A sm co H (beF A sm co H) (dif s D) h) c := by
          conv => lhs; unfold foF
          rw [ev]; rfl
        refine ih (c + 1) U' (by omega) (fun k h1 h2 => by rw [f'.1 k h1 h2, u1 k h1 h2]) (fun k h1 h2 => by rw [f'.2, u2 k h1 h2]) (fun i hi => by rw [f'.2]; exact u3 i hi) (by rw [eq1, f'.2]; exact u4) (by rw [eq1, f'.2]; exact u5)
  refine loop 600 0 S3 (by omega) (fun k _ _ => by rw [e3, sF_1, e2, sF_1]) (fun k h1 h2 => by rw [e3, sF_o _ _ _ _ h2, e2, sF_o _ _ _ _ h1]) (fun i hi => by rw [e3, sF_o _ _ _ _ (by decide), e2, sF_same, upd_n _ _ hi, sF_same, sF_o _ _ _ _ (by decide), upd_n _ _ hi]; exact ⟨rfl, rfl⟩) ?_ ?_
  · rw [e3, sF_o _ _ _ _ (by decide), e2, sF_same, upd_s]; rfl
  · rw [e3, sF_same, upd_s]; rfl
theorem r_workOf {Post : Int32 → MS → Prop} {S : MS} {j : Nat} (hI : Inv A) (hy : S.2.2.1 0 = enc A) (hla : laM S A sm co H) (hH : H ≤ 24) (hs : ∀ h, sm h ≤ 40) (hc : ∀ h b, co h b ≤ 99) (hk : kbOK A) (hsm : s < 2 ^ A 1) (hT : ∀ D', D' < 64 → (∀ t, D'.testBit t = true → s.testBit t = true) → TabM A sm co H s S D' 0) (hj : j < (beF A sm co H s 0).2.1)
    (hP : ∀ S', QFr S S' → Post (nI (ptF A sm co H j s 0)) S') : VC_workOf Post (nI s) (nI H) (nI j) S := by
  obtain ⟨b0, b1, b2, b3, b4, b5, b6, b7, b8, b9⟩ := hI.b
  have p6 : 2 ^ A 1 ≤ 64 := pow6 b1
  have s64 : s < 64 := (by omega)
  have c6 : (beF A sm co H s 0).2.1 ≤ 6 := (bsF_b (sm := sm) (H := H) hc hk 6 s 0 hsm).2.2
  intro K hK
  have loop : ∀ n k : Nat, ∀ (D h : Nat) (ch : Int32) (U : MS), k + n = j → D < 64 → (∀ t, D.testBit t = true → s.testBit t = true) → h ≤ H → n < (beF A sm co H (dif s D) h).2.1 → ptF A sm co H n (dif s D) h = ptF A sm co H j s 0 → QFr S U → K (.inl (nI s, nI H, nI j, nI D, nI h, ch, nI k)) U := by
    intro n
    induction n with
    | zero =>
      intro k D h ch U hn hD hDs hh hlt he fU
      have ek : k = j := (by omega)
      subst ek
      have hR : dif s D < 2 ^ A 1 := dif_lt hsm
      obtain ⟨q1, q2, q3, q4, d, d1, d2, d3⟩ := be_first (sm := sm) (H := H) (h := h) hc hk hR hlt
      have pk := (be_pk (sm := sm) (H := H) (h := h) hc hk hR).2.2 hlt
      have tD := hT D hD hDs h (Nat.zero_le _) hh
      have ob := bsF_b (sm := sm) (H := H) hc hk 6 (dif s D) h hR
      refine hK _ _ ⟨fun z => absurd z (nI_nlt (Nat.le_refl _) (by omega)), fun _ v1 e1 => ?_⟩
      have ev1 : v1 = nI (26 * D + h) := by rw [e1, L26, nmul, nadd]
      rw [ev1]
      have find : ∀ m c : Nat, ∀ V : MS, c + m = (beF A sm co H (dif s D) h).2.2 → QFr S V → K (.inr (nI s, nI H, nI k, nI D, nI h, nI c, nI k, nI (26 * D + h))) V := by
        intro m
        induction m with
        | zero =>
          intro c V hm fV
          have ec : c = (beF A sm co H (dif s D) h).2.2 := (by omega)
          refine hK _ _ ?_
          unfold B_workOf
          refine r_by hI (fV.e hy) (fV.la hla) hH hs hc hk hsm hD hh (by omega) (fun D' a1 a2 a3 h' a4 a5 => by rw [fV.2]; exact hT D' a2 (fun t ht => (a3 t ht).elim (fun z => hDs t z) (fun z => z)) h' a4 a5) (fun v e g V' cv ed evv d64 eH w27 f' g29 => ?_) (fun V' cv f' => absurd (pk.2.1.symm.trans (ec ▸ cv)) (by simp))
          have fV' := fV.trans f'
          have vv : v = ((beF A sm co H (dif s D) h).1, (beF A sm co H (dif s D) h).2.1) := Option.some.inj ((ec ▸ cv).symm.trans pk.2.1)
          have ix : 26 * (nI D ||| (1 : Int32) <<< ((nI c / 100) &&& 31)) + V'.1 29 = nI (26 * (D ||| 2 ^ (c / 100)) + (e + 1)) := by
            rw [L100, pk_div (by omega) (by decide) (by decide), L1, L31, nshl1 (by omega), nor, g29, L26, nmul, nadd]
          have t1 : V'.2.2.1 26 (26 * D + h) = iI (beF A sm co H (dif s D) h).1 := by rw [fV'.2]; exact tD.1
          have t2 : V'.2.2.1 27 (26 * D + h) = nI (beF A sm co H (dif s D) h).2.1 := by rw [fV'.2]; exact tD.2
          rw [ix, ncl (by omega), ncl (by omega), t1, t2, w27, nI_1 (beF A sm co H (clr (dif s D) (c / 100)) (e + 1)).2.1, vv]
          refine ⟨vp_in_nI (by omega) (by decide), fun z => absurd rfl z, fun _ => ⟨by decide, vp_in_nI (by omega) (by decide), vp_in_nI (by omega) (by decide), fun _ => ⟨by decide, fun v5 e5 v6 e6 v7 e7 => ?_⟩, fun z => absurd ?_ z⟩⟩
          · rw [e7, nI_1]
            refine hK _ _ ⟨fun _ => ?_, fun z => absurd (nI_lt (by omega) (by omega)) z⟩
            rw [ec, show (beF A sm co H (dif s D) h).2.2 = ptF A sm co H k s 0 from he]
            exact hP V' fV'
          · have : v.2 = (beF A sm co H (dif s D) h).2.1 := by rw [vv]
            rw [evv] at this
            rw [← this]
        | succ m ihm =>
          intro c V hm fV
          have nx : ∀ (V' : MS) (v4 : Int32), QFr S V' → v4 = nI c + 1 → K (.inr (nI s, nI H, nI k, nI D, nI h, v4, nI k, nI (26 * D + h))) V' := fun V' v4 fV' e4 => by
            rw [e4, nI_1]
            exact ihm (c + 1) V' (by omega) fV'
          have nc := pk.2.2 c (by omega)
          refine hK _ _ ?_
          unfold B_workOf
          refine r_by hI (fV.e hy) (fV.la hla) hH hs hc hk hsm hD hh (by omega) (fun D' a1 a2 a3 h' a4 a5 => by rw [fV.2]; exact hT D' a2 (fun t ht => (a3 t ht).elim (fun z => hDs t z) (fun z => z)) h' a4 a5) (fun v e g V' cv ed evv d64 eH w27 f' g29 => ?_) (fun V' cv f' => ?_)
          · have fV' := fV.trans f'
            have bd := cd_b hc hk hR cv
            have ix : 26 * (nI D ||| (1 : Int32) <<< ((nI c / 100) &&& 31)) + V'.1 29 = nI (26 * (D ||| 2 ^ (c / 100)) + (e + 1)) := by
              rw [L100, pk_div (by omega) (by decide) (by decide), L1, L31, nshl1 (by omega), nor, g29, L26, nmul, nadd]
            have t1 : V'.2.2.1 26 (26 * D + h) = iI (beF A sm co H (dif s D) h).1 := by rw [fV'.2]; exact tD.1
            have t2 : V'.2.2.1 27 (26 * D + h) = nI (beF A sm co H (dif s D) h).2.1 := by rw [fV'.2]; exact tD.2
            have o1 := ob.1
            have o2 := ob.2.1
            have o3 := ob.2.2
            have ib := bsF_b (sm := sm) (H := H) hc hk 6 (clr (dif s D) (c / 100)) (e + 1) (clr_lt hR)
            have i3 := ib.2.2
            have i3' : (beF A sm co H (clr (dif s D) (c / 100)) (e + 1)).2.1 ≤ 6 := i3
            have o1' : 0 ≤ (beF A sm co H (dif s D) h).1 := o1
            have o2' : (beF A sm co H (dif s D) h).1 ≤ 999 * (6 : Nat) := o2
            have o3' : (beF A sm co H (dif s D) h).2.1 ≤ 6 := o3
            rw [ix, ncl (by omega), ncl (by omega), t1, t2, w27, nI_1 (beF A sm co H (clr (dif s D) (c / 100)) (e + 1)).2.1, iI_eq (by omega) (by omega) (by omega) (by omega), neq (by omega) (by omega)]
            refine ⟨vp_in_nI (by omega) (by decide), fun _ v4 e4 => nx V' v4 fV' e4, fun e1' => ⟨by decide, vp_in_nI (by omega) (by decide), vp_in_nI (by omega) (by decide), fun e2' => ?_, fun _ v8 e8 => nx V' v8 fV' e8⟩⟩
            refine absurd ?_ nc
            rw [cv]
            congr 1
            have v2 : v.2 = (beF A sm co H (dif s D) h).2.1 := by rw [evv]; exact e2'
            exact Prod.ext e1' v2
          · have fV' := fV.trans f'
            have t1 : V'.2.2.1 26 (26 * D + h) = iI (beF A sm co H (dif s D) h).1 := by rw [fV'.2]; exact tD.1
            have o1 : 0 ≤ (beF A sm co H (dif s D) h).1 := ob.1
            have o2 : (beF A sm co H (dif s D) h).1 ≤ 999 * (6 : Nat) := ob.2.1
            refine ⟨vp_in_nI (by omega) (by decide), fun _ v4 e4 => nx V' v4 fV' e4, fun z => absurd z ?_⟩
            rw [ncl (by omega), t1, show (-100000000 : Int32) = iI (-100000000) from rfl, iI_eq (by decide) (by decide) (by omega) (by omega)]
            omega
      exact find (beF A sm co H (dif s D) h).2.2 0 U (by omega) fU
    | succ n ih =>
      intro k D h ch U hn hD hDs hh hlt he fU
      have hR : dif s D < 2 ^ A 1 := dif_lt hsm
      obtain ⟨q1, q2, q3, q4, d, d1, d2, d3⟩ := be_first (sm := sm) (H := H) (h := h) hc hk hR (by omega)
      have pk := (be_pk (sm := sm) (H := H) (h := h) hc hk hR).2.2 (by omega)
      have tD := hT D hD hDs h (Nat.zero_le _) hh
      have ob := bsF_b (sm := sm) (H := H) hc hk 6 (dif s D) h hR
      refine hK _ _ ⟨fun z => absurd z (nI_nlt (by omega) (by omega)), fun _ v1 e1 => ?_⟩
      have ev1 : v1 = nI (26 * D + h) := by rw [e1, L26, nmul, nadd]
      rw [ev1]
      have find : ∀ m c : Nat, ∀ V : MS, c + m = (beF A sm co H (dif s D) h).2.2 → QFr S V → K (.inr (nI s, nI H, nI j, nI D, nI h, nI c, nI k, nI (26 * D + h))) V := by
        intro m
        induction m with
        | zero =>
          intro c V hm fV
          have ec : c = (beF A sm co H (dif s D) h).2.2 := (by omega)
          refine hK _ _ ?_
          unfold B_workOf
          refine r_by hI (fV.e hy) (fV.la hla) hH hs hc hk hsm hD hh (by omega) (fun D' a1 a2 a3 h' a4 a5 => by rw [fV.2]; exact hT D' a2 (fun t ht => (a3 t ht).elim (fun z => hDs t z) (fun z => z)) h' a4 a5) (fun v e g V' cv ed evv d64 eH w27 f' g29 => ?_) (fun V' cv f' => absurd (pk.2.1.symm.trans (ec ▸ cv)) (by simp))
          have fV' := fV.trans f'
          have vv : v = ((beF A sm co H (dif s D) h).1, (beF A sm co H (dif s D) h).2.1) := Option.some.inj ((ec ▸ cv).symm.trans pk.2.1)
          have sh : (1 : Int32) <<< ((nI c / 100) &&& 31) = nI (2 ^ (c / 100)) := by rw [L100, pk_div (by omega) (by decide) (by decide), L1, L31, nshl1 (by omega)]
          have ix : 26 * (nI D ||| (1 : Int32) <<< ((nI c / 100) &&& 31)) + V'.1 29 = nI (26 * (D ||| 2 ^ (c / 100)) + (e + 1)) := by
            rw [sh, nor, g29, L26, nmul, nadd]
          have t1 : V'.2.2.1 26 (26 * D + h) = iI (beF A sm co H (dif s D) h).1 := by rw [fV'.2]; exact tD.1
          have t2 : V'.2.2.1 27 (26 * D + h) = nI (beF A sm co H (dif s D) h).2.1 := by rw [fV'.2]; exact tD.2
          rw [ix, ncl (by omega), ncl (by omega), t1, t2, w27, nI_1 (beF A sm co H (clr (dif s D) (c / 100)) (e + 1)).2.1, vv]
          refine ⟨vp_in_nI (by omega) (by decide), fun z => absurd rfl z, fun _ => ⟨by decide, vp_in_nI (by omega) (by decide), vp_in_nI (by omega) (by decide), fun _ => ⟨by decide, fun v5 e5 v6 e6 v7 e7 => ?_⟩, fun z => absurd ?_ z⟩⟩
          · rw [sh, nor] at e5
            rw [e7, nI_1, e5, e6, g29]
            have de : d = (e, g) := Option.some.inj (d1.symm.trans (ec ▸ ed))
            rw [de] at d2
            simp only at d2
            refine ih (k + 1) (D ||| 2 ^ (c / 100)) (e + 1) (nI c) V' (by omega) d64 (fun t ht => ?_) (by omega) (by rw [dif_or, ec]; omega) ?_ fV'
            · rw [Nat.testBit_or, Nat.testBit_two_pow] at ht
              cases z : D.testBit t
              · rw [z] at ht
                simp at ht
                rw [dif_bit, ← ec, ht] at q2
                cases z2 : s.testBit t
                · rw [z2] at q2; exact absurd q2 (by simp)
                · rfl
              · exact hDs t z
            · rw [dif_or, ec, ← he]
              show _ = (doF A sm co H _ _ _ h).elim 0 _
              rw [d1, de]; rfl
          · have : v.2 = (beF A sm co H (dif s D) h).2.1 := by rw [vv]
            rw [evv] at this
            rw [← this]
        | succ m ihm =>
          intro c V hm fV
          have nx : ∀ (V' : MS) (v4 : Int32), QFr S V' → v4 = nI c + 1 → K (.inr (nI s, nI H, nI j, nI D, nI h, v4, nI k, nI (26 * D + h))) V' := fun V' v4 fV' e4 => by
            rw [e4, nI_1]
            exact ihm (c + 1) V' (by omega) fV'
          have nc := pk.2.2 c (by omega)
          refine hK _ _ ?_
          unfold B_workOf
          refine r_by hI (fV.e hy) (fV.la hla) hH hs hc hk hsm hD hh (by omega) (fun D' a1 a2 a3 h' a4 a5 => by rw [fV.2]; exact hT D' a2 (fun t ht => (a3 t ht).elim (fun z => hDs t z) (fun z => z)) h' a4 a5) (fun v e g V' cv ed evv d64 eH w27 f' g29 => ?_) (fun V' cv f' => ?_)
          · have fV' := fV.trans f'
            have bd := cd_b hc hk hR cv
            have ix : 26 * (nI D ||| (1 : Int32) <<< ((nI c / 100) &&& 31)) + V'.1 29 = nI (26 * (D ||| 2 ^ (c / 100)) + (e + 1)) := by
              rw [L100, pk_div (by omega) (by decide) (by decide), L1, L31, nshl1 (by omega), nor, g29, L26, nmul, nadd]
            have t1 : V'.2.2.1 26 (26 * D + h) = iI (beF A sm co H (dif s D) h).1 := by rw [fV'.2]; exact tD.1
            have t2 : V'.2.2.1 27 (26 * D + h) = nI (beF A sm co H (dif s D) h).2.1 := by rw [fV'.2]; exact tD.2
            have ib := bsF_b (sm := sm) (H := H) hc hk 6 (clr (dif s D) (c / 100)) (e + 1) (clr_lt hR)
            have i3' : (beF A sm co H (clr (dif s D) (c / 100)) (e + 1)).2.1 ≤ 6 := ib.2.2
            have o1' : 0 ≤ (beF A sm co H (dif s D) h).1 := ob.1
            have o2' : (beF A sm co H (dif s D) h).1 ≤ 999 * (6 : Nat) := ob.2.1
            have o3' : (beF A sm co H (dif s D) h).2.1 ≤ 6 := ob.2.2
            rw [ix, ncl (by omega), ncl (by omega), t1, t2, w27, nI_1 (beF A sm co H (clr (dif s D) (c / 100)) (e + 1)).2.1, iI_eq (by omega) (by omega) (by omega) (by omega), neq (by omega) (by omega)]
            refine ⟨vp_in_nI (by omega) (by decide), fun _ v4 e4 => nx V' v4 fV' e4, fun e1' => ⟨by decide, vp_in_nI (by omega) (by decide), vp_in_nI (by omega) (by decide), fun e2' => ?_, fun _ v8 e8 => nx V' v8 fV' e8⟩⟩
            refine absurd ?_ nc
            rw [cv]
            congr 1
            have v2 : v.2 = (beF A sm co H (dif s D) h).2.1 := by rw [evv]; exact e2'
            exact Prod.ext e1' v2
          · have fV' := fV.trans f'
            have t1 : V'.2.2.1 26 (26 * D + h) = iI (beF A sm co H (dif s D) h).1 := by rw [fV'.2]; exact tD.1
            have o1 : 0 ≤ (beF A sm co H (dif s D) h).1 := ob.1
            have o2 : (beF A sm co H (dif s D) h).1 ≤ 999 * (6 : Nat) := ob.2.1
            refine ⟨vp_in_nI (by omega) (by decide), fun _ v4 e4 => nx V' v4 fV' e4, fun z => absurd z ?_⟩
            rw [ncl (by omega), t1, show (-100000000 : Int32) = iI (-100000000) from rfl, iI_eq (by decide) (by decide) (by omega) (by omega)]
            omega
      exact find (beF A sm co H (dif s D) h).2.2 0 U (by omega) fU
  exact loop j 0 0 0 0 S (by omega) (by omega) (fun t ht => by rw [Nat.zero_testBit] at ht; exact absurd ht (by decide)) (Nat.zero_le _) (by rw [dif_0]; exact hj) (by rw [dif_0]) (QFr.refl S)
end RECK
