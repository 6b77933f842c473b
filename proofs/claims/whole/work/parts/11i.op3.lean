/-! quarrel, tell, feed, piece, about -/
section SUMS
variable {Post : Int32 → XS → Prop} {S : XS} {A : Nat → Nat} (hI : Inv A) (hB : rxBench S.1 S.2.1 A)
theorem c_sumP {p : Nat} {a b c : Int32} (hI : Inv A) (hB : rxBench S.1 S.2.1 A) (ea : a = nI p) (eb : b = -1) (ec : c = -1) (hp : p < 2147483648) (h : Post (nI (sumP A (A 9) p)) S) : VC_X0_sum_11 Post a b c S := by
  obtain ⟨b0, b1, b2, b3, -, -, -, -, -, b9⟩ := hI.b
  subst ea eb ec
  unfold VC_X0_sum_11
  rw [hB.2.2.1]
  refine c_sum14 (by omega) (rxLog hB) (fun i => decide (A (250 + 4 * i) = p)) (fun i hi => ?_) h
  have := hI.log i hi
  simp only [decide_eq_true_eq, true_or, and_true, L1]
  rw [nm1 (by omega), neq (by omega) (by omega)]
  simp
theorem c_sumPB {p b : Nat} {a a1 c : Int32} (hI : Inv A) (hB : rxBench S.1 S.2.1 A) (ea : a = nI p) (eb : a1 = nI b) (ec : c = -1) (hp : p < 2147483648) (hb : b < 2147483648) (h : Post (nI (sumPB A (A 9) p b)) S) : VC_X0_sum_11 Post a a1 c S := by
  obtain ⟨b0, b1, b2, b3, -, -, -, -, -, b9⟩ := hI.b
  subst ea eb ec
  unfold VC_X0_sum_11
  rw [hB.2.2.1]
  refine c_sum14 (by omega) (rxLog hB) (fun i => decide (A (250 + 4 * i) = p ∧ A (251 + 4 * i) = b)) (fun i hi => ?_) h
  have := hI.log i hi
  simp only [decide_eq_true_eq, true_or, and_true, L1]
  rw [nm1 (by omega), neq (by omega) (by omega), nm1 (by omega), neq (by omega) (by omega)]
  simp
theorem c_sumBH {b t : Nat} {a a1 c : Int32} (hI : Inv A) (hB : rxBench S.1 S.2.1 A) (ea : a = -1) (eb : a1 = nI b) (ec : c = nI t) (hb : b < 2147483648) (ht : t < 2147483648) (h : Post (nI (sumBH A (A 9) b t)) S) : VC_X0_sum_11 Post a a1 c S := by
  obtain ⟨b0, b1, b2, b3, -, -, -, -, -, b9⟩ := hI.b
  subst ea eb ec
  unfold VC_X0_sum_11
  rw [hB.2.2.1]
  refine c_sum14 (by omega) (rxLog hB) (fun i => decide (A (251 + 4 * i) = b ∧ A (253 + 4 * i) = t)) (fun i hi => ?_) h
  have := hI.log i hi
  simp only [decide_eq_true_eq, true_or, true_and, L1]
  rw [nm1 (by omega), neq (by omega) (by omega), nm1 (by omega), neq (by omega) (by omega)]
  simp
theorem c_sumH {t : Nat} {a a1 c : Int32} (hI : Inv A) (hB : rxBench S.1 S.2.1 A) (ea : a = -1) (eb : a1 = -1) (ec : c = nI t) (ht : t < 2147483648) (h : Post (nI (sumH A (A 9) t)) S) : VC_X0_sum_11 Post a a1 c S := by
  obtain ⟨b0, b1, b2, b3, -, -, -, -, -, b9⟩ := hI.b
  subst ea eb ec
  unfold VC_X0_sum_11
  rw [hB.2.2.1]
  refine c_sum14 (by omega) (rxLog hB) (fun i => decide (A (253 + 4 * i) = t)) (fun i hi => ?_) h
  have := hI.log i hi
  simp only [decide_eq_true_eq, true_or, true_and, L1]
  rw [nm1 (by omega), neq (by omega) (by omega)]
  simp
theorem c_sumPBH {p b t : Nat} {a a1 c : Int32} (hI : Inv A) (hB : rxBench S.1 S.2.1 A) (ea : a = nI p) (eb : a1 = nI b) (ec : c = nI t) (hp : p < 2147483648) (hb : b < 2147483648) (ht : t < 2147483648) (h : Post (nI (sumPBH A (A 9) p b t)) S) : VC_X0_sum_11 Post a a1 c S := by
  obtain ⟨b0, b1, b2, b3, -, -, -, -, -, b9⟩ := hI.b
  subst ea eb ec
  unfold VC_X0_sum_11
  rw [hB.2.2.1]
  refine c_sum14 (by omega) (rxLog hB) (fun i => decide (A (250 + 4 * i) = p ∧ A (251 + 4 * i) = b ∧ A (253 + 4 * i) = t)) (fun i hi => ?_) h
  have := hI.log i hi
  simp only [decide_eq_true_eq, L1]
  rw [nm1 (by omega), neq (by omega) (by omega), nm1 (by omega), neq (by omega) (by omega), nm1 (by omega), neq (by omega) (by omega)]
  simp
end SUMS
/-- less k -/
theorem sub_one {a : Int32} {k n : Nat} (h : isOne (a - nI k) n) : ∃ b, b < n ∧ a = nI (b + k) := by
  obtain ⟨b, hb, e⟩ := h
  refine ⟨b, hb, ?_⟩
  have : a = (a - nI k) + nI k := by rw [Int32.sub_add_cancel]
  rw [this, e, nadd]
section OP3
variable {TX : TXT} {A B : Nat → Nat} {x : XS} {y : MS}
theorem op_piece {a0 a1 : Int32} (h : RelA TX A B x y) : VC_X11_piece_0 (fun r x' => VC_piece (fun r' y' => r = r' ∧ RelT TX x' y') a0 a1 y) a0 a1 x := by
  obtain ⟨g1, -, g3, -, g5, -⟩ := id h
  obtain ⟨b0, b1, b2, b3, b4, b5, b6, b7, b8, b9⟩ := g1.b
  obtain ⟨h1, h2, h3, h4, h5, h6⟩ := g3
  refine hasP h3.2.1 (by omega) (fun hp => ⟨fun _ => ?_, fun z => absurd z (by decide)⟩) (fun hp => ⟨fun z => absurd rfl z, fun _ => ?_⟩)
  · obtain ⟨p, hp, rfl⟩ := hp
    obtain ⟨k1, k2, k3, k4, k5⟩ := g1.piece hp
    have inp : vp_in (nI p) 10 := vp_in_nI (by omega) (by decide)
    have ref : ∀ r : Int32, (∀ k, k < 4 → a1 = nI k → r = nI (A (150 + 10 * p + k))) → (∀ b, b < A 0 → a1 = nI (b + 10) → r = nI (A (154 + 10 * p + b))) → (¬ isOne a1 4 → ¬ isOne (a1 - 10) (A 0) → r = -1) → VC_piece (fun r' y' => r = r' ∧ RelT TX x y') (nI p) a1 y := fun r r1 r2 r3 => by
      refine mP g5 (by omega) (fun _ => ⟨fun _ => ?_, fun z => absurd z (by decide)⟩) (fun z => absurd ⟨p, hp, rfl⟩ z)
      refine mFrom (l := 0) (h := 3) (h1 := fun hk => ⟨fun z => absurd z (by decide), fun _ => ?_⟩) (h0 := fun hk => ⟨fun _ => ?_, fun z => absurd rfl z⟩)
      · obtain ⟨k, hk2, rfl⟩ := isFrom0.mp hk
        have e : (150 + 10 * nI p) + nI k = nI (150 + 10 * p + k) := by rw [L150, L10, nmul, nadd, nadd]
        refine ⟨by rw [e]; exact vp_in_nI (by omega) (by decide), ?_⟩
        rw [e, ncl (by omega), g5, enc_at (by omega)]
        exact ⟨r1 k hk2 rfl, A, B, h⟩
      · refine mB g5 (by omega) (fun hb => ⟨fun z => absurd z (by decide), fun _ => ?_⟩) (fun hb => ⟨fun _ => ⟨r3 (fun z => hk (isFrom0.mpr z)) hb, A, B, h⟩, fun z => absurd rfl z⟩)
        obtain ⟨b, hb2, e⟩ := sub_one (k := 10) hb
        refine mgave g5 rfl (by rw [e, L10, nsub (by omega), Nat.add_sub_cancel]) (by omega) (by omega) ⟨r2 b hb2 e, A, B, h⟩
    have no : ∀ k v, k < 4 → a1 = nI v → v ≠ k → v < 1000 → ¬ a1 = nI k := fun k v hk e hv hv2 z => hv ((nI_eq (by omega) (by omega)).mp (e.symm.trans z))
    refine ⟨fun e => ⟨inp, ?_⟩, fun e => ?_, fun e => ?_, fun e => ⟨inp, ?_⟩, fun e0 e1 e2 e3 => ?_⟩
    · subst e
      rw [ncl (by omega), (h3.2.2.2.1 p hp).1]
      refine ref _ (fun k hk e => ?_) (fun b hb e => ?_) (fun z _ => absurd ⟨0, (by decide), rfl⟩ z)
      · have := (nI_eq (a := 0) (by omega) (by omega)).mp e; subst this; rfl
      · have := (nI_eq (a := 0) (by omega) (by omega)).mp e; omega
    · subst e
      refine c_stateOf g1 h1 h2 h3 (fun p' hp' e' => ?_) (fun z => absurd ⟨p, hp, rfl⟩ z)
      have := (nI_eq (by omega) (by omega)).mp e'
      subst this
      refine ref _ (fun k hk e => ?_) (fun b hb e => ?_) (fun z _ => absurd ⟨1, (by decide), rfl⟩ z)
      · have := (nI_eq (a := 1) (by omega) (by omega)).mp e; subst this; congr 2; omega
      · have := (nI_eq (a := 1) (by omega) (by omega)).mp e; omega
    · subst e
      refine c_sumP g1 h3 rfl rfl rfl (by omega) ?_
      refine ref _ (fun k hk e => ?_) (fun b hb e => ?_) (fun z _ => absurd ⟨2, (by decide), rfl⟩ z)
      · have := (nI_eq (a := 2) (by omega) (by omega)).mp e; subst this
        rw [← k3]; congr 2; omega
      · have := (nI_eq (a := 2) (by omega) (by omega)).mp e; omega
    · subst e
      rw [ncl (by omega), (h3.2.2.2.1 p hp).2]
      refine ref _ (fun k hk e => ?_) (fun b hb e => ?_) (fun z _ => absurd ⟨3, (by decide), rfl⟩ z)
      · have := (nI_eq (a := 3) (by omega) (by omega)).mp e; subst this; congr 2; omega
      · have := (nI_eq (a := 3) (by omega) (by omega)).mp e; omega
    · have n4 : ¬ isOne a1 4 := by
        rintro ⟨k, hk, rfl⟩
        have : k = 0 ∨ k = 1 ∨ k = 2 ∨ k = 3 := (by omega)
        rcases this with h | h | h | h <;> subst h
        · exact e0 rfl
        · exact e1 rfl
        · exact e2 rfl
        · exact e3 rfl
      have bad : ¬ isOne (a1 - 10) (A 0) → VC_piece (fun r' y' => (-1 : Int32) = r' ∧ RelT TX x y') (nI p) a1 y := fun nb =>
        ref _ (fun k hk e => absurd ⟨k, hk, e⟩ n4) (fun b hb e => absurd ⟨b, hb, by rw [e, L10, nsub (by omega), Nat.add_sub_cancel]⟩ nb) (fun _ _ => rfl)
      refine ⟨fun hlt => bad (fun z => ?_), fun hge => hasB h1.1 (by omega) (fun hb => ⟨fun z => absurd z (by decide), fun _ => ?_⟩) (fun hb => ⟨fun _ => bad hb, fun z => absurd rfl z⟩)⟩
      · obtain ⟨b, hb, e⟩ := sub_one (k := 10) z
        rw [e, L10, nlt (by omega) (by omega)] at hlt
        omega
      · obtain ⟨b, hb2, e⟩ := sub_one (k := 10) hb
        refine c_sumPB (p := p) (b := b) g1 h3 rfl (by rw [e, L10, nsub (by omega), Nat.add_sub_cancel]) rfl (by omega) (by omega) ?_
        refine ref _ (fun k hk e => absurd ⟨k, hk, e⟩ n4) (fun b' hb' e' => ?_) (fun _ z => absurd hb z)
        have := (nI_eq (by omega) (by omega)).mp (e.symm.trans e')
        have : b' = b := (by omega)
        subst this
        rw [k5 b' (by omega)]
  · exact mP g5 (by omega) (fun z => absurd z hp) (fun _ => ⟨fun z => absurd rfl z, fun _ => ⟨rfl, A, B, h⟩⟩)
theorem op_about {a0 : Int32} (h : RelA TX A B x y) : VC_X11_about_0 (fun r x' => VC_about (fun r' y' => r = r' ∧ RelT TX x' y') a0 y) a0 x := by
  obtain ⟨g1, -, g3, -, g5, -, -, -, ⟨m, m1, m2, m3, m4⟩, -⟩ := id h
  obtain ⟨b0, b1, b2, b3, b4, b5, b6, b7, b8, b9⟩ := g1.b
  obtain ⟨h1, h2, h3, h4, h5, h6⟩ := g3
  have e1 : y.2.2.1 0 (1 : Int32).toNatClampNeg = nI (A 1) := by rw [g5, litC 1 (by decide), enc_at (by omega)]
  have e10 : (9 : Int32) + nI (A 1) = nI (9 + A 1) := by rw [L9, nadd]
  have e20 : (19 : Int32) + nI (A 1) = nI (19 + A 1) := by rw [L19, nadd]
  have ref : ∀ r : Int32, (∀ k, k < A 1 → a0 = nI (k + 10) → r = nI (A (42 + 3 * k))) → (∀ k, k < A 1 → a0 = nI (k + 20) → r = nI (100 * A (40 + 3 * k) + A (41 + 3 * k))) → (∀ k, k < 9 → a0 = nI k → r = enc A k) → (a0 = 9 → r = nI m) → (¬ isOne (a0 - 10) (A 1) → ¬ isOne (a0 - 20) (A 1) → ¬ isOne a0 10 → r = -2) → VC_about (fun r' y' => r = r' ∧ RelT TX x y') a0 y := fun r r1 r2 r3 r4 r5 => by
    have i1 : vp_in (1 : Int32) 3890 := litIn 1 (by decide) (by decide)
    unfold VC_about
    rw [e1, e10, e20]
    refine ⟨i1, mFrom (l := 10) (h := 9 + A 1) (h1 := fun hk => ⟨fun z => absurd z (by decide), fun _ => ?_⟩) (h0 := fun n10 => ⟨fun _ => ⟨i1, ?_⟩, fun z => absurd rfl z⟩)⟩
    · obtain ⟨v, v1, v2, rfl⟩ := hk
      have e : 40 + 3 * (nI v - 10) + 2 = nI (42 + 3 * (v - 10)) := by rw [L10, nsub v1, L3, nmul, L40, nadd, L2, nadd]; congr 1; omega
      refine ⟨by rw [e]; exact vp_in_nI (by omega) (by decide), ?_⟩
      rw [e, ncl (by omega), g5, enc_at (by omega)]
      exact ⟨r1 (v - 10) (by omega) (by congr 1; omega), A, B, h⟩
    · refine mFrom (l := 20) (h := 19 + A 1) (h1 := fun hk => ⟨fun z => absurd z (by decide), fun _ => ?_⟩) (h0 := fun n20 => ⟨fun _ => ?_, fun z => absurd rfl z⟩)
      · obtain ⟨v, v1, v2, rfl⟩ := hk
        have e : 40 + 3 * (nI v - 20) = nI (40 + 3 * (v - 20)) := by rw [L20, nsub v1, L3, nmul, L40, nadd]
        have e' : nI (40 + 3 * (v - 20)) + 1 = nI (41 + 3 * (v - 20)) := by rw [L1, nadd]; congr 1; omega
        refine ⟨by rw [e]; exact vp_in_nI (by omega) (by decide), by rw [e, e']; exact vp_in_nI (by omega) (by decide), ?_⟩
        rw [e, e', ncl (by omega), ncl (by omega), g5, enc_at (by omega), enc_at (by omega), L100, nmul, nadd]
        exact ⟨r2 (v - 20) (by omega) (by congr 1; omega), A, B, h⟩
      · refine mFrom (l := 0) (h := 8) (h1 := fun hk => ⟨fun z => absurd z (by decide), fun _ => ?_⟩) (h0 := fun n0 => ⟨fun _ => ?_, fun z => absurd rfl z⟩)
        · obtain ⟨v, v1, v2, rfl⟩ := hk
          refine ⟨vp_in_nI (by omega) (by decide), ?_⟩
          rw [ncl (by omega), g5]
          exact ⟨r3 v (by omega) rfl, A, B, h⟩
        · refine ⟨fun n9 => ⟨r5 (fun z => ?_) (fun z => ?_) (fun z => ?_), A, B, h⟩, fun e9 => ⟨(r4 e9).trans m3.symm, A, B, h⟩⟩
          · obtain ⟨b, hb, e⟩ := sub_one (k := 10) z
            exact n10 ⟨b + 10, (by omega), (by omega), e⟩
          · obtain ⟨b, hb, e⟩ := sub_one (k := 20) z
            exact n20 ⟨b + 20, (by omega), (by omega), e⟩
          · obtain ⟨b, hb, e⟩ := z
            by_cases z9 : b = 9
            · subst z9; exact n9 e
            · exact n0 ⟨b, (by omega), (by omega), e⟩
  have ne : ∀ k v : Nat, k < 1000 → v < 1000 → k ≠ v → nI k = nI v → False := fun k v hk hv n e => n ((nI_eq (by omega) (by omega)).mp e)
  have eq : ∀ k v : Nat, k < 1000 → v < 1000 → nI k = nI v → k = v := fun k v hk hv e => (nI_eq (by omega) (by omega)).mp e
  have cell : ∀ k : Nat, k < 9 → ∀ r : Int32, a0 = nI k → r = enc A k → VC_about (fun r' y' => r = r' ∧ RelT TX x y') a0 y := fun k hk r e er => by
    subst e
    refine ref r (fun k' hk' e' => (ne _ _ (by omega) (by omega) (by omega) e').elim) (fun k' hk' e' => (ne _ _ (by omega) (by omega) (by omega) e').elim) (fun k' hk' e' => ?_) (fun e' => (ne k 9 (by omega) (by omega) (by omega) e').elim) (fun _ _ z => absurd ⟨k, (by omega), rfl⟩ z)
    have := eq _ _ (by omega) (by omega) e'
    subst this; exact er
  refine ⟨fun e => cell 0 (by decide) _ e (by rw [h1.1, enc_at (by omega)]), fun e => cell 1 (by decide) _ e (by rw [h2.1, enc_at (by omega)]), fun e => cell 2 (by decide) _ e (by rw [h3.2.1, enc_at (by omega)]), fun e => cell 3 (by decide) _ e (by rw [h3.1, enc_at (by omega)]), fun e => cell 4 (by decide) _ e (by rw [h6.1, enc_at (by omega)]), fun e => cell 5 (by decide) _ e (by rw [h6.2, enc_5]), fun e => cell 6 (by decide) _ e (by rw [h4.1, enc_at (by omega)]), fun e => cell 7 (by decide) _ e (by rw [h5.1, enc_at (by omega)]), fun e => cell 8 (by decide) _ e (by rw [h5.2.1, enc_at (by omega)]), fun e => ?_, fun n0 n1 n2 n3 n4 n5 n6 n7 n8 n9 => ?_⟩
  · refine ref _ (fun k' hk' e' => (ne 9 _ (by omega) (by omega) (by omega) (e.symm.trans e')).elim) (fun k' hk' e' => (ne 9 _ (by omega) (by omega) (by omega) (e.symm.trans e')).elim) (fun k' hk' e' => (ne 9 _ (by omega) (by omega) (by omega) (e.symm.trans e')).elim) (fun _ => m2) (fun _ _ z => absurd ⟨9, (by omega), e⟩ z)
  · have n10 : ¬ isOne a0 10 := by
      rintro ⟨k, hk, rfl⟩
      have : k = 0 ∨ k = 1 ∨ k = 2 ∨ k = 3 ∨ k = 4 ∨ k = 5 ∨ k = 6 ∨ k = 7 ∨ k = 8 ∨ k = 9 := (by omega)
      rcases this with h | h | h | h | h | h | h | h | h | h <;> subst h
      · exact n0 rfl
      · exact n1 rfl
      · exact n2 rfl
      · exact n3 rfl
      · exact n4 rfl
      · exact n5 rfl
      · exact n6 rfl
      · exact n7 rfl
      · exact n8 rfl
      · exact n9 rfl
    have k9 : ∀ k, k < 9 → a0 = nI k → False := fun k hk e => n10 ⟨k, (by omega), e⟩
    intro K hK
    have snd : ¬ isOne (a0 - 10) (A 1) → K a0 x := fun nb => by
      have bad : ¬ isOne (a0 - 20) (A 1) → VC_about (fun r' y' => (-2 : Int32) = r' ∧ RelT TX x y') a0 y := fun nc =>
        ref _ (fun k hk e => absurd ⟨k, hk, by rw [e, L10, nsub (by omega), Nat.add_sub_cancel]⟩ nb) (fun k hk e => absurd ⟨k, hk, by rw [e, L20, nsub (by omega), Nat.add_sub_cancel]⟩ nc) (fun k hk e => (k9 k hk e).elim) (fun e => absurd e n9) (fun _ _ _ => rfl)
      refine hK _ _ ⟨fun hlt => bad (fun z => ?_), fun hge => hasK h2.1 (by omega) (fun hb => ⟨fun z => absurd z (by decide), fun _ => ?_⟩) (fun hb => ⟨fun _ => bad hb, fun z => absurd rfl z⟩)⟩
      · obtain ⟨b, hb, e⟩ := sub_one (k := 20) z
        rw [e, L20, nlt (by omega) (by omega)] at hlt
        omega
      · obtain ⟨b, hb2, e⟩ := sub_one (k := 20) hb
        have e' : a0 - 20 = nI b := by rw [e, L20, nsub (by omega), Nat.add_sub_cancel]
        obtain ⟨w1, w2, w3⟩ := h2.2 b hb2
        rw [e']
        refine ⟨vp_in_nI (by omega) (by decide), vp_in_nI (by omega) (by decide), ?_⟩
        rw [ncl (by omega), w1, w2, L100, nmul, nadd]
        refine ref _ (fun k hk e2 => absurd ⟨k, hk, by rw [e2, L10, nsub (by omega), Nat.add_sub_cancel]⟩ nb) (fun k hk e2 => ?_) (fun k hk e => (k9 k hk e).elim) (fun e => absurd e n9) (fun _ z => absurd hb z)
        have := eq _ _ (by omega) (by omega) (e.symm.trans e2)
        have : k = b := (by omega)
        subst this; rfl
    refine ⟨fun hlt => snd (fun z => ?_), fun hge => hasK h2.1 (by omega) (fun hb => ⟨fun z => absurd z (by decide), fun _ => ?_⟩) (fun hb => ⟨fun _ => snd hb, fun z => absurd rfl z⟩)⟩
    · obtain ⟨b, hb, e⟩ := sub_one (k := 10) z
      rw [e, L10, nlt (by omega) (by omega)] at hlt
      omega
    · obtain ⟨b, hb2, e⟩ := sub_one (k := 10) hb
      have e' : a0 - 10 = nI b := by rw [e, L10, nsub (by omega), Nat.add_sub_cancel]
      obtain ⟨w1, w2, w3⟩ := h2.2 b hb2
      rw [e']
      refine ⟨vp_in_nI (by omega) (by decide), ?_⟩
      rw [ncl (by omega), w3]
      refine ref _ (fun k hk e2 => ?_) (fun k hk e2 => ?_) (fun k hk e => (k9 k hk e).elim) (fun e => absurd e n9) (fun z _ _ => absurd hb z)
      · have := eq _ _ (by omega) (by omega) (e.symm.trans e2)
        have : k = b := (by omega)
        subst this; rfl
      · exact (ne _ _ (by omega) (by omega) (by omega) (e.symm.trans e2)).elim
end OP3
