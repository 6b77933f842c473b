/-! coughs, liars, whose -/
theorem nsubI {a b : Nat} (ha : a < 1073741824) (hb : b < 1073741824) : (nI a - nI b).toInt = (a : Int) - b := by
  rw [Int32.toInt_sub, ntoInt (by omega), ntoInt (by omega)]
  exact Int.bmod_eq_of_le (by omega) (by omega)
theorem nslt {a b c : Nat} (ha : a < 1073741824) (hb : b < 1073741824) (hc : c < 1073741824) : (nI a - nI b < nI c) = (a < c + b) := by
  rw [Int32.lt_iff_toInt_lt, nsubI ha hb, ntoInt (by omega), eq_iff_iff]; omega
theorem nsle {a b c : Nat} (ha : a < 1073741824) (hb : b < 1073741824) (hc : c < 1073741824) : (nI c ≤ nI a - nI b) = (c + b ≤ a) := by
  rw [Int32.le_iff_toInt_le, nsubI ha hb, ntoInt (by omega), eq_iff_iff]; omega
theorem nsle0 {a b : Nat} (ha : a < 1073741824) (hb : b < 1073741824) : (nI a - nI b ≤ nI 0) = (a ≤ b) := by
  rw [Int32.le_iff_toInt_le, nsubI ha hb, ntoInt (by omega), eq_iff_iff]; omega
section COUGH
def coI (n : Nat) (c bl : Int32) : Nat → Nat → Int32 → Int32 → Int32 × Int32
  | 0, _, x, l => (x, l)
  | k + 1, b, x, l => coI n c bl k (b + 1) ((x * 181 + 37) - (x * 181 + 37) / 30103 * 30103) (if nI b = bl ∧ ¬ c ≤ (x - x / 10 * 10) then l + 1 else l)
def coO (n : Nat) (c bl : Int32) : Nat → Int32 → Int32 → Int32
  | 0, _, l => l
  | k + 1, x, l => coO n c bl k (coI n c bl n 0 x l).1 (coI n c bl n 0 x l).2
variable {n N : Nat} {a0 c bl : Int32}
theorem c_cough {Post : Int32 → XS → Prop} {S : XS} (K : Hd_X11_coughs_0 → XS → Prop) (hK : ∀ h S, B_X11_coughs_0 Post K h S → K h S) (e : S.1 64 = nI n) (hn : n ≤ 6) (hN : N ≤ 30) : ∀ k h x l, h + k = N → Post (coO n c bl k x l) S → K (.inl (a0, nI N, c, bl, x, l, nI h)) S := by
  intro k
  induction k with
  | zero =>
    intro h x l hh hp
    have : h = N := (by omega)
    subst this
    exact hK _ _ ⟨fun _ => hp, fun z => absurd (Int32.le_refl _) z⟩
  | succ k ih =>
    intro h x l hh hp
    refine hK _ _ ⟨fun z => absurd z (nI_ge (by omega) (by omega)), fun _ => ?_⟩
    have inner : ∀ j b x' l', b + j = n → Post (coO n c bl k (coI n c bl j b x' l').1 (coI n c bl j b x' l').2) S → K (.inr (.inl (a0, nI N, c, bl, x', l', nI h, nI b))) S := by
      intro j
      induction j with
      | zero =>
        intro b x' l' hb hp'
        have : b = n := (by omega)
        subst this
        refine hK _ _ ⟨fun _ v7 e7 => ?_, fun z => absurd (by rw [e]; exact Int32.le_refl _) z⟩
        rw [e7, nI_1]
        exact ih (h + 1) x' l' (by omega) hp'
      | succ j ihj =>
        intro b x' l' hb hp'
        have nx : ∀ l'' : Int32, l'' = (if nI b = bl ∧ ¬ c ≤ (x' - x' / 10 * 10) then l' + 1 else l') → K (.inr (.inr (a0, nI N, c, bl, x', l'', nI h, nI b))) S := fun l'' el => by
          refine hK _ _ ⟨by decide, fun v9 e9 v10 e10 => ?_⟩
          rw [e9, e10, nI_1, el]
          exact ihj (b + 1) _ _ (by omega) hp'
        refine hK _ _ ⟨fun z => absurd z (by rw [e]; exact nI_ge (by omega) (by omega)), fun _ => ⟨fun ne => nx _ (by rw [if_neg (fun z => ne z.1)]), fun eb => ⟨by decide, fun hle => nx _ (by rw [if_neg (fun z => z.2 hle)]), fun hgt v8 e8 => nx _ (by rw [e8, if_pos ⟨eb, hgt⟩])⟩⟩⟩
    exact inner n 0 x l (by omega) hp
theorem r_cough {Post : Int32 → MS → Prop} {S : MS} {A : Nat → Nat} (K : Hd_coughs → MS → Prop) (hK : ∀ h S, B_coughs Post K h S → K h S) (e : S.2.2.1 0 = enc A) (hn : A 0 ≤ 6) (hN : N ≤ 30) : ∀ k h x l, h + k = N → Post (coO (A 0) c bl k x l) S → K (.inl (a0, nI N, c, bl, x, l, nI h)) S := by
  have c0 : S.2.2.1 0 (0 : Int32).toNatClampNeg = nI (A 0) := by rw [e, litC 0 (by decide), enc_at (by omega)]
  have i0 : vp_in (0 : Int32) 3890 := litIn 0 (by decide) (by decide)
  intro k
  induction k with
  | zero =>
    intro h x l hh hp
    have : h = N := (by omega)
    subst this
    exact hK _ _ ⟨fun _ => hp, fun z => absurd (Int32.le_refl _) z⟩
  | succ k ih =>
    intro h x l hh hp
    refine hK _ _ ⟨fun z => absurd z (nI_ge (by omega) (by omega)), fun _ => ?_⟩
    have inner : ∀ j b x' l', b + j = A 0 → Post (coO (A 0) c bl k (coI (A 0) c bl j b x' l').1 (coI (A 0) c bl j b x' l').2) S → K (.inr (.inl (a0, nI N, c, bl, x', l', nI h, nI b))) S := by
      intro j
      induction j with
      | zero =>
        intro b x' l' hb hp'
        have hb0 : b = A 0 := (by omega)
        refine hK _ _ ⟨i0, fun _ v7 e7 => ?_, fun z => absurd (by rw [c0, hb0]; exact Int32.le_refl _) z⟩
        rw [e7, nI_1]
        exact ih (h + 1) x' l' (by omega) hp'
      | succ j ihj =>
        intro b x' l' hb hp'
        have nx : ∀ t : Int32, l' + t = (if nI b = bl ∧ ¬ c ≤ (x' - x' / 10 * 10) then l' + 1 else l') → K (.inr (.inr (a0, nI N, c, bl, x', l', nI h, nI b, l', t))) S := fun t el => by
          refine hK _ _ (fun v8 e8 => ⟨by decide, fun v9 e9 v10 e10 => ?_⟩)
          rw [e8, e9, e10, nI_1, el]
          exact ihj (b + 1) _ _ (by omega) hp'
        refine hK _ _ ⟨i0, fun z => absurd z (by rw [c0]; exact nI_ge (by omega) (by omega)), fun _ => ⟨fun ne => nx _ (by rw [if_neg (fun z => ne z.1), Int32.add_zero]), fun eb => ⟨by decide, fun hle => nx _ (by rw [if_neg (fun z => z.2 hle), Int32.add_zero]), fun hgt => nx _ (by rw [if_pos ⟨eb, hgt⟩])⟩⟩⟩
    exact inner (A 0) 0 x l (by omega) hp
end COUGH
section OP5
variable {TX : TXT} {A B : Nat → Nat} {x : XS} {y : MS}
theorem op_coughs {a0 a1 a2 a3 : Int32} (h : RelA TX A B x y) : VC_X11_coughs_0 (fun r x' => VC_coughs (fun r' y' => r = r' ∧ RelT TX x' y') a0 a1 a2 a3 y) a0 a1 a2 a3 x := by
  obtain ⟨g1, -, g3, -, g5, -⟩ := id h
  obtain ⟨b0, b1, b2, b3, b4, b5, b6, b7, b8, b9⟩ := g1.b
  have rbad : ¬ (isFrom a0 0 9999 ∧ isFrom a1 1 30 ∧ isFrom a2 1 10 ∧ isOne a3 (A 0)) → VC_coughs (fun r' y' => (-1 : Int32) = r' ∧ RelT TX x y') a0 a1 a2 a3 y := fun hb K hK => by
    refine mFrom (l := 0) (h := 9999) (h1 := fun i1 => ⟨fun z => absurd z (by decide), fun _ => ?_⟩) (h0 := fun _ => ⟨fun _ => ⟨rfl, A, B, h⟩, fun z => absurd rfl z⟩)
    refine mFrom (l := 1) (h := 30) (h1 := fun i2 => ⟨fun z => absurd z (by decide), fun _ => ?_⟩) (h0 := fun _ => ⟨fun _ => ⟨rfl, A, B, h⟩, fun z => absurd rfl z⟩)
    refine mFrom (l := 1) (h := 10) (h1 := fun i3 => ⟨fun z => absurd z (by decide), fun _ => ?_⟩) (h0 := fun _ => ⟨fun _ => ⟨rfl, A, B, h⟩, fun z => absurd rfl z⟩)
    exact mB g5 (by omega) (fun i4 => absurd ⟨i1, i2, i3, i4⟩ hb) (fun _ => ⟨fun z => absurd rfl z, fun _ => ⟨rfl, A, B, h⟩⟩)
  intro K hK
  refine wFrom (l := 0) (h := 9999) (h1 := fun i1 => ⟨fun z => absurd z (by decide), fun _ => ?_⟩) (h0 := fun n => ⟨fun _ => rbad (fun z => n z.1), fun z => absurd rfl z⟩)
  refine wFrom (l := 1) (h := 30) (h1 := fun i2 => ⟨fun z => absurd z (by decide), fun _ => ?_⟩) (h0 := fun n => ⟨fun _ => rbad (fun z => n z.2.1), fun z => absurd rfl z⟩)
  refine wFrom (l := 1) (h := 10) (h1 := fun i3 => ⟨fun z => absurd z (by decide), fun _ => ?_⟩) (h0 := fun n => ⟨fun _ => rbad (fun z => n z.2.2.1), fun z => absurd rfl z⟩)
  refine hasB g3.1.1 (by omega) (fun i4 => ⟨fun _ v6 e6 => ?_, fun z => absurd z (by decide)⟩) (fun n => ⟨fun z => absurd rfl z, fun _ => rbad (fun z => n z.2.2.2)⟩)
  obtain ⟨N, n1, n2, rfl⟩ := id i2
  refine c_cough K hK g3.1.1 b0 n2 N 0 v6 0 (by omega) ?_
  intro K' hK'
  refine mFrom (l := 0) (h := 9999) (h1 := fun _ => ⟨fun z => absurd z (by decide), fun _ => ?_⟩) (h0 := fun z => absurd i1 z)
  refine mFrom (l := 1) (h := 30) (h1 := fun _ => ⟨fun z => absurd z (by decide), fun _ => ?_⟩) (h0 := fun z => absurd i2 z)
  refine mFrom (l := 1) (h := 10) (h1 := fun _ => ⟨fun z => absurd z (by decide), fun _ => ?_⟩) (h0 := fun z => absurd i3 z)
  refine mB g5 (by omega) (fun _ => ⟨fun _ w6 d6 => ?_, fun z => absurd z (by decide)⟩) (fun z => absurd i4 z)
  rw [d6, ← e6]
  exact r_cough K' hK' g5 b0 n2 N 0 v6 0 (by omega) ⟨rfl, A, B, h⟩
/-! liars -/
def toldS (A : Nat → Nat) (k m : Nat) : Nat := sumR (fun e => decide (A (71 + 4 * e) = A (71 + 4 * k) ∧ A (70 + 4 * e) = A (70 + 4 * k) ∧ A (73 + 4 * e) = A (73 + 4 * k))) (fun e => A (72 + 4 * e)) m
def liarS (A : Nat → Nat) (m : Nat) : Nat := setR (fun k => decide (sumPBH A (A 9) (A (71 + 4 * k)) (A (70 + 4 * k)) (A (73 + 4 * k)) < toldS A k (A 8))) (fun k => A (70 + 4 * k)) m
theorem op_liars (h : RelA TX A B x y) : VC_X11_liars_0 (fun r x' => VC_liars (fun r' y' => r = r' ∧ RelT TX x' y') y) x := by
  obtain ⟨g1, -, g3, -, g5, -⟩ := id h
  obtain ⟨b0, b1, b2, b3, b4, b5, b6, b7, b8, b9⟩ := g1.b
  obtain ⟨h1, h2, h3, h4, h5, h6⟩ := g3
  have tk := g1.2.2.2.2.1.2
  have tle : ∀ k m, m ≤ A 8 → toldS A k m ≤ 180 := fun k m hm => by
    have := sumR_le (q := fun e => decide (A (71 + 4 * e) = A (71 + 4 * k) ∧ A (70 + 4 * e) = A (70 + 4 * k) ∧ A (73 + 4 * e) = A (73 + 4 * k))) (w := fun e => A (72 + 4 * e)) (B := 9) (m := m) (fun i hi => (tk i (by omega)).2.2.2.1)
    unfold toldS; omega
  have sle : ∀ p b t m, m ≤ A 9 → sumPBH A m p b t ≤ 360 := fun p b t m hm => by
    have := sumR_le (q := fun i => decide (A (250 + 4 * i) = p ∧ A (251 + 4 * i) = b ∧ A (253 + 4 * i) = t)) (w := fun i => A (252 + 4 * i)) (B := 9) (m := m) (fun i hi => (g1.log i (by omega)).2.2.2.1)
    unfold sumPBH; omega
  intro K hK
  have key : ∀ k i : Nat, i + k = A 8 → K (nI (liarS A i), nI i) x := by
    intro k
    induction k with
    | zero =>
      intro i hi
      have ei : i = A 8 := (by omega)
      refine hK _ _ ⟨fun _ => ?_, fun z => absurd (by rw [h5.2.1, ei]; exact Int32.le_refl _) z⟩
      rw [ei]
      intro K' hK'
      have c8 : y.2.2.1 0 (8 : Int32).toNatClampNeg = nI (A 8) := by rw [g5, litC 8 (by decide), enc_at (by omega)]
      have c9 : y.2.2.1 0 (9 : Int32).toNatClampNeg = nI (A 9) := by rw [g5, litC 9 (by decide), enc_at (by omega)]
      have i8 : vp_in (8 : Int32) 3890 := litIn 8 (by decide) (by decide)
      have i9 : vp_in (9 : Int32) 3890 := litIn 9 (by decide) (by decide)
      have cell : ∀ n, n ≠ 5 → n < 3890 → y.2.2.1 0 (nI n).toNatClampNeg = nI (A n) := fun n h5 hn => by rw [g5, ncl (by omega), enc_at h5]
      have key2 : ∀ k i : Nat, i + k = A 8 → K' (.inl (nI (liarS A i), nI i)) y := by
        intro k
        induction k with
        | zero =>
          intro i hi
          have ei : i = A 8 := (by omega)
          refine hK' _ _ ⟨i8, fun _ => ⟨by rw [ei], A, B, h⟩, fun z => absurd (by rw [c8, ei]; exact Int32.le_refl _) z⟩
        | succ k ih =>
          intro i hi
          have tki := tk i (by omega)
          refine hK' _ _ ⟨i8, fun z => absurd z (by rw [c8]; exact nI_ge (by omega) (by omega)), fun _ v1 e1 => ?_⟩
          have ev : v1 = nI (70 + 4 * i) := by rw [e1, L70, L4, nmul, nadd]
          have ev1 : nI (70 + 4 * i) + 1 = nI (71 + 4 * i) := by rw [L1, nadd]; congr 1; omega
          have ev3 : nI (70 + 4 * i) + 3 = nI (73 + 4 * i) := by rw [L3, nadd]; congr 1; omega
          rw [ev]
          have nx := ih (i + 1) (by omega)
          have inner2 : ∀ j e : Nat, e + j = A 9 → K' (.inr (.inr (nI (liarS A i), nI i, nI (70 + 4 * i), nI (toldS A i (A 8)) - nI (sumPBH A e (A (71 + 4 * i)) (A (70 + 4 * i)) (A (73 + 4 * i))), nI e))) y := by
            intro j
            induction j with
            | zero =>
              intro e he
              have ee : e = A 9 := (by omega)
              have q1 := tle i (A 8) (by omega)
              have q2 := sle (A (71 + 4 * i)) (A (70 + 4 * i)) (A (73 + 4 * i)) (A 9) (by omega)
              refine hK' _ _ ⟨i9, fun _ => ?_, fun z => absurd (by rw [c9, ee]; exact Int32.le_refl _) z⟩
              rw [ee, L0, nsle0 (by omega) (by omega)]
              refine ⟨fun hle v11 e11 v12 e12 => ?_, fun hgt => ⟨vp_in_nI (by omega) (by decide), fun v13 e13 v14 e14 => ?_⟩⟩
              · rw [e11, e12, nI_1, nor, Nat.or_zero]
                have : liarS A (i + 1) = liarS A i := by
                  show (if _ then _ else _) = _
                  rw [if_neg (by simp; omega)]; rfl
                rw [this] at nx; exact nx
              · rw [cell _ (by omega) (by omega)] at e13
                rw [e13, e14, nI_1, L1, L31, nshl1 (by omega), nor]
                have : liarS A (i + 1) = liarS A i ||| 2 ^ A (70 + 4 * i) := by
                  show (if _ then _ else _) = _
                  rw [if_pos (by simp; omega)]; rfl
                rw [this] at nx; exact nx
            | succ j ihj =>
              intro e he
              have lg := g1.log e (by omega)
              refine hK' _ _ ⟨i9, fun z => absurd z (by rw [c9]; exact nI_ge (by omega) (by omega)), fun _ v15 e15 => ?_⟩
              have w0 : v15 = nI (250 + 4 * e) := by rw [e15, L250, L4, nmul, nadd]
              have w1 : nI (250 + 4 * e) + 1 = nI (251 + 4 * e) := by rw [L1, nadd]; congr 1; omega
              have w2 : nI (250 + 4 * e) + 2 = nI (252 + 4 * e) := by rw [L2, nadd]; congr 1; omega
              have w3 : nI (250 + 4 * e) + 3 = nI (253 + 4 * e) := by rw [L3, nadd]; congr 1; omega
              rw [w0, w1, w2, w3, ev1, ev3, cell _ (by omega) (by omega), cell _ (by omega) (by omega), cell _ (by omega) (by omega), cell _ (by omega) (by omega), cell _ (by omega) (by omega), cell _ (by omega) (by omega), cell _ (by omega) (by omega), neq (by omega) (by omega), neq (by omega) (by omega), neq (by omega) (by omega)]
              have nx2 := ihj (e + 1) (by omega)
              have skip : ¬ (A (250 + 4 * e) = A (71 + 4 * i) ∧ A (251 + 4 * e) = A (70 + 4 * i) ∧ A (253 + 4 * e) = A (73 + 4 * i)) → sumPBH A (e + 1) (A (71 + 4 * i)) (A (70 + 4 * i)) (A (73 + 4 * i)) = sumPBH A e (A (71 + 4 * i)) (A (70 + 4 * i)) (A (73 + 4 * i)) := fun hne => by
                show _ + (if _ then _ else 0) = _
                rw [if_neg (by simpa using hne)]; rfl
              refine ⟨vp_in_nI (by omega) (by decide), vp_in_nI (by omega) (by decide), fun n1 v16 e16 v17 e17 => ?_, fun y1 => ⟨vp_in_nI (by omega) (by decide), vp_in_nI (by omega) (by decide), fun n2 v18 e18 v19 e19 => ?_, fun y2 => ⟨vp_in_nI (by omega) (by decide), vp_in_nI (by omega) (by decide), fun n3 v20 e20 v21 e21 => ?_, fun y3 => ⟨vp_in_nI (by omega) (by decide), fun v22 e22 v23 e23 => ?_⟩⟩⟩⟩
              · rw [skip (fun z => n1 z.2.1)] at nx2
                rw [e16, e17, nI_1, Int32.sub_zero]; exact nx2
              · rw [skip (fun z => n2 z.1)] at nx2
                rw [e18, e19, nI_1, Int32.sub_zero]; exact nx2
              · rw [skip (fun z => n3 z.2.2)] at nx2
                rw [e20, e21, nI_1, Int32.sub_zero]; exact nx2
              · have : sumPBH A (e + 1) (A (71 + 4 * i)) (A (70 + 4 * i)) (A (73 + 4 * i)) = sumPBH A e (A (71 + 4 * i)) (A (70 + 4 * i)) (A (73 + 4 * i)) + A (252 + 4 * e) := by
                  show _ + (if _ then _ else 0) = _
                  rw [if_pos (by simp; exact ⟨y2, y1, y3⟩)]; rfl
                rw [this] at nx2
                rw [e22, e23, nI_1, Int32.sub_sub, nadd]; exact nx2
          have inner1 : ∀ j e : Nat, e + j = A 8 → K' (.inr (.inl (nI (liarS A i), nI i, nI (70 + 4 * i), nI (toldS A i e), nI e))) y := by
            intro j
            induction j with
            | zero =>
              intro e he
              have ee : e = A 8 := (by omega)
              refine hK' _ _ ⟨i8, fun _ => ?_, fun z => absurd (by rw [c8, ee]; exact Int32.le_refl _) z⟩
              have := inner2 (A 9) 0 (by omega)
              rw [show sumPBH A 0 (A (71 + 4 * i)) (A (70 + 4 * i)) (A (73 + 4 * i)) = 0 from rfl, ← L0, Int32.sub_zero] at this
              rw [ee]; exact this
            | succ j ihj =>
              intro e he
              have lg := tk e (by omega)
              refine hK' _ _ ⟨i8, fun z => absurd z (by rw [c8]; exact nI_ge (by omega) (by omega)), fun _ v2 e2 => ?_⟩
              have w0 : v2 = nI (70 + 4 * e) := by rw [e2, L70, L4, nmul, nadd]
              have w1 : nI (70 + 4 * e) + 1 = nI (71 + 4 * e) := by rw [L1, nadd]; congr 1; omega
              have w2 : nI (70 + 4 * e) + 2 = nI (72 + 4 * e) := by rw [L2, nadd]; congr 1; omega
              have w3 : nI (70 + 4 * e) + 3 = nI (73 + 4 * e) := by rw [L3, nadd]; congr 1; omega
              rw [w0, w1, w2, w3, ev1, ev3, cell _ (by omega) (by omega), cell _ (by omega) (by omega), cell _ (by omega) (by omega), cell _ (by omega) (by omega), cell _ (by omega) (by omega), cell _ (by omega) (by omega), cell _ (by omega) (by omega), neq (by omega) (by omega), neq (by omega) (by omega), neq (by omega) (by omega)]
              have nx2 := ihj (e + 1) (by omega)
              have skip : ¬ (A (71 + 4 * e) = A (71 + 4 * i) ∧ A (70 + 4 * e) = A (70 + 4 * i) ∧ A (73 + 4 * e) = A (73 + 4 * i)) → toldS A i (e + 1) = toldS A i e := fun hne => by
                show _ + (if _ then _ else 0) = _
                rw [if_neg (by simpa using hne)]; rfl
              refine ⟨vp_in_nI (by omega) (by decide), vp_in_nI (by omega) (by decide), fun n1 v3 e3 v4 e4 => ?_, fun y1 => ⟨vp_in_nI (by omega) (by decide), vp_in_nI (by omega) (by decide), fun n2 v5 e5 v6 e6 => ?_, fun y2 => ⟨vp_in_nI (by omega) (by decide), vp_in_nI (by omega) (by decide), fun n3 v7 e7 v8 e8 => ?_, fun y3 => ⟨vp_in_nI (by omega) (by decide), fun v9 e9 v10 e10 => ?_⟩⟩⟩⟩
              · rw [skip (fun z => n1 z.2.1)] at nx2
                rw [e3, e4, nI_1, Int32.add_zero]; exact nx2
              · rw [skip (fun z => n2 z.1)] at nx2
                rw [e5, e6, nI_1, Int32.add_zero]; exact nx2
              · rw [skip (fun z => n3 z.2.2)] at nx2
                rw [e7, e8, nI_1, Int32.add_zero]; exact nx2
              · have : toldS A i (e + 1) = toldS A i e + A (72 + 4 * e) := by
                  show _ + (if _ then _ else 0) = _
                  rw [if_pos (by simp; exact ⟨y2, y1, y3⟩)]; rfl
                rw [this] at nx2
                rw [e9, e10, nI_1, nadd]; exact nx2
          exact inner1 (A 8) 0 (by omega)
      exact key2 (A 8) 0 (by omega)
    | succ k ih =>
      intro i hi
      have tki := tk i (by omega)
      obtain ⟨f0, f1, f2, f3⟩ := h5.2.2.2 i (by omega)
      have nx := ih (i + 1) (by omega)
      have c0 : 4 * nI i = nI (4 * i) := by rw [L4, nmul]
      have c1 : nI (4 * i) + 1 = nI (4 * i + 1) := nI_1 _
      have c3 : nI (4 * i) + 3 = nI (4 * i + 3) := by rw [L3, nadd]
      refine hK _ _ ⟨fun z => absurd z (by rw [h5.2.1]; exact nI_ge (by omega) (by omega)), fun _ => ?_⟩
      rw [c0, c1, c3, ncl (by omega), ncl (by omega), ncl (by omega), f0, f1, f3]
      refine ⟨vp_in_nI (by omega) (by decide), fun v1 e1 => ⟨vp_in_nI (by omega) (by decide), fun v2 e2 => ⟨vp_in_nI (by omega) (by decide), fun v3 e3 => ?_⟩⟩⟩
      subst e1 e2 e3
      unfold VC_X7_toldSum_17
      rw [h5.2.1]
      refine c_sum19 (P := fun i => A (71 + 4 * i)) (B := fun i => A (70 + 4 * i)) (N := fun i => A (72 + 4 * i)) (H := fun i => A (73 + 4 * i)) (by omega) (fun e he => h5.2.2.2 e he) (fun e => decide (A (71 + 4 * e) = A (71 + 4 * i) ∧ A (70 + 4 * e) = A (70 + 4 * i) ∧ A (73 + 4 * e) = A (73 + 4 * i))) (fun e he => ?_) ?_
      · have := tk e he
        simp only [decide_eq_true_eq, L1]
        rw [nm1 (by omega), neq (by omega) (by omega), nm1 (by omega), neq (by omega) (by omega), nm1 (by omega), neq (by omega) (by omega)]
        simp
      · refine c_sumPBH g1 h3 rfl rfl rfl (by omega) (by omega) (by omega) ?_
        have q1 := tle i (A 8) (by omega)
        have q2 := sle (A (71 + 4 * i)) (A (70 + 4 * i)) (A (73 + 4 * i)) (A 9) (by omega)
        show (nI (toldS A i (A 8)) ≤ nI (sumPBH A (A 9) (A (71 + 4 * i)) (A (70 + 4 * i)) (A (73 + 4 * i))) → _) ∧ (¬ nI (toldS A i (A 8)) ≤ nI (sumPBH A (A 9) (A (71 + 4 * i)) (A (70 + 4 * i)) (A (73 + 4 * i))) → _)
        rw [nle (by omega) (by omega)]
        refine ⟨fun hle v8 e8 => ?_, fun hgt v9 e9 v10 e10 => ?_⟩
        · rw [e8, nI_1]
          have : liarS A (i + 1) = liarS A i := by
            show (if _ then _ else _) = _
            rw [if_neg (by simp; omega)]; rfl
          rw [this] at nx; exact nx
        · rw [e9, e10, nI_1, L1, L31, nshl1 (by omega), nor]
          have : liarS A (i + 1) = liarS A i ||| 2 ^ A (70 + 4 * i) := by
            show (if _ then _ else _) = _
            rw [if_pos (by simp; omega)]; rfl
          rw [this] at nx; exact nx
  exact key (A 8) 0 (by omega)
end OP5
