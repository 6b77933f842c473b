/-! later, undo -/
def hourN (A : Nat → Nat) : Nat → Nat := fun j => if j = 3 then A 3 + 1 else if 10 ≤ j ∧ j < 40 ∧ j % 5 = 3 then 0 else keepN A j
theorem hourN_3 (A : Nat → Nat) : hourN A 3 = A 3 + 1 := rfl
theorem hourN_g (A : Nat → Nat) {b : Nat} (h : b < 6) : hourN A (13 + 5 * b) = 0 := by
  unfold hourN
  rw [if_neg (by omega), if_pos (by omega)]
theorem hourN_o (A : Nat → Nat) {j : Nat} (h3 : j ≠ 3) (h : j < 10 ∨ 40 ≤ j ∨ j % 5 ≠ 3) : hourN A j = keepN A j := by
  unfold hourN
  rw [if_neg h3, if_neg (by omega)]
theorem Inv_hour {A : Nat → Nat} (h : Inv A) (h3 : A 3 < 999) : Inv (hourN A) := by
  obtain ⟨b0, b1, b2, b3, b4, b5, b6, b7, b8, b9⟩ := h.b
  obtain ⟨o, hK⟩ := keepN_kept b6
  have hlog := h.log
  have eo : ∀ j, j ≠ 3 → j ≠ 6 → j < 410 → (j < 10 ∨ 40 ≤ j ∨ j % 5 ≠ 3) → hourN A j = A j := fun j j2 j6 jj jk => by rw [hourN_o A j2 jk, keepN_lo A jj j6]
  have ll : ∀ i, i < 4 * A 9 → A (250 + i) = hourN A (250 + i) := fun i hi => (eo _ (by omega) (by omega) (by omega) (by omega)).symm
  have e9 := eo 9 (by omega) (by omega) (by omega) (by omega)
  have e2 := eo 2 (by omega) (by omega) (by omega) (by omega)
  have e0 := eo 0 (by omega) (by omega) (by omega) (by omega)
  have e1 := eo 1 (by omega) (by omega) (by omega) (by omega)
  refine Inv_step h hK (hourN_o A (by omega) (by omega)) (fun j hj => hourN_o A (by omega) (by omega)) (fun j hj => eo j (by omega) (by omega) (by omega) (by omega)) (fun i hi => eo _ (by omega) (by omega) (by omega) (by omega)) (by omega) (fun b hb => by rw [eo _ (by omega) (by omega) (by omega) (by omega)]; exact (h.2.1 b hb).2.2.2.1) ?_
  refine Cons_live (by rw [hourN_3]; omega) (by omega) (by omega) (by omega) (fun i hi => ?_) (fun b hb => ?_) (fun b hb => ?_) (fun p hp => ?_)
  · rw [e9] at hi
    have := hlog i hi
    rw [eo (250 + 4 * i) (by omega) (by omega) (by omega) (by omega), eo (251 + 4 * i) (by omega) (by omega) (by omega) (by omega), eo (252 + 4 * i) (by omega) (by omega) (by omega) (by omega), eo (253 + 4 * i) (by omega) (by omega) (by omega) (by omega), hourN_3, e0, e2]
    omega
  · rw [e0] at hb
    rw [eo _ (by omega) (by omega) (by omega) (by omega)]; exact (h.2.1 b hb).2.2.2.1
  · rw [e0] at hb
    rw [hourN_g A (by omega), e9, hourN_3, ← sumBH_congr ll]
    symm
    exact sumR_zero (fun i hi => by have := hlog i hi; simp; omega)
  · rw [e2] at hp
    rw [e9, e1]
    obtain ⟨d1, d2, d3, d4, d5⟩ := h.piece (p := p) (by omega)
    rw [eo (150 + 10 * p) (by omega) (by omega) (by omega) (by omega), eo (151 + 10 * p) (by omega) (by omega) (by omega) (by omega), eo (152 + 10 * p) (by omega) (by omega) (by omega) (by omega), eo (153 + 10 * p) (by omega) (by omega) (by omega) (by omega)]
    exact ⟨d1, isSt_congr (n := A 0) ⟨(eo _ (by omega) (by omega) (by omega) (by omega)).symm, (eo _ (by omega) (by omega) (by omega) (by omega)).symm⟩ (fun b hb => (eo _ (by omega) (by omega) (by omega) (by omega)).symm) (fun i hi => (hlog i hi).2.1) ll d2, by rw [d3]; exact sumP_congr ll, d4, fun b hb => by rw [eo _ (by omega) (by omega) (by omega) (by omega), d5 b hb]; exact sumPB_congr ll⟩
theorem c_hour {Post : Int32 → XS → Prop} {A : Nat → Nat} {x : XS} (hI : Inv A) (hx : RX x.1 x.2.1 A) (h1 : ∀ r x', XFr x x' → RX x'.1 x'.2.1 (hourN A) → Post r x') : VC_X6_push_15 Post 2 (-1) (xI x 352 (nI (A 3 + 1))) := by
  obtain ⟨b0, b1, b2, b3, b4, b5, b6, b7, b8, b9⟩ := hI.b
  obtain ⟨r1, r2, r3, ⟨s1, f, s2, s3, s4⟩, r5, r6⟩ := hx
  obtain ⟨o, hK⟩ := keepN_kept b6
  refine c_push (s := A 6) (f := f) b6 s2 (by rw [xI_n _ _ (by omega)]; exact s1) (by rw [xI_n _ _ (by omega)]; exact s3) (fun S' o' n1 r ho' hn1 hr i1 f1 g1 p1 p0 ph pw pp pb => ?_)
  have eo' : o' = o := by have := hK.1; omega
  subst eo'
  have I' : ∀ j, j ≠ 352 → j ≠ 480 → j ≠ 481 → S'.1 j = x.1 j := fun j h1 h2 h3 => by rw [i1 j h2 h3, xI_n _ _ h1]
  have F' : ∀ j, j ≠ 16 → S'.2.1 j = x.2.1 j := fun j h3 => by rw [f1 j h3, xI_f]
  have fx : XFr x S' := by
    refine ((XFr.refl x).I 352 (nI (A 3 + 1)) (by omega)).trans ⟨?_, ?_, g1, f1 42 (by omega), i1 _ (by omega) (by omega), i1 _ (by omega) (by omega), i1 _ (by omega) (by omega), i1 _ (by omega) (by omega)⟩
    · funext j; unfold kI; split
      · rw [i1 _ (by omega) (by omega)]
      · rfl
    · funext j; unfold kF; split
      · rw [f1 _ (by omega)]
      · rfl
  have eo : ∀ j, j ≠ 3 → j ≠ 6 → j < 410 → (j < 10 ∨ 40 ≤ j ∨ j % 5 ≠ 3) → hourN A j = A j := fun j j2 j6 jj jk => by rw [hourN_o A j2 jk, keepN_lo A jj j6]
  refine h1 _ S' fx ⟨⟨by rw [I' 64 (by omega) (by omega) (by omega), eo 0 (by omega) (by omega) (by omega) (by omega)]; exact r1.1, fun i hi => ?_⟩, rxWares_of r2 b1 (I' 224 (by omega) (by omega) (by omega)) (fun j _ _ _ => F' j (by omega)) (fun j hj => eo j (by omega) (by omega) (by omega) (by omega)), ⟨?_, ?_, ?_, fun p hp => ?_, fun i hi => ?_⟩, ?_, rxTalk_of r5 b7 b8 ⟨I' 544 (by omega) (by omega) (by omega), I' 546 (by omega) (by omega) (by omega)⟩ (fun j _ _ => F' j (by omega)) (fun j hj => eo j (by omega) (by omega) (by omega) (by omega)), rxText_of r6 ⟨I' 38 (by omega) (by omega) (by omega), I' 39 (by omega) (by omega) (by omega)⟩ ⟨eo 4 (by omega) (by omega) (by omega) (by omega), eo 5 (by omega) (by omega) (by omega) (by omega)⟩⟩
  · rw [eo 0 (by omega) (by omega) (by omega) (by omega)] at hi
    rw [F' 3 (by omega), F' 4 (by omega), F' 5 (by omega), F' 6 (by omega), eo (10 + 5 * i) (by omega) (by omega) (by omega) (by omega), eo (11 + 5 * i) (by omega) (by omega) (by omega) (by omega), eo (12 + 5 * i) (by omega) (by omega) (by omega) (by omega), eo (14 + 5 * i) (by omega) (by omega) (by omega) (by omega)]
    exact r1.2 i hi
  · rw [i1 352 (by omega) (by omega), xI_s, hourN_3]
  · rw [I' 353 (by omega) (by omega) (by omega), eo 2 (by omega) (by omega) (by omega) (by omega)]; exact r3.2.1
  · rw [I' 356 (by omega) (by omega) (by omega), eo 9 (by omega) (by omega) (by omega) (by omega)]; exact r3.2.2.1
  · rw [eo 2 (by omega) (by omega) (by omega) (by omega)] at hp
    rw [F' 12 (by omega), F' 13 (by omega), eo _ (by omega) (by omega) (by omega) (by omega), eo _ (by omega) (by omega) (by omega) (by omega)]; exact r3.2.2.2.1 p hp
  · rw [eo 9 (by omega) (by omega) (by omega) (by omega)] at hi
    rw [F' 14 (by omega), eo _ (by omega) (by omega) (by omega) (by omega)]; exact r3.2.2.2.2 i hi
  · refine rxSteps_push (I := x.1) (F := x.2.1) hI hK (hourN_o A (by omega) (by omega)) (fun j hj => hourN_o A (by omega) (by omega)) s4 hn1 hr p1 p0 (fun i hi => by rw [ph i hi, xI_f]) ?_
    refine ⟨2, pw, (by omega), fun z => absurd z (by decide), fun z => absurd z (by decide), fun _ => ⟨?_, ?_, ?_⟩, fun z => absurd z (by decide), fun _ p hp => ?_, fun p hp => ?_, ?_, fun b hb => ?_, fun b hb hb2 => pb b hb2⟩
    · rw [live_1, live_1, eo 2 (by omega) (by omega) (by omega) (by omega)]
    · rw [live_2, live_2, eo 9 (by omega) (by omega) (by omega) (by omega)]
    · rw [live_0, live_0, hourN_3]
    · rw [live_1] at hp
      rw [show 19 + 10 * p = 16 + (10 * p + 3) by omega, live_p, live_p, eo _ (by omega) (by omega) (by omega) (by omega)]
    · rw [live_1] at hp
      rw [live_p, live_p, eo _ (by omega) (by omega) (by omega) (by omega)]
    · rw [live_3, live_3, eo 0 (by omega) (by omega) (by omega) (by omega)]; omega
    · rw [live_3] at hb
      rw [pb b (by omega), live_b _ (by omega), live_b _ (by omega), eo _ (by omega) (by omega) (by omega) (by omega), Int32.sub_self]
def hoursN : Nat → (Nat → Nat) → Nat → Nat
  | 0, A => A
  | k + 1, A => hoursN k (hourN A)
theorem hourN_4 {A : Nat → Nat} : hourN A 4 = A 4 := by rw [hourN_o A (by omega) (by omega), keepN_lo A (by omega) (by omega)]
theorem Inv_hours : ∀ {k : Nat} {A : Nat → Nat}, Inv A → A 3 + k ≤ 999 → Inv (hoursN k A) ∧ hoursN k A 3 = A 3 + k ∧ hoursN k A 4 = A 4
  | 0, A, h, _ => ⟨h, rfl, rfl⟩
  | k + 1, A, h, hk => by
    have := Inv_hours (k := k) (Inv_hour h (by omega)) (by rw [hourN_3]; omega)
    rw [hourN_3, hourN_4] at this
    exact ⟨this.1, this.2.1.trans (by omega), this.2.2⟩
theorem c_later {Post : Int32 → XS → Prop} {A : Nat → Nat} {x : XS} {a0 : Int32} (hI : Inv A) (hx : RX x.1 x.2.1 A) (h1 : ∀ k x', 1 ≤ k → k ≤ 99 → A 3 + k ≤ 999 → a0 = nI k → XFr x x' → RX x'.1 x'.2.1 (hoursN k A) → Post (nI (A 3 + k)) x') (h0 : ¬ (∃ k, 1 ≤ k ∧ k ≤ 99 ∧ A 3 + k ≤ 999 ∧ a0 = nI k) → Post (-1) x) : VC_X11_passHours_0 Post a0 x := by
  obtain ⟨b0, b1, b2, b3, b4, b5, b6, b7, b8, b9⟩ := hI.b
  intro K hK
  refine wFrom (l := 1) (h := 99) (h1 := fun hk => ⟨fun z => absurd z (by decide), fun _ => ?_⟩) (h0 := fun hk => ⟨fun _ => h0 (fun ⟨k, k1, k2, k3, k4⟩ => hk ⟨k, k1, k2, k4⟩), fun z => absurd rfl z⟩)
  obtain ⟨k, k1, k2, rfl⟩ := hk
  rw [hx.2.2.1.1, nadd, L999, nle (by omega) (by omega)]
  refine ⟨fun hle => ?_, fun hgt => h0 (fun ⟨k', k1', k2', k3', k4'⟩ => hgt (by rw [(nI_eq (by omega) (by omega)).mp k4']; exact k3'))⟩
  have loop : ∀ n i : Nat, ∀ C : Nat → Nat, ∀ x' : XS, i + n = k → Inv C → C 3 = A 3 + i → hoursN n C = hoursN k A → XFr x x' → RX x'.1 x'.2.1 C → K (nI k, nI i) x' := by
    intro n
    induction n with
    | zero =>
      intro i C x' hi hC h3 he fx hx'
      have ei : i = k := (by omega)
      subst ei
      refine hK _ _ ⟨fun _ => ?_, fun z => absurd (Int32.le_refl _) z⟩
      rw [hx'.2.2.1.1, h3]
      refine h1 i x' k1 k2 hle rfl fx ?_
      rw [← he]; exact hx'
    | succ n ih =>
      intro i C x' hi hC h3 he fx hx'
      refine hK _ _ ⟨fun z => absurd z (nI_ge (by omega) (by omega)), fun _ v2 e2 S3 e3 => ?_⟩
      rw [hx'.2.2.1.1, L1, nadd] at e2
      rw [e3, e2]
      refine c_hour hC hx' (fun r x'' fx'' hx'' v6 e6 => ?_)
      rw [e6, nI_1]
      exact ih (i + 1) (hourN C) x'' (by omega) (Inv_hour hC (by omega)) (by rw [hourN_3]; omega) he (fx.trans fx'') hx''
  exact loop k 0 A x (by omega) hI rfl rfl (XFr.refl x) hx
theorem r_later {Post : Int32 → MS → Prop} {A : Nat → Nat} {y : MS} {a0 : Int32} (hI : Inv A) (hy : y.2.2.1 0 = enc A) (h1 : ∀ k, 1 ≤ k → k ≤ 99 → A 3 + k ≤ 999 → a0 = nI k → Post (nI (A 3 + k)) (sF y 0 (enc (hoursN k A)))) (h0 : ¬ (∃ k, 1 ≤ k ∧ k ≤ 99 ∧ A 3 + k ≤ 999 ∧ a0 = nI k) → Post (-1) y) : VC_later Post a0 y := by
  obtain ⟨b0, b1, b2, b3, b4, b5, b6, b7, b8, b9⟩ := hI.b
  intro K hK
  have i3 : vp_in (3 : Int32) 3890 := litIn 3 (by decide) (by decide)
  have c3 : ∀ {S : MS} {C : Nat → Nat}, S.2.2.1 0 = enc C → S.2.2.1 0 (3 : Int32).toNatClampNeg = nI (C 3) := fun e => enc_cell (k := 3) e (by decide) (by decide)
  refine mFrom (l := 1) (h := 99) (h1 := fun hk => ⟨fun z => absurd z (by decide), fun _ => ⟨i3, ?_⟩⟩) (h0 := fun hk => ⟨fun _ => h0 (fun ⟨k, k1, k2, k3, k4⟩ => hk ⟨k, k1, k2, k4⟩), fun z => absurd rfl z⟩)
  obtain ⟨k, k1, k2, rfl⟩ := hk
  rw [c3 hy, nadd, L999, nle (by omega) (by omega)]
  refine ⟨fun hle => ?_, fun hgt => h0 (fun ⟨k', k1', k2', k3', k4'⟩ => hgt (by rw [(nI_eq (by omega) (by omega)).mp k4']; exact k3'))⟩
  have sS : ∀ S : MS, S = sF S 0 (S.2.2.1 0) := fun S => by
    unfold sF
    have : (fun j => if j = 0 then S.2.2.1 0 else S.2.2.1 j) = S.2.2.1 := by
      funext j
      by_cases z : j = 0
      · rw [if_pos z, z]
      · rw [if_neg z]
    rw [this]
  have loop : ∀ n i : Nat, ∀ C : Nat → Nat, i + n = k → Inv C → C 3 = A 3 + i → hoursN n C = hoursN k A → K (.inl (nI k, nI i)) (sF y 0 (enc C)) := by
    intro n
    induction n with
    | zero =>
      intro i C hi hC h3 he
      have ei : i = k := (by omega)
      subst ei
      refine hK _ _ ⟨fun _ => ⟨i3, ?_⟩, fun z => absurd (Int32.le_refl _) z⟩
      rw [c3 (sF_same _ _ _), h3]
      have := h1 i k1 k2 hle rfl
      rw [← he] at this; exact this
    | succ n ih =>
      intro i C hi hC h3 he
      have cb := hC.b
      refine hK _ _ ⟨fun z => absurd z (nI_ge (by omega) (by omega)), fun _ => r_keepN (by omega) (sF_same _ _ _) ⟨i3, fun v3 e3 => ⟨i3, fun S4 e4 => ?_⟩⟩⟩
      rw [sF_sF] at e3 e4
      rw [c3 (sF_same _ _ _), keepN_lo C (by omega) (by omega), L1, nadd] at e3
      rw [e3, sF_same, sF_sF, litC 3 (by decide), enc_u (by omega)] at e4
      rw [e4]
      have inner : ∀ m b : Nat, ∀ E : Nat → Nat, b + m = 6 → (∀ j, (j < 10 ∨ 40 ≤ j ∨ j % 5 ≠ 3 ∨ 13 + 5 * b ≤ j) → E j = uN (keepN C) 3 (C 3 + 1) j) → (∀ j, j < b → E (13 + 5 * j) = 0) → K (.inr (nI k, nI i, nI b)) (sF y 0 (enc E)) := by
        intro m
        induction m with
        | zero =>
          intro b E hb hE hz
          have eb : b = 6 := (by omega)
          subst eb
          refine hK _ _ ⟨fun _ v5 e5 => ?_, fun z => absurd (Int32.le_refl _) z⟩
          have : E = hourN C := by
            funext j
            unfold hourN
            by_cases z3 : j = 3
            · rw [hE j (by omega), z3, uN_s, if_pos rfl]
            · rw [if_neg z3]
              by_cases z4 : 10 ≤ j ∧ j < 40 ∧ j % 5 = 3
              · rw [if_pos z4]
                have := hz ((j - 13) / 5) (by omega)
                rwa [show 13 + 5 * ((j - 13) / 5) = j by omega] at this
              · rw [if_neg z4, hE j (by omega), uN_n _ _ _ _ z3]
          rw [e5, nI_1, this]
          exact ih (i + 1) (hourN C) (by omega) (Inv_hour hC (by omega)) (by rw [hourN_3]; omega) he
        | succ m ihm =>
          intro b E hb hE hz
          refine hK _ _ ⟨fun z => absurd z (nI_ge (b := 6) (by omega) (by decide)), fun _ => mset (sF_same _ _ _) rfl L3 L0 (by omega) (by omega) (fun v7 e7 => ?_)⟩
          rw [e7, nI_1, sF_sF]
          refine ihm (b + 1) _ (by omega) (fun j hj => by rw [uN_n _ _ _ _ (by omega), hE j (by omega)]) (fun j hj => ?_)
          by_cases z : j = b
          · rw [z, show 13 + 5 * b = 10 + 5 * b + 3 by omega, uN_s]
          · rw [uN_n _ _ _ _ (by omega), hz j (by omega)]
      exact inner 6 0 _ (by omega) (fun _ _ => rfl) (fun j hj => absurd hj (by omega))
  have := loop k 0 A (by omega) hI rfl rfl
  rw [← hy, ← sS] at this
  exact this
theorem op_later {TX : TXT} {A B : Nat → Nat} {x : XS} {y : MS} {a0 : Int32} (h : RelA TX A B x y) : VC_X11_later_0 (fun r x' => VC_later (fun r' y' => r = r' ∧ RelT TX x' y') a0 y) a0 x := by
  obtain ⟨g1, -, g3, -, g5, -⟩ := id h
  refine c_later g1 g3 (fun k x' k1 k2 k3 e fx hx' => ?_) (fun hn => ?_)
  · refine r_later g1 g5 (fun k' k1' k2' k3' e' => ?_) (fun z => absurd ⟨k, k1, k2, k3, e⟩ z)
    have : k' = k := (nI_eq (by omega) (by omega)).mp (e'.symm.trans e)
    subst this
    have hh := Inv_hours g1 k3
    exact ⟨rfl, h.step fx ((YFr.refl y).F _ _ (by omega)) hh.1 hx' (sF_same _ _ _) hh.2.2⟩
  · exact r_later g1 g5 (fun k' k1 k2 k3 e' => absurd ⟨k', k1, k2, k3, e'⟩ hn) (fun _ => ⟨rfl, A, B, h⟩)
