/-! played -/
theorem hours_5 : ∀ (k : Nat) (A : Nat → Nat), hoursN k A 5 = A 5
  | 0, _ => rfl
  | k + 1, A => (hours_5 k (hourN A)).trans (by rw [hourN_o A (by omega) (by omega), keepN_lo A (by omega) (by omega)])
noncomputable def clF (o0 o1 : LAW) (A : Nat → Nat) (d : Nat × Nat × Nat × Nat × Nat) : Option (Nat → Nat) :=
  if d.1 = 4 then (if d.2.1 < A 1 ∧ A 2 < 10 then some (beginN A d.2.1) else none)
  else if d.1 = 5 then @ite _ (d.2.2.1 < A 2 ∧ d.2.2.2.1 < A 0 ∧ okB A d.2.2.1 d.2.2.2.1 d.2.2.2.2 (smV o0 (A 3)) (coV o1 A d.2.2.2.1 (A 3))) (Classical.propDecidable _) (some (blowN A d.2.2.1 d.2.2.2.1 d.2.2.2.2 (d.2.2.2.2 * coV o1 A d.2.2.2.1 (A 3)))) none
  else if d.1 = 6 then (if A 3 + d.2.1 ≤ 999 then some (hoursN d.2.1 A) else none)
  else some A
/-- clause k on both sides is d -/
def clD (t : TR) (g : Nat → Int32) (k : Nat) (d : Nat × Nat × Nat × Nat × Nat) : Prop := d.1 ≤ 6 ∧ t.2.2.2.2.2 (4 * k) = nI (32 + d.1) ∧ g (1 + 3 * k) = nI d.1
  ∧ (d.1 = 4 → d.2.1 ≤ 5 ∧ t.2.2.2.2.2 (4 * k + 1) = nI d.2.1 ∧ g (2 + 3 * k) = nI d.2.1)
  ∧ (d.1 = 5 → d.2.2.1 ≤ 9 ∧ d.2.2.2.1 ≤ 5 ∧ 1 ≤ d.2.2.2.2 ∧ d.2.2.2.2 ≤ 9 ∧ t.2.2.2.2.2 (4 * k + 1) = nI d.2.2.1 ∧ t.2.2.2.2.2 (4 * k + 2) = nI d.2.2.2.1 ∧ t.2.2.2.2.2 (4 * k + 3) = nI d.2.2.2.2 ∧ g (2 + 3 * k) = nI d.2.2.1 ∧ g (3 + 3 * k) = nI (10 * d.2.2.2.1 + d.2.2.2.2))
  ∧ (d.1 = 6 → 1 ≤ d.2.1 ∧ d.2.1 ≤ 99 ∧ t.2.2.2.2.2 (4 * k + 1) = nI d.2.1 ∧ g (2 + 3 * k) = nI d.2.1)
theorem clD_ex {t : TR} {g : Nat → Int32} {k : Nat} (h : clauseRel t g k) : ∃ d, clD t g k d := by
  obtain ⟨s, s1, s2, s3, s4, s5, s6⟩ := h
  by_cases z4 : s = 4
  · obtain ⟨v, v1, v2, v3⟩ := s4 z4
    exact ⟨(s, v, 0, 0, 0), s1, s2, s3, fun _ => ⟨v1, v2, v3⟩, fun z => absurd (z4.symm.trans z) (by decide), fun z => absurd (z4.symm.trans z) (by decide)⟩
  by_cases z5 : s = 5
  · obtain ⟨p, b, n, v⟩ := s5 z5
    exact ⟨(s, 0, p, b, n), s1, s2, s3, fun z => absurd z z4, fun _ => v, fun z => absurd (z5.symm.trans z) (by decide)⟩
  by_cases z6 : s = 6
  · obtain ⟨v, v1⟩ := s6 z6
    exact ⟨(s, v, 0, 0, 0), s1, s2, s3, fun z => absurd z z4, fun z => absurd z z5, fun _ => v1⟩
  exact ⟨(s, 0, 0, 0, 0), s1, s2, s3, fun z => absurd z z4, fun z => absurd z z5, fun z => absurd z z6⟩
theorem clF_ok {o0 o1 : LAW} {A C : Nat → Nat} {d : Nat × Nat × Nat × Nat × Nat} {t : TR} {g : Nat → Int32} {k : Nat} (h : Inv A) (hd : clD t g k d) (e : clF o0 o1 A d = some C) : Inv C ∧ C 4 = A 4 ∧ C 5 = A 5 := by
  have bb := h.b
  obtain ⟨d1, d2, d3, d4, d5, d6⟩ := hd
  unfold clF at e
  by_cases z4 : d.1 = 4
  · rw [if_pos z4] at e
    by_cases z : d.2.1 < A 1 ∧ A 2 < 10
    · rw [if_pos z] at e
      rw [← Option.some.inj e]
      exact ⟨Inv_begin h z.1 z.2, by rw [beginN_o A _ (by omega) (by omega), keepN_lo A (by omega) (by omega)], by rw [beginN_o A _ (by omega) (by omega), keepN_lo A (by omega) (by omega)]⟩
    · rw [if_neg z] at e; exact absurd e (by simp)
  rw [if_neg z4] at e
  by_cases z5 : d.1 = 5
  · rw [if_pos z5] at e
    obtain ⟨v1, v2, v3, v4, -⟩ := d5 z5
    by_cases z : d.2.2.1 < A 2 ∧ d.2.2.2.1 < A 0 ∧ okB A d.2.2.1 d.2.2.2.1 d.2.2.2.2 (smV o0 (A 3)) (coV o1 A d.2.2.2.1 (A 3))
    · rw [if_pos z] at e
      rw [← Option.some.inj e]
      exact ⟨Inv_blow h z.1 z.2.1 v3 v4 z.2.2.2.1, bl_4 (by omega) (by omega) z.2.2.2.1⟩
    · rw [if_neg z] at e; exact absurd e (by simp)
  rw [if_neg z5] at e
  by_cases z6 : d.1 = 6
  · rw [if_pos z6] at e
    by_cases z : A 3 + d.2.1 ≤ 999
    · rw [if_pos z] at e
      rw [← Option.some.inj e]
      have := Inv_hours h z
      exact ⟨this.1, this.2.2, hours_5 _ _⟩
    · rw [if_neg z] at e; exact absurd e (by simp)
  rw [if_neg z6] at e
  rw [← Option.some.inj e]
  exact ⟨h, rfl, rfl⟩
section PLAY
variable {A : Nat → Nat} {x : XS} {y : MS} {o0 o1 : LAW}
theorem c_order {Post : Int32 → XS → Prop} {S : XS} {a c k j : Nat} {t : TR} {a0 a1 : Int32} (ht : tx S a t) (hl : t.2.2.2.2.1 = 4 * c) (hc : c ≤ 24) (hk : k < c) (hj : j < 4) (e0 : a0 = nI k) (e1 : a1 = nI j) (h : Post (t.2.2.2.2.2 (4 * k + j)) S) : VC_X9_orderOf_x Post a a0 a1 S := by
  intro v1 d1
  have ev : v1 = nI (4 * k + j) := by rw [d1, e0, e1, L4, nmul, nadd]
  rw [ev]
  refine ⟨fun z => absurd z (nI_pos (by omega)), fun _ => ⟨t, ht, fun z => absurd z ?_, fun _ => ⟨t, ht, by rw [hl]; exact vp_in_nI (by omega) (by omega), ?_⟩⟩⟩
  · rw [hl]; exact nI_ge (by omega) (by omega)
  · rw [ncl (by omega)]; exact h
theorem c_perf {Post : Int32 → XS → Prop} {a c k : Nat} {t : TR} {g : Nat → Int32} {d : Nat × Nat × Nat × Nat × Nat} (hI : Inv A) (hx : RX x.1 x.2.1 A) (j0 : JTc x.2.2 (x.1 38) (x.1 39) 0 o0) (j1 : JTc x.2.2 (x.1 38) (x.1 39) 1 o1) (l0 : ∀ p, o0 = some p → ∀ v, p v ≤ topL 0) (l1 : ∀ p, o1 = some p → ∀ v, p v ≤ topL 1) (ht : tx x a t) (hl : t.2.2.2.2.1 = 4 * c) (hc : c ≤ 24) (hk : k < c) (hd : clD t g k d)
    (h1 : ∀ C x', clF o0 o1 A d = some C → XFr x x' → RX x'.1 x'.2.1 C → Post 1 x') (h0 : ∀ x', clF o0 o1 A d = none → XFr x x' → RX x'.1 x'.2.1 A → Post 0 x') : VC_X11_perform_0 Post a (nI k) x := by
  have bb := hI.b
  obtain ⟨d1, d2, d3, d4, d5, d6⟩ := hd
  refine ⟨t, ht, c_order ht hl hc hk (j := 0) (by decide) rfl rfl ?_⟩
  rw [Nat.add_zero, d2]
  refine ⟨fun e => ?_, fun e => ?_, fun e => ?_, fun n4 n5 n6 => ?_⟩
  · have z4 : d.1 = 4 := by have := (nI_eq (b := 36) (by omega) (by omega)).mp e; omega
    obtain ⟨v1, v2, v3⟩ := d4 z4
    refine ⟨t, ht, c_order ht hl hc hk (j := 1) (by decide) rfl rfl ?_⟩
    rw [v2]
    refine c_begin hI hx (fun k' x' k1 k2 ek fx hx' => ⟨fun z => ?_, fun _ => ?_⟩) (fun hn => ⟨fun _ => ?_, fun z => absurd rfl z⟩)
    · rw [L1, nm1 (by omega)] at z; exact z.elim
    · have : d.2.1 = k' := (nI_eq (by omega) (by omega)).mp ek
      subst this
      exact h1 _ x' (by unfold clF; rw [if_pos z4, if_pos ⟨k1, k2⟩]) fx hx'
    · refine h0 x ?_ (XFr.refl x) hx
      unfold clF
      rw [if_pos z4, if_neg (fun z => hn ⟨⟨_, z.1, rfl⟩, z.2⟩)]
  · have z5 : d.1 = 5 := by have := (nI_eq (b := 37) (by omega) (by omega)).mp e; omega
    obtain ⟨v1, v2, v3, v4, v5, v6, v7, -, -⟩ := d5 z5
    refine ⟨t, ht, c_order ht hl hc hk (j := 1) (by decide) rfl rfl ⟨t, ht, c_order ht hl hc hk (j := 2) (by decide) rfl rfl ⟨t, ht, c_order ht hl hc hk (j := 3) (by decide) rfl rfl ?_⟩⟩⟩
    rw [v5, v6, v7]
    refine c_blow hI hx j0 j1 l0 l1 (fun p b n x' hp hb n1 n9 e0 e1 e2 ok fx hx' => ⟨fun z => ?_, fun _ => ?_⟩) (fun x' hn fx => ⟨fun _ => h0 x' ?_ fx.X (fx.R hI hx), fun z => absurd rfl z⟩)
    · have hb2 : blowN A p b n (n * coV o1 A b (A 3)) (151 + 10 * p) ≤ 2 := by
        rw [bl_151]
        rcases stN_is (blow0 A p b n (n * coV o1 A b (A 3))) (A 9 + 1) p (A (150 + 10 * p)) with ⟨-, z⟩ | ⟨-, -, z⟩ | ⟨-, -, z⟩ <;> omega
      rw [L1, nm1 (by omega)] at z; exact z.elim
    · have z1 : d.2.2.1 = p := (nI_eq (by omega) (by omega)).mp e0
      have z2 : d.2.2.2.1 = b := (nI_eq (by omega) (by omega)).mp e1
      have z3 : d.2.2.2.2 = n := (nI_eq (by omega) (by omega)).mp e2
      subst z1 z2 z3
      exact h1 _ x' (by unfold clF; rw [if_neg (fun z => absurd (z5.symm.trans z) (by decide)), if_pos z5, if_pos ⟨hp, hb, ok⟩]) fx hx'
    · unfold clF
      rw [if_neg (fun z => absurd (z5.symm.trans z) (by decide)), if_pos z5, if_neg (fun z => hn ⟨_, _, _, z.1, z.2.1, v3, v4, rfl, rfl, rfl, z.2.2⟩)]
  · have z6 : d.1 = 6 := by have := (nI_eq (b := 38) (by omega) (by omega)).mp e; omega
    obtain ⟨v1, v2, v3, v4⟩ := d6 z6
    have n4 : ¬ d.1 = 4 := fun z => absurd (z6.symm.trans z) (by decide)
    have n5 : ¬ d.1 = 5 := fun z => absurd (z6.symm.trans z) (by decide)
    refine ⟨t, ht, c_order ht hl hc hk (j := 1) (by decide) rfl rfl ?_⟩
    rw [v3]
    refine c_later hI hx (fun k' x' k1 k2 k3 ek fx hx' => ⟨fun z => ?_, fun _ => ?_⟩) (fun hn => ⟨fun _ => ?_, fun z => absurd rfl z⟩)
    · rw [L1, nm1 (by omega)] at z; exact z.elim
    · have : d.2.1 = k' := (nI_eq (by omega) (by omega)).mp ek
      subst this
      exact h1 _ x' (by unfold clF; rw [if_neg n4, if_neg n5, if_pos z6, if_pos k3]) fx hx'
    · refine h0 x ?_ (XFr.refl x) hx
      unfold clF
      rw [if_neg n4, if_neg n5, if_pos z6, if_neg (fun z => hn ⟨_, v1, v2, z, rfl⟩)]
  · refine h1 A x ?_ (XFr.refl x) hx
    unfold clF
    rw [if_neg (fun z => n4 (by rw [z]; rfl)), if_neg (fun z => n5 (by rw [z]; rfl)), if_neg (fun z => n6 (by rw [z]; rfl))]
theorem r_perf {Post : Int32 → MS → Prop} {k i : Nat} {t : TR} {d : Nat × Nat × Nat × Nat × Nat} (hI : Inv A) (hy : y.2.2.1 0 = enc A) (j0 : JTr (y.2.2.1 2) (A 5) 0 o0) (j1 : JTr (y.2.2.1 2) (A 5) 1 o1) (l0 : ∀ p, o0 = some p → ∀ v, p v ≤ topL 0) (l1 : ∀ p, o1 = some p → ∀ v, p v ≤ topL 1) (hi : i < 4) (hk : k < 24) (hd : clD t (fun k => y.2.2.1 2 (680 * i + k)) k d)
    (h1 : ∀ C y', clF o0 o1 A d = some C → YFr y y' → y'.2.2.1 0 = enc C → Post 1 y') (h0 : ∀ y', clF o0 o1 A d = none → YFr y y' → y'.2.2.1 0 = enc A → Post 0 y') : VC_isPlayed Post (nI (680 * i + (1 + 3 * k))) y := by
  have bb := hI.b
  obtain ⟨d1, d2, d3, d4, d5, d6⟩ := hd
  have d3 : y.2.2.1 2 (680 * i + (1 + 3 * k)) = nI d.1 := d3
  have d4 : d.1 = 4 → d.2.1 ≤ 5 ∧ t.2.2.2.2.2 (4 * k + 1) = nI d.2.1 ∧ y.2.2.1 2 (680 * i + (2 + 3 * k)) = nI d.2.1 := d4
  have d5 : d.1 = 5 → d.2.2.1 ≤ 9 ∧ d.2.2.2.1 ≤ 5 ∧ 1 ≤ d.2.2.2.2 ∧ d.2.2.2.2 ≤ 9 ∧ t.2.2.2.2.2 (4 * k + 1) = nI d.2.2.1 ∧ t.2.2.2.2.2 (4 * k + 2) = nI d.2.2.2.1 ∧ t.2.2.2.2.2 (4 * k + 3) = nI d.2.2.2.2 ∧ y.2.2.1 2 (680 * i + (2 + 3 * k)) = nI d.2.2.1 ∧ y.2.2.1 2 (680 * i + (3 + 3 * k)) = nI (10 * d.2.2.2.1 + d.2.2.2.2) := d5
  have d6 : d.1 = 6 → 1 ≤ d.2.1 ∧ d.2.1 ≤ 99 ∧ t.2.2.2.2.2 (4 * k + 1) = nI d.2.1 ∧ y.2.2.1 2 (680 * i + (2 + 3 * k)) = nI d.2.1 := d6
  have a1 : nI (680 * i + (1 + 3 * k)) + 1 = nI (680 * i + (2 + 3 * k)) := by rw [L1, nadd]; congr 1; omega
  have a2 : nI (680 * i + (1 + 3 * k)) + 2 = nI (680 * i + (3 + 3 * k)) := by rw [L2, nadd]; congr 1; omega
  have ng : ∀ n : Nat, n < 2147483648 → ¬ nI n < 0 := fun n hn => nI_pos hn
  unfold VC_isPlayed
  rw [a1, a2, ncl (by omega), ncl (by omega), ncl (by omega), d3]
  refine ⟨vp_in_nI (by omega) (by decide), fun e => ?_, fun e => ?_, fun e => ?_, fun n4 n5 n6 => ?_⟩
  · have z4 : d.1 = 4 := (nI_eq (b := 4) (by omega) (by omega)).mp e
    obtain ⟨v1, v2, v3⟩ := d4 z4
    refine ⟨vp_in_nI (by omega) (by decide), ?_⟩
    rw [v3]
    refine r_begin hI hy (fun k' k1 k2 ek => ⟨fun z => absurd z (ng _ (by omega)), fun _ => ?_⟩) (fun hn => ⟨fun _ => ?_, fun z => absurd (by decide) z⟩)
    · have : d.2.1 = k' := (nI_eq (by omega) (by omega)).mp ek
      subst this
      exact h1 _ _ (by unfold clF; rw [if_pos z4, if_pos ⟨k1, k2⟩]) ((YFr.refl y).F _ _ (by omega)) (sF_same _ _ _)
    · refine h0 y ?_ (YFr.refl y) hy
      unfold clF
      rw [if_pos z4, if_neg (fun z => hn ⟨⟨_, z.1, rfl⟩, z.2⟩)]
  · have z5 : d.1 = 5 := (nI_eq (b := 5) (by omega) (by omega)).mp e
    obtain ⟨v1, v2, v3, v4, -, -, -, v8, v9⟩ := d5 z5
    refine ⟨vp_in_nI (by omega) (by decide), vp_in_nI (by omega) (by decide), by decide, vp_in_nI (by omega) (by decide), by decide, ?_⟩
    have q1 : nI (10 * d.2.2.2.1 + d.2.2.2.2) / 10 = nI d.2.2.2.1 := by rw [L10, pk_div (by omega) (by decide) (by decide)]; congr 1; omega
    have q2 : nI (10 * d.2.2.2.1 + d.2.2.2.2) - nI (10 * d.2.2.2.1 + d.2.2.2.2) / 10 * 10 = nI d.2.2.2.2 := by rw [L10, pk_rem (by omega) (by decide) (by decide)]; congr 1; omega
    rw [v8, v9, q2, q1]
    refine r_blow hI hy j0 j1 l0 l1 (fun p b n y' hp hb n1 n9 e0 e1 e2 ok fy => ⟨fun z => ?_, fun _ => ?_⟩) (fun y' hn fy => ⟨fun _ => h0 y' ?_ fy.Y (fy.e hy), fun z => absurd (by decide) z⟩)
    · have hb2 : blowN A p b n (n * coV o1 A b (A 3)) (151 + 10 * p) ≤ 2 := by
        rw [bl_151]
        rcases stN_is (blow0 A p b n (n * coV o1 A b (A 3))) (A 9 + 1) p (A (150 + 10 * p)) with ⟨-, z⟩ | ⟨-, -, z⟩ | ⟨-, -, z⟩ <;> omega
      exact absurd z (ng _ (by omega))
    · have z1 : d.2.2.1 = p := (nI_eq (by omega) (by omega)).mp e0
      have z2 : d.2.2.2.1 = b := (nI_eq (by omega) (by omega)).mp e1
      have z3 : d.2.2.2.2 = n := (nI_eq (by omega) (by omega)).mp e2
      subst z1 z2 z3
      exact h1 _ _ (by unfold clF; rw [if_neg (fun z => absurd (z5.symm.trans z) (by decide)), if_pos z5, if_pos ⟨hp, hb, ok⟩]) (fy.Y.F _ _ (by omega)) (sF_same _ _ _)
    · unfold clF
      rw [if_neg (fun z => absurd (z5.symm.trans z) (by decide)), if_pos z5, if_neg (fun z => hn ⟨_, _, _, z.1, z.2.1, v3, v4, rfl, rfl, rfl, z.2.2⟩)]
  · have z6 : d.1 = 6 := (nI_eq (b := 6) (by omega) (by omega)).mp e
    obtain ⟨v1, v2, v3, v4⟩ := d6 z6
    have n4 : ¬ d.1 = 4 := fun z => absurd (z6.symm.trans z) (by decide)
    have n5 : ¬ d.1 = 5 := fun z => absurd (z6.symm.trans z) (by decide)
    refine ⟨vp_in_nI (by omega) (by decide), ?_⟩
    rw [v4]
    refine r_later hI hy (fun k' k1 k2 k3 ek => ⟨fun z => absurd z (ng _ (by omega)), fun _ => ?_⟩) (fun hn => ⟨fun _ => ?_, fun z => absurd (by decide) z⟩)
    · have : d.2.1 = k' := (nI_eq (by omega) (by omega)).mp ek
      subst this
      exact h1 _ _ (by unfold clF; rw [if_neg n4, if_neg n5, if_pos z6, if_pos k3]) ((YFr.refl y).F _ _ (by omega)) (sF_same _ _ _)
    · refine h0 y ?_ (YFr.refl y) hy
      unfold clF
      rw [if_neg n4, if_neg n5, if_pos z6, if_neg (fun z => hn ⟨_, v1, v2, z, rfl⟩)]
  · refine h1 A y ?_ (YFr.refl y) hy
    unfold clF
    rw [if_neg (fun z => n4 (by rw [z]; rfl)), if_neg (fun z => n5 (by rw [z]; rfl)), if_neg (fun z => n6 (by rw [z]; rfl))]
end PLAY
noncomputable def runP (o0 o1 : LAW) (d : Nat → Nat × Nat × Nat × Nat × Nat) : Nat → Nat → (Nat → Nat) → Int32 × (Nat → Nat)
  | 0, _, C => (-1, C)
  | n + 1, i, C => (clF o0 o1 C (d i)).elim (nI i, C) (fun C' => runP o0 o1 d n (i + 1) C')
theorem runP_ok {o0 o1 : LAW} {d : Nat → Nat × Nat × Nat × Nat × Nat} {t : TR} {g : Nat → Int32} : ∀ {n i : Nat} {C : Nat → Nat}, Inv C → (∀ k, i ≤ k → k < i + n → clD t g k (d k)) → Inv (runP o0 o1 d n i C).2 ∧ (runP o0 o1 d n i C).2 4 = C 4
  | 0, _, C, h, _ => ⟨h, rfl⟩
  | n + 1, i, C, h, hd => by
    unfold runP
    cases e : clF o0 o1 C (d i) with
    | none => exact ⟨h, rfl⟩
    | some C' =>
      have := clF_ok h (hd i (by omega) (by omega)) e
      have r := runP_ok (o0 := o0) (o1 := o1) (d := d) (n := n) (i := i + 1) this.1 (fun k k1 k2 => hd k (by omega) (by omega))
      exact ⟨r.1, r.2.trans this.2.1⟩
theorem op_played {A B : Nat → Nat} {x : XS} {y : MS} {a0 : Int32} (h : RelA TXd A B x y) : VC_X11_played_0 (fun r x' => VC_played (fun r' y' => r = r' ∧ RelT TXd x' y') a0 y) a0 x := by
  obtain ⟨g1, g2, g3, g4, g5, g6, g7, ⟨x1, x2, x3⟩, g9, g10⟩ := id h
  obtain ⟨b0, b1, b2, b3, b4, b5, b6, b7, b8, b9⟩ := g1.b
  obtain ⟨o0, l0, c0, r0⟩ := judge_ex h (l := 0) (by decide)
  obtain ⟨o1, l1, c1, r1⟩ := judge_ex h (l := 1) (by decide)
  have i4 : vp_in (4 : Int32) 3890 := litIn 4 (by decide) (by decide)
  have e4 : y.2.2.1 0 (4 : Int32).toNatClampNeg = nI (A 4) := enc_cell (k := 4) g5 (by decide) (by decide)
  intro K hK
  refine c_textAt (n := A 4) g3.2.2.2.2.2.1 b4 (fun i hi ei => ?_) (fun hn => ⟨fun _ => ?_, fun a z => absurd z (by simp)⟩)
  · obtain ⟨a, t, q1, q2, c, k1, k2, k3, k4, -⟩ := x1 i hi
    refine ⟨fun z => absurd (q1.symm.trans z) (by simp), fun a3 e3 => ?_⟩
    have : a3 = a := Option.some.inj (e3.symm.trans q1)
    subst this
    obtain ⟨d, hd⟩ := Classical.skolem.mp (fun k => (Classical.em (k < c)).elim (fun z => (clD_ex (k4 k z)).imp (fun d hd => fun _ : k < c => hd)) (fun z => ⟨(0, 0, 0, 0, 0), fun w => absurd w z⟩) : ∀ k, ∃ d, k < c → clD t (fun k => y.2.2.1 2 (680 * i + k)) k d)
    have run := runP_ok (o0 := o0) (o1 := o1) (d := d) (n := c) (i := 0) g1 (fun k _ hk => hd k (by omega))
    -- the reference plays
    have ref : ∀ x', XFr x x' → RX x'.1 x'.2.1 (runP o0 o1 d c 0 A).2 → VC_played (fun r' y' => (runP o0 o1 d c 0 A).1 = r' ∧ RelT TXd x' y') a0 y := by
      intro x' fx hx'
      intro K' hK'
      refine ⟨i4, mOne rfl (by rw [e4]) (by omega) (fun _ => ⟨fun _ => ?_, fun z => absurd z (by decide)⟩) (fun z => absurd ⟨i, hi, ei⟩ z)⟩
      have loop : ∀ n k : Nat, ∀ (C : Nat → Nat) (y' : MS), k + n = c → Inv C → C 4 = A 4 → C 5 = A 5 → YFr y y' → y'.2.2.1 0 = enc C → runP o0 o1 d n k C = runP o0 o1 d c 0 A → K' (a0, nI k) y' := by
        intro n
        induction n with
        | zero =>
          intro k C y' hk hC hC4 hC5 fy hy' hr
          refine hK' _ _ ?_
          show vp_in (680 * a0) 2720 ∧ _
          rw [ei, L680, nmul, ncl (by omega), fy.2.1, show y.2.2.1 2 (680 * i) = nI c from k3]
          refine ⟨vp_in_nI (by omega) (by decide), fun _ => ?_, fun z => absurd (nI_le (by omega) (by omega)) z⟩
          have e1 : (runP o0 o1 d c 0 A).1 = -1 := by rw [← hr]; rfl
          have e2 : (runP o0 o1 d c 0 A).2 = C := by rw [← hr]; rfl
          rw [e2] at hx'
          exact ⟨e1, h.step fx fy hC hx' hy' hC4⟩
        | succ n ih =>
          intro k C y' hk hC hC4 hC5 fy hy' hr
          have ea : (680 * nI i + 1) + 3 * nI k = nI (680 * i + (1 + 3 * k)) := by rw [L680, L3, L1, nmul, nmul, nadd, nadd]; congr 1; omega
          refine hK' _ _ ?_
          show vp_in (680 * a0) 2720 ∧ _
          rw [ei, ea, L680, nmul, ncl (by omega), fy.2.1, show y.2.2.1 2 (680 * i) = nI c from k3]
          refine ⟨vp_in_nI (by omega) (by decide), fun z => absurd z (nI_ge (by omega) (by omega)), fun _ => ?_⟩
          refine r_perf (t := t) (d := d k) hC hy' (by rw [fy.2.1, hC5]; exact r0) (by rw [fy.2.1, hC5]; exact r1) l0 l1 (by omega) (by omega) (by rw [fy.2.1]; exact hd k (by omega)) (fun C' y'' ec fy' hy'' => ⟨fun _ v4 e4 => ?_, fun z => absurd z (by decide)⟩) (fun y'' ec fy' hy'' => ⟨fun z => absurd rfl z, fun _ => ?_⟩)
          · have ok := clF_ok hC (hd k (by omega)) ec
            rw [e4, nI_1, ← ei]
            refine ih (k + 1) C' y'' (by omega) ok.1 (ok.2.1.trans hC4) (ok.2.2.trans hC5) (fy.trans fy') hy'' ?_
            rw [← hr]
            conv => rhs; unfold runP
            rw [ec]; rfl
          · have e0 : runP o0 o1 d (n + 1) k C = (nI k, C) := by unfold runP; rw [ec]; rfl
            rw [e0] at hr
            rw [← hr] at hx'
            exact ⟨by rw [← hr], h.step fx (fy.trans fy') hC hx' hy'' hC4⟩
      exact loop c 0 A y (by omega) g1 rfl rfl (YFr.refl y) g5 rfl
    have loop : ∀ n k : Nat, ∀ (C : Nat → Nat) (x' : XS), k + n = c → Inv C → C 4 = A 4 → C 5 = A 5 → XFr x x' → RX x'.1 x'.2.1 C → runP o0 o1 d n k C = runP o0 o1 d c 0 A → K (a0, a3, nI k) x' := by
      intro n
      induction n with
      | zero =>
        intro k C x' hk hC hC4 hC5 fx hx' hr
        have ht : tx x' a3 t := by obtain ⟨j, w1, w2⟩ := q2; exact ⟨j, by rw [fx.2.2.1]; exact w1, w2⟩
        refine hK _ _ ⟨t, ht, t, ht, by decide, ?_⟩
        have ec : Int32.ofNat t.2.2.2.2.1 / 4 = nI c := by rw [k2]; show nI (4 * c) / nI 4 = _; rw [pk_div (by omega) (by decide) (by decide)]; congr 1; omega
        rw [ec]
        refine ⟨fun _ => ?_, fun z => absurd (nI_le (by omega) (by omega)) z⟩
        have e1 : (runP o0 o1 d c 0 A).1 = -1 := by rw [← hr]; rfl
        have e2 : (runP o0 o1 d c 0 A).2 = C := by rw [← hr]; rfl
        have := ref x' fx (by rw [e2]; exact hx')
        rw [e1] at this; exact this
      | succ n ih =>
        intro k C x' hk hC hC4 hC5 fx hx' hr
        have ht : tx x' a3 t := by obtain ⟨j, w1, w2⟩ := q2; exact ⟨j, by rw [fx.2.2.1]; exact w1, w2⟩
        refine hK _ _ ⟨t, ht, t, ht, by decide, ?_⟩
        have ec : Int32.ofNat t.2.2.2.2.1 / 4 = nI c := by rw [k2]; show nI (4 * c) / nI 4 = _; rw [pk_div (by omega) (by decide) (by decide)]; congr 1; omega
        rw [ec]
        refine ⟨fun z => absurd z (nI_ge (by omega) (by omega)), fun _ => ?_⟩
        have j38 : x'.1 38 = x.1 38 := by rw [hx'.2.2.2.2.2.1, g3.2.2.2.2.2.1, hC4]
        have j39 : x'.1 39 = x.1 39 := by rw [hx'.2.2.2.2.2.2, g3.2.2.2.2.2.2, hC5]
        refine c_perf (o0 := o0) (o1 := o1) (d := d k) hC hx' (by rw [fx.2.2.1, j38, j39]; exact c0) (by rw [fx.2.2.1, j38, j39]; exact c1) l0 l1 ht k2 k1 (by omega) (hd k (by omega)) (fun C' x'' ec fx' hx'' => ⟨fun _ v9 e9 => ?_, fun z => absurd z (by decide)⟩) (fun x'' ec fx' hx'' => ⟨fun z => absurd rfl z, fun _ => ?_⟩)
        · have ok := clF_ok hC (hd k (by omega)) ec
          rw [e9, nI_1]
          refine ih (k + 1) C' x'' (by omega) ok.1 (ok.2.1.trans hC4) (ok.2.2.trans hC5) (fx.trans fx') hx'' ?_
          rw [← hr]
          conv => rhs; unfold runP
          rw [ec]; rfl
        · have e0 : runP o0 o1 d (n + 1) k C = (nI k, C) := by unfold runP; rw [ec]; rfl
          rw [e0] at hr
          have := ref x'' (fx.trans fx') (by rw [← hr]; exact hx'')
          rw [← hr] at this; exact this
    exact loop c 0 A x (by omega) g1 rfl rfl (XFr.refl x) g3 rfl
  · intro K' hK'
    exact ⟨i4, mOne rfl (by rw [e4]) (by omega) (fun z => absurd z hn) (fun _ => ⟨fun z => absurd rfl z, fun _ => ⟨rfl, A, B, h⟩⟩)⟩
