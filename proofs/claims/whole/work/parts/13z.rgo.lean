/-! one, a choice, an ask: the reference -/
section RGO
variable {T : Nat → Nat} {m b l : Nat} {Post : Int32 → MS → Prop} {K : Hd_parsed → MS → Prop}
theorem cnt_o {a : Nat} {P : List Nat} (h : a = 2 ∨ a = 20 ∨ 40 ≤ a) : cnt (a :: P) = cnt P + 1 := by
  show (if a = 2 ∨ a = 20 ∨ 40 ≤ a then 1 else 0) + cnt P = _
  rw [if_pos h]; omega
theorem ia_yes {a : Nat} {P : List Nat} (h : koF (a :: P) = 41 ∧ (a = 41 ∨ (1 ≤ rkF a ∧ rkF a ≤ 3))) : iaF (a :: P) = true := decide_eq_true h
theorem mk_c {a : Nat} {P : List Nat} (h : 40 ≤ a) : mkS (a :: P) = a :: P := if_pos h
theorem stl_c {r a : Nat} {P : List Nat} {W : List (Nat × Nat)} (h : rkF a < r) : stl r (a :: P) W = (a :: P, W) := if_pos h
theorem stl_p {r a : Nat} {P : List Nat} {W : List (Nat × Nat)} (h : r ≤ rkF a) : stl r (a :: P) W = stl r P (W ++ [(a, 0)]) := if_neg (by omega)
theorem due_p {k q : Nat} {g : Nat → PR} (h : tkC T m q = k) : due T m k q g = g (nx T m q) := if_pos h
theorem due_n {k q : Nat} {g : Nat → PR} (h : ¬ tkC T m q = k) : due T m k q g = .inl (1, q) := if_neg h
theorem bw_no {P : List Nat} {t : Nat} (h4 : t ≠ 4) (h5 : t ≠ 5) (h6 : t ≠ 6) (h7 : t ≠ 7) (h : koF P = 41 → (icF P = true → t ≠ 44 ∧ t ≠ 43) ∧ (icF P = false → isCmp t = false)) : bwN P t = 0 := by
  unfold bwN
  rw [if_neg h4, if_neg h5, if_neg h6, if_neg h7]
  by_cases z : koF P = 41
  · rw [if_pos z]
    obtain ⟨a, c⟩ := h z
    by_cases i : icF P = true
    · rw [if_pos i, if_neg (a i).1, if_neg (a i).2]
    · rw [if_neg i, if_neg (by rw [c (by simpa using i)]; decide)]
  · rw [if_neg z]
/-- behind a whole sum in a part that is open by a: the token due is t, and then .. -/
theorem r_fit {y0 y : MS} {a q : Nat} {P Z : List Nat} {W ZW : List (Nat × Nat)} (hB : ∀ h S, B_parsed Post K h S → K h S) (h : rs T m b l y Z ZW 1 q) (f : RF b y0 y) (ha : 40 ≤ a) (st : stl 1 Z ZW = (a :: P, W)) (le : Z.length ≤ 60) (nb : bwN Z (tkC T m q) = 0)
    (kB : a = 40 → tkC T m q = 9 → ∀ y', rs T m b l y' (stl 7 P W).1 (stl 7 P W).2 1 (nx T m q) → RF b y0 y' → K (.inl (0, 1)) y')
    (kC : a = 43 → tkC T m q = 42 → ∀ y', rs T m b l y' (stl 7 P (W ++ [(23, 0)])).1 (stl 7 P (W ++ [(23, 0)])).2 1 (nx T m q) → RF b y0 y' → K (.inl (0, 1)) y')
    (kD : (tkC T m q = 11 ∧ a = 41) ∨ (tkC T m q = 12 ∧ a = 42) → ∀ y', rs T m b l y' ((a + 1) :: P) W 0 (nx T m q) → RF b y0 y' → K (.inl (0, 1)) y')
    (ic : a = 41 → icF Z = true)
    (k1 : ¬ (a = 40 ∧ tkC T m q = 9) → ¬ (a = 43 ∧ tkC T m q = 42) → ¬ (a = 41 ∧ tkC T m q = 11) → ¬ (a = 42 ∧ tkC T m q = 12) → Post 1 y) : K (.inl (0, 1)) y := by
  have mk : mkS Z = a :: P := by
    have := stl_1 (P := Z) (W := ZW)
    rw [st] at this; exact this.symm
  have ek := ko_of mk
  by_cases z : (a = 40 ∧ tkC T m q = 9) ∨ (a = 43 ∧ tkC T m q = 42) ∨ (a = 41 ∧ tkC T m q = 11) ∨ (a = 42 ∧ tkC T m q = 12)
  · refine run1 hB h (r_beh h (by omega) (fun nz => absurd nb nz) (fun _ Q t e y' h' f' => ?_) (fun _ Q t e y' h' f' => ?_) (fun _ Q c hc e y' h' f' => ?_) (fun _ n9 n42 n11 n12 => ?_))
    · rw [mk] at e
      obtain ⟨e1, e2⟩ := List.cons.inj e
      rw [← e2, st] at h'
      exact kB e1 t y' h' (f.trans f')
    · rw [mk] at e
      obtain ⟨e1, e2⟩ := List.cons.inj e
      rw [← e2, st] at h'
      exact kC e1 t y' h' (f.trans f')
    · rw [mk] at e
      obtain ⟨e1, e2⟩ := List.cons.inj e
      rw [← e2, ← e1, st] at h'
      rw [← e1] at hc
      exact kD (hc.elim (fun w => Or.inl ⟨w.1, w.2.1⟩) Or.inr) y' h' (f.trans f')
    · rw [ek] at n9 n42 n11 n12
      rw [mk] at n9
      rcases z with z | z | z | z
      · exact absurd ⟨z.2, z.1, List.cons_ne_nil _ _⟩ n9
      · exact absurd ⟨z.2, z.1⟩ n42
      · exact absurd ⟨z.2, z.1, ic z.1⟩ n11
      · exact absurd ⟨z.2, z.1⟩ n12
  · refine run_bad hB h (by omega) nb (by rw [mk]; exact List.cons_ne_nil _ _) (fun w => ?_) (fun w => ?_) (fun w => ?_) (fun w => ?_) (k1 (fun w => z (Or.inl w)) (fun w => z (Or.inr (Or.inl w))) (fun w => z (Or.inr (Or.inr (Or.inl w)))) (fun w => z (Or.inr (Or.inr (Or.inr w)))))
    · rw [ek] at w; exact z (Or.inl ⟨w.2, w.1⟩)
    · rw [ek] at w; exact z (Or.inr (Or.inl ⟨w.2, w.1⟩))
    · rw [ek] at w; exact z (Or.inr (Or.inr (Or.inl ⟨w.2.1, w.1⟩)))
    · rw [ek] at w; exact z (Or.inr (Or.inr (Or.inr ⟨w.2, w.1⟩)))
theorem r_choice {d q : Nat} (hB : ∀ h S, B_parsed Post K h S → K h S) (ih : RGd T m b l d Post K) {P : List Nat} {W : List (Nat × Nat)} {y : MS} (h : rs T m b l y P W 0 q) (hd : 8 * (9 - cnt P) ≤ d + 1) (pb : P.length ≤ 6 * cnt P + 6) (t41 : tkC T m q = 41)
    (hp : rres T m b l Post K y 3 P W (PF T m l (d + 1) 3 q (cnt P))) : K (.inl (0, 1)) y := by
  have o8 := h.o8
  have m3 := h.1.2.1
  have K0 : hK 0 = 3 := rfl
  have K4 : hK 4 = 6 := rfl
  have b0 : pbK 0 = 4 := rfl
  have b4 : pbK 4 = 1 := rfl
  rw [PF_3] at hp
  have no : ∀ {X : Prop} {c : Nat}, c ≠ 41 → tkC T m q = c → X := fun hc w => absurd (w.symm.trans t41) hc
  refine run0 hB h (r_beg1 h (by omega) (fun w => no (by decide) w) (fun w => no (by decide) w) (fun n w hn => no (by omega) w) (fun n w hn => no (by omega) w) (fun a ha => ?_) (fun _ _ _ _ w => absurd t41 w))
  have ea : a = 41 := by omega
  subst ea
  refine ⟨fun o7 y1 h1 f1 => ⟨fun _ => ?_, fun z => absurd rfl z⟩, fun o7 => ⟨fun z => absurd z (by decide), fun _ => ?_⟩⟩
  · rw [if_pos o7] at hp
    have ec : cnt (41 :: P) = cnt P + 1 := cnt_o (by omega)
    have q1 := nx_le (T := T) h.2.1
    have as : asks (41 :: P) := ⟨ko_of (mk_c (by decide)), rfl, ia_yes ⟨ko_of (mk_c (by decide)), Or.inl rfl⟩⟩
    have st4 := stop_4 (T := T) (m := m) (l := l) (d := d) (o := cnt P + 1) m3 q1.2
    have gr4 := PF_gr (T := T) (m := m) (l := l) d 4 (nx T m q) (cnt P + 1) q1.2
    refine ih 4 (nx T m q) (41 :: P) W y1 (by decide) h1 (by omega) (by rw [ec]; show P.length + 1 ≤ _; omega) ⟨low_c (show rkF 41 < 1 by decide), fun _ => as⟩ (fun w => absurd w (by decide)) (fun w => absurd w (by decide)) ?_
    rw [ec]
    cases h4 : PF T m l d 4 (nx T m q) (cnt P + 1) with
    | inl v =>
      obtain ⟨g, q'⟩ := v
      rw [h4] at hp
      exact fun y' f' p' => hp y' (f1.trans f') p'
    | inr v =>
    obtain ⟨q2, c⟩ := v
    rw [h4, bnd_r] at hp
    rw [h4] at st4 gr4
    obtain ⟨⟨⟨⟨_, s6, s7⟩, s4, s5⟩, s44, _⟩, s43, _⟩ := st4
    intro P2 W2 y2 h2 f2 st2 le2 i2
    have i2' := i2 (by decide)
    have e2 : stl 1 P2 W2 = (41 :: P, W ++ rC c) := st2.trans (stl_c (show rkF 41 < 1 by decide))
    refine r_fit hB h2 (f1.trans f2) (by decide) e2 le2 (bw_no s4 s5 s6 s7 (fun _ => ⟨fun _ => ⟨s44, s43⟩, fun w => by rw [i2'] at w; exact absurd w (by decide)⟩)) (fun w => absurd w (by decide)) (fun w => absurd w (by decide)) (fun hD y3 h3 f3 => ?_) (fun _ => i2') (fun _ _ n11 _ => ?_)
    · have t11 : tkC T m q2 = 11 := hD.elim (fun w => w.1) (fun w => absurd w.2 (by decide))
      rw [due_p t11] at hp
      have q3 := nx_le (T := T) h2.2.1
      have st0 := stop_0 (T := T) (m := m) (l := l) (d := d) (o := cnt P + 1) m3 q3.2
      have ec2 : cnt (42 :: P) = cnt P + 1 := cnt_o (by omega)
      refine ih 0 (nx T m q2) (42 :: P) (W ++ rC c) y3 (by decide) h3 (by omega) (by rw [ec2]; show P.length + 1 ≤ _; omega) ⟨low_c (show rkF 42 < 5 by decide), fun w => absurd w (by decide)⟩ (fun _ _ => ia_no (by decide) (Or.inl rfl)) (fun w => absurd w (by decide)) ?_
      rw [ec2]
      cases h5 : PF T m l d 0 (nx T m q2) (cnt P + 1) with
      | inl v =>
        obtain ⟨g, q'⟩ := v
        rw [h5] at hp
        exact fun y' f' p' => hp y' (f3.trans f') p'
      | inr v =>
      obtain ⟨q4, a⟩ := v
      rw [h5, bnd_r] at hp
      rw [h5] at st0
      obtain ⟨⟨_, s6, s7⟩, s4, s5⟩ := st0
      intro P4 W4 y4 h4 f4 st4 le4 _
      have e4 : stl 1 P4 W4 = (42 :: P, W ++ rC c ++ rC a) := (alike_low (r := 1) (s := rkK 0) (by decide) st4).trans (stl_c (show rkF 42 < 1 by decide))
      have k4 : koF P4 = 42 := (alike_ko (r := rkK 0) (by decide) st4).1.trans (ko_of (mk_c (by decide)))
      refine r_fit hB h4 (f3.trans f4) (by decide) e4 le4 (bw_no s4 s5 s6 s7 (fun w => by rw [k4] at w; exact absurd w (by decide))) (fun w => absurd w (by decide)) (fun w => absurd w (by decide)) (fun hD y5 h5 f5 => ?_) (fun w => absurd w (by decide)) (fun _ _ _ n12 => ?_)
      · have t12 : tkC T m q4 = 12 := hD.elim (fun w => absurd w.2 (by decide)) (fun w => w.1)
        rw [due_p t12] at hp
        have q5 := nx_le (T := T) h4.2.1
        have st0 := stop_0 (T := T) (m := m) (l := l) (d := d) (o := cnt P + 1) m3 q5.2
        have ec3 : cnt (43 :: P) = cnt P + 1 := cnt_o (by omega)
        refine ih 0 (nx T m q4) (43 :: P) (W ++ rC c ++ rC a) y5 (by decide) h5 (by omega) (by rw [ec3]; show P.length + 1 ≤ _; omega) ⟨low_c (show rkF 43 < 5 by decide), fun w => absurd w (by decide)⟩ (fun _ _ => ia_no (by decide) (Or.inl rfl)) (fun w => absurd w (by decide)) ?_
        rw [ec3]
        cases h6 : PF T m l d 0 (nx T m q4) (cnt P + 1) with
        | inl v =>
          obtain ⟨g, q'⟩ := v
          rw [h6] at hp
          exact fun y' f' p' => hp y' (f5.trans f') p'
        | inr v =>
        obtain ⟨q6, e⟩ := v
        rw [h6, bnd_r] at hp
        rw [h6] at st0
        obtain ⟨⟨_, s6, s7⟩, s4, s5⟩ := st0
        intro P6 W6 y6 h6 f6 st6 le6 _
        have e6 : stl 1 P6 W6 = (43 :: P, W ++ rC c ++ rC a ++ rC e) := (alike_low (r := 1) (s := rkK 0) (by decide) st6).trans (stl_c (show rkF 43 < 1 by decide))
        have k6 : koF P6 = 43 := (alike_ko (r := rkK 0) (by decide) st6).1.trans (ko_of (mk_c (by decide)))
        refine r_fit hB h6 (f5.trans f6) (by decide) e6 le6 (bw_no s4 s5 s6 s7 (fun w => by rw [k6] at w; exact absurd w (by decide))) (fun w => absurd w (by decide)) (fun _ t42 y7 h7 f7 => ?_) (fun w => absurd w (by omega)) (fun w => absurd w (by decide)) (fun _ n42 _ _ => ?_)
        · rw [due_p t42] at hp
          have sl := stl_len (r := 7) (P := P) (W := W ++ rC c ++ rC a ++ rC e ++ [(23, 0)])
          refine hp _ _ y7 h7 f7 ?_ (by omega) (fun w => absurd w (by decide))
          refine (stl_stl (r := 7) (s := 7) (by decide)).trans ?_
          show _ = stl 7 P (W ++ (rC c ++ rC a ++ rC e ++ [(23, 0)]))
          simp only [List.append_assoc]
        · rw [due_n (fun w => n42 ⟨rfl, w⟩)] at hp
          exact hp y6 (f5.trans f6) h6.pl8
      · rw [due_n (fun w => n12 ⟨rfl, w⟩)] at hp
        exact hp y4 (f3.trans f4) h4.pl8
    · rw [due_n (fun w => n11 ⟨rfl, w⟩)] at hp
      exact hp y2 (f1.trans f2) h2.pl8
  · rw [if_neg o7] at hp
    exact hp y (RF.refl y) h.pl8
end RGO
