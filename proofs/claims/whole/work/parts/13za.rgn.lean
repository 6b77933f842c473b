/-! one, an ask, and the reference's run whole -/
section RGN
variable {T : Nat → Nat} {m b l : Nat} {Post : Int32 → MS → Prop} {K : Hd_parsed → MS → Prop}
theorem r_one {d q : Nat} (hB : ∀ h S, B_parsed Post K h S → K h S) (ih : RGd T m b l d Post K) {P : List Nat} {W : List (Nat × Nat)} {y : MS} (h : rs T m b l y P W 0 q) (hd : 8 * (9 - cnt P) + 1 ≤ d + 1) (pb : P.length ≤ 6 * cnt P + 6) (ni : tkC T m q = 45 → iaF P = false)
    (hp : rres T m b l Post K y 2 P W (PF T m l (d + 1) 2 q (cnt P))) : K (.inl (0, 1)) y := by
  have o8 := h.o8
  have m3 := h.1.2.1
  have K0 : hK 0 = 3 := rfl
  have K2 : hK 2 = 1 := rfl
  have K3 : hK 3 = 0 := rfl
  have b0 : pbK 0 = 4 := rfl
  have b2 : pbK 2 = 6 := rfl
  have b3 : pbK 3 = 6 := rfl
  rw [PF_2] at hp
  by_cases t41 : tkC T m q = 41
  · rw [if_neg (by omega), if_neg (by omega), if_neg (by omega), if_pos t41] at hp
    refine ih 3 q P W y (by decide) h (by omega) (by omega) ⟨low8, fun w => absurd w (by decide)⟩ (fun _ w => absurd w (by omega)) (fun _ => t41) ?_
    cases h3 : PF T m l d 3 q (cnt P) with
    | inl v => rw [h3] at hp; exact hp
    | inr v =>
      obtain ⟨q', e⟩ := v
      rw [h3] at hp
      exact fun P' W' y' h' f' st le _ => hp P' W' y' h' f' st le (fun w => absurd w (by decide))
  have fin : ∀ (W2 : List (Nat × Nat)) (y' : MS) (q' : Nat) (e : EX), W2 = W ++ rC e → rs T m b l y' (stl 7 P W2).1 (stl 7 P W2).2 1 q' → RF b y y' → rres T m b l Post K y 2 P W (.inr (q', e)) → K (.inl (0, 1)) y' := fun W2 y' q' e eW h' f' hp => by
    subst eW
    have sl := stl_len (r := 7) (P := P) (W := W ++ rC e)
    exact hp _ _ y' h' f' (stl_stl (r := 7) (s := 7) (by decide)) (by omega) (fun w => absurd w (by decide))
  refine run0 hB h (r_beg1 h (by omega) (fun t v y' h' f' => ⟨fun _ => ?_, fun z => absurd rfl z⟩) (fun t v => ⟨fun z => absurd z (by decide), fun _ => ?_⟩) (fun n t hn v y' h' f' => ⟨fun _ => ?_, fun z => absurd rfl z⟩) (fun n t hn v => ⟨fun z => absurd z (by decide), fun _ => ?_⟩) (fun a ha => ⟨fun o7 y1 h1 f1 => ⟨fun _ => ?_, fun z => absurd rfl z⟩, fun o7 => ⟨fun z => absurd z (by decide), fun _ => ?_⟩⟩) (fun t46 t15 t8 t5 _ _ => ⟨fun z => absurd z (by decide), fun _ => ?_⟩))
  · rw [if_neg (by omega), if_neg (by omega), if_pos t, if_pos v] at hp
    exact fin _ y' _ (eNum (rkV T m q)) rfl h' f' hp
  · rw [if_neg (by omega), if_neg (by omega), if_pos t, if_neg v] at hp
    exact hp y (RF.refl y) h.pl8
  · rw [if_neg (by omega), if_neg (by omega), if_neg (by omega), if_neg t41, if_pos (by omega), show tkC T m q - 46 = n by omega, if_pos v] at hp
    exact fin _ y' _ (eNam n) rfl h' f' hp
  · rw [if_neg (by omega), if_neg (by omega), if_neg (by omega), if_neg t41, if_pos (by omega), show tkC T m q - 46 = n by omega, if_neg (by rw [v]; decide)] at hp
    exact hp y (RF.refl y) h.pl8
  · have q1 := nx_le (T := T) h.2.1
    rcases ha with ⟨t, ea⟩ | ⟨t, ea⟩ | ⟨t, ea⟩ | ⟨t, ia, ea⟩
    · subst ea
      rw [if_neg (by omega), if_pos t, if_pos o7] at hp
      have ec : cnt (40 :: P) = cnt P + 1 := cnt_o (by omega)
      have st0 := stop_0 (T := T) (m := m) (l := l) (d := d) (o := cnt P + 1) m3 q1.2
      refine ih 0 (nx T m q) (40 :: P) W y1 (by decide) h1 (by omega) (by rw [ec]; show P.length + 1 ≤ _; omega) ⟨low_c (show rkF 40 < 5 by decide), fun w => absurd w (by decide)⟩ (fun _ _ => ia_no (by decide) (Or.inl rfl)) (fun w => absurd w (by decide)) ?_
      rw [ec]
      cases h2 : PF T m l d 0 (nx T m q) (cnt P + 1) with
      | inl v =>
        obtain ⟨g, q'⟩ := v
        rw [h2] at hp
        exact fun y' f' p' => hp y' (f1.trans f') p'
      | inr v =>
      obtain ⟨q2, e⟩ := v
      rw [h2, bnd_r] at hp
      rw [h2] at st0
      obtain ⟨⟨_, s6, s7⟩, s4, s5⟩ := st0
      intro P2 W2 y2 h2 f2 st2 le2 _
      have e2 : stl 1 P2 W2 = (40 :: P, W ++ rC e) := (alike_low (r := 1) (s := rkK 0) (by decide) st2).trans (stl_c (show rkF 40 < 1 by decide))
      have k2 : koF P2 = 40 := (alike_ko (r := rkK 0) (by decide) st2).1.trans (ko_of (mk_c (by decide)))
      refine r_fit hB h2 (f1.trans f2) (by decide) e2 le2 (bw_no s4 s5 s6 s7 (fun w => by rw [k2] at w; exact absurd w (by decide))) (fun _ t9 y3 h3 f3 => ?_) (fun w => absurd w (by decide)) (fun w => absurd w (by omega)) (fun w => absurd w (by decide)) (fun n9 _ _ _ => ?_)
      · rw [due_p t9] at hp
        exact fin _ y3 _ e rfl h3 f3 hp
      · rw [due_n (fun w => n9 ⟨rfl, w⟩)] at hp
        exact hp y2 (f1.trans f2) h2.pl8
    · subst ea
      rw [if_pos t, if_pos o7] at hp
      have ec : cnt (2 :: P) = cnt P + 1 := cnt_o (by omega)
      refine ih 2 (nx T m q) (2 :: P) W y1 (by decide) h1 (by omega) (by rw [ec]; show P.length + 1 ≤ _; omega) ⟨low8, fun w => absurd w (by decide)⟩ (fun _ _ => ia_no (by decide) (Or.inr (by decide))) (fun w => absurd w (by decide)) ?_
      rw [ec]
      cases h2 : PF T m l d 2 (nx T m q) (cnt P + 1) with
      | inl v =>
        obtain ⟨g, q'⟩ := v
        rw [h2] at hp
        exact fun y' f' p' => hp y' (f1.trans f') p'
      | inr v =>
      obtain ⟨q2, e⟩ := v
      rw [h2, bnd_r] at hp
      intro P2 W2 y2 h2 f2 st2 le2 _
      refine hp P2 W2 y2 h2 (f1.trans f2) ?_ le2 (fun w => absurd w (by decide))
      refine st2.trans ((stl_p (show rkK 2 ≤ rkF 2 by decide)).trans ?_)
      show _ = stl (rkK 2) P (W ++ (rC e ++ [(2, 0)]))
      rw [List.append_assoc]
    · exact absurd t t41
    · rw [ni t] at ia; exact absurd ia (by decide)
  · have hp' : rres T m b l Post K y 2 P W (.inl (3, q)) := by
      rcases ha with ⟨t, ea⟩ | ⟨t, ea⟩ | ⟨t, ea⟩ | ⟨t, ia, ea⟩
      · rw [if_neg (by omega), if_pos t, if_neg o7] at hp; exact hp
      · rw [if_pos t, if_neg o7] at hp; exact hp
      · exact absurd t t41
      · rw [ni t] at ia; exact absurd ia (by decide)
    exact hp' y (RF.refl y) h.pl8
  · rw [if_neg t5, if_neg t8, if_neg t15, if_neg t41, if_neg (by omega)] at hp
    exact hp y (RF.refl y) h.pl8
theorem roC : ∀ t : Fin 57, isCmp t.1 = true → rkF (roF t.1) = 4 ∧ roF t.1 ≠ 2 ∧ roF t.1 ≠ 20 ∧ roF t.1 < 40 ∧ roF t.1 ≠ 0 := by decide +kernel
theorem bw_cmp {P : List Nat} {t : Nat} (h : isCmp t = true) (k : koF P = 41) (i : icF P = false) : bwN P t = roF t := by
  have c := of_decide_eq_true h
  unfold bwN
  rw [if_neg (by omega), if_neg (by omega), if_neg (by omega), if_neg (by omega), if_pos k, if_neg (by rw [i]; decide), if_pos h]
theorem r_asks {d q : Nat} (hB : ∀ h S, B_parsed Post K h S → K h S) (ih : RGd T m b l d Post K) {P : List Nat} {W : List (Nat × Nat)} {y : MS} (h : rs T m b l y P W 0 q) (hd : 8 * (9 - cnt P) + 4 ≤ d + 1) (pb : P.length ≤ 6 * cnt P + 3) (lo : low 4 P) (as : asks P)
    (hp : rres T m b l Post K y 6 P W (PF T m l (d + 1) 6 q (cnt P))) : K (.inl (0, 1)) y := by
  have o8 := h.o8
  have m3 := h.1.2.1
  have K0 : hK 0 = 3 := rfl
  have K6 : hK 6 = 4 := rfl
  have b0 : pbK 0 = 4 := rfl
  have b6 : pbK 6 = 3 := rfl
  rw [PF_6] at hp
  have mkP : mkS P ≠ [] := fun e => by
    have := as.1
    unfold koF at this
    rw [e] at this; exact absurd this (by decide)
  by_cases z : tkC T m q = 45
  · rw [if_pos z] at hp
    have no : ∀ {X : Prop} {c : Nat}, c ≠ 45 → tkC T m q = c → X := fun hc w => absurd (w.symm.trans z) hc
    refine run0 hB h (r_beg1 h (by omega) (fun w => no (by decide) w) (fun w => no (by decide) w) (fun n w hn => no (by omega) w) (fun n w hn => no (by omega) w) (fun a ha => ?_) (fun _ _ _ _ _ w => absurd ⟨z, as.2.2⟩ w))
    have ea : a = 20 := by omega
    subst ea
    refine ⟨fun o7 y1 h1 f1 => ⟨fun _ => ?_, fun z => absurd rfl z⟩, fun o7 => ⟨fun z => absurd z (by decide), fun _ => ?_⟩⟩
    · rw [if_pos o7] at hp
      have ec : cnt (20 :: P) = cnt P + 1 := cnt_o (by omega)
      have k20 : koF (20 :: P) = 41 := as.1
      refine ih 6 (nx T m q) (20 :: P) W y1 (by decide) h1 (by omega) (by rw [ec]; show P.length + 1 ≤ _; omega) ⟨low_c (show rkF 20 < 4 by decide), fun _ => ⟨k20, rfl, ia_yes ⟨k20, Or.inr (by decide)⟩⟩⟩ (fun w => absurd w (by decide)) (fun w => absurd w (by decide)) ?_
      rw [ec]
      cases h2 : PF T m l d 6 (nx T m q) (cnt P + 1) with
      | inl v =>
        obtain ⟨g, q'⟩ := v
        rw [h2] at hp
        exact fun y' f' p' => hp y' (f1.trans f') p'
      | inr v =>
      obtain ⟨q2, e⟩ := v
      rw [h2, bnd_r] at hp
      intro P2 W2 y2 h2 f2 st2 le2 i2
      refine hp P2 W2 y2 h2 (f1.trans f2) ?_ le2 i2
      refine st2.trans ((stl_p (show rkK 6 ≤ rkF 20 by decide)).trans ?_)
      show _ = stl (rkK 6) P (W ++ (rC e ++ [(20, 0)]))
      rw [List.append_assoc]
    · rw [if_neg o7] at hp
      exact hp y (RF.refl y) h.pl8
  · rw [if_neg z] at hp
    have st0 := stop_0 (T := T) (m := m) (l := l) (d := d) (o := cnt P) m3 h.2.1
    refine ih 0 q P W y (by decide) h (by omega) (by omega) ⟨lo.up (by decide), fun w => absurd w (by decide)⟩ (fun _ w => absurd w z) (fun w => absurd w (by decide)) ?_
    cases h1 : PF T m l d 0 q (cnt P) with
    | inl v =>
      obtain ⟨g, q'⟩ := v
      rw [h1] at hp
      exact hp
    | inr v =>
    obtain ⟨q1, a⟩ := v
    rw [h1, bnd_r] at hp
    rw [h1] at st0
    obtain ⟨⟨_, s6, s7⟩, s4, s5⟩ := st0
    intro P1 W1 y1 h1 f1 st1 le1 _
    have tl := tkC_lt (q := q1) (fun i hi => (h1.1.2.2 i hi).2)
    have k1 : koF P1 = 41 := (alike_ko (r := rkK 0) (by decide) st1).1.trans as.1
    have i1 : icF P1 = false := (alike_ic (r := rkK 0) (by decide) st1).trans as.2.1
    have e4 : stl 4 P1 W1 = (P, W ++ rC a) := (alike_low (r := 4) (s := rkK 0) (by decide) st1).trans (stl_low lo)
    by_cases c : isCmp (tkC T m q1) = true
    · rw [if_pos c] at hp
      obtain ⟨t1, t2, t3, t4, t5⟩ := roC ⟨_, tl⟩ c
      simp only at t1 t2 t3 t4 t5
      have eb := bw_cmp c k1 i1
      have nz : bwN P1 (tkC T m q1) ≠ 0 := by rw [eb]; exact t5
      have no : ∀ {X : Prop}, bwN P1 (tkC T m q1) = 0 → X := fun w => absurd w nz
      refine run1 hB h1 (r_beh h1 (by omega) (fun _ y2 h2 f2 => ?_) (fun w => no w) (fun w => no w) (fun w => no w) (fun w => no w))
      rw [eb, t1, e4] at h2
      have ec : cnt (roF (tkC T m q1) :: P) = cnt P := by
        show (if _ then 1 else 0) + cnt P = _
        rw [if_neg (by omega)]; omega
      refine ih 0 (nx T m q1) (roF (tkC T m q1) :: P) (W ++ rC a) y2 (by decide) h2 (by omega) (by rw [ec]; show P.length + 1 ≤ _; omega) ⟨low_c (show rkF (roF (tkC T m q1)) < 5 by omega), fun w => absurd w (by decide)⟩ (fun _ _ => ia_no (by omega) (by omega)) (fun w => absurd w (by decide)) ?_
      rw [ec]
      cases h3 : PF T m l d 0 (nx T m q1) (cnt P) with
      | inl v =>
        obtain ⟨g, q'⟩ := v
        rw [h3] at hp
        exact fun y' f' p' => hp y' ((f1.trans f2).trans f') p'
      | inr v =>
      obtain ⟨q3, e⟩ := v
      rw [h3, bnd_r] at hp
      intro P3 W3 y3 h3 f3 st3 le3 _
      refine hp P3 W3 y3 h3 ((f1.trans f2).trans f3) ?_ le3 (fun _ => ?_)
      · refine (alike_low (r := rkK 6) (s := rkK 0) (by decide) st3).trans ((stl_p (by rw [t1]; decide)).trans ?_)
        show _ = stl (rkK 6) P (W ++ (rC a ++ rC e ++ [(roF (tkC T m q1), 0)]))
        simp only [List.append_assoc]
      · refine (alike_ic (r := rkK 0) (by decide) st3).trans ?_
        show (if _ then _ else _) = _
        rw [if_pos (by omega)]
        exact decide_eq_true t1
    · rw [if_neg c] at hp
      have c' : isCmp (tkC T m q1) = false := by simpa using c
      refine run_bad hB h1 (by omega) (bw_no s4 s5 s6 s7 (fun _ => ⟨fun w => by rw [i1] at w; exact absurd w (by decide), fun _ => c'⟩)) (by rw [(alike_ko (r := rkK 0) (by decide) st1).2]; exact mkP) (fun w => by rw [k1] at w; exact absurd w.2 (by decide)) (fun w => by rw [k1] at w; exact absurd w.2 (by decide)) (fun w => by rw [i1] at w; exact absurd w.2.2 (by decide)) (fun w => by rw [k1] at w; exact absurd w.2 (by decide)) ?_
      exact hp y1 f1 h1.pl8
theorem bw_lo {Z : List Nat} {t : Nat} (h : t = 4 ∨ t = 5 ∨ t = 6 ∨ t = 7) : bwN Z t = roF t := by
  rcases h with e | e | e | e <;> subst e <;> rfl
theorem bw_ao {Z : List Nat} {t : Nat} (h : t = 43 ∨ t = 44) (k : koF Z = 41) (i : icF Z = true) : bwN Z t = roF t := by
  unfold bwN
  rcases h with e | e <;> subst e
  · rw [if_neg (by decide), if_neg (by decide), if_neg (by decide), if_neg (by decide), if_pos k, if_pos i]; rfl
  · rw [if_neg (by decide), if_neg (by decide), if_neg (by decide), if_neg (by decide), if_pos k, if_pos i]; rfl
theorem cnt_k {a : Nat} {P : List Nat} (h : ¬ (a = 2 ∨ a = 20 ∨ 40 ≤ a)) : cnt (a :: P) = cnt P := by
  show (if a = 2 ∨ a = 20 ∨ 40 ≤ a then 1 else 0) + cnt P = _
  rw [if_neg h]; omega
theorem asks_c {a : Nat} {P : List Nat} (h : a = 21 ∨ a = 22) (k : koF P = 41) : asks (a :: P) := by
  have k' : koF (a :: P) = 41 := by
    rcases h with e | e <;> subst e <;> exact k
  refine ⟨k', ?_, ?_⟩
  · rcases h with e | e <;> subst e <;> rfl
  · refine ia_yes ⟨k', Or.inr ?_⟩
    rcases h with e | e <;> subst e <;> decide
theorem RG (hB : ∀ h S, B_parsed Post K h S → K h S) : ∀ d, RGd T m b l d Post K := by
  intro d
  induction d with
  | zero =>
    intro k q P W y hk h hd
    have := h.o8
    omega
  | succ d ih =>
    intro k q P W y hk h hd pb tp ni k3 hp
    have o8 := h.o8
    have K0 : hK 0 = 3 := rfl
    have K1 : hK 1 = 2 := rfl
    have K2 : hK 2 = 1 := rfl
    have K3 : hK 3 = 0 := rfl
    have K4 : hK 4 = 6 := rfl
    have K5 : hK 5 = 5 := rfl
    have K6 : hK 6 = 4 := rfl
    have b0 : pbK 0 = 4 := rfl
    have b1 : pbK 1 = 5 := rfl
    have b2 : pbK 2 = 6 := rfl
    have b3 : pbK 3 = 6 := rfl
    have b4 : pbK 4 = 1 := rfl
    have b5 : pbK 5 = 2 := rfl
    have b6 : pbK 6 = 3 := rfl
    have cs : k = 0 ∨ k = 1 ∨ k = 2 ∨ k = 3 ∨ k = 4 ∨ k = 5 ∨ k = 6 := (by omega)
    rcases cs with e | e | e | e | e | e | e <;> subst e
    · rw [PF_0] at hp
      refine r_head (k := 0) (k1 := 1) hB ih (by decide) (by decide) h (by omega) (by omega) tp.1 (by decide) (by decide) (fun w => absurd w (by decide)) ⟨tp.1.up (by decide), fun w => absurd w (by decide)⟩ (fun _ => ni (by decide)) (fun t ht => ?_) (fun Z t ht _ _ => bw_lo (by omega)) hp
      rcases ht with e | e <;> subst e
      · exact ⟨(by decide), (by decide), (by decide), ⟨low_c (by decide), fun w => absurd w (by decide)⟩, cnt_k (by decide), fun _ => ia_no (by decide) (by decide)⟩
      · exact ⟨(by decide), (by decide), (by decide), ⟨low_c (by decide), fun w => absurd w (by decide)⟩, cnt_k (by decide), fun _ => ia_no (by decide) (by decide)⟩
    · rw [PF_1] at hp
      refine r_head (k := 1) (k1 := 2) hB ih (by decide) (by decide) h (by omega) (by omega) tp.1 (by decide) (by decide) (fun w => absurd w (by decide)) ⟨tp.1.up (by decide), fun w => absurd w (by decide)⟩ (fun _ => ni (by decide)) (fun t ht => ?_) (fun Z t ht _ _ => bw_lo (by omega)) hp
      rcases ht with e | e <;> subst e
      · exact ⟨(by decide), (by decide), (by decide), ⟨low8, fun w => absurd w (by decide)⟩, cnt_k (by decide), fun _ => ia_no (by decide) (by decide)⟩
      · exact ⟨(by decide), (by decide), (by decide), ⟨low8, fun w => absurd w (by decide)⟩, cnt_k (by decide), fun _ => ia_no (by decide) (by decide)⟩
    · exact r_one hB ih h (by omega) (by omega) (ni (by decide)) hp
    · exact r_choice hB ih h (by omega) (by omega) (k3 rfl) hp
    · have as := tp.2 (by decide)
      rw [PF_4] at hp
      refine r_head (k := 4) (k1 := 5) hB ih (by decide) (by decide) h (by omega) (by omega) tp.1 (by decide) (by decide) (fun _ => (by decide)) ⟨tp.1.up (by decide), fun _ => as⟩ (fun w => absurd w (by decide)) (fun t ht => ?_) (fun Z t ht kz iz => bw_ao (by omega) (kz.trans as.1) (iz (by decide))) hp
      have e : t = 43 := (by omega)
      subst e
      exact ⟨(by decide), (by decide), (by decide), ⟨low_c (by decide), fun _ => asks_c (Or.inr rfl) as.1⟩, cnt_k (by decide), fun w => absurd w (by decide)⟩
    · have as := tp.2 (by decide)
      rw [PF_5] at hp
      refine r_head (k := 5) (k1 := 6) hB ih (by decide) (by decide) h (by omega) (by omega) tp.1 (by decide) (by decide) (fun _ => (by decide)) ⟨tp.1.up (by decide), fun _ => as⟩ (fun w => absurd w (by decide)) (fun t ht => ?_) (fun Z t ht kz iz => bw_ao (by omega) (kz.trans as.1) (iz (by decide))) hp
      have e : t = 44 := (by omega)
      subst e
      exact ⟨(by decide), (by decide), (by decide), ⟨low_c (by decide), fun _ => asks_c (Or.inl rfl) as.1⟩, cnt_k (by decide), fun w => absurd w (by decide)⟩
    · exact r_asks hB ih h (by omega) pb tp.1 (tp.2 (by decide)) hp
end RGN
