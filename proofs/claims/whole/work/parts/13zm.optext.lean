/-! text: both sides -/
def vCL (c : CL) : Prop := c.1 ≤ 6 ∧ (c.1 < 4 → gdN c.1 c.2.2.2.2 43) ∧ (c.1 = 4 → c.2.1 ≤ 5) ∧ (c.1 = 5 → c.2.1 ≤ 9 ∧ c.2.2.1 ≤ 5 ∧ 1 ≤ c.2.2.2.1 ∧ c.2.2.2.1 ≤ 9) ∧ (c.1 = 6 → 1 ≤ c.2.1 ∧ c.2.1 ≤ 99)
def vTS (C : List CL) : Prop := (∀ (k : Nat) (c : CL), C[k]? = some c → vCL c) ∧ ∀ (k k' : Nat) (c c' : CL), C[k]? = some c → C[k']? = some c' → c.1 < 4 → c'.1 = c.1 → k' = k
section VAL
variable {T : Nat → Nat} {m : Nat}
def nvR (lo hi : Nat) : (Nat × Nat) ⊕ (Nat × Nat) → Prop
  | .inl _ => True
  | .inr (_, v) => lo ≤ v ∧ v ≤ hi
theorem num_v {lo hi q : Nat} : nvR lo hi (numF T m lo hi q) := by
  unfold numF
  by_cases a : tkC T m q = 15
  · rw [if_pos a]
    by_cases c : lo ≤ rkV T m q ∧ rkV T m q ≤ hi
    · rw [if_pos c]; exact c
    · rw [if_neg c]; trivial
  · rw [if_neg a]; trivial
def dvR (s : Nat) : (Nat × Nat) ⊕ (Nat × Nat × Nat × Nat) → Prop
  | .inl _ => True
  | .inr (_, a1, a2, a3) => (s = 4 → a1 ≤ 5) ∧ (s = 5 → a1 ≤ 9 ∧ a2 ≤ 5 ∧ 1 ≤ a3 ∧ a3 ≤ 9) ∧ (s = 6 → 1 ≤ a1 ∧ a1 ≤ 99)
theorem deed_v {s q : Nat} : dvR s (deedF T m s q) := by
  unfold deedF
  by_cases s4 : s = 4
  · rw [if_pos s4]
    have a := num_v (T := T) (m := m) (lo := 0) (hi := 5) (q := q)
    cases hh : numF T m 0 5 q with
    | inl v => trivial
    | inr v =>
      obtain ⟨q1, v⟩ := v
      rw [hh] at a
      exact ⟨fun _ => a.2, fun z => absurd z (by omega), fun z => absurd z (by omega)⟩
  · rw [if_neg s4]
    by_cases s5 : s = 5
    · rw [if_pos s5]
      have a := num_v (T := T) (m := m) (lo := 0) (hi := 9) (q := q)
      cases hh : numF T m 0 9 q with
      | inl v => trivial
      | inr v =>
        obtain ⟨q1, v⟩ := v
        rw [hh] at a
        rw [sb_r]
        by_cases z : tkC T m q1 = 39
        · rw [dueS_p z]
          have c := num_v (T := T) (m := m) (lo := 0) (hi := 5) (q := nx T m q1)
          dsimp only
          cases h2 : numF T m 0 5 (nx T m q1) with
          | inl v => trivial
          | inr w =>
            obtain ⟨q2, w⟩ := w
            rw [h2] at c
            rw [sb_r]
            by_cases z2 : tkC T m q2 = 40
            · rw [dueS_p z2]
              have d := num_v (T := T) (m := m) (lo := 1) (hi := 9) (q := nx T m q2)
              dsimp only
              cases h3 : numF T m 1 9 (nx T m q2) with
              | inl v => trivial
              | inr x =>
                obtain ⟨q3, x⟩ := x
                rw [h3] at d
                exact ⟨fun z => absurd z s4, fun _ => ⟨a.2, c.2, d.1, d.2⟩, fun z => absurd z (by omega)⟩
            · rw [dueS_n z2]; trivial
        · rw [dueS_n z]; trivial
    · rw [if_neg s5]
      have a := num_v (T := T) (m := m) (lo := 1) (hi := 99) (q := q)
      cases hh : numF T m 1 99 q with
      | inl v => trivial
      | inr v =>
        obtain ⟨q1, v⟩ := v
        rw [hh] at a
        exact ⟨fun z => absurd z s4, fun z => absurd z s5, fun _ => a⟩
def cvR (C : List CL) : (Nat × Nat) ⊕ (Nat × CL) → Prop
  | .inl _ => True
  | .inr (_, c) => vCL c ∧ (c.1 < 4 → hasL C c.1 = false)
theorem clause_v {q : Nat} {S : TS} : cvR S.1 (clauseF T m q S) := by
  unfold clauseF
  by_cases z1 : tkC T m q < 32 ∨ 38 < tkC T m q
  · rw [if_pos z1]; trivial
  · rw [if_neg z1]
    by_cases z2 : tkC T m q < 36 ∧ hasL S.1 (tkC T m q - 32) = true
    · rw [if_pos z2]; trivial
    · rw [if_neg z2]
      by_cases z3 : 24 ≤ S.1.length
      · rw [if_pos z3]; trivial
      · rw [if_neg z3]
        by_cases z4 : tkC T m q < 36
        · rw [if_pos z4]
          unfold lawF
          have g := PF_gd (T := T) (m := m) (l := tkC T m q - 32) (by omega) 100 0 (nx T m q) 0 (by decide) (by decide)
          cases hh : PF T m (tkC T m q - 32) 100 0 (nx T m q) 0 with
          | inl v => trivial
          | inr v =>
            obtain ⟨q1, e⟩ := v
            rw [hh] at g
            rw [sb_r]
            by_cases z5 : tkC T m q1 = 10
            · rw [dueS_p z5]
              refine ⟨⟨by show tkC T m q - 32 ≤ 6; omega, fun _ => g.1 (by decide), fun z => absurd z (by show ¬ tkC T m q - 32 = 4; omega), fun z => absurd z (by show ¬ tkC T m q - 32 = 5; omega), fun z => absurd z (by show ¬ tkC T m q - 32 = 6; omega)⟩, fun _ => ?_⟩
              show hasL S.1 (tkC T m q - 32) = false
              cases y : hasL S.1 (tkC T m q - 32) with
              | false => rfl
              | true => exact absurd ⟨z4, y⟩ z2
            · rw [dueS_n z5]; trivial
        · rw [if_neg z4]
          have g := deed_v (T := T) (m := m) (s := tkC T m q - 32) (q := nx T m q)
          cases hh : deedF T m (tkC T m q - 32) (nx T m q) with
          | inl v => trivial
          | inr v =>
            obtain ⟨q1, a1, a2, a3⟩ := v
            rw [hh] at g
            rw [sb_r]
            by_cases z5 : tkC T m q1 = 10
            · rw [dueS_p z5]
              exact ⟨⟨by show tkC T m q - 32 ≤ 6; omega, fun z => absurd z (by show ¬ tkC T m q - 32 < 4; omega), g.1, g.2.1, g.2.2⟩, fun z => absurd z (by show ¬ tkC T m q - 32 < 4; omega)⟩
            · rw [dueS_n z5]; trivial
theorem text_v : ∀ {n q : Nat} {S S' : TS}, vTS S.1 → textF T m n q S = .inr S' → vTS S'.1
  | 0, q, S, S', h, e => by rw [← Sum.inr.inj e]; exact h
  | n + 1, q, S, S', h, e => by
    unfold textF at e
    by_cases z : tkC T m q = 16
    · rw [if_pos z] at e
      rw [← Sum.inr.inj e]; exact h
    · rw [if_neg z] at e
      have v := clause_v (T := T) (m := m) (q := q) (S := S)
      cases hh : clauseF T m q S with
      | inl w => rw [hh, sb_l] at e; exact absurd e (by simp)
      | inr w =>
        obtain ⟨q', c⟩ := w
        rw [hh, sb_r] at e
        rw [hh] at v
        obtain ⟨v1, v2⟩ := v
        refine text_v (n := n) ?_ e
        refine ⟨fun k d hd => ?_, fun k k' d d' hd hd' d4 de => ?_⟩
        · rcases get_a hd with ⟨_, k2⟩ | ⟨_, k2⟩
          · exact h.1 k d k2
          · rw [k2]; exact v1
        · rcases get_a hd with ⟨a1, a2⟩ | ⟨a1, a2⟩ <;> rcases get_a hd' with ⟨b1, b2⟩ | ⟨b1, b2⟩
          · exact h.2 k k' d d' a2 b2 d4 de
          · subst b2
            exact absurd de.symm (hasL_f (v2 (by rw [de]; exact d4)) a2)
          · subst a2
            exact absurd de (hasL_f (v2 d4) b2)
          · omega
end VAL
theorem rLaw_ext {g g' : Nat → Int32} {c l : Nat} {p : (Nat → Nat) → Nat} (h : rLaw g c l p) (e : ∀ k, k < 680 → g' k = g k) : rLaw g' c l p :=
  fun Post y v A i i4 hg hA a5 nm k => h Post y v A i i4 (fun k hk => by rw [hg k hk, e k hk]) hA a5 nm k
theorem textRel_ext {t : TR} {a : Nat} {g g' : Nat → Int32} (h : textRel t a g) (e : ∀ k, k < 680 → g' k = g k) : textRel t a g' := by
  obtain ⟨c, c24, c1, c2, c3, c4⟩ := h
  refine ⟨c, c24, c1, by rw [e 0 (by decide)]; exact c2, fun k hk => ?_, fun l hl => ?_⟩
  · unfold clauseRel
    rw [e (1 + 3 * k) (by omega), e (2 + 3 * k) (by omega), e (3 + 3 * k) (by omega)]; exact c3 k hk
  · rcases c4 l hl with ⟨n1, n2⟩ | ⟨k, k1, k2, k3, k4, p, p1, p2, p3⟩
    · exact Or.inl ⟨n1, fun k hk => by rw [e _ (by omega)]; exact n2 k hk⟩
    · exact Or.inr ⟨k, k1, by rw [e _ (by omega)]; exact k2, fun k' hk' => by rw [e _ (by omega)]; exact k3 k' hk', k4, p, p1, p2, rLaw_ext p3 e⟩
theorem textRel_new {T : Nat → Nat} {m b q a : Nat} {t : TR} {S : TS} {F : Nat → Nat → Int32} {y : MS} (ht : tOf t S F) (hr : rSt y T m b q S) (hv : vTS S.1) : textRel t a (fun k => y.2.2.1 2 (b + k)) := by
  obtain ⟨t1, t2, t3, t4, t5, t6, t7, ⟨t8, t8'⟩, t9⟩ := ht
  obtain ⟨g1, g12, g2, g18, _, W, w1, w2, w3, w4, w5⟩ := hr
  have m3 := g1.1.2.1
  have qm := g1.2.1
  have some_of : ∀ k, k < S.1.length → ∃ c, S.1[k]? = some c := fun k hk => ⟨S.1[k], List.getElem?_eq_getElem hk⟩
  have r1 : ∀ k c, S.1[k]? = some c → y.2.2.1 2 (b + (1 + 3 * k)) = nI c.1 := fun k c hc => by
    rw [show b + (1 + 3 * k) = b + 1 + 3 * k by omega]; exact (w5 k c hc).1
  refine ⟨S.1.length, t9, t6, g2.1, fun k hk => ?_, fun l hl => ?_⟩
  · obtain ⟨c, hc⟩ := some_of k hk
    obtain ⟨v1, v2, v3, v4, v5⟩ := hv.1 k c hc
    obtain ⟨a1, a2, a3, a4⟩ := t8 k c hc
    obtain ⟨b1, b2, b3, b4⟩ := w5 k c hc
    have e2 : y.2.2.1 2 (b + (2 + 3 * k)) = y.2.2.1 2 (b + 2 + 3 * k) := by rw [show b + (2 + 3 * k) = b + 2 + 3 * k by omega]
    have e3 : y.2.2.1 2 (b + (3 + 3 * k)) = y.2.2.1 2 (b + 3 + 3 * k) := by rw [show b + (3 + 3 * k) = b + 3 + 3 * k by omega]
    refine ⟨c.1, v1, by rw [t7 _ (by omega)]; exact a1, r1 k c hc, fun z => ⟨c.2.1, v3 z, by rw [t7 _ (by omega)]; exact a3 (by omega), e2.trans (b3 (by omega))⟩, fun z => ?_, fun z => ⟨c.2.1, (v5 z).1, (v5 z).2, by rw [t7 _ (by omega)]; exact a3 (by omega), e2.trans (b3 (by omega))⟩⟩
    obtain ⟨x1, x2, x3, x4⟩ := v4 z
    exact ⟨c.2.1, c.2.2.1, c.2.2.2.1, x1, x2, x3, x4, by rw [t7 _ (by omega)]; exact a3 (by omega), by rw [t7 _ (by omega)]; exact (a4 z).1, by rw [t7 _ (by omega)]; exact (a4 z).2, e2.trans (b3 (by omega)), e3.trans (b4 z)⟩
  · cases hh : hasL S.1 l with
    | false =>
      refine Or.inl ⟨by rw [t4, t8' l hl hh]; decide, fun k hk z => ?_⟩
      obtain ⟨c, hc⟩ := some_of k hk
      have v1 := (hv.1 k c hc).1
      have z' : y.2.2.1 2 (b + (1 + 3 * k)) = nI l := z
      rw [r1 k c hc, neq (by omega) (by omega)] at z'
      exact hasL_f hh hc z'
    | true =>
      obtain ⟨k, c, hc, ec⟩ := hasL_t hh
      have kl := get_lt hc
      have c4 : c.1 < 4 := by rw [ec]; exact hl
      obtain ⟨v1, v2, _⟩ := hv.1 k c hc
      obtain ⟨a1, a2, a3, a4⟩ := t8 k c hc
      obtain ⟨b1, b2, b3, b4⟩ := w5 k c hc
      obtain ⟨x1, x2, x3, x4, x5⟩ := a2 c4
      obtain ⟨y1, y2, ⟨y3, y4⟩⟩ := b2 c4
      obtain ⟨p, p1, p2, p3⟩ := law_gd (l := c.1) c4 (v2 c4) (by decide)
      rw [ec] at x1 x2 p1 p2 p3
      have hC : hasC t.2.1.2 c.2.1 (cC c.2.1 c.2.2.2.2) := fun j hj => by
        rw [t3 _ (by rw [x4] at hj; omega)]; exact x3 j hj
      refine Or.inr ⟨k, kl, by show y.2.2.1 2 (b + (1 + 3 * k)) = _; rw [r1 k c hc, ec], fun k' hk' z => ?_, by rw [t4, x1]; exact nI_pos (by omega), p, p1, p2 t a c.2.1 (by rw [t1]; exact t2) (by rw [t1]; exact x5) (by rw [t4]; exact x1) (by rw [t5]; exact x2) hC, p3 _ k c.2.2.1 (by omega) ?_ ?_ (by omega) (fun j hj => ?_)⟩
      · obtain ⟨c', hc'⟩ := some_of k' (by omega)
        have v1' := (hv.1 k' c' hc').1
        have z' : y.2.2.1 2 (b + (1 + 3 * k')) = nI l := z
        rw [r1 k' c' hc', neq (by omega) (by omega)] at z'
        have := hv.2 k k' c c' hc hc' c4 (by rw [z', ec])
        omega
      · show y.2.2.1 2 (b + (2 + 3 * k)) = _
        rw [show b + (2 + 3 * k) = b + 2 + 3 * k by omega]; exact y1
      · show y.2.2.1 2 (b + (3 + 3 * k)) = _
        rw [show b + (3 + 3 * k) = b + 3 + 3 * k by omega]; exact y2
      · have := w4 (c.2.2.1 + j) (by omega)
        rw [y4 j hj] at this
        refine ⟨?_, ?_⟩
        · show y.2.2.1 2 (b + (75 + 2 * (c.2.2.1 + j))) = _
          rw [show b + (75 + 2 * (c.2.2.1 + j)) = b + 75 + 2 * (c.2.2.1 + j) by omega]; exact this.1
        · show y.2.2.1 2 (b + (75 + 2 * (c.2.2.1 + j) + 1)) = _
          rw [show b + (75 + 2 * (c.2.2.1 + j) + 1) = b + 76 + 2 * (c.2.2.1 + j) by omega]; exact this.2
section OPT
variable {A B : Nat → Nat} {x : XS} {y : MS}
theorem recOf_a {L : List TR} {a : Nat} {t t' : TR} (h : recOf L a t) : recOf (L ++ [t']) a t := by
  obtain ⟨j, h1, h2⟩ := h
  have : j < L.length := by
    by_cases z : j < L.length
    · exact z
    · rw [List.getElem?_eq_none (by omega)] at h1
      exact absurd h1 (by simp)
  exact ⟨j, by rw [List.getElem?_append_left this]; exact h1, h2⟩
theorem recOf_n {L : List TR} {t : TR} : recOf (L ++ [t]) t.1.1 t := ⟨L.length, by rw [List.getElem?_append_right (Nat.le_refl _), Nat.sub_self]; rfl, rfl⟩
theorem op_text (h : RelA TXd A B x y) : VC_X11_text_0 (fun r x' => VC_text (fun r' y' => r = r' ∧ RelT TXd x' y') y) x := by
  obtain ⟨g1, g2, g3, g4, g5, g6, g7, ⟨x1, x2, x3⟩, ⟨m, m1, m2, m3, m4⟩, g10⟩ := id h
  obtain ⟨b0, b1, b2, b3, b4, b5, b6, b7, b8, b9⟩ := g1.b
  obtain ⟨h1, h2, h3, h4, h5, h6⟩ := id g3
  have mT : ∃ T : Nat → Nat, ∀ i, i < m → x.2.1 42 i = nI (T i) ∧ y.2.2.1 3 i = nI (T i) ∧ T i ≤ 255 :=
    ⟨fun i => if hi : i < m then Classical.choose (m4 i hi) else 0, fun i hi => by
      have := Classical.choose_spec (m4 i hi)
      simp only [hi, dif_pos]
      exact ⟨this.2.1, this.2.2, this.1⟩⟩
  obtain ⟨T, hT⟩ := mT
  have tX : tpX x T m := ⟨m2, m1, fun i hi => ⟨(hT i hi).1, (hT i hi).2.2⟩⟩
  have tM : tpM y T m := ⟨m3, m1, fun i hi => ⟨(hT i hi).2.1, (hT i hi).2.2⟩⟩
  -- what stays of the class
  have stay : ∀ S' : XS, TP x S' → (∀ k, k < 640 → S'.1 k = x.1 k) ∧ (∀ k, k < 20 → S'.2.1 k = x.2.1 k) ∧ kI S' = kI x ∧ kF S' = kF x := fun S' p' => by
    refine ⟨fun k hk => p'.1 k (by omega), fun k hk => p'.2.2.1 k (by omega), ?_, ?_⟩
    · funext k; unfold kI; split
      · rw [p'.1 _ (by omega)]
      · rfl
    · funext k; unfold kF; split
      · rw [p'.2.2.1 _ (by omega)]
      · rfl
  -- the texts that stand already
  have old : ∀ (f : Nat → Int32) (G : (Nat → Nat → Option Nat) × List TR) (p i : Nat), i < A 4 → (∀ j, j < 680 * A 4 → f j = y.2.2.1 2 j) → (∀ a t, recOf x.2.2.2 a t → recOf G.2 a t) → G.1 p i = x.2.2.1 p i → slotRel x.2.2 p i (y.2.2.1 2) → slotRel G p i f := fun f G p i hi hf hG hg hs => by
    obtain ⟨a, t, q1, q2, q3⟩ := hs
    exact ⟨a, t, hg.trans q1, hG a t q2, textRel_ext q3 (fun k hk => hf _ (by omega))⟩
  refine c_text tX h6.1 b4 (fun e4 => ?_) (fun l4 f q' e ff S' p' f1 f2 => ?_) (fun l4 S e S' a t F p' f1 f2 fr ta to => ?_)
  · exact g_text tM g5 b4 (fun _ => ⟨rfl, A, B, h⟩) (fun l4 => absurd e4 (by omega)) (fun l4 => absurd e4 (by omega))
  · obtain ⟨s1, s2, s3, s4⟩ := stay S' p'
    refine g_text tM g5 b4 (fun e4 => absurd e4 (by omega)) (fun _ f' q2 e' _ y' qy => ⟨rfl, ?_⟩) (fun _ S q e' => absurd (e.symm.trans e') (by simp))
    have ef := Sum.inl.inj (e.symm.trans e')
    obtain ⟨ef1, ef2⟩ := Prod.mk.inj ef
    have q0 : (sI (sI (sI y' 5 (nI f')) 6 (nI q2)) 4 0).2.2.1 = y'.2.2.1 := rfl
    refine ⟨A, B, g1, g2, RX_frame g1 g3 ⟨fun k hk => by rw [xI_n _ _ (by omega)]; exact s1 k hk, s2⟩, by rw [kI_xI _ _ _ (by omega), kF_xI, s3, s4]; exact g4, by rw [q0, qy.2.1 0 (by decide) (by decide)]; exact g5, by rw [q0, qy.2.1 1 (by decide) (by decide)]; exact g6, g7, ⟨fun i hi => ?_, fun i hi => ?_, fun i a ha => ?_⟩, ⟨0, (by decide), xI_s _ _ _, sI_s _ _ _, fun i hi => absurd hi (Nat.not_lt_zero i)⟩, Or.inr ⟨?_, ?_, ?_⟩⟩
    · rw [q0]
      exact old _ _ 20 i hi (fun j hj => qy.2.2 j (Or.inl hj)) (fun a t ht => by show recOf S'.2.2.2 a t; rw [p'.2.2.2]; exact ht) (by show S'.2.2.1 20 i = _; rw [p'.2.2.2]) (x1 i hi)
    · rw [q0]
      exact old _ _ 40 i (by omega) (fun j hj => qy.2.2 j (Or.inl hj)) (fun a t ht => by show recOf S'.2.2.2 a t; rw [p'.2.2.2]; exact ht) (by show S'.2.2.1 40 i = _; rw [p'.2.2.2]) (x2 i hi)
    · have ha' : S'.2.2.1 20 i = some a ∨ S'.2.2.1 40 i = some a := ha
      show ∃ t, recOf S'.2.2.2 a t
      rw [p'.2.2.2] at ha' ⊢
      exact x3 i a ha'
    · rw [xI_n _ _ (by decide)]; exact p'.2.1
    · rw [xI_n _ _ (by decide), f1, sI_o _ _ _ _ (by decide), sI_o _ _ _ _ (by decide), sI_s, ef1]
    · rw [xI_n _ _ (by decide), f2, sI_o _ _ _ _ (by decide), sI_s, ef2]
  · obtain ⟨s1, s2, s3, s4⟩ := stay S' p'
    refine g_text tM g5 b4 (fun e4 => absurd e4 (by omega)) (fun _ f' q2 e' => absurd (e.symm.trans e') (by simp)) (fun _ S2 q2 e' y' qy sy => ⟨rfl, ?_⟩)
    have eS : S = S2 := Sum.inr.inj (e.symm.trans e')
    subst eS
    have hv : vTS S.1 := text_v (S := ([], 0, 0)) ⟨fun k c hc => absurd hc (by simp), fun k k' c c' hc => absurd hc (by simp)⟩ e
    have eA : ∀ k, k ≠ 4 → uN A 4 (A 4 + 1) k = A k := fun k hk => uN_n _ _ _ _ hk
    have hI' : Inv (uN A 4 (A 4 + 1)) := Inv_talk g1 (fun k k4 _ _ _ _ => eA k k4) (by rw [uN_s]; omega) (by rw [eA 5 (by omega), uN_s]; omega) (by rw [eA 7 (by omega)]; omega) (by rw [eA 8 (by omega)]; omega) ⟨fun i hi => by rw [eA 7 (by omega)] at hi; rw [eA _ (by omega)]; exact g1.2.2.2.2.1.1 i hi, fun i hi => by rw [eA 8 (by omega)] at hi; rw [eA (70 + 4 * i) (by omega), eA (71 + 4 * i) (by omega), eA (72 + 4 * i) (by omega), eA (73 + 4 * i) (by omega), eA 0 (by omega)]; exact g1.2.2.2.2.1.2 i hi⟩
    generalize eX : xI (xG (xI (xT S' t) 1313 0) 20 (va_up (x.2.2.1 20) (A 4) (some a))) 38 (nI (A 4 + 1)) = X
    generalize eY : sF (sI (sI (sI y' 5 0) 6 (-1)) 4 0) 0 (enc (uN A 4 (A 4 + 1))) = Y
    have I : ∀ k, k ≠ 38 → k ≠ 1313 → X.1 k = S'.1 k := fun k k1 k2 => by
      rw [← eX, xI_n _ _ k1, xG_1, xI_n _ _ k2]; rfl
    have F' : X.2.1 = S'.2.1 := by rw [← eX]; rfl
    have X38 : X.1 38 = nI (A 4 + 1) := by rw [← eX, xI_s]
    have X1313 : X.1 1313 = 0 := by rw [← eX, xI_n _ _ (by decide), xG_1, xI_s]
    have G20 : X.2.2.1 20 = va_up (x.2.2.1 20) (A 4) (some a) := by rw [← eX]; exact xG_s _ _ _
    have Go : ∀ p, p ≠ 20 → X.2.2.1 p = x.2.2.1 p := fun p hp => by
      rw [← eX]
      refine (xG_o _ _ _ _ hp).trans ?_
      show S'.2.2.1 p = _
      rw [p'.2.2.2]
    have GL : X.2.2.2 = x.2.2.2 ++ [t] := by
      rw [← eX]
      show S'.2.2.2 ++ [t] = _
      rw [p'.2.2.2]
    have Y0 : Y.2.2.1 0 = enc (uN A 4 (A 4 + 1)) := by rw [← eY, sF_same]
    have Yo : ∀ k, k ≠ 0 → Y.2.2.1 k = y'.2.2.1 k := fun k hk => by rw [← eY, sF_o _ _ _ _ hk]; rfl
    have Y4 : Y.1 4 = 0 := by
      rw [← eY]
      show (sI (sI (sI y' 5 0) 6 (-1)) 4 0).1 4 = 0
      rw [sI_s]
    have Y5 : Y.1 5 = 0 := by
      rw [← eY]
      show (sI (sI (sI y' 5 0) 6 (-1)) 4 0).1 5 = 0
      rw [sI_o _ _ _ _ (by decide), sI_o _ _ _ _ (by decide), sI_s]
    have Y6 : Y.1 6 = -1 := by
      rw [← eY]
      show (sI (sI (sI y' 5 0) 6 (-1)) 4 0).1 6 = -1
      rw [sI_o _ _ _ _ (by decide), sI_s]
    have xlo : ∀ k, k < 640 → k ≠ 38 → X.1 k = x.1 k := fun k hk k38 => by rw [I k k38 (by omega), s1 k hk]
    have flo : ∀ k, k < 20 → X.2.1 k = x.2.1 k := fun k hk => by rw [F', s2 k hk]
    have kIX : kI X = kI x := by
      rw [← s3]
      funext k; unfold kI; split
      · rw [I _ (by omega) (by omega)]
      · rfl
    have kFX : kF X = kF x := by
      rw [← s4]
      funext k; unfold kF; rw [F']
    have y2 : ∀ j, j < 680 * A 4 → Y.2.2.1 2 j = y.2.2.1 2 j := fun j hj => by rw [Yo 2 (by decide)]; exact qy.2.2 j (Or.inl hj)
    have rec' : ∀ a t, recOf x.2.2.2 a t → recOf X.2.2.2 a t := fun a t ht => by rw [GL]; exact recOf_a ht
    refine ⟨uN A 4 (A 4 + 1), B, hI', g2, ⟨rxCrew_of h1 b0 (xlo 64 (by decide) (by decide)) (fun k hk _ _ => flo k hk) (fun k hk => eA k (by omega)), rxWares_of h2 b1 (xlo 224 (by decide) (by decide)) (fun k hk _ _ => flo k hk) (fun k hk => eA k (by omega)), rxBench_of h3 b2 b9 ⟨xlo 352 (by decide) (by decide), xlo 353 (by decide) (by decide), xlo 356 (by decide) (by decide)⟩ (fun k hk _ _ => flo k hk) (fun k hk => eA k (by omega)), rxSteps_of h4 g1.c ⟨xlo 481 (by decide) (by decide), xlo 480 (by decide) (by decide)⟩ (fun k hk _ => flo k hk) (eA 6 (by omega)) (fun j _ k hk => core_of (eA 6 (by omega)) (fun k hk => eA k (by omega)) j hk), rxTalk_of h5 b7 b8 ⟨xlo 544 (by decide) (by decide), xlo 546 (by decide) (by decide)⟩ (fun k hk _ => flo k hk) (fun k hk => eA k (by omega)), ⟨by rw [X38, uN_s], by rw [xlo 39 (by decide) (by decide), eA 5 (by decide)]; exact h6.2⟩⟩, by rw [kIX, kFX]; exact g4, Y0, by rw [Yo 1 (by decide), qy.2.1 1 (by decide) (by decide)]; exact g6, by rw [uN_s]; omega, ⟨fun i hi => ?_, fun i hi => ?_, fun i c hc => ?_⟩, ⟨0, (by decide), X1313, Y4, fun i hi => absurd hi (Nat.not_lt_zero i)⟩, Or.inr ⟨?_, ?_, ?_⟩⟩
    · rw [uN_s] at hi
      by_cases z : i = A 4
      · subst z
        refine ⟨a, t, by rw [G20, va_up_s], ?_, ?_⟩
        · rw [GL, ← ta]; exact recOf_n
        · have := textRel_new (a := a) to sy hv
          rw [← Yo 2 (by decide)] at this; exact this
      · exact old _ _ 20 i (by omega) y2 rec' (by rw [G20, va_up_n _ _ _ z]) (x1 i (by omega))
    · exact old _ _ 40 i (by omega) y2 rec' (by rw [Go 40 (by decide)]) (x2 i hi)
    · have back : ∀ c, (x.2.2.1 20 i = some c ∨ x.2.2.1 40 i = some c) → ∃ t, recOf X.2.2.2 c t := fun c hc => by
        obtain ⟨t', q1⟩ := x3 i c hc
        exact ⟨t', rec' c t' q1⟩
      rw [G20, Go 40 (by decide)] at hc
      by_cases z : i = A 4
      · rcases hc with hc | hc
        · rw [z, va_up_s] at hc
          have : a = c := Option.some.inj hc
          exact ⟨t, by rw [GL, ← this, ← ta]; exact recOf_n⟩
        · exact back c (Or.inr hc)
      · rw [va_up_n _ _ _ z] at hc
        exact back c hc
    · rw [I _ (by decide) (by decide)]; exact p'.2.1
    · rw [I _ (by decide) (by decide), f1, Y5]
    · rw [I _ (by decide) (by decide), f2, Y6]
end OPT
