/-! what the descent makes is worked alike by both -/
def gdN (l : Nat) (e : EX) (nd : Nat) : Prop := ∃ p : (Nat → Nat) → Int, (∀ v, nice l v → b6 (p v)) ∧ cEx l e nd p ∧ rN l e p
def gdB (l : Nat) (e : EX) (nd : Nat) : Prop := ∃ p : (Nat → Nat) → Int, (∀ v, nice l v → p v = 0 ∨ p v = 1) ∧ cEx l e nd p ∧ rB l e p
def ndK (k o : Nat) : Nat := 5 * (8 - o) + ([3, 2, 1, 1, 6, 5, 4] : List Nat).getD k 0
def gdR (l k o : Nat) : PR → Prop
  | .inl _ => True
  | .inr (_, e) => (k ≤ 3 → gdN l e (ndK k o)) ∧ (4 ≤ k → gdB l e (ndK k o))
section GOOD
variable {l : Nat}
theorem gdN.up {e : EX} {n n' : Nat} (h : gdN l e n) (hn : n ≤ n') : gdN l e n' := by
  obtain ⟨p, h1, h2, h3⟩ := h
  exact ⟨p, h1, h2.up hn, h3⟩
theorem gdB.up {e : EX} {n n' : Nat} (h : gdB l e n) (hn : n ≤ n') : gdB l e n' := by
  obtain ⟨p, h1, h2, h3⟩ := h
  exact ⟨p, h1, h2.up hn, h3⟩
theorem gd_num {n : Nat} (hn : n ≤ 9999) : gdN l (eNum n) 1 := ⟨_, fun v _ => ⟨(by omega), (by omega)⟩, cE_num hn, rE_num hn⟩
theorem gd_nam {i : Nat} (hi : alN l i = true) : gdN l (eNam i) 1 := ⟨_, fun v hv => by have := hv i hi; exact ⟨(by omega), (by omega)⟩, cE_nam hi, rE_nam hi⟩
theorem gd_neg {e : EX} {n : Nat} (h : gdN l e n) (hn : 1 ≤ n) : gdN l (eNeg e) n := by
  obtain ⟨p, h1, h2, h3⟩ := h
  exact ⟨_, fun v hv => by have := h1 v hv; exact ⟨by have := this.2; omega, by have := this.1; omega⟩, cE_neg h2 hn h1, rE_neg h3 h1⟩
theorem gd_inv {e : EX} {n : Nat} (h : gdB l e n) (hn : 1 ≤ n) : gdB l (eInv e) n := by
  obtain ⟨p, h1, h2, h3⟩ := h
  exact ⟨_, fun v hv => by have := h1 v hv; show 1 - p v = 0 ∨ 1 - p v = 1; omega, cE_inv h2 hn h1, rE_inv h3 h1⟩
theorem gd_two {a b : EX} {t na nb n : Nat} (ht : t = 4 ∨ t = 5 ∨ t = 6 ∨ t = 7) (ha : gdN l a na) (hb : gdN l b nb) (n1 : na ≤ n) (n2 : nb + 1 ≤ n) (n3 : 1 ≤ nb) : gdN l (eTwo t a b) n := by
  obtain ⟨p, h1, h2, h3⟩ := ha
  obtain ⟨q, g1, g2, g3⟩ := hb
  exact ⟨_, fun v hv => clI_6, cE_two (by unfold tOK; omega) h2 g2 n1 n2 n3 h1 g1 (fun w => absurd w (by omega)), rE_two ht h3 g3 h1 g1⟩
theorem gd_cmp {a b : EX} {t na nb n : Nat} (ht : isCmp t = true) (ha : gdN l a na) (hb : gdN l b nb) (n1 : na ≤ n) (n2 : nb + 1 ≤ n) (n3 : 1 ≤ nb) : gdB l (eTwo t a b) n := by
  obtain ⟨p, h1, h2, h3⟩ := ha
  obtain ⟨q, g1, g2, g3⟩ := hb
  have ht' := of_decide_eq_true ht
  refine ⟨_, fun v hv => ?_, cE_two (by unfold tOK; omega) h2 g2 n1 n2 n3 h1 g1 (fun w => absurd w (by omega)), rE_cmp ht h3 g3⟩
  have := cmp_01 (x := p v) (y := q v) ht
  show cl6 (opI t (p v) (q v)) = 0 ∨ cl6 (opI t (p v) (q v)) = 1
  rw [cl6_id (by unfold b6; omega)]; exact this
theorem b01 {z : Int} (h : z = 0 ∨ z = 1) : b6 z := by unfold b6; omega
theorem gd_ao {a b : EX} {t na nb n : Nat} (ht : t = 43 ∨ t = 44) (ha : gdB l a na) (hb : gdB l b nb) (n1 : na ≤ n) (n2 : nb + 1 ≤ n) (n3 : 1 ≤ nb) : gdB l (eTwo t a b) n := by
  obtain ⟨p, h1, h2, h3⟩ := ha
  obtain ⟨q, g1, g2, g3⟩ := hb
  refine ⟨_, fun v hv => ?_, cE_two (by unfold tOK; omega) h2 g2 n1 n2 n3 (fun v hv => b01 (h1 v hv)) (fun v hv => b01 (g1 v hv)) (fun _ v hv => ⟨h1 v hv, g1 v hv⟩), rE_ao ht h3 g3 h1 g1⟩
  have := h1 v hv
  have := g1 v hv
  have o01 : opI t (p v) (q v) = 0 ∨ opI t (p v) (q v) = 1 := by
    rcases ht with e | e <;> subst e
    · rw [opI_43]; split <;> omega
    · rw [opI_44]; split <;> omega
  show cl6 (opI t (p v) (q v)) = 0 ∨ cl6 (opI t (p v) (q v)) = 1
  rw [cl6_id (b01 o01)]; exact o01
theorem gd_cond {c a b : EX} {nc na nb n : Nat} (hc : gdB l c nc) (ha : gdN l a na) (hb : gdN l b nb) (n1 : nc ≤ n) (n2 : na ≤ n) (n3 : nb ≤ n) (n0 : 1 ≤ n) : gdN l (eCond c a b) n := by
  obtain ⟨p, h1, h2, h3⟩ := hc
  obtain ⟨q, g1, g2, g3⟩ := ha
  obtain ⟨r, k1, k2, k3⟩ := hb
  refine ⟨_, fun v hv => ?_, cE_cond h2 g2 k2 n1 n2 n3 n0, rE_cond h3 g3 k3 h1⟩
  show b6 (if p v = 0 then r v else q v)
  split
  · exact k1 v hv
  · exact g1 v hv
variable {T : Nat → Nat} {m : Nat}
theorem loop_gd {g : Nat → PR} {k k1 o c1 c2 : Nat} (hg : ∀ q, gdR l k1 o (g q)) (h2 : ∀ t e e' : _, t = c1 ∨ t = c2 → ((k ≤ 3 → gdN l e (ndK k o)) ∧ (4 ≤ k → gdB l e (ndK k o))) → ((k1 ≤ 3 → gdN l e' (ndK k1 o)) ∧ (4 ≤ k1 → gdB l e' (ndK k1 o))) → ((k ≤ 3 → gdN l (eTwo t e e') (ndK k o)) ∧ (4 ≤ k → gdB l (eTwo t e e') (ndK k o)))) : ∀ (n q : Nat) (e : EX), ((k ≤ 3 → gdN l e (ndK k o)) ∧ (4 ≤ k → gdB l e (ndK k o))) → gdR l k o (loopF T m g c1 c2 n q e)
  | 0, q, e, h => h
  | n + 1, q, e, h => by
    unfold loopF
    by_cases z : tkC T m q = c1 ∨ tkC T m q = c2
    · rw [if_pos z]
      have a := hg (nx T m q)
      cases hh : g (nx T m q) with
      | inl v => trivial
      | inr v =>
        obtain ⟨q', e'⟩ := v
        rw [hh] at a
        exact loop_gd hg h2 n q' (eTwo (tkC T m q) e e') (h2 _ _ _ z h a)
    · rw [if_neg z]; exact h
theorem nm_al {i : Nat} (hl : l < 4) (h : nmB l i = true) : alN l i = true := by
  have cs : l = 0 ∨ l = 1 ∨ l = 2 ∨ l = 3 := (by omega)
  rcases cs with e | e | e | e <;> subst e <;> exact h
theorem PF_gd (hl : l < 4) : ∀ (d k q o : Nat), k ≤ 6 → o ≤ 8 → gdR l k o (PF T m l d k q o)
  | 0, k, q, o, _, _ => trivial
  | d + 1, k, q, o, hk, ho => by
    have ih := PF_gd hl d
    have N0 : ∀ o, ndK 0 o = 5 * (8 - o) + 3 := fun _ => rfl
    have N1 : ∀ o, ndK 1 o = 5 * (8 - o) + 2 := fun _ => rfl
    have N2 : ∀ o, ndK 2 o = 5 * (8 - o) + 1 := fun _ => rfl
    have N3 : ∀ o, ndK 3 o = 5 * (8 - o) + 1 := fun _ => rfl
    have N4 : ∀ o, ndK 4 o = 5 * (8 - o) + 6 := fun _ => rfl
    have N5 : ∀ o, ndK 5 o = 5 * (8 - o) + 5 := fun _ => rfl
    have N6 : ∀ o, ndK 6 o = 5 * (8 - o) + 4 := fun _ => rfl
    have cs : k = 0 ∨ k = 1 ∨ k = 2 ∨ k = 3 ∨ k = 4 ∨ k = 5 ∨ k = 6 := (by omega)
    rcases cs with e | e | e | e | e | e | e <;> subst e
    · rw [PF_0]
      have a := ih 1 q o (by decide) ho
      cases hh : PF T m l d 1 q o with
      | inl v => trivial
      | inr v =>
        obtain ⟨q', e⟩ := v
        rw [hh] at a
        rw [bnd_r]
        refine loop_gd (k := 0) (k1 := 1) (fun q => ih 1 q o (by decide) ho) (fun t e e' ht h h' => ⟨fun _ => gd_two (by omega) (h.1 (by decide)) (h'.1 (by decide)) (Nat.le_refl _) ?_ ?_, fun w => absurd w (by decide)⟩) 300 q' e ⟨fun _ => (a.1 (by decide)).up ?_, fun w => absurd w (by decide)⟩
        · rw [N0, N1]; omega
        · rw [N1]; omega
        · rw [N0, N1]; omega
    · rw [PF_1]
      have a := ih 2 q o (by decide) ho
      cases hh : PF T m l d 2 q o with
      | inl v => trivial
      | inr v =>
        obtain ⟨q', e⟩ := v
        rw [hh] at a
        rw [bnd_r]
        refine loop_gd (k := 1) (k1 := 2) (fun q => ih 2 q o (by decide) ho) (fun t e e' ht h h' => ⟨fun _ => gd_two (by omega) (h.1 (by decide)) (h'.1 (by decide)) (Nat.le_refl _) ?_ ?_, fun w => absurd w (by decide)⟩) 300 q' e ⟨fun _ => (a.1 (by decide)).up ?_, fun w => absurd w (by decide)⟩
        · rw [N1, N2]; omega
        · rw [N2]; omega
        · rw [N1, N2]; omega
    · rw [PF_2]
      split
      · split
        · have a := ih 2 (nx T m q) (o + 1) (by decide) (by omega)
          cases hh : PF T m l d 2 (nx T m q) (o + 1) with
          | inl v => trivial
          | inr v =>
            obtain ⟨q', e⟩ := v
            rw [hh] at a
            exact ⟨fun _ => (gd_neg (a.1 (by decide)) (by rw [N2]; omega)).up (by rw [N2, N2]; omega), fun w => absurd w (by decide)⟩
        · trivial
      · split
        · split
          · have a := ih 0 (nx T m q) (o + 1) (by decide) (by omega)
            cases hh : PF T m l d 0 (nx T m q) (o + 1) with
            | inl v => trivial
            | inr v =>
              obtain ⟨q', e⟩ := v
              rw [hh] at a
              rw [bnd_r]
              by_cases z : tkC T m q' = 9
              · rw [due_p z]
                exact ⟨fun _ => (a.1 (by decide)).up (by rw [N0, N2]; omega), fun w => absurd w (by decide)⟩
              · rw [due_n z]; trivial
          · trivial
        · split
          · split
            · rename_i z
              exact ⟨fun _ => (gd_num z).up (by rw [N2]; omega), fun w => absurd w (by decide)⟩
            · trivial
          · split
            · have a := ih 3 q o (by decide) ho
              cases hh : PF T m l d 3 q o with
              | inl v => trivial
              | inr v =>
                obtain ⟨q', e⟩ := v
                rw [hh] at a
                exact ⟨fun _ => (a.1 (by decide)).up (by rw [N2, N3]; omega), fun w => absurd w (by decide)⟩
            · split
              · split
                · rename_i z
                  exact ⟨fun _ => (gd_nam (nm_al hl z)).up (by rw [N2]; omega), fun w => absurd w (by decide)⟩
                · trivial
              · trivial
    · rw [PF_3]
      split
      · have a := ih 4 (nx T m q) (o + 1) (by decide) (by omega)
        cases hh : PF T m l d 4 (nx T m q) (o + 1) with
        | inl v => trivial
        | inr v =>
        obtain ⟨q1, c⟩ := v
        rw [hh] at a
        rw [bnd_r]
        by_cases z1 : tkC T m q1 = 11
        · rw [due_p z1]
          have a2 := ih 0 (nx T m q1) (o + 1) (by decide) (by omega)
          cases h2 : PF T m l d 0 (nx T m q1) (o + 1) with
          | inl v => trivial
          | inr v =>
          obtain ⟨q2, e2⟩ := v
          rw [h2] at a2
          rw [bnd_r]
          by_cases z2 : tkC T m q2 = 12
          · rw [due_p z2]
            have a3 := ih 0 (nx T m q2) (o + 1) (by decide) (by omega)
            cases h3 : PF T m l d 0 (nx T m q2) (o + 1) with
            | inl v => trivial
            | inr v =>
            obtain ⟨q3, e3⟩ := v
            rw [h3] at a3
            rw [bnd_r]
            by_cases z3 : tkC T m q3 = 42
            · rw [due_p z3]
              exact ⟨fun _ => gd_cond (a.2 (by decide)) (a2.1 (by decide)) (a3.1 (by decide)) (by rw [N4, N3]; omega) (by rw [N0, N3]; omega) (by rw [N0, N3]; omega) (by rw [N3]; omega), fun w => absurd w (by decide)⟩
            · rw [due_n z3]; trivial
          · rw [due_n z2]; trivial
        · rw [due_n z1]; trivial
      · trivial
    · rw [PF_4]
      have a := ih 5 q o (by decide) ho
      cases hh : PF T m l d 5 q o with
      | inl v => trivial
      | inr v =>
        obtain ⟨q', e⟩ := v
        rw [hh] at a
        rw [bnd_r]
        refine loop_gd (k := 4) (k1 := 5) (fun q => ih 5 q o (by decide) ho) (fun t e e' ht h h' => ⟨fun w => absurd w (by decide), fun _ => gd_ao (by omega) (h.2 (by decide)) (h'.2 (by decide)) (Nat.le_refl _) ?_ ?_⟩) 300 q' e ⟨fun w => absurd w (by decide), fun _ => (a.2 (by decide)).up ?_⟩
        · rw [N4, N5]; omega
        · rw [N5]; omega
        · rw [N4, N5]; omega
    · rw [PF_5]
      have a := ih 6 q o (by decide) ho
      cases hh : PF T m l d 6 q o with
      | inl v => trivial
      | inr v =>
        obtain ⟨q', e⟩ := v
        rw [hh] at a
        rw [bnd_r]
        refine loop_gd (k := 5) (k1 := 6) (fun q => ih 6 q o (by decide) ho) (fun t e e' ht h h' => ⟨fun w => absurd w (by decide), fun _ => gd_ao (by omega) (h.2 (by decide)) (h'.2 (by decide)) (Nat.le_refl _) ?_ ?_⟩) 300 q' e ⟨fun w => absurd w (by decide), fun _ => (a.2 (by decide)).up ?_⟩
        · rw [N5, N6]; omega
        · rw [N6]; omega
        · rw [N5, N6]; omega
    · rw [PF_6]
      split
      · split
        · have a := ih 6 (nx T m q) (o + 1) (by decide) (by omega)
          cases hh : PF T m l d 6 (nx T m q) (o + 1) with
          | inl v => trivial
          | inr v =>
            obtain ⟨q', e⟩ := v
            rw [hh] at a
            exact ⟨fun w => absurd w (by decide), fun _ => (gd_inv (a.2 (by decide)) (by rw [N6]; omega)).up (by rw [N6, N6]; omega)⟩
        · trivial
      · have a := ih 0 q o (by decide) ho
        cases hh : PF T m l d 0 q o with
        | inl v => trivial
        | inr v =>
        obtain ⟨q1, e1⟩ := v
        rw [hh] at a
        rw [bnd_r]
        split
        · rename_i z
          have a2 := ih 0 (nx T m q1) o (by decide) ho
          cases h2 : PF T m l d 0 (nx T m q1) o with
          | inl v => trivial
          | inr v =>
            obtain ⟨q2, e2⟩ := v
            rw [h2] at a2
            exact ⟨fun w => absurd w (by decide), fun _ => gd_cmp z (a.1 (by decide)) (a2.1 (by decide)) (by rw [N0, N6]; omega) (by rw [N0, N6]; omega) (by rw [N0]; omega)⟩
        · trivial
/-! a law -/
theorem law_gd {e : EX} {nd : Nat} (hl : l < 4) (h : gdN l e nd) (hn : nd ≤ 64) : ∃ p : (Nat → Nat) → Nat, (∀ v, p v ≤ topL l) ∧
    (∀ (t : TR) (a s : Nat), t.2.1.1 ≤ 300 → s + cl e ≤ t.2.1.1 → t.2.2.1 l = nI s → t.2.2.2.1 l = nI (s + cl e) → hasC t.2.1.2 s (cC s e) → cLaw t a l p) ∧
    (∀ (g : Nat → Int32) (c w : Nat), c < 24 → g (2 + 3 * c) = nI w → g (3 + 3 * c) = nI (w + (rC e).length) → w + (rC e).length ≤ 300 → hasW g 75 w (rC e) → rLaw g c l p) := by
  obtain ⟨p, h1, h2, h3⟩ := h
  have tl : topL l ≤ 99 := by unfold topL; split <;> (try split) <;> omega
  refine ⟨fun v => (clI 0 (topL l) (p v)).toNat, fun v => ?_, fun t a s t3 ts f0 f1 hc => ?_, fun g c w c24 g2 g3 w3 hw => ?_⟩
  · show (clI 0 (topL l) (p v)).toNat ≤ topL l
    unfold clI
    split
    · omega
    · split <;> omega
  · intro Post x v ht nm k K hK S1 e1
    have f0' : WF x S1 := by rw [e1]; exact tpS_W _ _
    have ht1 := f0'.tx ht
    have s31 : ¬ nI s < 0 := nI_pos (by omega)
    have has : ∀ {Q : Int32 → XS → Prop}, Q 1 S1 → VC_X9_hasLaw_x Q a (nI l) S1 := fun hQ => ⟨fun z => absurd z (nI_pos (by omega)), fun _ => ⟨t, ht1, fun z => absurd z (nI_ge (b := 4) hl (by decide)), fun _ => ⟨t, ht1, vp_in_nI hl (by decide), by rw [ncl (by omega), f0]; exact ⟨fun z => absurd z s31, fun _ => hQ⟩⟩⟩⟩
    refine ⟨t, ht1, t, ht1, has ⟨fun z => absurd z (by decide), fun _ => ⟨t, ht1, fun z => absurd z (nI_ge (b := 4) hl (by decide)), fun _ => ⟨t, ht1, vp_in_nI hl (by decide), t, ht1, ?_⟩⟩⟩⟩
    have eB : (if (Int32.ofNat t.2.1.1) < (t.2.2.2.1 (nI l).toNatClampNeg) then (Int32.ofNat t.2.1.1) else (t.2.2.2.1 (nI l).toNatClampNeg)) = nI (s + cl e) := by
      rw [ncl (by omega), f1]
      exact if_neg (nI_nlt (a := t.2.1.1) ts (by omega))
    rw [eB]
    refine ⟨t, ht1, t, ht1, has ⟨fun z => absurd z (by decide), fun _ => ⟨t, ht1, vp_in_nI hl (by decide), ?_⟩⟩⟩
    rw [ncl (by omega), f0]
    refine h2.2 _ K hK a t (nI l) s (s + cl e) 0 S1 v hc (Nat.le_refl _) ts t3 ht1 (f0'.nm nm) (by rw [e1, xI_s]; rfl) (by omega) (fun S2 f2 t2 r2 _ => hK _ _ ?_)
    dsimp only [B_X2_work_48]
    refine ⟨fun _ => c_take t2 (by decide) ?_, fun z => absurd (nI_le (Nat.le_refl _) (by omega)) z⟩
    refine c_clampI (L := 0) (H := topL l) (by decide) (ntoInt (by omega)) (by decide) (by omega) (by omega) (fun r er => ?_)
    rw [Int32.toInt_toInt64, r2] at er
    have : r = nI (clI 0 (topL l) (p v)).toNat := Int32.toInt_inj.mp (by
      rw [er]
      have b : 0 ≤ clI 0 (topL l) (p v) ∧ clI 0 (topL l) (p v) ≤ 99 := by
        unfold clI
        split
        · omega
        · split <;> omega
      rw [ntoInt (by omega)]; omega)
    rw [this]
    exact k _ ((f0'.trans (f2.trans (tpS_W _ _))).J)
  · intro Post y v A i i4 hg hA a5 nm k K hK
    have i5 : vp_in (5 : Int32) 3890 := litIn 5 (by decide) (by decide)
    have e5 : y.2.2.1 0 (5 : Int32).toNatClampNeg = nI i := by rw [hA, litC 5 (by decide), enc_5, a5, nI_pred]
    refine ⟨i5, fun v1 e1 => ⟨i5, fun v2 e2 => ?_⟩⟩
    rw [e5] at e1 e2
    have d1 : v1 = nI (680 * i + 1 + 3 * c) := by rw [e1, L680, L3, L1, nmul, nmul, nadd, nadd]
    have d2 : v2 = nI (680 * i + 75) := by rw [e2, L680, L75, nmul, nadd]
    have eX : v1 + 1 = nI (680 * i + (2 + 3 * c)) := by rw [d1, nI_1, show 680 * i + 1 + 3 * c + 1 = 680 * i + (2 + 3 * c) by omega]
    rw [eX, ncl (by omega)]
    refine ⟨vp_in_nI (by omega) (by decide), fun v3 e3 => ?_⟩
    rw [hg _ (by omega), g2] at e3
    rw [e3, d1, d2]
    have w0 : wst l (680 * i + 1 + 3 * c) (680 * i + 75) (w + (rC e).length) v y := ⟨(by omega), (by omega), w3, by rw [show 680 * i + 1 + 3 * c + 2 = 680 * i + (3 + 3 * c) by omega, hg _ (by omega), g3], nm⟩
    have hw' : hasW (y.2.2.1 2) (680 * i + 75) w (rC e) := fun j hj => by
      have := hw j hj
      rw [show 680 * i + 75 + 2 * (w + j) + 1 = 680 * i + (75 + 2 * (w + j) + 1) by omega, show 680 * i + 75 + 2 * (w + j) = 680 * i + (75 + 2 * (w + j)) by omega, hg _ (by omega), hg _ (by omega)]
      exact this
    refine h3.2 _ K hK (nI c) _ _ _ w 0 0 v y w0 hw' (Nat.le_refl _) (by omega) (by omega) (fun y1 f1 r1 _ _ => hK _ _ ?_)
    dsimp only [B_work]
    obtain ⟨X2, B2, E3, hE, _⟩ := f1.w w0
    rw [show nI (680 * i + 1 + 3 * c) + 2 = nI (680 * i + 1 + 3 * c + 2) by rw [L2, nadd], ncl (show 680 * i + 1 + 3 * c + 2 < 2147483648 by omega), hE]
    refine ⟨vp_in_nI (by omega) (by decide), fun _ => ⟨litIn 0 (by decide) (by decide), r_held (by omega) ?_⟩, fun z => absurd (nI_le (Nat.le_refl _) (by omega)) z⟩
    rw [litC 0 (by decide), r1]
    exact k _ f1.K
end GOOD
