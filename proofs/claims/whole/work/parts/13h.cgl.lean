/-! the class's loops -/
section CGL
variable {T : Nat → Nat} {m l : Nat}
def res (T : Nat → Nat) (m l : Nat) (S : XS) (o s : Nat) (S' : XS) : PR → Prop
  | .inl (f, q') => (1 ≤ f ∧ f ≤ 5) ∧ FX (nI f) (nI q') S S'
  | .inr (q', e) => OKs T m l S S' q' o s e
def CGd (T : Nat → Nat) (m l d : Nat) : Prop := ∀ (k : Nat) (Post : XS → Prop) (S : XS) (q o s : Nat), k ≤ 6 → cst S T m l q o s → 8 * (9 - o) + hK k ≤ d → (∀ S', res T m l S o s S' (PF T m l d k q o) → Post S') → VG d k Post S
theorem FX.up {f p : Int32} {S0 S S' : XS} (h : FX f p S S') (c : CF S0 S) : FX f p S0 S' := ⟨c.trans h.1, h.2⟩
theorem FX.opn {f p : Int32} {S0 S : XS} (h : FX f p S0 S) (v : Int32) : FX f p S0 (xI S 1384 v) := by
  obtain ⟨h1, h2, h3, h4, s, h5, h6⟩ := h
  exact ⟨h1.I _ _ (by omega), by rw [xI_n _ _ (by decide), h2], by rw [xI_n _ _ (by decide), h3], by rw [xI_n _ _ (by decide), h4], s, h5, by rw [xI_n _ _ (by decide), h6]⟩
theorem nI_n0 {f : Nat} (h : 1 ≤ f ∧ f ≤ 5) : nI f ≠ 0 := fun z => by
  rw [show (0 : Int32) = nI 0 from rfl, neq (by omega) (by decide)] at z; omega
theorem OKs.two {S0 U S3 S4 : XS} {q q' o s t : Nat} {a b : EX} (h : OKs T m l S0 U q o s a) (c3 : cst S3 T m l (nx T m q) o (s + (cC s a).length)) (a3 : AFr U S3) (g : OKs T m l S3 S4 q' o (s + (cC s a).length) b) (hb : s + cl a + cl b + 1 ≤ q') : OKs T m l S0 (emS S4 (s + cl a + cl b) (t, 0)) q' o s (eTwo t a b) := by
  have la := h.2
  have lb := g.2
  have g1 := g.1
  have k := (h.1.adv c3 a3).app g1
  rw [la s] at k
  have len : (cC s a ++ cC (s + cl a) b).length = cl a + cl b := by rw [List.length_append, la, lb]
  have k2 := k.emit (w := (t, 0)) (by rw [len]; omega)
  rw [len, ← Nat.add_assoc] at k2
  refine ⟨k2, fun s => ?_⟩
  show (cC s a ++ cC (s + cl a) b ++ [(t, 0)]).length = cl a + cl b + 1
  rw [List.length_append, List.length_append, la, lb]; rfl
theorem c_loop {d k1 c1 c2 : Nat} (ih : CGd T m l d) (hk1 : k1 ≤ 6) {S0 : XS} {o s : Nat} (hd : 8 * (9 - o) + hK k1 ≤ d) (h1 : c1 < 57 ∧ c1 ≠ 16 ∧ c1 ≠ 17) (h2 : c2 < 57 ∧ c2 ≠ 16 ∧ c2 ≠ 17) {H : Nat → XS → Prop} {Post : XS → Prop}
    (HK : ∀ (t : Nat) (U : XS), t ≤ 300 → (300 ≤ t → Post U) → (t < 300 → (U.1 1381 = nI c1 ∨ U.1 1381 = nI c2) → VC_X3_advance_43 (fun S3 => VG d k1 (fun S4 => VC_X3_emit_43 (fun _ S5 => H (t + 1) S5) (U.1 1381) (nI 0) S4) S3) U) → (t < 300 → ¬ U.1 1381 = nI c1 → ¬ U.1 1381 = nI c2 → Post U) → H t U) :
    ∀ (n q : Nat) (e : EX) (U : XS), n ≤ 300 → OKs T m l S0 U q o s e → (∀ S', res T m l S0 o s S' (loopF T m (fun q => PF T m l d k1 q o) c1 c2 n q e) → Post S') → H (300 - n) U := by
  intro n
  induction n with
  | zero =>
    intro q e U hn h hp
    exact HK _ U (by omega) (fun _ => hp U h) (fun z => absurd z (by omega)) (fun z => absurd z (by omega))
  | succ n ihn =>
    intro q e U hn h hp
    obtain ⟨u1, u2, u3, ⟨v1, v2, v3, v4⟩, u5, u6, u7, u8⟩ := h.1.1
    have hT := h.1.1.hT
    have tl := tkC_lt (q := q) hT
    have m3 := u1.2.1
    have tk : ∀ c, c < 57 → (U.1 1381 = nI c ↔ tkC T m q = c) := fun c hc => by rw [v3, neq (by omega) (by omega)]
    unfold loopF at hp
    by_cases z : tkC T m q = c1 ∨ tkC T m q = c2
    · rw [if_pos z] at hp
      refine HK _ U (by omega) (fun y => absurd y (by omega)) (fun _ _ => ?_) (fun _ n1 n2 => ?_)
      · refine c_advs h.1.1 (fun S3 c3 a3 => ih k1 _ S3 (nx T m q) o _ hk1 c3 hd (fun S4 r4 => ?_))
        have gr := PF_gr (T := T) (m := m) (l := l) d k1 (nx T m q) o c3.2.1
        have lt := nx_lt (T := T) u2 (by omega)
        cases hh : PF T m l d k1 (nx T m q) o with
        | inl v =>
          obtain ⟨f, q'⟩ := v
          rw [hh] at r4 hp
          obtain ⟨r1, r2⟩ := r4
          have fx := r2.up (h.1.2.1.trans a3.cf)
          refine f_emit fx (fun r S5 f5 => ?_)
          have out : Post S5 := hp S5 ⟨r1, f5⟩
          have n17 : ∀ c, c < 57 ∧ c ≠ 16 ∧ c ≠ 17 → ¬ S5.1 1381 = nI c := fun c hc z => by
            rw [f5.2.2.2.1, show (17 : Int32) = nI 17 from rfl, neq (by decide) (by omega)] at z; omega
          exact HK _ S5 (by omega) (fun _ => out) (fun _ y => absurd y (fun y => y.elim (n17 c1 h1) (n17 c2 h2))) (fun _ _ _ => out)
        | inr v =>
          obtain ⟨q', e'⟩ := v
          rw [hh] at r4 hp gr
          have g1 : nx T m q + cl e' ≤ q' := gr.1
          have g2 : q' ≤ m := gr.2
          have la := h.2 s
          have lb := r4.2 (s + (cC s e).length)
          have hb : s + cl e + cl e' + 1 ≤ q' := by rw [la] at u8; omega
          have two := OKs.two (t := tkC T m q) h c3 a3 r4 hb
          have s7 := r4.1.1.2.2.2.2.2.2.1
          rw [lb, la] at s7
          rw [v3]
          refine c_emit (s := s + cl e + cl e') (by omega) (by decide) s7 (by omega) ?_
          have := ihn q' (eTwo (tkC T m q) e e') (emS S4 (s + cl e + cl e') (tkC T m q, 0)) (by omega) two hp
          rw [show 300 - n = 300 - (n + 1) + 1 by omega] at this
          exact this
      · exact absurd z (fun y => y.elim (fun y => n1 ((tk c1 h1.1).mpr y)) (fun y => n2 ((tk c2 h2.1).mpr y)))
    · rw [if_neg z] at hp
      refine HK _ U (by omega) (fun y => absurd y (by omega)) (fun _ y => ?_) (fun _ _ _ => hp U h)
      exact absurd (y.elim (fun y => Or.inl ((tk c1 h1.1).mp y)) (fun y => Or.inr ((tk c2 h2.1).mp y))) z
theorem c_enter {Post : XS → Prop} {S : XS} {q o s : Nat} (h : cst S T m l q o s) (h1 : o < 8 → ∀ S', OKL T m l S S' (nx T m q) (o + 1) s [] → Post S') (h0 : ¬ o < 8 → ∀ S', FX (nI 3) (nI q) S S' → Post S') : VC_X3_enter_43 Post S := by
  intro v1 e1 S2 e2
  have o5 := h.2.2.2.2.1
  rw [o5.1, nI_1] at e1
  subst e1
  have e3 : S2.1 1384 = nI (o + 1) := by rw [e2, xI_s]
  rw [e3]
  by_cases z : o < 8
  · refine ⟨fun _ => ?_, fun y => absurd (nI_le (b := 8) (by omega) (by decide)) y⟩
    have k := (OKL.nil h).opn (o + 1) (by omega)
    rw [← e2] at k
    exact c_advs k.1 (fun S3 c3 a3 => h1 z S3 (k.adv c3 a3))
  · refine ⟨fun y => absurd y (nI_ge (b := o + 1) (a := 8) (by omega) (by omega)), fun _ => ?_⟩
    refine c_fail (f := 3) (s := s) ?_ ?_ ?_ ?_ ?_ (h0 z)
    · rw [e2]; exact (CF.refl S).I _ _ (by omega)
    · rw [e2, xI_n _ _ (by decide)]; exact h.2.2.2.1.2.1
    · rw [e2, xI_n _ _ (by decide)]; exact h.2.2.1
    · rw [e2, xI_n _ _ (by decide)]; exact h.2.2.2.2.2.2.1
    · have := h.2.2.2.2.2.2.2; have := h.2.1; have := h.1.2.1; omega
theorem c_expect {Post : XS → Prop} {S0 S : XS} {q o s a : Nat} {L : List (Nat × Nat)} (ha : a < 57) (h : OKL T m l S0 S q o s L) (h1 : tkC T m q = a → ∀ S', OKL T m l S0 S' (nx T m q) o s L → Post S') (h0 : ¬ tkC T m q = a → ∀ S', FX (nI 1) (nI q) S0 S' → Post S') : VC_X3_expect_43 Post (nI a) S := by
  have tl := tkC_lt (q := q) h.1.hT
  have v3 := h.1.2.2.2.1.2.2.1
  unfold VC_X3_expect_43
  rw [v3, neq (by omega) (by omega)]
  exact ⟨fun z => c_fails (f := 1) h.2.1 h.1 (h0 z), fun z => c_advs h.1 (fun S' c' a' => h1 z S' (h.adv c' a'))⟩
end CGL
