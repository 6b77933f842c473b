/-! ask, and the class's descent whole -/
section CGA
variable {T : Nat → Nat} {m l : Nat}
theorem PF_6 {d q o : Nat} : PF T m l (d + 1) 6 q o =
      if tkC T m q = 45 then (if o < 8 then bnd (PF T m l d 6 (nx T m q) (o + 1)) (fun q e => .inr (q, (eInv e))) else .inl (3, q))
      else bnd (PF T m l d 0 q o) (fun q a => if isCmp (tkC T m q) = true then bnd (PF T m l d 0 (nx T m q) o) (fun q' b => .inr (q', (eTwo (tkC T m q) a b))) else .inl (1, q)) := rfl
theorem c_ask {d : Nat} (ih : CGd T m l d) {Post : XS → Prop} {S : XS} {q o s : Nat} (h : cst S T m l q o s) (hd : 8 * (9 - o) + 4 ≤ d + 1) (hp : ∀ S', res T m l S o s S' (PF T m l (d + 1) 6 q o) → Post S') : VC_X3_parseAsk_43 (VG d) Post S := by
  have o8 := h.2.2.2.2.1.2
  have tl := tkC_lt (q := q) h.hT
  have v3 := h.2.2.2.1.2.2.1
  have K0 : hK 0 = 3 := rfl
  have K6 : hK 6 = 4 := rfl
  rw [PF_6] at hp
  intro K hK'
  rw [v3, show (45 : Int32) = nI 45 from rfl, neq (by omega) (by decide)]
  refine ⟨fun z => ?_, fun z => ?_⟩
  · rw [if_neg z] at hp
    refine ih 0 _ S q o s (by decide) h (by omega) (fun S1 r1 v2 e2 => ?_)
    cases hh : PF T m l d 0 q o with
    | inl v =>
      obtain ⟨f, q'⟩ := v
      rw [hh] at r1 hp
      have f1 := r1.2
      rw [f1.2.2.2.1] at e2
      subst e2
      exact wIn (fun _ => ⟨fun z => absurd rfl z, fun _ => ⟨fun z => absurd z (by decide), fun _ => ⟨fun _ => f_fail (nI_n0 r1.1) f1 (fun S' f' => hp S' ⟨r1.1, f'⟩), fun z => absurd z (by decide)⟩⟩⟩) (fun _ z => absurd (by decide) z)
    | inr v =>
    obtain ⟨q1, a⟩ := v
    rw [hh, bnd_r] at hp
    rw [hh] at r1
    obtain ⟨u1, u2, u3, ⟨w1, w2, w3, w4⟩, u5, u6, u7, u8⟩ := r1.1.1
    have tl1 := tkC_lt (q := q1) r1.1.1.hT
    have m3 := u1.2.1
    rw [w3] at e2
    subst e2
    have go : isCmp (tkC T m q1) = true → K (nI (tkC T m q1)) S1 := fun c => by
      rw [if_pos c] at hp
      have c2 := of_decide_eq_true c
      have lt := nx_lt (T := T) u2 (by omega)
      refine hK' _ _ ?_
      refine c_advs r1.1.1 (fun S3 c3 a3 => ih 0 _ S3 (nx T m q1) o _ (by decide) c3 (by omega) (fun S4 r4 => ?_))
      have gr := PF_gr (T := T) (m := m) (l := l) d 0 (nx T m q1) o c3.2.1
      cases h4 : PF T m l d 0 (nx T m q1) o with
      | inl v =>
        obtain ⟨f, q'⟩ := v
        rw [h4] at r4 hp
        exact f_emit (r4.2.up (r1.1.2.1.trans a3.cf)) (fun r S5 f5 => hp S5 ⟨r4.1, f5⟩)
      | inr v =>
        obtain ⟨q', e'⟩ := v
        rw [h4] at r4 hp gr
        have g1 : nx T m q1 + cl e' ≤ q' := gr.1
        have g2 : q' ≤ m := gr.2
        have la := r1.2 s
        have lb := r4.2 (s + (cC s a).length)
        have hb : s + cl a + cl e' + 1 ≤ q' := by rw [la] at u8; omega
        have two := OKs.two (t := tkC T m q1) r1 c3 a3 r4 hb
        have s7 := r4.1.1.2.2.2.2.2.2.1
        rw [lb, la] at s7
        exact c_emit (s := s + cl a + cl e') (by omega) (by decide) s7 (by omega) (hp _ two)
    have tk : ∀ c, c < 57 → ((nI (tkC T m q1) = nI c) = (tkC T m q1 = c)) := fun c hc => by rw [neq (by omega) (by omega)]
    refine wIn (fun y => ⟨fun z => absurd rfl z, fun _ => ?_⟩) (fun _ y => ⟨fun _ => go ?_, fun z => absurd z (by decide)⟩)
    · have n3 : ¬ tkC T m q1 ≤ 3 := fun w => y.elim (nI_pos (by omega)) (nI_nlt (a := 3) w (by decide))
      rw [show (13 : Int32) = nI 13 from rfl, show (14 : Int32) = nI 14 from rfl, tk 13 (by decide), tk 14 (by decide)]
      refine ⟨fun w => go (decide_eq_true (by omega)), fun w13 => ⟨fun w14 => ?_, fun w => go (decide_eq_true (by omega))⟩⟩
      rw [if_neg (fun c => by have := of_decide_eq_true c; omega)] at hp
      exact c_fails (f := 1) r1.1.2.1 r1.1.1 (fun S' f' => hp S' ⟨(by decide), f'⟩)
    · refine decide_eq_true (Or.inl ?_)
      rcases Nat.lt_or_ge 3 (tkC T m q1) with w | w
      · exact absurd (nI_lt (a := 3) w (by omega)) y
      · exact w
  · rw [if_pos z] at hp
    exact c_un (w := 45) (mk := eInv) (by decide) (fun _ _ => rfl) (fun _ => rfl) ih (by decide) (by decide) h (by omega) (by omega) hp
theorem emit_all {α : Type} {K : α → XS → Prop} {f : Int32 → α} {n d k1 : Nat} {a b : Int32} {U : XS} (h : VC_X3_advance_43 (fun S3 => VG d k1 (fun S4 => VC_X3_emit_43 (fun _ S5 => K (f (nI n)) S5) a b S4) S3) U) : VC_X3_advance_43 (fun S3 => VG d k1 (fun S4 => VC_X3_emit_43 (fun _ S5 => ∀ v7 : Int32, v7 = nI n → K (f v7) S5) a b S4) S3) U := by
  have e : (fun (_ : Int32) (S5 : XS) => ∀ v7 : Int32, v7 = nI n → K (f v7) S5) = (fun (_ : Int32) (S5 : XS) => K (f (nI n)) S5) := by
    funext _ S5
    exact propext ⟨fun g => g _ rfl, fun g v ev => by rw [ev]; exact g⟩
  rw [e]; exact h
theorem PF_0 {d q o : Nat} : PF T m l (d + 1) 0 q o = bnd (PF T m l d 1 q o) (fun q e => loopF T m (fun q => PF T m l d 1 q o) 4 5 300 q e) := rfl
theorem PF_1 {d q o : Nat} : PF T m l (d + 1) 1 q o = bnd (PF T m l d 2 q o) (fun q e => loopF T m (fun q => PF T m l d 2 q o) 6 7 300 q e) := rfl
theorem PF_4 {d q o : Nat} : PF T m l (d + 1) 4 q o = bnd (PF T m l d 5 q o) (fun q e => loopF T m (fun q => PF T m l d 5 q o) 43 43 300 q e) := rfl
theorem PF_5 {d q o : Nat} : PF T m l (d + 1) 5 q o = bnd (PF T m l d 6 q o) (fun q e => loopF T m (fun q => PF T m l d 6 q o) 44 44 300 q e) := rfl
/-- the head of a loop, and its end behind a fault -/
theorem c_head {d k1 c1 c2 : Nat} (ih : CGd T m l d) (hk1 : k1 ≤ 6) {S : XS} {q o s : Nat} (h : cst S T m l q o s) (hd : 8 * (9 - o) + hK k1 ≤ d) (h1 : c1 < 57 ∧ c1 ≠ 16 ∧ c1 ≠ 17) (h2 : c2 < 57 ∧ c2 ≠ 16 ∧ c2 ≠ 17) {H : Nat → XS → Prop} {Post : XS → Prop}
    (HK : ∀ (t : Nat) (U : XS), t ≤ 300 → (300 ≤ t → Post U) → (t < 300 → (U.1 1381 = nI c1 ∨ U.1 1381 = nI c2) → VC_X3_advance_43 (fun S3 => VG d k1 (fun S4 => VC_X3_emit_43 (fun _ S5 => H (t + 1) S5) (U.1 1381) (nI 0) S4) S3) U) → (t < 300 → ¬ U.1 1381 = nI c1 → ¬ U.1 1381 = nI c2 → Post U) → H t U)
    (hp : ∀ S', res T m l S o s S' (bnd (PF T m l d k1 q o) (fun q e => loopF T m (fun q => PF T m l d k1 q o) c1 c2 300 q e)) → Post S') : VG d k1 (fun S1 => H 0 S1) S := by
  refine ih k1 _ S q o s hk1 h hd (fun S1 r1 => ?_)
  cases hh : PF T m l d k1 q o with
  | inl v =>
    obtain ⟨f, q'⟩ := v
    rw [hh] at r1 hp
    have n17 : ∀ c, c < 57 ∧ c ≠ 16 ∧ c ≠ 17 → ¬ S1.1 1381 = nI c := fun c hc z => by
      rw [r1.2.2.2.2.1, show (17 : Int32) = nI 17 from rfl, neq (by decide) (by omega)] at z; omega
    exact HK 0 S1 (by omega) (fun _ => hp S1 r1) (fun _ y => absurd y (fun y => y.elim (n17 c1 h1) (n17 c2 h2))) (fun _ _ _ => hp S1 r1)
  | inr v =>
    obtain ⟨q1, e⟩ := v
    rw [hh, bnd_r] at hp
    rw [hh] at r1
    exact c_loop ih hk1 hd h1 h2 HK 300 q1 e S1 (Nat.le_refl _) r1 hp
theorem CG : ∀ d, CGd T m l d := by
  intro d
  induction d with
  | zero =>
    intro k Post S q o s hk h hd
    have := h.2.2.2.2.1.2
    omega
  | succ d ih =>
    intro k Post S q o s hk h hd hp
    have o8 := h.2.2.2.2.1.2
    have K0 : hK 0 = 3 := rfl
    have K1 : hK 1 = 2 := rfl
    have K2 : hK 2 = 1 := rfl
    have K3 : hK 3 = 0 := rfl
    have K4 : hK 4 = 6 := rfl
    have K5 : hK 5 = 5 := rfl
    have K6 : hK 6 = 4 := rfl
    have cs : k = 0 ∨ k = 1 ∨ k = 2 ∨ k = 3 ∨ k = 4 ∨ k = 5 ∨ k = 6 := (by omega)
    rcases cs with e | e | e | e | e | e | e <;> subst e
    · show VC_X3_parseSum_43 (VG d) Post S
      intro K hK'
      refine c_head (c1 := 4) (c2 := 5) (H := fun t U => K (.inl (nI t)) U) ih (by decide) h (by omega) (by decide) (by decide) (fun t U ht a b c => hK' _ _ ?_) hp
      dsimp only [B_X3_parseSum_43]
      rw [le300 ht]
      have go : ¬ 300 ≤ t → (U.1 1381 = nI 4 ∨ U.1 1381 = nI 5) → K (.inr (nI t)) U := fun z y => hK' _ _ (fun v2 e2 => by
        subst e2
        rw [nI_1]
        have := b (by omega) y
        exact emit_all (f := fun v => Sum.inl v) this)
      exact ⟨a, fun z => ⟨fun y => go z (Or.inl y), fun y => ⟨fun w => c (by omega) y w, fun w => go z (Or.inr w)⟩⟩⟩
    · show VC_X3_parseProduct_43 (VG d) Post S
      intro K hK'
      refine c_head (c1 := 6) (c2 := 7) (H := fun t U => K (.inl (nI t)) U) ih (by decide) h (by omega) (by decide) (by decide) (fun t U ht a b c => hK' _ _ ?_) hp
      dsimp only [B_X3_parseProduct_43]
      rw [le300 ht]
      have go : ¬ 300 ≤ t → (U.1 1381 = nI 6 ∨ U.1 1381 = nI 7) → K (.inr (nI t)) U := fun z y => hK' _ _ (fun v2 e2 => by
        subst e2
        rw [nI_1]
        have := b (by omega) y
        exact emit_all (f := fun v => Sum.inl v) this)
      exact ⟨a, fun z => ⟨fun y => go z (Or.inl y), fun y => ⟨fun w => c (by omega) y w, fun w => go z (Or.inr w)⟩⟩⟩
    · exact c_one ih h (by omega) hp
    · exact c_choice ih h (by omega) hp
    · show VC_X3_parseEither_43 (VG d) Post S
      intro K hK'
      refine c_head (c1 := 43) (c2 := 43) (H := fun t U => K (nI t) U) ih (by decide) h (by omega) (by decide) (by decide) (fun t U ht a b c => hK' _ _ ?_) hp
      dsimp only [B_X3_parseEither_43]
      rw [le300 ht]
      refine ⟨a, fun z => ⟨fun w => c (by omega) w w, fun w => ?_⟩⟩
      have := b (by omega) (Or.inl w)
      rw [w] at this
      rw [nI_1]
      exact emit_all (f := fun v => v) this
    · show VC_X3_parseBoth_43 (VG d) Post S
      intro K hK'
      refine c_head (c1 := 44) (c2 := 44) (H := fun t U => K (nI t) U) ih (by decide) h (by omega) (by decide) (by decide) (fun t U ht a b c => hK' _ _ ?_) hp
      dsimp only [B_X3_parseBoth_43]
      rw [le300 ht]
      refine ⟨a, fun z => ⟨fun w => c (by omega) w w, fun w => ?_⟩⟩
      have := b (by omega) (Or.inl w)
      rw [w] at this
      rw [nI_1]
      exact emit_all (f := fun v => v) this
    · exact c_ask ih h (by omega) hp
end CGA
