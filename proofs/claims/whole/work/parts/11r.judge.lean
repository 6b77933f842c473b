/-! what the judge is asked: both sides -/
theorem JFr.refl (x : XS) : JFr x x := ⟨fun _ _ => rfl, fun _ _ _ => rfl, rfl⟩
theorem JFr.trans {x y z : XS} (h : JFr x y) (g : JFr y z) : JFr x z := ⟨fun k hk => (g.1 k hk).trans (h.1 k hk), fun k h1 h2 => (g.2.1 k h1 h2).trans (h.2.1 k h1 h2), g.2.2.trans h.2.2⟩
theorem JFr.F {x x' : XS} (h : JFr x x') (k : Nat) (f : Nat → Int32) (hk : k = 49 ∨ k = 50) : JFr x (xF x' k f) := ⟨h.1, fun j h1 h2 => by rw [xF_o _ _ _ _ (by omega), h.2.1 j h1 h2], h.2.2⟩
theorem JFr.X {x x' : XS} (h : JFr x x') : XFr x x' := by
  refine ⟨?_, ?_, h.2.2, h.2.1 _ (by decide) (by decide), h.1 _ (by decide), h.1 _ (by decide), h.1 _ (by decide), h.1 _ (by decide)⟩
  · funext k; unfold kI; split
    · rw [h.1 _ (by omega)]
    · rfl
  · funext k; unfold kF; split
    · rw [h.2.1 _ (by omega) (by omega)]
    · rfl
theorem JFr.N {x x' : XS} (h : JFr x x') : NFr x x' := ⟨fun k hk => h.1 k (by omega), fun k hk => h.2.1 k (by omega) (by omega)⟩
theorem JFr.R {x x' : XS} {A : Nat → Nat} (h : JFr x x') (hI : Inv A) (hx : RX x.1 x.2.1 A) : RX x'.1 x'.2.1 A := RX_frame hI hx h.N
theorem JFr.tx {x x' : XS} {a : Nat} {t : TR} (h : JFr x x') (ht : tx x a t) : tx x' a t := by
  obtain ⟨j, q1, q2⟩ := ht
  exact ⟨j, by rw [h.2.2]; exact q1, q2⟩
theorem KFr.refl (y : MS) : KFr y y := ⟨rfl, fun _ _ _ => rfl⟩
theorem KFr.trans {x y z : MS} (h : KFr x y) (g : KFr y z) : KFr x z := ⟨g.1.trans h.1, fun k h1 h2 => (g.2 k h1 h2).trans (h.2 k h1 h2)⟩
theorem KFr.F {x x' : MS} (h : KFr x x') (k : Nat) (f : Nat → Int32) (hk : k = 22 ∨ k = 24) : KFr x (sF x' k f) := ⟨h.1, fun j h1 h2 => by rw [sF_o _ _ _ _ (by omega), h.2 j h1 h2]⟩
theorem KFr.V {x x' : MS} (h : KFr x x') (f : Nat → Int64) : KFr x (sV x' f) := h
theorem KFr.Y {y y' : MS} (h : KFr y y') : YFr y y' := ⟨h.2 1 (by decide) (by decide), h.2 2 (by decide) (by decide), h.2 3 (by decide) (by decide), by rw [h.1], by rw [h.1], by rw [h.1]⟩
theorem KFr.e {y y' : MS} {A : Nat → Nat} (h : KFr y y') (e : y.2.2.1 0 = enc A) : y'.2.2.1 0 = enc A := (h.2 0 (by decide) (by decide)).trans e
abbrev LAW : Type := Option ((Nat → Nat) → Nat)
def JTc (G : (Nat → Nat → Option Nat) × List TR) (u w : Int32) (l : Nat) (o : LAW) : Prop := ∀ S : XS, S.2.2 = G → S.1 38 = u → S.1 39 = w → (o = none → ∀ Post : Option Nat → XS → Prop, Post none S → VC_X2_lawText_1 Post (nI l) S) ∧ ∀ p, o = some p → ∃ a t, tx S a t ∧ cLaw t a l p ∧ ∀ Post : Option Nat → XS → Prop, Post (some a) S → VC_X2_lawText_1 Post (nI l) S
def JTr (f : Nat → Int32) (a5 l : Nat) (o : LAW) : Prop := ∀ (S : MS) (A v : Nat → Nat) (Post : Int32 → MS → Prop) (w : Int32), S.2.2.1 2 = f → S.2.2.1 0 = enc A → A 5 = a5 → (∀ k, alN l k = true → S.2.2.1 22 k = nI (v k) ∧ v k ≤ 1000) → (o = none → Post w S) → (∀ p, o = some p → ∀ S', KFr S S' → Post (nI (p v)) S') → VC_sumOf Post (nI l) (nI (topL l)) w S
def JL (x : XS) (y : MS) (A : Nat → Nat) (l : Nat) (o : LAW) : Prop := (∀ p, o = some p → ∀ v, p v ≤ topL l) ∧ JTc x.2.2 (x.1 38) (x.1 39) l o ∧ JTr (y.2.2.1 2) (A 5) l o
section JUDGE
variable {A B : Nat → Nat} {x : XS} {y : MS}
theorem c_textAt {Post : Option Nat → XS → Prop} {S : XS} {a0 : Int32} {n : Nat} (e : S.1 38 = nI n) (hn : n ≤ 4) (h1 : ∀ i, i < n → a0 = nI i → Post (S.2.2.1 20 i) S) (h0 : ¬ isOne a0 n → Post none S) : VC_X5_textAt_1 Post a0 S := by
  unfold VC_X5_textAt_1
  rw [e]
  refine ⟨fun z => h0 (fun w => ((isOne_iff (by omega)).mp w).1 z), fun z => ⟨fun z2 => h0 (fun w => ((isOne_iff (by omega)).mp w).2 z2), fun z2 => ?_⟩⟩
  obtain ⟨i, hi, rfl⟩ := (isOne_iff (n := n) (by omega)).mpr ⟨z, z2⟩
  refine ⟨vp_in_nI (by omega) (by decide), ?_⟩
  rw [ncl (by omega)]
  exact h1 i hi rfl
theorem judge_ex (h : RelA TXd A B x y) {l : Nat} (hl : l < 4) : ∃ o : LAW, JL x y A l o := by
  obtain ⟨g1, g2, g3, g4, g5, g6, g7, ⟨x1, x2, x3⟩, g9, g10⟩ := id h
  obtain ⟨b0, b1, b2, b3, b4, b5, b6, b7, b8, b9⟩ := g1.b
  have i5 : vp_in (5 : Int32) 3890 := litIn 5 (by decide) (by decide)
  by_cases z : A 5 = 0
  · refine ⟨none, fun p hp => absurd hp (by simp), fun S s1 s2 s3 => ⟨fun _ Post hP => ?_, fun p hp => absurd hp (by simp)⟩, fun S C v Post w q1 q2 q3 q4 q5 _ => ?_⟩
    · refine c_textAt (n := A 4) (by rw [s2]; exact g3.2.2.2.2.2.1) b4 (fun i hi e => ?_) (fun _ => ⟨fun _ => hP, fun a z => absurd z (by simp)⟩)
      rw [s3, g3.2.2.2.2.2.2, z] at e
      have : (nI 0 - 1).toInt = (nI i).toInt := by rw [e]
      rw [ntoInt (by omega)] at this
      have q : (nI 0 - 1).toInt = -1 := (by decide)
      omega
    · intro K hK
      refine hK _ _ ⟨i5, fun _ => q5 rfl, fun z2 => absurd ?_ z2⟩
      rw [q2, litC 5 (by decide), enc_5, q3, z]; decide
  · obtain ⟨i, ei⟩ : ∃ i, A 5 = i + 1 := ⟨A 5 - 1, (by omega)⟩
    have hi : i < A 4 := (by omega)
    obtain ⟨a, t, q1, q2, c, c1, c2, c3, c4, c5⟩ := x1 i hi
    have tS : ∀ S : XS, S.2.2 = x.2.2 → tx S a t := fun S hS => by
      obtain ⟨j, w1, w2⟩ := q2
      exact ⟨j, by rw [hS]; exact w1, w2⟩
    -- the class finds the text, and whether it has the law
    have cl : ∀ S : XS, S.2.2 = x.2.2 → S.1 38 = x.1 38 → S.1 39 = x.1 39 → ∀ Post : Option Nat → XS → Prop, (t.2.2.1 l < 0 → Post none S) → (¬ t.2.2.1 l < 0 → Post (some a) S) → VC_X2_lawText_1 Post (nI l) S := fun S s1 s2 s3 Post p0 p1 => by
      have e39 : S.1 39 = nI i := by rw [s3, g3.2.2.2.2.2.2, ei, nI_pred]
      refine c_textAt (n := A 4) (by rw [s2]; exact g3.2.2.2.2.2.1) b4 (fun i' hi' e => ?_) (fun z => absurd ⟨i, hi, e39⟩ z)
      have : i' = i := (nI_eq (by omega) (by omega)).mp (e.symm.trans e39)
      subst this
      have g20 : S.2.2.1 20 i' = some a := by rw [s1]; exact q1
      refine ⟨fun z => absurd (g20.symm.trans z) (by simp), fun a3 e3 => ?_⟩
      have : a3 = a := Option.some.inj (e3.symm.trans g20)
      subst this
      refine ⟨t, tS S s1, fun z => absurd z (nI_pos (by omega)), fun _ => ⟨t, tS S s1, fun z => absurd z (nI_ge (b := 4) hl (by decide)), fun _ => ⟨t, tS S s1, vp_in_nI hl (by decide), ?_⟩⟩⟩
      rw [ncl (by omega)]
      exact ⟨fun hlt => ⟨fun _ => p0 hlt, fun z => absurd rfl z⟩, fun hge => ⟨fun z => absurd z (by decide), fun _ => p1 hge⟩⟩
    -- the reference looks for its clause
    have rl : ∀ (S : MS) (C : Nat → Nat) (Post : Int32 → MS → Prop) (w : Int32), S.2.2.1 2 = y.2.2.1 2 → S.2.2.1 0 = enc C → C 5 = A 5 → ((∀ k, k < c → ¬ y.2.2.1 2 (680 * i + (1 + 3 * k)) = nI l) → Post w S) → (∀ k, k < c → y.2.2.1 2 (680 * i + (1 + 3 * k)) = nI l → (∀ k', k' < k → ¬ y.2.2.1 2 (680 * i + (1 + 3 * k')) = nI l) → VC_work (fun S1 => vp_in (0 : Int32) 330 ∧ VC_held (fun r2 => Post r2 S1) ((S1.2.2.2) (0 : Int32).toNatClampNeg) 0 (nI (topL l))) (nI k) S) → VC_sumOf Post (nI l) (nI (topL l)) w S := fun S C Post w s1 s2 s3 p0 p1 => by
      intro K hK
      have e5 : S.2.2.1 0 (5 : Int32).toNatClampNeg = nI i := by rw [s2, litC 5 (by decide), enc_5, s3, ei, nI_pred]
      have loop : ∀ n k : Nat, k + n = c → (∀ k', k' < k → ¬ y.2.2.1 2 (680 * i + (1 + 3 * k')) = nI l) → K (nI l, nI (topL l), w, nI k) S := by
        intro n
        induction n with
        | zero =>
          intro k hk hno
          refine hK _ _ ⟨i5, ?_⟩
          rw [e5]
          refine ⟨fun z => absurd z (nI_pos (by omega)), fun _ => ⟨i5, ?_⟩⟩
          rw [L680, nmul]
          refine ⟨vp_in_nI (by omega) (by decide), ?_⟩
          rw [ncl (by omega), s1, show y.2.2.1 2 (680 * i) = nI c from c3]
          exact ⟨fun _ => p0 (fun k' hk' => hno k' (by omega)), fun z => absurd (nI_le (by omega) (by omega)) z⟩
        | succ n ih =>
          intro k hk hno
          refine hK _ _ ⟨i5, ?_⟩
          rw [e5]
          refine ⟨fun z => absurd z (nI_pos (by omega)), fun _ => ⟨i5, ?_⟩⟩
          have ea : (680 * nI i + 1) + 3 * nI k = nI (680 * i + (1 + 3 * k)) := by rw [L680, L3, L1, nmul, nmul, nadd, nadd]; congr 1; omega
          have eb : 680 * nI i = nI (680 * i) := by rw [L680, nmul]
          rw [ea, eb]
          refine ⟨vp_in_nI (by omega) (by decide), ?_⟩
          rw [ncl (by omega), ncl (by omega), s1, show y.2.2.1 2 (680 * i) = nI c from c3]
          refine ⟨fun z => absurd z (nI_ge (by omega) (by omega)), fun _ => ⟨i5, vp_in_nI (by omega) (by decide), fun hy => p1 k (by omega) hy hno, fun hn v3 e3 => ?_⟩⟩
          rw [e3, nI_1]
          refine ih (k + 1) (by omega) (fun k' hk' => ?_)
          by_cases zz : k' = k
          · rw [zz]; exact hn
          · exact hno k' (by omega)
      exact loop c 0 (by omega) (fun k' hk' => absurd hk' (by omega))
    rcases c5 l hl with ⟨n1, n2⟩ | ⟨k, k1, k2, k3, k4, p, p1, p2, p3⟩
    · refine ⟨none, fun p hp => absurd hp (by simp), fun S s1 s2 s3 => ⟨fun _ Post hP => cl S s1 s2 s3 Post (fun _ => hP) (fun z => absurd n1 z), fun p hp => absurd hp (by simp)⟩, fun S C v Post w s1 s2 s3 s4 s5 _ => rl S C Post w s1 s2 s3 (fun _ => s5 rfl) (fun k hk e _ => absurd e (n2 k hk))⟩
    · refine ⟨some p, fun p' hp v => ?_, fun S s1 s2 s3 => ⟨fun z => absurd z (by simp), fun p' hp => ⟨a, t, tS S s1, ?_, fun Post hP => cl S s1 s2 s3 Post (fun z => absurd z k4) (fun _ => hP)⟩⟩, fun S C v Post w s1 s2 s3 s4 _ s6 => rl S C Post w s1 s2 s3 (fun z => absurd k2 (z k k1)) (fun k' hk' e hno => ?_)⟩
      · rw [← Option.some.inj hp]; exact p1 v
      · rw [← Option.some.inj hp]; exact p2
      · have ek : k' = k := by
          by_cases z1 : k' < k
          · exact absurd e (k3 k' z1)
          · by_cases z2 : k < k'
            · exact absurd k2 (hno k z2)
            · omega
        subst ek
        exact p3 Post S v C i (by omega) (fun k hk => by rw [s1]) s2 (by rw [s3, ei]) s4 (fun S' hS => s6 p rfl S' hS)
theorem al_lt {l k : Nat} (h : alN l k = true) : k < 11 := by
  by_cases z : k < 11
  · exact z
  · unfold alN at h
    have : (if l = 0 then 1 else if l = 1 then 31 else if l = 2 then 1761 else 511 : Nat) < 2 ^ k := by
      have : 2 ^ 11 ≤ 2 ^ k := Nat.pow_le_pow_right (by decide) (by omega)
      split
      · omega
      split
      · omega
      split <;> omega
    rw [Nat.testBit_lt_two_pow this] at h
    exact absurd h (by decide)
theorem al_0 {k : Nat} (h : alN 0 k = true) : k = 0 := (by decide : ∀ k : Fin 11, alN 0 k.1 = true → k.1 = 0) ⟨k, al_lt h⟩ h
theorem al_1 {k : Nat} (h : alN 1 k = true) : k < 5 := (by decide : ∀ k : Fin 11, alN 1 k.1 = true → k.1 < 5) ⟨k, al_lt h⟩ h
theorem al_2 {k : Nat} (h : alN 2 k = true) : k = 0 ∨ k = 5 ∨ k = 6 ∨ k = 7 ∨ k = 9 ∨ k = 10 := (by decide : ∀ k : Fin 11, alN 2 k.1 = true → k.1 = 0 ∨ k.1 = 5 ∨ k.1 = 6 ∨ k.1 = 7 ∨ k.1 = 9 ∨ k.1 = 10) ⟨k, al_lt h⟩ h
theorem al_3 {k : Nat} (h : alN 3 k = true) : k < 9 := (by decide : ∀ k : Fin 11, alN 3 k.1 = true → k.1 < 9) ⟨k, al_lt h⟩ h
/-! smoke -/
def smV (o : LAW) (h : Nat) : Nat := o.elim 40 (fun p => p (fun _ => h))
theorem smV_le {o : LAW} (ho : ∀ p, o = some p → ∀ v, p v ≤ topL 0) (h : Nat) : smV o h ≤ 40 := by
  cases o with
  | none => exact Nat.le_refl _
  | some p => exact ho p rfl _
theorem c_smoke {Post : Int32 → XS → Prop} {o : LAW} {h : Nat} (hJ : JTc x.2.2 (x.1 38) (x.1 39) 0 o) (hh : h ≤ 1000) (hP : ∀ x', JFr x x' → Post (nI (smV o h)) x') : VC_X2_smokeIn_48_1 Post (nI h) x := by
  have hj := hJ x rfl rfl rfl
  cases o with
  | none => exact hj.1 rfl _ ⟨fun _ => hP x (JFr.refl x), fun a z => absurd z (by simp)⟩
  | some p =>
    obtain ⟨a, t, h1, h2, h3⟩ := hj.2 p rfl
    refine h3 _ ⟨fun z => absurd z (by simp), fun a3 e3 => ⟨litIn 0 (by decide) (by decide), fun S4 e4 => ?_⟩⟩
    have : a3 = a := (Option.some.inj e3).symm
    subst this
    have f4 : JFr x S4 := by rw [e4]; exact (JFr.refl x).F _ _ (Or.inl rfl)
    refine h2 Post S4 (fun _ => h) (f4.tx h1) (fun k hk => ?_) (fun x' f' => hP x' (f4.trans f'))
    rw [al_0 hk, e4, xF_s, litC 0 (by decide), upd_s]
    exact ⟨rfl, hh⟩
theorem r_smoke {Post : Int32 → MS → Prop} {o : LAW} {h : Nat} (hJ : JTr (y.2.2.1 2) (A 5) 0 o) (e : y.2.2.1 0 = enc A) (hh : h ≤ 1000) (hP : ∀ y', KFr y y' → Post (nI (smV o h)) y') : VC_smokeIn Post (nI h) y := by
  refine ⟨litIn 0 (by decide) (by decide), fun S1 e1 => ?_⟩
  have f1 : KFr y S1 := by rw [e1]; exact (KFr.refl y).F _ _ (Or.inl rfl)
  refine hJ S1 A (fun _ => h) _ 40 (f1.2 2 (by decide) (by decide)) (f1.e e) rfl (fun k hk => ?_) (fun ho => ?_) (fun p ho S' f' => ?_)
  · rw [al_0 hk, e1, sF_same, litC 0 (by decide), upd_s]
    exact ⟨rfl, hh⟩
  · have := hP S1 f1
    rw [ho] at this; exact this
  · have := hP S' (f1.trans f')
    rw [ho] at this; exact this
/-! cost -/
def nuB (A : Nat → Nat) (b h : Nat) : Nat → Nat := fun k => if k = 0 then h else if k = 1 then b else if k = 2 then A (10 + 5 * b) else if k = 3 then A (11 + 5 * b) else A (12 + 5 * b)
def coV (o : LAW) (A : Nat → Nat) (b h : Nat) : Nat := o.elim 1 (fun p => p (nuB A b h))
theorem coV_le {o : LAW} (ho : ∀ p, o = some p → ∀ v, p v ≤ topL 1) (A : Nat → Nat) (b h : Nat) : coV o A b h ≤ 99 := by
  cases o with
  | none => show 1 ≤ 99; omega
  | some p => exact ho p rfl _
theorem nuB_le {b h k : Nat} (hI : Inv A) (hb : b < A 0) (hh : h ≤ 1000) : nuB A b h k ≤ 1000 := by
  have := hI.2.1 b hb
  have := hI.b
  unfold nuB
  split
  · omega
  split
  · omega
  split
  · omega
  split <;> omega
theorem c_nameB {Post : XS → Prop} {S : XS} {b : Nat} (hC : rxCrew S.1 S.2.1 A) (h6 : A 0 ≤ 6) (hb : b < A 0) (h : ∀ S', JFr S S' → S'.1 = S.1 → (∀ k v, 1 ≤ k → k ≤ 4 → v = nuB A b 0 k → S'.2.1 49 k = nI v) → (∀ k, k = 0 ∨ 5 ≤ k → S'.2.1 49 k = S.2.1 49 k) → Post S') : VC_X2_nameBlower_48_1 Post (nI b) S := by
  obtain ⟨c1, c2, c3, c4⟩ := hC.2 b hb
  have inb : vp_in (nI b) 6 := vp_in_nI (by omega) (by decide)
  refine hasB hC.1 (by omega) (fun _ => ⟨fun z => absurd z (by decide), fun _ => ⟨litIn 1 (by decide) (by decide), fun S3 e3 => ⟨inb, fun v4 e4 => ⟨litIn 2 (by decide) (by decide), fun S5 e5 => ⟨inb, fun v6 e6 => ⟨litIn 3 (by decide) (by decide), fun S7 e7 => ⟨inb, fun v8 e8 => ⟨litIn 4 (by decide) (by decide), fun S9 e9 => ?_⟩⟩⟩⟩⟩⟩⟩⟩) (fun z => absurd ⟨b, hb, rfl⟩ z)
  rw [e3, xF_o _ _ _ _ (by decide), ncl (by omega), c1] at e4
  rw [e5, xF_o _ _ _ _ (by decide), e3, xF_o _ _ _ _ (by decide), ncl (by omega), c2] at e6
  rw [e7, xF_o _ _ _ _ (by decide), e5, xF_o _ _ _ _ (by decide), e3, xF_o _ _ _ _ (by decide), ncl (by omega), c3] at e8
  rw [litC 1 (by decide)] at e3
  rw [litC 2 (by decide), e4] at e5
  rw [litC 3 (by decide), e6] at e7
  rw [litC 4 (by decide), e8] at e9
  have f3 : S3.2.1 49 = upd (S.2.1 49) 1 (nI b) := by rw [e3, xF_s]
  have f5 : S5.2.1 49 = upd (upd (S.2.1 49) 1 (nI b)) 2 (nI (A (10 + 5 * b))) := by rw [e5, xF_s, f3]
  have f7 : S7.2.1 49 = upd (upd (upd (S.2.1 49) 1 (nI b)) 2 (nI (A (10 + 5 * b)))) 3 (nI (A (11 + 5 * b))) := by rw [e7, xF_s, f5]
  have f9 : S9.2.1 49 = upd (upd (upd (upd (S.2.1 49) 1 (nI b)) 2 (nI (A (10 + 5 * b)))) 3 (nI (A (11 + 5 * b)))) 4 (nI (A (12 + 5 * b))) := by rw [e9, xF_s, f7]
  refine h S9 (by rw [e9, e7, e5, e3]; exact ((((JFr.refl S).F _ _ (Or.inl rfl)).F _ _ (Or.inl rfl)).F _ _ (Or.inl rfl)).F _ _ (Or.inl rfl)) (by rw [e9, xF_i, e7, xF_i, e5, xF_i, e3, xF_i]) (fun k v k1 k2 ev => ?_) (fun k hk => ?_)
  · rw [f9, ev]
    have : k = 1 ∨ k = 2 ∨ k = 3 ∨ k = 4 := (by omega)
    rcases this with z | z | z | z <;> subst z
    · rw [upd_n _ _ (by decide), upd_n _ _ (by decide), upd_n _ _ (by decide), upd_s]; rfl
    · rw [upd_n _ _ (by decide), upd_n _ _ (by decide), upd_s]; rfl
    · rw [upd_n _ _ (by decide), upd_s]; rfl
    · rw [upd_s]; rfl
  · rw [f9, upd_n _ _ (by omega), upd_n _ _ (by omega), upd_n _ _ (by omega), upd_n _ _ (by omega)]
theorem nuB_h {b h k : Nat} (hk : k ≠ 0) : nuB A b h k = nuB A b 0 k := by
  unfold nuB
  rw [if_neg hk, if_neg hk]
theorem c_cost {Post : Int32 → XS → Prop} {o : LAW} {b h : Nat} (hJ : JTc x.2.2 (x.1 38) (x.1 39) 1 o) (hI : Inv A) (hC : rxCrew x.1 x.2.1 A) (hb : b < A 0) (hh : h ≤ 1000) (hP : ∀ x', JFr x x' → Post (nI (coV o A b h)) x') : VC_X2_costOf_48_1 Post (nI b) (nI h) x := by
  obtain ⟨b0, b1, b2, b3, b4, b5, b6, b7, b8, b9⟩ := hI.b
  have hj := hJ x rfl rfl rfl
  cases o with
  | none => exact hj.1 rfl _ ⟨fun _ => hP x (JFr.refl x), fun a z => absurd z (by simp)⟩
  | some p =>
    obtain ⟨a, t, h1, h2, h3⟩ := hj.2 p rfl
    refine h3 _ ⟨fun z => absurd z (by simp), fun a3 e3 => ⟨litIn 0 (by decide) (by decide), fun S4 e4 => ?_⟩⟩
    have : a3 = a := (Option.some.inj e3).symm
    subst this
    have f4 : JFr x S4 := by rw [e4]; exact (JFr.refl x).F _ _ (Or.inl rfl)
    refine c_nameB (rxCrew_of hC b0 (f4.1 _ (by decide)) (fun k _ _ _ => f4.2.1 k (by omega) (by omega)) (fun _ _ => rfl)) b0 hb (fun S5 f5 _ n1 n2 => ?_)
    refine h2 Post S5 (nuB A b h) (f5.tx (f4.tx h1)) (fun k hk => ⟨?_, nuB_le hI hb hh⟩) (fun x' f' => hP x' (f4.trans (f5.trans f')))
    have := al_1 hk
    by_cases z : k = 0
    · rw [z, n2 0 (Or.inl rfl), e4, xF_s, litC 0 (by decide), upd_s]; rfl
    · exact n1 k _ (by omega) (by omega) (nuB_h z)
theorem r_nameB {Post : MS → Prop} {S : MS} {b h : Nat} (e : S.2.2.1 0 = enc A) (hb : b < 6) (hP : ∀ S', KFr S S' → (∀ k, k < 5 → S'.2.2.1 22 k = nI (nuB A b h k)) → (∀ k, 5 ≤ k → S'.2.2.1 22 k = S.2.2.1 22 k) → Post S') : VC_nameBlower Post (nI b) (nI h) S := by
  refine ⟨litIn 0 (by decide) (by decide), fun S1 e1 => ⟨litIn 1 (by decide) (by decide), fun S2 e2 => ?_⟩⟩
  rw [litC 0 (by decide)] at e1
  rw [litC 1 (by decide)] at e2
  have k2 : KFr S S2 := by rw [e2, e1]; exact ((KFr.refl S).F _ _ (Or.inl rfl)).F _ _ (Or.inl rfl)
  refine mget (k2.e e) rfl L0 hb (by decide) ⟨litIn 2 (by decide) (by decide), fun S5 e5 => ?_⟩
  rw [litC 2 (by decide)] at e5
  have k5 : KFr S S5 := by rw [e5]; exact k2.F _ _ (Or.inl rfl)
  refine mget (k5.e e) rfl L1 hb (by decide) ⟨litIn 3 (by decide) (by decide), fun S8 e8 => ?_⟩
  rw [litC 3 (by decide)] at e8
  have k8 : KFr S S8 := by rw [e8]; exact k5.F _ _ (Or.inl rfl)
  refine mget (k8.e e) rfl L2 hb (by decide) ⟨litIn 4 (by decide) (by decide), fun S11 e11 => ?_⟩
  rw [litC 4 (by decide)] at e11
  have f11 : S11.2.2.1 22 = upd (upd (upd (upd (upd (S.2.2.1 22) 0 (nI h)) 1 (nI b)) 2 (nI (A (10 + 5 * b + 0)))) 3 (nI (A (10 + 5 * b + 1)))) 4 (nI (A (10 + 5 * b + 2))) := by
    rw [e11, sF_same, e8, sF_same, e5, sF_same, e2, sF_same, e1, sF_same]
  refine hP S11 (by rw [e11]; exact k8.F _ _ (Or.inl rfl)) (fun k hk => ?_) (fun k hk => ?_)
  · rw [f11]
    have : k = 0 ∨ k = 1 ∨ k = 2 ∨ k = 3 ∨ k = 4 := (by omega)
    rcases this with z | z | z | z | z <;> subst z
    · rw [upd_n _ _ (by decide), upd_n _ _ (by decide), upd_n _ _ (by decide), upd_n _ _ (by decide), upd_s]; rfl
    · rw [upd_n _ _ (by decide), upd_n _ _ (by decide), upd_n _ _ (by decide), upd_s]; rfl
    · rw [upd_n _ _ (by decide), upd_n _ _ (by decide), upd_s]; rfl
    · rw [upd_n _ _ (by decide), upd_s, show 10 + 5 * b + 1 = 11 + 5 * b by omega]; rfl
    · rw [upd_s, show 10 + 5 * b + 2 = 12 + 5 * b by omega]; rfl
  · rw [f11, upd_n _ _ (by omega), upd_n _ _ (by omega), upd_n _ _ (by omega), upd_n _ _ (by omega), upd_n _ _ (by omega)]
theorem r_cost {Post : Int32 → MS → Prop} {o : LAW} {b h : Nat} (hJ : JTr (y.2.2.1 2) (A 5) 1 o) (hI : Inv A) (e : y.2.2.1 0 = enc A) (hb : b < A 0) (hh : h ≤ 1000) (hP : ∀ y', KFr y y' → Post (nI (coV o A b h)) y') : VC_costOf Post (nI b) (nI h) y := by
  have hb6 := hI.b
  refine r_nameB e (by omega) (fun S1 f1 n1 _ => ?_)
  refine hJ S1 A (nuB A b h) _ 1 (f1.2 2 (by decide) (by decide)) (f1.e e) rfl (fun k hk => ⟨n1 k (al_1 hk), nuB_le hI hb hh⟩) (fun ho => ?_) (fun p ho S' f' => ?_)
  · have := hP S1 f1
    rw [ho] at this; exact this
  · have := hP S' (f1.trans f')
    rw [ho] at this; exact this
theorem RelA.judge (h : RelA TXd A B x y) {x' : XS} {y' : MS} (fx : JFr x x') (fy : KFr y y') : RelT TXd x' y' :=
  h.step fx.X fy.Y h.1 (fx.R h.1 h.2.2.1) (fy.e h.2.2.2.2.1) rfl
theorem op_smoke {a0 : Int32} (h : RelA TXd A B x y) : VC_X11_smoke_0 (fun r x' => VC_smoke (fun r' y' => r = r' ∧ RelT TXd x' y') a0 y) a0 x := by
  obtain ⟨g1, -, g3, -, g5, -⟩ := id h
  obtain ⟨o, ho, jc, jr⟩ := judge_ex h (l := 0) (by decide)
  refine wFrom (l := 0) (h := 999) (h1 := fun i1 => ⟨fun z => absurd z (by decide), fun _ => ?_⟩) (h0 := fun n => ⟨fun _ => ?_, fun z => absurd rfl z⟩)
  · obtain ⟨t, -, ht, rfl⟩ := id i1
    refine c_smoke jc (by omega) (fun x' fx => ?_)
    refine hourA (mFrom (l := 0) (h := 999) (h1 := fun _ => ⟨Or.inr rfl, fun z => absurd z (by decide), fun _ => ?_⟩) (h0 := fun z => absurd i1 z))
    exact r_smoke jr g5 (by omega) (fun y' fy => ⟨rfl, h.judge fx fy⟩)
  · exact hourA (mFrom (l := 0) (h := 999) (h1 := fun z => absurd z n) (h0 := fun _ => ⟨Or.inl rfl, fun _ => ⟨rfl, A, B, h⟩, fun z => absurd rfl z⟩))
theorem op_cost {a0 a1 : Int32} (h : RelA TXd A B x y) : VC_X11_cost_0 (fun r x' => VC_cost (fun r' y' => r = r' ∧ RelT TXd x' y') a0 a1 y) a0 a1 x := by
  obtain ⟨g1, -, g3, -, g5, -⟩ := id h
  have bb := g1.b
  obtain ⟨o, ho, jc, jr⟩ := judge_ex h (l := 1) (by decide)
  have bad : ¬ (isOne a0 (A 0) ∧ isFrom a1 0 999) → VC_cost (fun r' y' => (-1 : Int32) = r' ∧ RelT TXd x y') a0 a1 y := fun hn => by
    refine mB g5 (by omega) (fun i1 => ⟨fun z => absurd z (by decide), fun _ => ?_⟩) (fun _ => ⟨fun _ => ⟨rfl, A, B, h⟩, fun z => absurd rfl z⟩)
    exact mFrom (l := 0) (h := 999) (h1 := fun i2 => absurd ⟨i1, i2⟩ hn) (h0 := fun _ => ⟨Or.inl rfl, fun _ => ⟨rfl, A, B, h⟩, fun z => absurd rfl z⟩)
  refine hasB g3.1.1 (by omega) (fun i1 => ⟨fun z => absurd z (by decide), fun _ => ?_⟩) (fun n => ⟨fun _ => bad (fun z => n z.1), fun z => absurd rfl z⟩)
  refine wFrom (l := 0) (h := 999) (h1 := fun i2 => ⟨fun _ => ?_, fun z => absurd z (by decide)⟩) (h0 := fun n => ⟨fun z => absurd rfl z, fun _ => bad (fun z => n z.2)⟩)
  obtain ⟨b, hb, rfl⟩ := id i1
  obtain ⟨t, -, ht, rfl⟩ := id i2
  refine c_cost jc g1 g3.1 hb (by omega) (fun x' fx => ?_)
  refine mB g5 (by omega) (fun _ => ⟨fun z => absurd z (by decide), fun _ => ?_⟩) (fun z => absurd i1 z)
  refine mFrom (l := 0) (h := 999) (h1 := fun _ => ⟨Or.inr rfl, fun z => absurd z (by decide), fun _ => ?_⟩) (h0 := fun z => absurd i2 z)
  exact r_cost jr g1 g5 hb (by omega) (fun y' fy => ⟨rfl, h.judge fx fy⟩)
end JUDGE
