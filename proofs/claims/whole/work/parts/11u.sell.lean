/-! sell -/
def nuS (A : Nat → Nat) (p b : Nat) : Nat → Nat := fun k => if k < 5 then nuB A b (A 3) k else if k = 5 then A (150 + 10 * p) else if k = 6 then A (40 + 3 * A (150 + 10 * p)) else if k = 7 then A (42 + 3 * A (150 + 10 * p)) else A (154 + 10 * p + b)
def shV (o : LAW) (A : Nat → Nat) (p b : Nat) : Nat := o.elim (A (154 + 10 * p + b)) (fun q => q (nuS A p b))
theorem gv_le {A : Nat → Nat} {p b : Nat} (hI : Inv A) (hp : p < A 2) (hb : b < 6) : A (154 + 10 * p + b) ≤ 360 := by
  rw [(hI.piece hp).2.2.2.2 b hb]
  have := sumR_le (q := fun i => decide (A (250 + 4 * i) = p ∧ A (251 + 4 * i) = b)) (w := fun i => A (252 + 4 * i)) (B := 9) (m := A 9) (fun i hi => (hI.log i hi).2.2.2.1)
  have := hI.b
  unfold sumPB
  omega
theorem shV_le {o : LAW} (ho : ∀ q, o = some q → ∀ v, q v ≤ topL 3) {A : Nat → Nat} {p b : Nat} (hI : Inv A) (hp : p < A 2) (hb : b < 6) : shV o A p b ≤ 360 := by
  cases o with
  | none => exact gv_le hI hp hb
  | some q => exact Nat.le_trans (ho q rfl _) (by decide)
theorem nuS_le {A : Nat → Nat} {p b k : Nat} (hI : Inv A) (hp : p < A 2) (hb : b < A 0) : nuS A p b k ≤ 1000 := by
  have bb := hI.b
  have kk := (hI.piece hp).1
  have := hI.2.2.2.1 _ kk
  have := gv_le hI hp (b := b) (by omega)
  have := nuB_le (k := k) hI hb (h := A 3) (by omega)
  unfold nuS
  split
  · omega
  split
  · omega
  split
  · omega
  split <;> omega
section SHARE
variable {A : Nat → Nat} {x : XS} {y : MS} {o : LAW}
theorem c_nameK {Post : XS → Prop} {S : XS} {p : Nat} (hI : Inv A) (hW : rxWares S.1 S.2.1 A) (hB : rxBench S.1 S.2.1 A) (hp : p < A 2) (h : ∀ S', JFr S S' → S'.1 = S.1 → S'.2.1 49 5 = nI (A (150 + 10 * p)) → S'.2.1 49 6 = nI (A (40 + 3 * A (150 + 10 * p))) → S'.2.1 49 7 = nI (A (42 + 3 * A (150 + 10 * p))) → (∀ k, k < 5 ∨ 8 ≤ k → S'.2.1 49 k = S.2.1 49 k) → Post S') : VC_X2_nameKind_48_1 Post (nI p) S := by
  have bb := hI.b
  have kk := (hI.piece hp).1
  have inp : vp_in (nI p) 10 := vp_in_nI (by omega) (by decide)
  have ek : S.2.1 12 (nI p).toNatClampNeg = nI (A (150 + 10 * p)) := by rw [ncl (by omega)]; exact (hB.2.2.2.1 p hp).1
  obtain ⟨w1, w2, w3⟩ := hW.2 _ kk
  refine hasP hB.2.1 (by omega) (fun _ => ⟨fun z => absurd z (by decide), fun _ => ⟨inp, hasK hW.1 (by omega) (fun _ => ⟨fun z => absurd z (by decide), fun _ => ⟨inp, fun v5 e5 => ⟨litIn 5 (by decide) (by decide), fun S6 e6 => ?_⟩⟩⟩) (fun z => absurd ⟨_, kk, ek⟩ z)⟩⟩) (fun z => absurd ⟨p, hp, rfl⟩ z)
  rw [ek] at e5
  rw [litC 5 (by decide), e5] at e6
  rw [e5]
  have ink : vp_in (nI (A (150 + 10 * p))) 6 := vp_in_nI (by omega) (by decide)
  refine ⟨ink, fun v7 e7 => ⟨litIn 6 (by decide) (by decide), fun S8 e8 => ⟨ink, fun v9 e9 => ⟨litIn 7 (by decide) (by decide), fun S10 e10 => ?_⟩⟩⟩⟩
  rw [e6, xF_o _ _ _ _ (by decide), ncl (by omega), w1] at e7
  rw [e8, xF_o _ _ _ _ (by decide), e6, xF_o _ _ _ _ (by decide), ncl (by omega), w3] at e9
  rw [litC 6 (by decide), e7] at e8
  rw [litC 7 (by decide), e9] at e10
  have f10 : S10.2.1 49 = upd (upd (upd (S.2.1 49) 5 (nI (A (150 + 10 * p)))) 6 (nI (A (40 + 3 * A (150 + 10 * p))))) 7 (nI (A (42 + 3 * A (150 + 10 * p)))) := by rw [e10, xF_s, e8, xF_s, e6, xF_s]
  refine h S10 (by rw [e10, e8, e6]; exact (((JFr.refl S).F _ _ (Or.inl rfl)).F _ _ (Or.inl rfl)).F _ _ (Or.inl rfl)) (by rw [e10, xF_i, e8, xF_i, e6, xF_i]) ?_ ?_ ?_ (fun k hk => ?_)
  · rw [f10, upd_n _ _ (by decide), upd_n _ _ (by decide), upd_s]
  · rw [f10, upd_n _ _ (by decide), upd_s]
  · rw [f10, upd_s]
  · rw [f10, upd_n _ _ (by omega), upd_n _ _ (by omega), upd_n _ _ (by omega)]
theorem c_share {Post : Int32 → XS → Prop} {p b : Nat} (hJ : JTc x.2.2 (x.1 38) (x.1 39) 3 o) (hI : Inv A) (hx : RX x.1 x.2.1 A) (hp : p < A 2) (hb : b < A 0) (hP : ∀ x', JFr x x' → Post (nI (shV o A p b)) x') : VC_X2_shareOf_48_1 Post (nI p) (nI b) x := by
  obtain ⟨b0, b1, b2, b3, b4, b5, b6, b7, b8, b9⟩ := hI.b
  have g5 := (hI.piece hp).2.2.2.2 b (by omega)
  refine c_sumPB hI hx.2.2.1 rfl rfl rfl (by omega) (by omega) ?_
  rw [← g5]
  have hj := hJ x rfl rfl rfl
  cases o with
  | none => exact hj.1 rfl _ ⟨fun _ => hP x (JFr.refl x), fun a z => absurd z (by simp)⟩
  | some q =>
    obtain ⟨a, t, h1, h2, h3⟩ := hj.2 q rfl
    refine h3 _ ⟨fun z => absurd z (by simp), fun a3 e3 v6 e6 => ⟨litIn 0 (by decide) (by decide), fun S7 e7 => ⟨litIn 8 (by decide) (by decide), fun S8 e8 => ?_⟩⟩⟩
    have : a3 = a := (Option.some.inj e3).symm
    subst this
    rw [hx.2.2.1.1] at e6
    rw [litC 0 (by decide), e6] at e7
    rw [litC 8 (by decide)] at e8
    have f8 : JFr x S8 := by rw [e8, e7]; exact ((JFr.refl x).F _ _ (Or.inl rfl)).F _ _ (Or.inl rfl)
    have n8 : S8.2.1 49 = upd (upd (x.2.1 49) 0 (nI (A 3))) 8 (nI (A (154 + 10 * p + b))) := by rw [e8, xF_s, e7, xF_s]
    refine c_nameB (f8.R hI hx).1 b0 hb (fun S9 f9 i9 n1 n2 => ?_)
    have f89 := f8.trans f9
    refine c_nameK hI (f89.R hI hx).2.1 (f89.R hI hx).2.2.1 hp (fun S10 f10 i10 m5 m6 m7 m8 => ?_)
    refine h2 Post S10 (nuS A p b) (f10.tx (f89.tx h1)) (fun k hk => ⟨?_, nuS_le hI hp hb⟩) (fun x' f' => hP x' (f89.trans (f10.trans f')))
    have k9 := al_3 hk
    unfold nuS
    by_cases z5 : k < 5
    · rw [if_pos z5, m8 k (Or.inl z5)]
      by_cases z0 : k = 0
      · rw [z0, n2 0 (Or.inl rfl), n8, upd_n _ _ (by decide), upd_s]; rfl
      · exact n1 k _ (by omega) (by omega) (nuB_h z0)
    · rw [if_neg z5]
      have : k = 5 ∨ k = 6 ∨ k = 7 ∨ k = 8 := (by omega)
      rcases this with z | z | z | z <;> subst z
      · exact m5
      · exact m6
      · exact m7
      · rw [m8 8 (by omega), n2 8 (by omega), n8, upd_s]; rfl
theorem r_nameK {Post : MS → Prop} {S : MS} {C : Nat → Nat} {k : Nat} (e : S.2.2.1 0 = enc C) (hk : k < 6) (hP : ∀ S', KFr S S' → S'.2.2.1 22 5 = nI k → S'.2.2.1 22 6 = nI (C (40 + 3 * k)) → S'.2.2.1 22 7 = nI (C (42 + 3 * k)) → (∀ j, j < 5 ∨ 8 ≤ j → S'.2.2.1 22 j = S.2.2.1 22 j) → Post S') : VC_nameKind Post (nI k) S := by
  have q0 : 40 + 3 * nI k = nI (40 + 3 * k) := by rw [L40, L3, nmul, nadd]
  have q2 : nI (40 + 3 * k) + 2 = nI (42 + 3 * k) := by rw [L2, nadd]; congr 1; omega
  refine ⟨litIn 5 (by decide) (by decide), fun S1 e1 => ?_⟩
  rw [q0, q2]
  have f1 : KFr S S1 := by rw [e1]; exact (KFr.refl S).F _ _ (Or.inl rfl)
  refine ⟨vp_in_nI (by omega) (by decide), fun v2 e2 => ⟨litIn 6 (by decide) (by decide), fun S3 e3 => ⟨vp_in_nI (by omega) (by decide), fun v4 e4 => ⟨litIn 7 (by decide) (by decide), fun S5 e5 => ?_⟩⟩⟩⟩
  rw [enc_cell (f1.e e) (by omega) (by omega)] at e2
  have f3 : KFr S S3 := by rw [e3]; exact f1.F _ _ (Or.inl rfl)
  rw [enc_cell (f3.e e) (by omega) (by omega)] at e4
  rw [litC 5 (by decide)] at e1
  rw [litC 6 (by decide), e2] at e3
  rw [litC 7 (by decide), e4] at e5
  have f5 : S5.2.2.1 22 = upd (upd (upd (S.2.2.1 22) 5 (nI k)) 6 (nI (C (40 + 3 * k)))) 7 (nI (C (42 + 3 * k))) := by rw [e5, sF_same, e3, sF_same, e1, sF_same]
  refine hP S5 (by rw [e5]; exact f3.F _ _ (Or.inl rfl)) ?_ ?_ ?_ (fun j hj => ?_)
  · rw [f5, upd_n _ _ (by decide), upd_n _ _ (by decide), upd_s]
  · rw [f5, upd_n _ _ (by decide), upd_s]
  · rw [f5, upd_s]
  · rw [f5, upd_n _ _ (by omega), upd_n _ _ (by omega), upd_n _ _ (by omega)]
theorem r_share {Post : Int32 → MS → Prop} {S : MS} {C : Nat → Nat} {p b : Nat} (hJ : JTr (S.2.2.1 2) (A 5) 3 o) (hI : Inv A) (e : S.2.2.1 0 = enc C) (hC : ∀ j, j < 250 → j ≠ 6 → j ≠ 153 + 10 * p → C j = A j) (hp : p < A 2) (hb : b < A 0) (hP : ∀ S', KFr S S' → Post (nI (shV o A p b)) S') : VC_shareOf Post (nI p) (nI b) S := by
  obtain ⟨b0, b1, b2, b3, b4, b5, b6, b7, b8, b9⟩ := hI.b
  have kk := (hI.piece hp).1
  refine ⟨litIn 3 (by decide) (by decide), ?_⟩
  rw [show S.2.2.1 0 (3 : Int32).toNatClampNeg = nI (C 3) from enc_cell (k := 3) e (by decide) (by decide), hC 3 (by omega) (by omega) (by omega)]
  refine r_nameB e (by omega) (fun S1 f1 n1 n2 => pieceA ?_)
  have q0 : 150 + 10 * nI p = nI (150 + 10 * p) := by rw [L150, L10, nmul, nadd]
  rw [q0]
  refine ⟨vp_in_nI (by omega) (by decide), ?_⟩
  rw [enc_cell (f1.e e) (by omega) (by omega), hC _ (by omega) (by omega) (by omega)]
  refine r_nameK (f1.e e) (by omega) (fun S3 f3 m5 m6 m7 m8 => mgave (f3.e (f1.e e)) rfl rfl (by omega) (by omega) ⟨litIn 8 (by decide) (by decide), fun S6 e6 => ⟨litIn 8 (by decide) (by decide), ?_⟩⟩)
  rw [litC 8 (by decide), hC _ (by omega) (by omega) (by omega)] at e6
  have f36 : KFr S S6 := by rw [e6]; exact (f1.trans f3).F _ _ (Or.inl rfl)
  have w8 : S6.2.2.1 22 (8 : Int32).toNatClampNeg = nI (A (154 + 10 * p + b)) := by rw [litC 8 (by decide), e6, sF_same, upd_s]
  rw [w8]
  refine hJ S6 C (nuS A p b) _ _ (f36.2 2 (by decide) (by decide)) (f36.e e) (hC 5 (by omega) (by omega) (by omega)) (fun k hk => ⟨?_, nuS_le hI hp hb⟩) (fun ho => ?_) (fun q ho S' f' => ?_)
  · have k9 := al_3 hk
    unfold nuS
    by_cases z8 : k = 8
    · subst z8
      rw [e6, sF_same, upd_s]; rfl
    · rw [e6, sF_same, upd_n _ _ z8]
      by_cases z5 : k < 5
      · rw [if_pos z5, m8 k (Or.inl z5), n1 k z5]
        unfold nuB
        rw [hC (10 + 5 * b) (by omega) (by omega) (by omega), hC (11 + 5 * b) (by omega) (by omega) (by omega), hC (12 + 5 * b) (by omega) (by omega) (by omega)]
      · rw [if_neg z5]
        have : k = 5 ∨ k = 6 ∨ k = 7 := (by omega)
        rcases this with z | z | z <;> subst z
        · exact m5
        · rw [m6, hC _ (by omega) (by omega) (by omega)]; rfl
        · rw [m7, hC _ (by omega) (by omega) (by omega)]; rfl
  · have := hP S6 f36
    rw [ho] at this; exact this
  · have := hP S' (f36.trans f')
    rw [ho] at this; exact this
end SHARE
def shB (o : LAW) (A : Nat → Nat) (p b : Nat) : Nat := if A (154 + 10 * p + b) = 0 then 0 else shV o A p b
def allS (o : LAW) (A : Nat → Nat) (p n : Nat) : Nat := sumR (fun _ => true) (fun b => shB o A p b) n
def payB (o : LAW) (A : Nat → Nat) (p b : Nat) : Nat := if allS o A p (A 0) = 0 then 0 else (if 999 - A (12 + 5 * b) < A (42 + 3 * A (150 + 10 * p)) * shB o A p b / allS o A p (A 0) then 999 - A (12 + 5 * b) else A (42 + 3 * A (150 + 10 * p)) * shB o A p b / allS o A p (A 0))
def sellN (o : LAW) (A : Nat → Nat) (p : Nat) : Nat → Nat := fun j => if j = 153 + 10 * p then 1 else if 10 ≤ j ∧ j < 40 ∧ j % 5 = 2 ∧ (j - 12) / 5 < A 0 then A j + payB o A p ((j - 12) / 5) else keepN A j
section SELLN
variable {A : Nat → Nat} {o : LAW} {p : Nat}
theorem se_o {j : Nat} (h1 : j ≠ 153 + 10 * p) (h2 : j < 10 ∨ 40 ≤ j ∨ j % 5 ≠ 2 ∨ A 0 ≤ (j - 12) / 5) : sellN o A p j = keepN A j := by
  unfold sellN
  rw [if_neg h1, if_neg (by omega)]
theorem se_s : sellN o A p (153 + 10 * p) = 1 := if_pos rfl
theorem se_b {b : Nat} (hb : b < A 0) (h6 : A 0 ≤ 6) : sellN o A p (12 + 5 * b) = A (12 + 5 * b) + payB o A p b := by
  unfold sellN
  rw [if_neg (by omega), show (12 + 5 * b - 12) / 5 = b by omega, if_pos ⟨(by omega), (by omega), (by omega), hb⟩]
theorem pay_le {b : Nat} (h : A (12 + 5 * b) ≤ 999) : A (12 + 5 * b) + payB o A p b ≤ 999 := by
  unfold payB
  split
  · omega
  split <;> omega
theorem Inv_sell (h : Inv A) (hp : p < A 2) : Inv (sellN o A p) := by
  obtain ⟨b0, b1, b2, b3, b4, b5, b6, b7, b8, b9⟩ := h.b
  obtain ⟨o', hK⟩ := keepN_kept b6
  have hlog := h.log
  have eo : ∀ j, j ≠ 6 → j ≠ 153 + 10 * p → j < 410 → (j < 10 ∨ 40 ≤ j ∨ j % 5 ≠ 2) → sellN o A p j = A j := fun j j6 j1 jj j2 => by rw [se_o j1 (by omega), keepN_lo A jj j6]
  have ll : ∀ i, i < 4 * A 9 → A (250 + i) = sellN o A p (250 + i) := fun i hi => (eo _ (by omega) (by omega) (by omega) (by omega)).symm
  have e0 := eo 0 (by omega) (by omega) (by omega) (by omega)
  have e1 := eo 1 (by omega) (by omega) (by omega) (by omega)
  have e2 := eo 2 (by omega) (by omega) (by omega) (by omega)
  have e3 := eo 3 (by omega) (by omega) (by omega) (by omega)
  have e9 := eo 9 (by omega) (by omega) (by omega) (by omega)
  have hbead : ∀ d, d < A 0 → sellN o A p (12 + 5 * d) ≤ 999 := fun d hd => by rw [se_b hd b0]; exact pay_le (h.2.1 d hd).2.2.2.1
  refine Inv_step h hK (se_o (by omega) (by omega)) (fun j hj => se_o (by omega) (by omega)) (fun j hj => eo j (by omega) (by omega) (by omega) (by omega)) (fun i hi => (ll i hi).symm) (by omega) hbead ?_
  refine Cons_live (by omega) (by omega) (by omega) (by omega) (fun i hi => ?_) (fun d hd => hbead d (by omega)) (fun d hd => ?_) (fun q hq => ?_)
  · rw [e9] at hi
    rw [e0, e2, e3, eo (250 + 4 * i) (by omega) (by omega) (by omega) (by omega), eo (251 + 4 * i) (by omega) (by omega) (by omega) (by omega), eo (252 + 4 * i) (by omega) (by omega) (by omega) (by omega), eo (253 + 4 * i) (by omega) (by omega) (by omega) (by omega)]
    exact hlog i hi
  · rw [e0] at hd
    have := h.now.2.2.2.2.2.2.1 d hd
    rw [live_g _ (by omega), live_2, live_0] at this
    rw [e9, e3, eo _ (by omega) (by omega) (by omega) (by omega), this]
    exact sumBH_congr ll
  · rw [e2] at hq
    obtain ⟨d1, d2, d3, d4, d5⟩ := h.piece hq
    rw [e9, e1, eo (150 + 10 * q) (by omega) (by omega) (by omega) (by omega), eo (151 + 10 * q) (by omega) (by omega) (by omega) (by omega), eo (152 + 10 * q) (by omega) (by omega) (by omega) (by omega)]
    refine ⟨d1, isSt_congr (n := A 0) ⟨(eo _ (by omega) (by omega) (by omega) (by omega)).symm, (eo _ (by omega) (by omega) (by omega) (by omega)).symm⟩ (fun b hb => (eo _ (by omega) (by omega) (by omega) (by omega)).symm) (fun i hi => (hlog i hi).2.1) ll d2, by rw [d3]; exact sumP_congr ll, ?_, fun b hb => by rw [eo _ (by omega) (by omega) (by omega) (by omega), d5 b hb]; exact sumPB_congr ll⟩
    by_cases z : q = p
    · rw [z, se_s]; omega
    · rw [eo _ (by omega) (by omega) (by omega) (by omega)]; exact d4
end SELLN
section SELL
variable {A : Nat → Nat} {x : XS} {y : MS} {o : LAW}
theorem allS_le (ho : ∀ q, o = some q → ∀ v, q v ≤ topL 3) {p : Nat} (hI : Inv A) (hp : p < A 2) : ∀ n, n ≤ A 0 → allS o A p n ≤ n * 360 := fun n hn => sumR_le (fun b hb => by
  have := hI.b
  show shB o A p b ≤ 360
  unfold shB
  split
  · omega
  · exact shV_le ho hI hp (by omega))
theorem shB_le (ho : ∀ q, o = some q → ∀ v, q v ≤ topL 3) {p b : Nat} (hI : Inv A) (hp : p < A 2) (hb : b < 6) : shB o A p b ≤ 360 := by
  unfold shB
  split
  · omega
  · exact shV_le ho hI hp hb
theorem c_sell {Post : Int32 → XS → Prop} {a0 : Int32} (hI : Inv A) (hx : RX x.1 x.2.1 A) (jc : JTc x.2.2 (x.1 38) (x.1 39) 3 o) (ho : ∀ q, o = some q → ∀ v, q v ≤ topL 3)
    (h1 : ∀ p x', p < A 2 → a0 = nI p → A (151 + 10 * p) = 1 → A (153 + 10 * p) = 0 → XFr x x' → RX x'.1 x'.2.1 (sellN o A p) → Post (nI (sumR (fun _ => true) (payB o A p) (A 0))) x') (h0 : ¬ (∃ p, p < A 2 ∧ a0 = nI p ∧ A (151 + 10 * p) = 1 ∧ A (153 + 10 * p) = 0) → Post (-1) x) : VC_X11_sell_0 Post a0 x := by
  obtain ⟨b0, b1, b2, b3, b4, b5, b6, b7, b8, b9⟩ := hI.b
  obtain ⟨r1, r2, r3, r4, r5, r6⟩ := id hx
  refine c_stateOf hI r1 r2 r3 (fun p hp e0 => ?_) (fun hn => ⟨fun _ => h0 (fun ⟨p, z1, z2, _⟩ => hn ⟨p, z1, z2⟩), fun z => absurd z (by decide)⟩)
  subst e0
  have uq : ∀ p', p' < A 2 → nI p = nI p' → p' = p := fun p' hp' e => ((nI_eq (by omega) (by omega)).mp e).symm
  have hst2 : A (151 + 10 * p) ≤ 2 := by
    rcases (hI.piece hp).2.1 with ⟨-, z⟩ | ⟨-, -, z⟩ | ⟨-, -, z⟩ <;> omega
  have hs1 := (hI.piece hp).2.2.2.1
  have hka := (hI.piece hp).1
  have hkk := hI.2.2.2.1 _ hka
  rw [L1, neq (by omega) (by omega)]
  refine ⟨fun ne => h0 (fun ⟨p', z1, z2, z3, _⟩ => ne (by rw [← uq p' z1 z2]; exact z3)), fun st1 => ⟨vp_in_nI (by omega) (by decide), ?_⟩⟩
  rw [ncl (by omega), (r3.2.2.2.1 p hp).2, L0, neq (by omega) (by omega)]
  refine ⟨fun so0 => ?_, fun ne => h0 (fun ⟨p', z1, z2, z3, z4⟩ => ne (by rw [← uq p' z1 z2]; exact z4))⟩
  have post := fun x' => h1 p x' hp rfl st1 so0
  -- shares
  intro K hK
  have pay : ∀ x2 : XS, XFr x x2 → NFr x x2 → (∀ b, b < A 0 → x2.2.1 59 b = nI (shB o A p b)) → VC_X11_payOut_0 (fun r6 S5 => Post r6 S5) (nI p) (nI (allS o A p (A 0))) x2 := by
    intro x2 fx nx hsh
    obtain ⟨t1, t2, t3, ⟨s1, f, s2, s3, s4⟩, t5, t6⟩ := RX_frame hI hx nx
    obtain ⟨o', hK'⟩ := keepN_kept b6
    have al := allS_le ho hI hp (A 0) (Nat.le_refl _)
    intro K2 hK2
    refine c_push (s := A 6) (f := f) b6 s2 s1 s3 (fun x4 o'' k1 r ho' hk1 hr i1 f4 g4 p1 p0 ph pw pp pb => ?_)
    have eo' : o'' = o' := by have := hK'.1; omega
    subst eo'
    have hr2 : r ≤ 232 := (by omega)
    refine ⟨vp_in_nI (by omega) (by decide), ?_⟩
    rw [ncl (by omega), f4 12 (by decide), (t3.2.2.2.1 p hp).1, ncl (by omega), f4 10 (by decide), (t2.2 _ hka).2.2]
    refine ⟨vp_in_nI (by omega) (by decide), fun v3 e3 => ?_⟩
    rw [e3]
    have eo : ∀ j, j ≠ 6 → j ≠ 153 + 10 * p → j < 410 → (j < 10 ∨ 40 ≤ j ∨ j % 5 ≠ 2) → sellN o A p j = A j := fun j j6 j1 jj j2 => by rw [se_o j1 (by omega), keepN_lo A jj j6]
    -- behind the loop
    have fin : ∀ (i : Nat) (x5 : XS), x5.1 = x4.1 → (∀ j, j ≠ 5 → j ≠ 16 → x5.2.1 j = x4.2.1 j) → x5.2.2 = x4.2.2 → (∀ b, b < A 0 → x5.2.1 5 b = nI (sellN o A p (12 + 5 * b))) → (∀ b, b < A 0 → x5.2.1 16 (r + 2 + b) = nI (sellN o A p (12 + 5 * b)) - nI (A (12 + 5 * b))) → (∀ j, (j < r + 2 ∨ r + 2 + A 0 ≤ j) → x5.2.1 16 j = x4.2.1 16 j) → K2 (.inr (nI p, nI (allS o A p (A 0)), nI r, nI (A (42 + 3 * A (150 + 10 * p))), nI (sumR (fun _ => true) (payB o A p) (A 0)), nI i)) x5 := by
      intro i x5 z1 z2 z3 z4 z5 z6
      refine hK2 _ _ ⟨vp_in_nI (by omega) (by decide), fun x6 e6 => ?_⟩
      rw [ncl (by omega)] at e6
      have I6 : ∀ j, j ≠ 480 → j ≠ 481 → x6.1 j = x2.1 j := fun j w1 w2 => by rw [e6, xF_i, z1, i1 j w1 w2]
      have F6 : ∀ j, j ≠ 5 → j ≠ 13 → j ≠ 16 → x6.2.1 j = x2.2.1 j := fun j w1 w2 w3 => by rw [e6, xF_o _ _ _ _ w2, z2 j w1 w3, f4 j w3]
      have F5 : x6.2.1 5 = x5.2.1 5 := by rw [e6, xF_o _ _ _ _ (by decide)]
      have F16 : x6.2.1 16 = x5.2.1 16 := by rw [e6, xF_o _ _ _ _ (by decide)]
      have F13 : x6.2.1 13 = upd (x2.2.1 13) p 1 := by rw [e6, xF_s, z2 13 (by decide) (by decide), f4 13 (by decide)]
      have G6 : x6.2.2 = x2.2.2 := by rw [e6, xF_22, z3, g4]
      have fx6 : XFr x x6 := by
        refine fx.trans ⟨?_, ?_, G6, F6 42 (by decide) (by decide) (by decide), I6 _ (by decide) (by decide), I6 _ (by decide) (by decide), I6 _ (by decide) (by decide), I6 _ (by decide) (by decide)⟩
        · funext j; unfold kI; split
          · rw [I6 _ (by omega) (by omega)]
          · rfl
        · funext j; unfold kF; split
          · rw [F6 _ (by omega) (by omega) (by omega)]
          · rfl
      refine post x6 fx6 ⟨⟨by rw [I6 64 (by decide) (by decide), eo 0 (by omega) (by omega) (by omega) (by omega)]; exact t1.1, fun i hi => ?_⟩, rxWares_of t2 b1 (I6 224 (by decide) (by decide)) (fun j _ _ _ => F6 j (by omega) (by omega) (by omega)) (fun j hj => eo j (by omega) (by omega) (by omega) (by omega)), ⟨by rw [I6 352 (by decide) (by decide), eo 3 (by omega) (by omega) (by omega) (by omega)]; exact t3.1, by rw [I6 353 (by decide) (by decide), eo 2 (by omega) (by omega) (by omega) (by omega)]; exact t3.2.1, by rw [I6 356 (by decide) (by decide), eo 9 (by omega) (by omega) (by omega) (by omega)]; exact t3.2.2.1, fun q hq => ?_, fun i hi => ?_⟩, ?_, rxTalk_of t5 b7 b8 ⟨I6 544 (by decide) (by decide), I6 546 (by decide) (by decide)⟩ (fun j _ _ => F6 j (by omega) (by omega) (by omega)) (fun j hj => eo j (by omega) (by omega) (by omega) (by omega)), rxText_of t6 ⟨I6 38 (by decide) (by decide), I6 39 (by decide) (by decide)⟩ ⟨eo 4 (by omega) (by omega) (by omega) (by omega), eo 5 (by omega) (by omega) (by omega) (by omega)⟩⟩
      · rw [eo 0 (by omega) (by omega) (by omega) (by omega)] at hi
        obtain ⟨q1, q2, q3, q4⟩ := t1.2 i hi
        rw [F6 3 (by decide) (by decide) (by decide), F6 4 (by decide) (by decide) (by decide), F6 6 (by decide) (by decide) (by decide), F5, eo (10 + 5 * i) (by omega) (by omega) (by omega) (by omega), eo (11 + 5 * i) (by omega) (by omega) (by omega) (by omega), eo (14 + 5 * i) (by omega) (by omega) (by omega) (by omega)]
        exact ⟨q1, q2, z4 i hi, q4⟩
      · rw [eo 2 (by omega) (by omega) (by omega) (by omega)] at hq
        obtain ⟨q1, q2⟩ := t3.2.2.2.1 q hq
        rw [F6 12 (by decide) (by decide) (by decide), F13, eo (150 + 10 * q) (by omega) (by omega) (by omega) (by omega)]
        refine ⟨q1, ?_⟩
        by_cases z : q = p
        · rw [z, upd_s, se_s]; rfl
        · rw [upd_n _ _ z, eo _ (by omega) (by omega) (by omega) (by omega)]; exact q2
      · rw [eo 9 (by omega) (by omega) (by omega) (by omega)] at hi
        rw [F6 14 (by decide) (by decide) (by decide), eo _ (by omega) (by omega) (by omega) (by omega)]; exact t3.2.2.2.2 i hi
      · refine rxSteps_push (I := x2.1) (F := x2.2.1) hI hK' (se_o (by omega) (by omega)) (fun j hj => se_o (by omega) (by omega)) s4 hk1 hr (by rw [e6, xF_i, z1, p1]) (by rw [e6, xF_i, z1, p0]) (fun i hi => by rw [F16, z6 i (by omega), ph i hi]) ?_
        refine ⟨3, by rw [F16, z6 _ (by omega), pw]; rfl, (by omega), fun z => absurd z (by decide), fun z => absurd z (by decide), fun z => absurd z (by decide), fun _ => ⟨?_, ?_, ?_, p, ?_, ?_, ?_, fun q hq hne => ?_⟩, fun z => absurd rfl z, fun q hq => ?_, ?_, fun d hd => ?_, fun d hd hd2 => ?_⟩
        · rw [live_1, live_1, eo 2 (by omega) (by omega) (by omega) (by omega)]
        · rw [live_2, live_2, eo 9 (by omega) (by omega) (by omega) (by omega)]
        · rw [live_0, live_0, eo 3 (by omega) (by omega) (by omega) (by omega)]
        · rw [live_1]; exact hp
        · rw [F16, z6 _ (by omega), pp]
        · rw [show 19 + 10 * p = 16 + (10 * p + 3) by omega, live_p, show 150 + (10 * p + 3) = 153 + 10 * p by omega]; exact so0
        · rw [live_1] at hq
          rw [show 19 + 10 * q = 16 + (10 * q + 3) by omega, live_p, live_p, eo _ (by omega) (by omega) (by omega) (by omega)]
        · rw [live_1] at hq
          rw [live_p, live_p, eo _ (by omega) (by omega) (by omega) (by omega)]
        · rw [live_3, live_3, eo 0 (by omega) (by omega) (by omega) (by omega)]; omega
        · rw [live_3] at hd
          rw [F16, live_b _ (by omega), live_b _ (by omega)]; exact z5 d hd
        · rw [live_3] at hd
          rw [F16, z6 _ (by omega), pb d hd2]
    by_cases za : allS o A p (A 0) = 0
    · have p0' : ∀ b, payB o A p b = 0 := fun b => by unfold payB; rw [if_pos za]
      have sum0 : sumR (fun _ => true) (payB o A p) (A 0) = 0 := by
        have : ∀ n, sumR (fun _ => true) (payB o A p) n = 0 := by
          intro n
          induction n with
          | zero => rfl
          | succ n ih => show sumR _ _ n + (if true = true then payB o A p n else 0) = 0; rw [ih, p0' n]; rfl
        exact this _
      have ff := fin 0 x4 rfl (fun _ _ _ => rfl) rfl (fun b hb => by rw [f4 5 (by decide), (t1.2 b hb).2.2.1, se_b hb b0, p0' b, Nat.add_zero]) (fun b hb => by rw [pb b (by omega), se_b hb b0, p0' b, Nat.add_zero, Int32.sub_self]) (fun _ _ => rfl)
      rw [sum0] at ff
      refine hK2 _ _ ⟨fun _ => ff, fun _ => ⟨fun _ => ff, fun z => absurd ?_ z⟩⟩
      rw [za]; exact Int32.le_refl _
    · have loop : ∀ n i : Nat, ∀ x5 : XS, i + n = A 0 → x5.1 = x4.1 → (∀ j, j ≠ 5 → j ≠ 16 → x5.2.1 j = x4.2.1 j) → x5.2.2 = x4.2.2 → (∀ b, b < i → x5.2.1 5 b = nI (sellN o A p (12 + 5 * b))) → (∀ b, i ≤ b → x5.2.1 5 b = x4.2.1 5 b) → (∀ b, b < i → x5.2.1 16 (r + 2 + b) = nI (sellN o A p (12 + 5 * b)) - nI (A (12 + 5 * b))) → (∀ j, (j < r + 2 ∨ r + 2 + i ≤ j) → x5.2.1 16 j = x4.2.1 16 j) → K2 (.inl (nI p, nI (allS o A p (A 0)), nI r, nI (A (42 + 3 * A (150 + 10 * p))), nI (sumR (fun _ => true) (payB o A p) i), nI i)) x5 := by
        intro n
        induction n with
        | zero =>
          intro i x5 hi z1 z2 z3 z4 z4' z5 z6
          have ei : i = A 0 := (by omega)
          refine hK2 _ _ ⟨fun _ => ?_, fun z => absurd (by rw [z1, i1 _ (by decide) (by decide), t1.1, ei]; exact Int32.le_refl _) z⟩
          rw [ei] at z4 z5 z6 ⊢
          exact fin (A 0) x5 z1 z2 z3 z4 z5 z6
        | succ n ih =>
          intro i x5 hi z1 z2 z3 z4 z4' z5 z6
          have inb : vp_in (nI i) 6 := vp_in_nI (by omega) (by decide)
          have bi := (hI.2.1 i (by omega)).2.2.2.1
          have shi := shB_le ho hI hp (b := i) (by omega)
          have mw : A (42 + 3 * A (150 + 10 * p)) * shB o A p i ≤ 999 * 360 := Nat.mul_le_mul (by omega) shi
          have dv : A (42 + 3 * A (150 + 10 * p)) * shB o A p i / allS o A p (A 0) ≤ 999 * 360 := Nat.le_trans (Nat.div_le_self _ _) mw
          refine hK2 _ _ ⟨fun z => absurd z (by rw [z1, i1 _ (by decide) (by decide), t1.1]; exact nI_ge (by omega) (by omega)), fun _ => ?_⟩
          rw [L0, nle (by omega) (by omega), neq (by omega) (by omega)]
          refine ⟨fun z => absurd z (by omega), fun _ => ⟨inb, za, inb, fun v4 e4 => ?_⟩⟩
          rw [ncl (by omega), z4' i (by omega), f4 5 (by decide), (t1.2 i (by omega)).2.2.1, z2 59 (by decide) (by decide), f4 59 (by decide), hsh i (by omega), L999, nsub bi, nmul, pk_div (by omega) (by omega) (by omega), nite (by omega) (by omega)] at e4
          have ev : v4 = nI (payB o A p i) := by
            rw [e4]
            unfold payB
            rw [if_neg za]
            split <;> rfl
          have ar : (nI r + 2) + nI i = nI (r + 2 + i) := by rw [L2, nadd, nadd]
          refine ⟨inb, fun w1 d1 => ⟨inb, fun x6 d6 => ⟨by rw [ar]; exact vp_in_nI (by omega) (by decide), fun x7 d7 w6 d8 w7 d9 => ?_⟩⟩⟩
          rw [ncl (by omega), z4' i (by omega), f4 5 (by decide), (t1.2 i (by omega)).2.2.1, ev, nadd] at d1
          rw [ncl (by omega), d1] at d6
          rw [ar, ncl (by omega), ev, d6, xF_o _ _ _ _ (by decide)] at d7
          rw [d8, d9, ev, nI_1, nadd]
          refine ih (i + 1) x7 (by omega) (by rw [d7, xF_i, xF_i, z1]) (fun j j1 j2 => by rw [d7, xF_o _ _ _ _ j2, xF_o _ _ _ _ j1, z2 j j1 j2]) (by rw [d7, xF_22, xF_22, z3]) (fun b hb => ?_) (fun b hb => ?_) (fun b hb => ?_) (fun j hj => ?_)
          · rw [d7, xF_o _ _ _ _ (by decide), xF_s]
            by_cases z : b = i
            · rw [z, upd_s, se_b (by omega) b0]
            · rw [upd_n _ _ z, z4 b (by omega)]
          · rw [d7, xF_o _ _ _ _ (by decide), xF_s, upd_n _ _ (by omega), z4' b (by omega)]
          · rw [d7, xF_s]
            by_cases z : b = i
            · rw [z, upd_s, se_b (by omega) b0, nsub (by omega)]; congr 1; omega
            · rw [upd_n _ _ (by omega), z5 b (by omega)]
          · rw [d7, xF_s, upd_n _ _ (by omega), z6 j (by omega)]
      exact loop (A 0) 0 x4 (by omega) rfl (fun _ _ _ => rfl) rfl (fun b hb => absurd hb (by omega)) (fun _ _ => rfl) (fun b hb => absurd hb (by omega)) (fun _ _ => rfl)
  have loop : ∀ n i : Nat, ∀ x2 : XS, i + n = A 0 → XFr x x2 → NFr x x2 → (∀ b, b < i → x2.2.1 59 b = nI (shB o A p b)) → K (.inl (nI p, nI (allS o A p i), nI i)) x2 := by
    intro n
    induction n with
    | zero =>
      intro i x2 hi fx nx hsh
      have ei : i = A 0 := (by omega)
      refine hK _ _ ⟨fun _ => ?_, fun z => absurd (by rw [nx.1 64 (by decide), r1.1, ei]; exact Int32.le_refl _) z⟩
      rw [ei]
      exact pay x2 fx nx (fun b hb => hsh b (by omega))
    | succ n ih =>
      intro i x2 hi fx nx hsh
      have hx2 := RX_frame hI hx nx
      have gi := (hI.piece hp).2.2.2.2 i (by omega)
      have gl := gv_le hI hp (b := i) (by omega)
      have st : ∀ (x3 : XS) (s : Nat), XFr x x3 → NFr x x3 → (∀ b, b < i → x3.2.1 59 b = nI (shB o A p b)) → s = shB o A p i → K (.inr (nI p, nI (allS o A p i), nI i, nI i, nI s)) x3 := fun x3 s fx3 nx3 hsh3 es => by
        refine hK _ _ ⟨vp_in_nI (by omega) (by decide), fun S5 e5 => ⟨vp_in_nI (by omega) (by decide), fun v6 e6 v7 e7 => ?_⟩⟩
        rw [ncl (by omega)] at e5
        rw [e5, ncl (by omega), xF_s, upd_s, nadd, es] at e6
        rw [e6, e7, nI_1]
        refine ih (i + 1) S5 (by omega) (by rw [e5]; exact fx3.F _ _ (by omega)) (by rw [e5]; exact nx3.F _ _ (by omega)) (fun b hb => ?_)
        rw [e5, xF_s]
        by_cases z : b = i
        · rw [z, upd_s, es]
        · rw [upd_n _ _ z, hsh3 b (by omega)]
      refine hK _ _ ⟨fun z => absurd z (by rw [nx.1 64 (by decide), r1.1]; exact nI_ge (by omega) (by omega)), fun _ => ?_⟩
      refine c_sumPB hI hx2.2.2.1 rfl rfl rfl (by omega) (by omega) ?_
      rw [← gi, L0, neq (by omega) (by omega)]
      refine ⟨fun ne => ?_, fun e => st x2 0 fx nx hsh (by unfold shB; rw [if_pos e])⟩
      refine c_share (o := o) (by rw [fx.2.2.1, nx.1 38 (by decide), nx.1 39 (by decide)]; exact jc) hI hx2 hp (by omega) (fun x3 f3 => st x3 _ (fx.trans f3.X) (nx.trans f3.N) (fun b hb => ?_) (by unfold shB; rw [if_neg ne]))
      rw [f3.2.1 59 (by decide) (by decide)]; exact hsh b hb
  exact loop (A 0) 0 x (by omega) (XFr.refl x) (NFr.refl x) (fun b hb => absurd hb (by omega))
end SELL
