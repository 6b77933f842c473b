/-! plan: the class's cells -/
def RS (kO : Nat → Nat) (W s : Nat) : Nat := setR (fun i => s.testBit i) kO W
def wkOK (A kO : Nat → Nat) (W : Nat) : Prop := W ≤ 4 ∧ (∀ i, i < W → kO i < A 1) ∧ ∀ i j, i < j → j < W → kO i < kO j
theorem wk_inj {A kO : Nat → Nat} {W i j : Nat} (h : wkOK A kO W) (hi : i < W) (hj : j < W) (e : kO i = kO j) : i = j := by
  by_cases z : i < j
  · have := h.2.2 i j z hj; omega
  · by_cases z2 : j < i
    · have := h.2.2 j i z2 hi; omega
    · omega
theorem RS_bit {kO : Nat → Nat} {W s k : Nat} : (RS kO W s).testBit k = true ↔ ∃ i, i < W ∧ s.testBit i = true ∧ kO i = k := setR_bit k
theorem RS_lt {A kO : Nat → Nat} {W s : Nat} (h : wkOK A kO W) (h1 : A 1 ≤ 6) : RS kO W s < 64 := setR_lt (n := 6) (fun i hi => by have := h.2.1 i hi; omega)
theorem RS_lt2 {A kO : Nat → Nat} {W s : Nat} (h : wkOK A kO W) : RS kO W s < 2 ^ A 1 := setR_lt (fun i hi => h.2.1 i hi)
theorem RS_clr {A kO : Nat → Nat} {W s w : Nat} (h : wkOK A kO W) (hw : w < W) : RS kO W (clr s w) = clr (RS kO W s) (kO w) := by
  apply Nat.eq_of_testBit_eq
  intro t
  rw [clr_bit]
  cases e : (RS kO W (clr s w)).testBit t
  · cases e2 : (RS kO W s).testBit t
    · rfl
    · obtain ⟨i, i1, i2, i3⟩ := RS_bit.mp e2
      by_cases z : kO w = t
      · simp [z]
      · have : (RS kO W (clr s w)).testBit t = true := RS_bit.mpr ⟨i, i1, by rw [clr_bit, i2]; simp; intro zz; exact z (by rw [zz]; exact i3), i3⟩
        rw [this] at e; exact absurd e (by decide)
  · obtain ⟨i, i1, i2, i3⟩ := RS_bit.mp e
    rw [clr_bit] at i2
    have i4 : s.testBit i = true := by cases z : s.testBit i; rw [z] at i2; exact absurd i2 (by simp); rfl
    have i5 : ¬ w = i := by intro z; rw [z, i4] at i2; exact absurd i2 (by simp)
    rw [RS_bit.mpr ⟨i, i1, i4, i3⟩]
    have : ¬ kO w = t := fun z => i5 (wk_inj h hw i1 (by rw [z, i3]))
    simp [this]
section TABX
variable {A : Nat → Nat} {sm : Nat → Nat} {co : Nat → Nat → Nat} {H : Nat} {kO : Nat → Nat} {W : Nat}
def AccX (A : Nat → Nat) (sm : Nat → Nat) (co : Nat → Nat → Nat) (H : Nat) (kO : Nat → Nat) (W : Nat) (S : XS) (s h : Nat) (a : Int × Nat × Nat) : Prop := S.2.1 55 (s * 25 + h) = iI a.1 ∧ S.2.1 56 (s * 25 + h) = nI a.2.1 ∧ (a.2.1 = 0 → S.2.1 57 (s * 25 + h) = -1) ∧ (0 < a.2.1 → S.2.1 57 (s * 25 + h) = nI a.2.2 ∧ ∃ w e g, w < W ∧ s.testBit w = true ∧ kO w = a.2.2 / 100 ∧ doF A sm co H (a.2.2 / 100) (a.2.2 % 100 / 10) (a.2.2 % 10) h = some (e, g) ∧ S.2.1 58 (s * 25 + h) = nI (clr s w * 25 + (e + 1)))
theorem AccX_of {S S' : XS} {s h : Nat} {a : Int × Nat × Nat} (e : ∀ k, 55 ≤ k → k ≤ 58 → S'.2.1 k (s * 25 + h) = S.2.1 k (s * 25 + h)) (hA : AccX A sm co H kO W S s h a) : AccX A sm co H kO W S' s h a := by
  unfold AccX
  rw [e 55 (by decide) (by decide), e 56 (by decide) (by decide), e 57 (by decide) (by decide), e 58 (by decide) (by decide)]
  exact hA
def TabX (A : Nat → Nat) (sm : Nat → Nat) (co : Nat → Nat → Nat) (H : Nat) (kO : Nat → Nat) (W : Nat) (S : XS) (h1 : Nat) : Prop := ∀ s h, s < 2 ^ W → h1 ≤ h → h ≤ H → AccX A sm co H kO W S s h (beF A sm co H (RS kO W s) h)
def RowX (A : Nat → Nat) (sm : Nat → Nat) (co : Nat → Nat → Nat) (H : Nat) (kO : Nat → Nat) (W : Nat) (S : XS) (h c : Nat) : Prop := ∀ s, s < 2 ^ W → AccX A sm co H kO W S s h (foF (cdF A sm co H (beF A sm co H) (RS kO W s) h) c)
def OFr (S S' : XS) : Prop := S'.1 = S.1 ∧ (∀ k, k < 55 ∨ 59 ≤ k → S'.2.1 k = S.2.1 k) ∧ S'.2.2 = S.2.2
theorem OFr.refl (S : XS) : OFr S S := ⟨rfl, fun _ _ => rfl, rfl⟩
theorem OFr.trans {x y z : XS} (h : OFr x y) (g : OFr y z) : OFr x z := ⟨g.1.trans h.1, fun k hk => (g.2.1 k hk).trans (h.2.1 k hk), g.2.2.trans h.2.2⟩
theorem OFr.P {x y : XS} (h : OFr x y) : PFr x y := ⟨fun k _ _ => by rw [h.1], fun k hk => h.2.1 k (by omega), h.2.2⟩
theorem cd_b (hc : ∀ h b, co h b ≤ 99) (hk : kbOK A) {R h c : Nat} (hR : R < 2 ^ A 1) {d : Int × Nat} (e : cdF A sm co H (beF A sm co H) R h c = some d) : -3000 ≤ d.1 ∧ d.1 ≤ 999 * (7 : Nat) ∧ 0 < d.2 ∧ d.2 ≤ 7 := by
  unfold cdF at e
  by_cases z : R.testBit (c / 100) = true ∧ c % 100 / 10 ≤ c % 10 ∧ c % 10 < A 0
  · rw [if_pos z] at e
    cases ed : doF A sm co H (c / 100) (c % 100 / 10) (c % 10) h with
    | none => rw [ed] at e; exact absurd e (by simp)
    | some v =>
      rw [ed] at e
      have kk := hk.2 (c / 100) (bit_lt hR z.1)
      have b := doF_b hc kk.2 kk.1 ed
      have ib := bsF_b (sm := sm) (H := H) hc hk 6 (clr R (c / 100)) (v.1 + 1) (clr_lt hR)
      have := Option.some.inj e
      subst this
      have i1 := ib.1
      have i2 := ib.2.1
      have i3 := ib.2.2
      refine ⟨?_, ?_, Nat.succ_pos _, ?_⟩
      · show -3000 ≤ v.2 + (bsF A sm co H 6 (clr R (c / 100)) (v.1 + 1)).1; omega
      · show v.2 + (bsF A sm co H 6 (clr R (c / 100)) (v.1 + 1)).1 ≤ 999 * ((7 : Nat) : Int); omega
      · show (bsF A sm co H 6 (clr R (c / 100)) (v.1 + 1)).2.1 + 1 ≤ 7; omega
  · rw [if_neg z] at e; exact absurd e (by simp)
theorem cd_none {R h c : Nat} (n : ¬ (R.testBit (c / 100) = true ∧ c % 100 / 10 ≤ c % 10 ∧ c % 10 < A 0)) : cdF A sm co H (beF A sm co H) R h c = none := if_neg n
theorem cell_ne {s s' h h' : Nat} (hh : h < 25) (hh' : h' < 25) (n : s ≠ s' ∨ h ≠ h') : s * 25 + h ≠ s' * 25 + h' := (by omega)
theorem c_offer {Post : XS → Prop} {S : XS} {w h c lo hi e : Nat} {g : Int} (hI : Inv A) (hW : wkOK A kO W) (hc : ∀ h b, co h b ≤ 99) (hk : kbOK A) (i1 : S.1 1633 = nI W) (hw : w < W) (hH : H ≤ 24) (hh : h < H) (ec : c = 100 * kO w + (10 * lo + hi)) (hlo : lo ≤ hi) (hhi : hi < A 0) (hd : doF A sm co H (kO w) lo hi h = some (e, g)) (i2 : S.1 1634 = nI e) (i3 : S.1 1635 = iI g) (hT : TabX A sm co H kO W S (h + 1)) (hRw : RowX A sm co H kO W S h c)
    (hP : ∀ S', OFr S S' → TabX A sm co H kO W S' (h + 1) → RowX A sm co H kO W S' h (c + 1) → Post S') : VC_X4_offer_51 Post (nI w) (nI h) (nI c) S := by
  obtain ⟨b0, b1, b2, b3, b4, b5, b6, b7, b8, b9⟩ := hI.b
  have w4 := hW.1
  have kw := hW.2.1 w hw
  have p4 : 2 ^ W ≤ 16 := Nat.pow_le_pow_right (n := 2) (j := 4) (by decide) w4
  have kk := hk.2 (kO w) kw
  have db := doF_b hc kk.2 kk.1 hd
  simp only at db
  have c1 : c / 100 = kO w := (by omega)
  have c2 : c % 100 / 10 = lo := (by omega)
  have c3 : c % 10 = hi := (by omega)
  have sh : (1 : Int32) <<< (nI W &&& 31) = nI (2 ^ W) := by rw [L1, L31, nshl1 (by omega)]
  have shw : (1 : Int32) <<< (nI w &&& 31) = nI (2 ^ w) := by rw [L1, L31, nshl1 (by omega)]
  intro K hK
  have loop : ∀ n i : Nat, ∀ U : XS, i + n = 2 ^ W → OFr S U → TabX A sm co H kO W U (h + 1) → (∀ s, s < i → AccX A sm co H kO W U s h (foF (cdF A sm co H (beF A sm co H) (RS kO W s) h) (c + 1))) → (∀ s, i ≤ s → s < 2 ^ W → AccX A sm co H kO W U s h (foF (cdF A sm co H (beF A sm co H) (RS kO W s) h) c)) → K (nI w, nI h, nI c, nI i) U := by
    intro n
    induction n with
    | zero =>
      intro i U hi' fU tU lo' hi2
      have ei : i = 2 ^ W := (by omega)
      refine hK _ _ ⟨fun _ => hP U fU tU (fun s hs => lo' s (by omega)), fun z => absurd ?_ z⟩
      rw [fU.1, i1, sh, ei]; exact Int32.le_refl _
    | succ n ih =>
      intro i U hi' fU tU lo' hi2
      have hR : RS kO W i < 2 ^ A 1 := RS_lt2 hW
      have acc := hi2 i (Nat.le_refl _) (by omega)
      refine hK _ _ ⟨fun z => absurd z (by rw [fU.1, i1, sh]; exact nI_ge (by omega) (by omega)), fun _ => ?_⟩
      rw [shw, fU.1, i2, i3]
      rw [show ((nI i >>> (nI w &&& 31)) &&& 1 = (0 : Int32)) = (i.testBit w = false) by rw [L31, L1, L0, nbit0 (by omega) (by omega)]]
      refine ⟨fun hb v1 e1 => ?_, fun hb => ?_⟩
      · rw [e1, nI_1]
        have none' : cdF A sm co H (beF A sm co H) (RS kO W i) h c = none := cd_none (fun z => by
          rw [c1] at z
          obtain ⟨j, j1, j2, j3⟩ := RS_bit.mp z.1
          rw [wk_inj hW j1 hw j3, hb] at j2
          exact absurd j2 (by decide))
        refine ih (i + 1) U (by omega) fU tU (fun s hs => ?_) (fun s h1 h2 => hi2 s (by omega) h2)
        by_cases z : s = i
        · rw [z]
          have : foF (cdF A sm co H (beF A sm co H) (RS kO W i) h) (c + 1) = foF (cdF A sm co H (beF A sm co H) (RS kO W i) h) c := by
            conv => lhs; unfold foF
            rw [none']; rfl
          rw [this]; exact acc
        · exact lo' s (by omega)
      · have hb1 : i.testBit w = true := by cases z : i.testBit w; exact absurd z hb; rfl
        have er2 : nI i * 25 + nI h = nI (i * 25 + h) := by rw [L25, nmul, nadd]
        have cl16 : clr i w < 2 ^ W := clr_lt (by omega)
        have er3 : (nI i &&& (nI (2 ^ w) ^^^ -1)) * 25 + (nI e + 1) = nI (clr i w * 25 + (e + 1)) := by rw [L1, nclr (by omega), L25, nmul, nadd, nadd]
        show vp_in ((nI i &&& (nI (2 ^ w) ^^^ -1)) * 25 + (nI e + 1)) 400 ∧ _
        rw [er2, er3]
        have rest := tU (clr i w) (e + 1) cl16 (by omega) (by omega)
        rw [RS_clr hW hw] at rest
        obtain ⟨q1, q2, -, -⟩ := rest
        refine ⟨vp_in_nI (by omega) (by decide), fun v4 e4 => ⟨vp_in_nI (by omega) (by decide), fun v5 e5 => ?_⟩⟩
        rw [ncl (by omega), q1, iI_add] at e4
        rw [ncl (by omega), q2, L1, nadd, Nat.add_comm] at e5
        generalize hL : (beF A sm co H (clr (RS kO W i) (kO w)) (e + 1)).1 = L at *
        generalize hC : (beF A sm co H (clr (RS kO W i) (kO w)) (e + 1)).2.1 = C at *
        have some' : cdF A sm co H (beF A sm co H) (RS kO W i) h c = some (g + L, C + 1) := by
          unfold cdF
          rw [c1, c2, c3, if_pos ⟨RS_bit.mpr ⟨w, hw, hb1, rfl⟩, hlo, hhi⟩, hd]
          show some _ = some _
          rw [hL, hC]
        have bd := cd_b hc hk hR some'
        simp only at bd
        have fb := foF_b (f := cdF A sm co H (beF A sm co H) (RS kO W i) h) (m := 7) (fun c' d' e' => ⟨(cd_b hc hk hR e').2.1, (cd_b hc hk hR e').2.2.2⟩) c
        have pk := foF_pk (f := cdF A sm co H (beF A sm co H) (RS kO W i) h) (fun c' d' e' => (cd_b hc hk hR e').2.2.1) c
        have eq1 : foF (cdF A sm co H (beF A sm co H) (RS kO W i) h) (c + 1) = stF (foF (cdF A sm co H (beF A sm co H) (RS kO W i) h) c) c (g + L, C + 1) := by
          conv => lhs; unfold foF
          rw [some']; rfl
        obtain ⟨a1, a2, a3, a4⟩ := id acc
        generalize hacc : foF (cdF A sm co H (beF A sm co H) (RS kO W i) h) c = a at *
        obtain ⟨f1, f2, f3⟩ := fb
        -- better or not
        have yes : ¬ ((g + L) < a.1 ∨ ((g + L) = a.1 ∧ a.2.1 ≤ C + 1)) → vp_in (nI (i * 25 + h)) 400 ∧ ∀ S9 : XS, S9 = xF U 55 (upd (U.2.1 55) (i * 25 + h) v4) → vp_in (nI (i * 25 + h)) 400 ∧ ∀ S10 : XS, S10 = xF S9 56 (upd (S9.2.1 56) (i * 25 + h) v5) → vp_in (nI (i * 25 + h)) 400 ∧ ∀ S11 : XS, S11 = xF S10 57 (upd (S10.2.1 57) (i * 25 + h) (nI c)) → vp_in (nI (i * 25 + h)) 400 ∧ ∀ S12 : XS, S12 = xF S11 58 (upd (S11.2.1 58) (i * 25 + h) (nI (clr i w * 25 + (e + 1)))) → ∀ v13 : Int32, v13 = nI i + 1 → K (nI w, nI h, nI c, v13) S12 := fun hy => by
          refine ⟨vp_in_nI (by omega) (by decide), fun S9 e9 => ⟨vp_in_nI (by omega) (by decide), fun S10 e10 => ⟨vp_in_nI (by omega) (by decide), fun S11 e11 => ⟨vp_in_nI (by omega) (by decide), fun S12 e12 v13 e13 => ?_⟩⟩⟩⟩
          have g55 : S12.2.1 55 = upd (U.2.1 55) (i * 25 + h) v4 := by rw [e12, xF_o _ _ _ _ (by decide), e11, xF_o _ _ _ _ (by decide), e10, xF_o _ _ _ _ (by decide), e9, xF_s]
          have g56 : S12.2.1 56 = upd (U.2.1 56) (i * 25 + h) v5 := by rw [e12, xF_o _ _ _ _ (by decide), e11, xF_o _ _ _ _ (by decide), e10, xF_s, e9, xF_o _ _ _ _ (by decide)]
          have g57 : S12.2.1 57 = upd (U.2.1 57) (i * 25 + h) (nI c) := by rw [e12, xF_o _ _ _ _ (by decide), e11, xF_s, e10, xF_o _ _ _ _ (by decide), e9, xF_o _ _ _ _ (by decide)]
          have g58 : S12.2.1 58 = upd (U.2.1 58) (i * 25 + h) (nI (clr i w * 25 + (e + 1))) := by rw [e12, xF_s, e11, xF_o _ _ _ _ (by decide), e10, xF_o _ _ _ _ (by decide), e9, xF_o _ _ _ _ (by decide)]
          have oth : ∀ s' h', s' * 25 + h' ≠ i * 25 + h → ∀ k, 55 ≤ k → k ≤ 58 → S12.2.1 k (s' * 25 + h') = U.2.1 k (s' * 25 + h') := fun s' h' n k k1 k2 => by
            have : k = 55 ∨ k = 56 ∨ k = 57 ∨ k = 58 := (by omega)
            rcases this with z | z | z | z <;> subst z
            · rw [g55, upd_n _ _ n]
            · rw [g56, upd_n _ _ n]
            · rw [g57, upd_n _ _ n]
            · rw [g58, upd_n _ _ n]
          rw [e13, nI_1]
          refine ih (i + 1) S12 (by omega) ⟨by rw [e12, xF_i, e11, xF_i, e10, xF_i, e9, xF_i, fU.1], fun k hk' => by rw [e12, xF_o _ _ _ _ (by omega), e11, xF_o _ _ _ _ (by omega), e10, xF_o _ _ _ _ (by omega), e9, xF_o _ _ _ _ (by omega), fU.2.1 k hk'], by rw [e12, xF_22, e11, xF_22, e10, xF_22, e9, xF_22, fU.2.2]⟩ (fun s' h' u1 u2 u3 => AccX_of (oth s' h' (cell_ne (by omega) (by omega) (by omega))) (tU s' h' u1 u2 u3)) (fun s' hs => ?_) (fun s' u1 u2 => AccX_of (oth s' h (cell_ne (by omega) (by omega) (by omega))) (hi2 s' (by omega) u2))
          by_cases z : s' = i
          · rw [z, eq1]
            unfold stF
            rw [if_neg hy]
            refine ⟨by rw [g55, upd_s, e4], by rw [g56, upd_s, e5], fun z0 => absurd z0 (Nat.succ_ne_zero _), fun _ => ⟨by rw [g57, upd_s], w, e, g, hw, hb1, c1.symm, ?_, by rw [g58, upd_s]⟩⟩
            show doF A sm co H (c / 100) (c % 100 / 10) (c % 10) h = some (e, g)
            rw [c1, c2, c3]; exact hd
          · exact AccX_of (oth s' h (cell_ne (by omega) (by omega) (by omega))) (lo' s' (by omega))
        have no : ((g + L) < a.1 ∨ ((g + L) = a.1 ∧ a.2.1 ≤ C + 1)) → ∀ v8 : Int32, v8 = nI i + 1 → K (nI w, nI h, nI c, v8) U := fun hn v8 e8 => by
          rw [e8, nI_1]
          refine ih (i + 1) U (by omega) fU tU (fun s' hs => ?_) (fun s' u1 u2 => hi2 s' (by omega) u2)
          by_cases z : s' = i
          · rw [z, eq1]
            unfold stF
            rw [if_pos hn, ← hacc]
            rw [hacc]; exact acc
          · exact lo' s' (by omega)
        refine ⟨vp_in_nI (by omega) (by decide), ?_⟩
        rw [ncl (by omega), a1, a2, e4, e5, iI_eq (by omega) (by omega) (by omega) (by omega), iI_le (by omega) (by omega) (by omega) (by omega), neq (by omega) (by omega), nle (by omega) (by omega)]
        have f1' : 0 ≤ a.1 := f1
        refine ⟨fun ee => ⟨vp_in_nI (by omega) (by decide), fun en => ⟨vp_in_nI (by omega) (by decide), fun _ => ⟨fun _ => no (Or.inr ⟨ee, (by omega)⟩), fun z => absurd rfl z⟩, fun hgt => ?_⟩, fun nn => ⟨vp_in_nI (by omega) (by decide), fun hle => ⟨fun _ => no (Or.inr ⟨ee, hle⟩), fun z => absurd rfl z⟩, fun hgt => ⟨fun z => absurd z (by decide), fun _ => ?_⟩⟩⟩, fun ne => ⟨vp_in_nI (by omega) (by decide), fun hle => ⟨fun _ => no (Or.inl (by omega)), fun z => absurd rfl z⟩, fun hgt => ⟨fun z => absurd z (by decide), fun _ => ?_⟩⟩⟩
        · exfalso
          have p0 : 0 < a.2.1 := (by omega)
          rw [(a4 p0).1] at hgt
          exact hgt (nI_le (by have := (pk.2.2 p0).1; omega) (by omega))
        · rw [← e4, ← e5]; exact yes (fun z => z.elim (fun z => absurd z (by omega)) (fun z => absurd z.2 (by omega)))
        · rw [← e4, ← e5]; exact yes (fun z => z.elim (fun z => absurd z (by omega)) (fun z => absurd z.1 (by omega)))
  exact loop (2 ^ W) 0 S (by omega) (OFr.refl S) hT (fun s hs => absurd hs (by omega)) (fun s _ hs => hRw s hs)
/-- all teams for one work -/
theorem c_teams {Post : XS → Prop} {S : XS} {w h : Nat} (hI : Inv A) (hx : RX S.1 S.2.1 A) (hW : wkOK A kO W) (hs : ∀ h, sm h ≤ 40) (hc : ∀ h b, co h b ≤ 99) (hk : kbOK A) (hla : laX S A sm co H) (i1 : S.1 1633 = nI W) (hkO : ∀ i, i < W → S.2.1 54 i = nI (kO i)) (hw : w < W) (hH : H ≤ 24) (hh : h < H) (hT : TabX A sm co H kO W S (h + 1)) (hRw : RowX A sm co H kO W S h (100 * kO w))
    (hP : ∀ S', PFr S S' → laX S' A sm co H → S'.1 1633 = nI W → (∀ i, i < W → S'.2.1 54 i = nI (kO i)) → TabX A sm co H kO W S' (h + 1) → RowX A sm co H kO W S' h (100 * (kO w + 1)) → Post S') : VC_X4_tryTeams_51_1 Post (nI w) (nI h) S := by
  obtain ⟨b0, b1, b2, b3, b4, b5, b6, b7, b8, b9⟩ := hI.b
  have w4 := hW.1
  have kw := hW.2.1 w hw
  intro K hK
  have skip : ∀ {U : XS} {c c' : Nat}, c ≤ c' → (∀ d, c ≤ d → d < c' → ¬ (d % 100 / 10 ≤ d % 10 ∧ d % 10 < A 0)) → RowX A sm co H kO W U h c → RowX A sm co H kO W U h c' := fun {U c c'} h1 h2 hr s hs => by
    rw [foF_skip h1 (fun d u1 u2 => cd_none (fun z => h2 d u1 u2 z.2))]
    exact hr s hs
  have outer : ∀ n lo : Nat, ∀ U : XS, lo + n = A 0 → PFr S U → laX U A sm co H → U.1 1633 = nI W → (∀ i, i < W → U.2.1 54 i = nI (kO i)) → TabX A sm co H kO W U (h + 1) → RowX A sm co H kO W U h (100 * kO w + 10 * lo) → K (.inl (nI w, nI h, nI lo)) U := by
    intro n
    induction n with
    | zero =>
      intro lo U hn p l u1 u2 t r
      have el : lo = A 0 := (by omega)
      refine hK _ _ ⟨fun _ => hP U p l u1 u2 t (skip (c := 100 * kO w + 10 * lo) (by omega) (fun d d1 d2 z => absurd z.2 (by omega)) r), fun z => absurd ?_ z⟩
      rw [(p.R hI hx).1.1, el]; exact Int32.le_refl _
    | succ n ih =>
      intro lo U hn p l u1 u2 t r
      refine hK _ _ ⟨fun z => absurd z (by rw [(p.R hI hx).1.1]; exact nI_ge (by omega) (by omega)), fun _ => ?_⟩
      have inner : ∀ m hi : Nat, ∀ V : XS, hi + m = A 0 → lo ≤ hi → PFr S V → laX V A sm co H → V.1 1633 = nI W → (∀ i, i < W → V.2.1 54 i = nI (kO i)) → TabX A sm co H kO W V (h + 1) → RowX A sm co H kO W V h (100 * kO w + (10 * lo + hi)) → K (.inr (nI w, nI h, nI lo, nI hi)) V := by
        intro m
        induction m with
        | zero =>
          intro hi V hm hl p' l' v1 v2 t' r'
          have eh : hi = A 0 := (by omega)
          refine hK _ _ ⟨fun _ x1 ex1 => ?_, fun z => absurd (by rw [(p'.R hI hx).1.1, eh]; exact Int32.le_refl _) z⟩
          rw [ex1, nI_1]
          exact ih (lo + 1) V (by omega) p' l' v1 v2 t' (skip (c := 100 * kO w + (10 * lo + hi)) (by omega) (fun d d1 d2 z => absurd z.2 (by omega)) r')
        | succ m ihm =>
          intro hi V hm hl p' l' v1 v2 t' r'
          have hx' := p'.R hI hx
          refine hK _ _ ⟨fun z => absurd z (by rw [hx'.1.1]; exact nI_ge (by omega) (by omega)), fun _ => ⟨vp_in_nI (by omega) (by decide), ?_⟩⟩
          rw [ncl (by omega), v2 w hw]
          have cw : (100 * kO w + (10 * lo + hi)) / 100 = kO w := (by omega)
          have cl : (100 * kO w + (10 * lo + hi)) % 100 / 10 = lo := (by omega)
          have chh : (100 * kO w + (10 * lo + hi)) % 10 = hi := (by omega)
          refine c_doneBy hI hx' l' hH hs hc kw (by omega) (by omega) (by omega) (fun d V' ed f' g1 g2 => ⟨fun z => absurd z (by decide), fun _ => ⟨vp_in_nI (by omega) (by decide), ?_⟩⟩) (fun V' ed f' => ⟨fun _ x4 ex4 => ?_, fun z => absurd rfl z⟩)
          · have ep : (100 * (V'.2.1 54 w) + 10 * nI lo) + nI hi = nI (100 * kO w + (10 * lo + hi)) := by
              rw [f'.2, v2 w hw, L100, L10, nmul, nmul, nadd, nadd]; congr 1; omega
            rw [ep]
            have t2 : TabX A sm co H kO W V' (h + 1) := fun s h' a1 a2 a3 => AccX_of (fun k _ _ => by rw [f'.2]) (t' s h' a1 a2 a3)
            have r2 : RowX A sm co H kO W V' h (100 * kO w + (10 * lo + hi)) := fun s a1 => AccX_of (fun k _ _ => by rw [f'.2]) (r' s a1)
            refine c_offer (lo := lo) (hi := hi) (e := d.1) (g := d.2) hI hW hc hk (by rw [f'.1 _ (by decide) (by decide)]; exact v1) hw hH hh rfl hl (by omega) ed g1 g2 t2 r2 (fun V'' f'' t3 r3 x6 ex6 => ?_)
            rw [ex6, nI_1]
            refine ihm (hi + 1) V'' (by omega) (by omega) (p'.trans (f'.P.trans f''.P)) ⟨by rw [f''.1, f'.1 _ (by decide) (by decide)]; exact l'.1, fun u hu => by rw [f''.2.1 52 (by decide), f'.2]; exact l'.2.1 u hu, fun u b hu hb => by rw [f''.2.1 53 (by decide), f'.2]; exact l'.2.2 u b hu hb⟩ (by rw [f''.1, f'.1 _ (by decide) (by decide)]; exact v1) (fun i hi' => by rw [f''.2.1 54 (by decide), f'.2]; exact v2 i hi') t3 r3
          · rw [ex4, nI_1]
            refine ihm (hi + 1) V' (by omega) (by omega) (p'.trans f'.P) ⟨by rw [f'.1 _ (by decide) (by decide)]; exact l'.1, fun u hu => by rw [f'.2]; exact l'.2.1 u hu, fun u b hu hb => by rw [f'.2]; exact l'.2.2 u b hu hb⟩ (by rw [f'.1 _ (by decide) (by decide)]; exact v1) (fun i hi' => by rw [f'.2]; exact v2 i hi') (fun s h' a1 a2 a3 => AccX_of (fun k _ _ => by rw [f'.2]) (t' s h' a1 a2 a3)) (fun s a1 => ?_)
            have none' : cdF A sm co H (beF A sm co H) (RS kO W s) h (100 * kO w + (10 * lo + hi)) = none := by
              unfold cdF
              rw [cw, cl, chh, ed]
              split <;> rfl
            have : foF (cdF A sm co H (beF A sm co H) (RS kO W s) h) (100 * kO w + (10 * lo + hi) + 1) = foF (cdF A sm co H (beF A sm co H) (RS kO W s) h) (100 * kO w + (10 * lo + hi)) := by
              conv => lhs; unfold foF
              rw [none']; rfl
            show AccX A sm co H kO W V' s h (foF _ (100 * kO w + (10 * lo + hi) + 1))
            rw [this]
            exact AccX_of (fun k _ _ => by rw [f'.2]) (r' s a1)
      exact inner (A 0 - lo) lo U (by omega) (Nat.le_refl _) p l u1 u2 t (skip (c := 100 * kO w + 10 * lo) (by omega) (fun d d1 d2 z => absurd z.1 (by omega)) r)
  exact outer (A 0) 0 S (by omega) (PFr.refl S) hla i1 hkO hT hRw
theorem c_empty {Post : XS → Prop} {S : XS} {h : Nat} (hW : wkOK A kO W) (i1 : S.1 1633 = nI W) (hh : h ≤ 24) (hT : TabX A sm co H kO W S (h + 1)) (hH : H ≤ 24)
    (hP : ∀ S', OFr S S' → TabX A sm co H kO W S' (h + 1) → RowX A sm co H kO W S' h 0 → Post S') : VC_X4_emptyCells_51 Post (nI h) S := by
  have w4 := hW.1
  have p4 : 2 ^ W ≤ 16 := Nat.pow_le_pow_right (n := 2) (j := 4) (by decide) w4
  have sh : (1 : Int32) <<< (nI W &&& 31) = nI (2 ^ W) := by rw [L1, L31, nshl1 (by omega)]
  intro K hK
  have loop : ∀ n i : Nat, ∀ U : XS, i + n = 2 ^ W → OFr S U → TabX A sm co H kO W U (h + 1) → (∀ s, s < i → AccX A sm co H kO W U s h (0, 0, 0)) → K (nI h, nI i) U := by
    intro n
    induction n with
    | zero =>
      intro i U hi' fU tU lo'
      have ei : i = 2 ^ W := (by omega)
      refine hK _ _ ⟨fun _ => hP U fU tU (fun s hs => lo' s (by omega)), fun z => absurd ?_ z⟩
      rw [fU.1, i1, sh, ei]; exact Int32.le_refl _
    | succ n ih =>
      intro i U hi' fU tU lo'
      refine hK _ _ ⟨fun z => absurd z (by rw [fU.1, i1, sh]; exact nI_ge (by omega) (by omega)), fun _ => ?_⟩
      have er : nI i * 25 + nI h = nI (i * 25 + h) := by rw [L25, nmul, nadd]
      show vp_in (nI i * 25 + nI h) 400 ∧ _
      rw [er, ncl (by omega)]
      refine ⟨vp_in_nI (by omega) (by decide), fun S9 e9 => ⟨vp_in_nI (by omega) (by decide), fun S10 e10 => ⟨vp_in_nI (by omega) (by decide), fun S11 e11 => ⟨vp_in_nI (by omega) (by decide), fun S12 e12 v13 e13 => ?_⟩⟩⟩⟩
      have g55 : S12.2.1 55 = upd (U.2.1 55) (i * 25 + h) 0 := by rw [e12, xF_o _ _ _ _ (by decide), e11, xF_o _ _ _ _ (by decide), e10, xF_o _ _ _ _ (by decide), e9, xF_s]
      have g56 : S12.2.1 56 = upd (U.2.1 56) (i * 25 + h) 0 := by rw [e12, xF_o _ _ _ _ (by decide), e11, xF_o _ _ _ _ (by decide), e10, xF_s, e9, xF_o _ _ _ _ (by decide)]
      have g57 : S12.2.1 57 = upd (U.2.1 57) (i * 25 + h) (-1) := by rw [e12, xF_o _ _ _ _ (by decide), e11, xF_s, e10, xF_o _ _ _ _ (by decide), e9, xF_o _ _ _ _ (by decide)]
      have g58 : ∀ j, j ≠ i * 25 + h → S12.2.1 58 j = U.2.1 58 j := fun j hj => by rw [e12, xF_s, upd_n _ _ hj, e11, xF_o _ _ _ _ (by decide), e10, xF_o _ _ _ _ (by decide), e9, xF_o _ _ _ _ (by decide)]
      have oth : ∀ s' h', s' * 25 + h' ≠ i * 25 + h → ∀ k, 55 ≤ k → k ≤ 58 → S12.2.1 k (s' * 25 + h') = U.2.1 k (s' * 25 + h') := fun s' h' n k k1 k2 => by
        have : k = 55 ∨ k = 56 ∨ k = 57 ∨ k = 58 := (by omega)
        rcases this with z | z | z | z <;> subst z
        · rw [g55, upd_n _ _ n]
        · rw [g56, upd_n _ _ n]
        · rw [g57, upd_n _ _ n]
        · rw [g58 _ n]
      rw [e13, nI_1]
      refine ih (i + 1) S12 (by omega) ⟨by rw [e12, xF_i, e11, xF_i, e10, xF_i, e9, xF_i, fU.1], fun k hk' => by rw [e12, xF_o _ _ _ _ (by omega), e11, xF_o _ _ _ _ (by omega), e10, xF_o _ _ _ _ (by omega), e9, xF_o _ _ _ _ (by omega), fU.2.1 k hk'], by rw [e12, xF_22, e11, xF_22, e10, xF_22, e9, xF_22, fU.2.2]⟩ (fun s' h' u1 u2 u3 => AccX_of (oth s' h' (cell_ne (by omega) (by omega) (by omega))) (tU s' h' u1 u2 u3)) (fun s' hs => ?_)
      by_cases z : s' = i
      · rw [z]
        exact ⟨by rw [g55, upd_s]; rfl, by rw [g56, upd_s]; rfl, fun _ => by rw [g57, upd_s], fun z0 => absurd z0 (Nat.lt_irrefl 0)⟩
      · exact AccX_of (oth s' h (cell_ne (by omega) (by omega) (by omega))) (lo' s' (by omega))
  exact loop (2 ^ W) 0 S (by omega) (OFr.refl S) hT (fun s hs => absurd hs (by omega))
end TABX
