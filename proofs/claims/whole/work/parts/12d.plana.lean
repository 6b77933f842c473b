/-! plan: the class chooses and answers -/
theorem sumR_more {q : Nat → Bool} {b k m : Nat} (hk : k ≤ b) (hb : b < m) (hq : q b = true) : sumR q (fun _ => 1) k + 1 ≤ sumR q (fun _ => 1) m := by
  have mono : ∀ {a c : Nat}, a ≤ c → sumR q (fun _ => 1) a ≤ sumR q (fun _ => 1) c := by
    intro a c h
    induction c with
    | zero => rw [show a = 0 by omega]; exact Nat.le_refl _
    | succ c ih =>
      by_cases z : a = c + 1
      · rw [z]; exact Nat.le_refl _
      · have := ih (by omega)
        show sumR q (fun _ => 1) a ≤ sumR q (fun _ => 1) c + _
        omega
  have h1 := mono hk
  have h2 : sumR q (fun _ => 1) (b + 1) = sumR q (fun _ => 1) b + 1 := by
    show sumR q (fun _ => 1) b + (if q b then 1 else 0) = _
    rw [if_pos hq]
  have h3 := mono (a := b + 1) (c := m) (by omega)
  omega
def ptF (A : Nat → Nat) (sm : Nat → Nat) (co : Nat → Nat → Nat) (H : Nat) : Nat → Nat → Nat → Nat
  | 0, R, h => (beF A sm co H R h).2.2
  | i + 1, R, h => (doF A sm co H ((beF A sm co H R h).2.2 / 100) ((beF A sm co H R h).2.2 % 100 / 10) ((beF A sm co H R h).2.2 % 10) h).elim 0 (fun d => ptF A sm co H i (clr R ((beF A sm co H R h).2.2 / 100)) (d.1 + 1))
section CHOOSE
variable {A : Nat → Nat} {sm : Nat → Nat} {co : Nat → Nat → Nat} {H : Nat}
theorem be_pk (hc : ∀ h b, co h b ≤ 99) (hk : kbOK A) {R h : Nat} (hR : R < 2 ^ A 1) : pkI (cdF A sm co H (beF A sm co H) R h) 600 (beF A sm co H R h) := by
  have := foF_pk (f := cdF A sm co H (beF A sm co H) R h) (fun c d e => (cd_b hc hk hR e).2.2.1) 600
  rw [← beF_eq (Nat.lt_of_lt_of_le hR (pow6 hk.1))] at this
  exact this
/-- a plan with works: its first one, and the rest -/
theorem be_first (hc : ∀ h b, co h b ≤ 99) (hk : kbOK A) {R h : Nat} (hR : R < 2 ^ A 1) (h0 : 0 < (beF A sm co H R h).2.1) : (beF A sm co H R h).2.2 < 600 ∧ R.testBit ((beF A sm co H R h).2.2 / 100) = true ∧ (beF A sm co H R h).2.2 % 100 / 10 ≤ (beF A sm co H R h).2.2 % 10 ∧ (beF A sm co H R h).2.2 % 10 < A 0 ∧ ∃ d, doF A sm co H ((beF A sm co H R h).2.2 / 100) ((beF A sm co H R h).2.2 % 100 / 10) ((beF A sm co H R h).2.2 % 10) h = some d ∧ (beF A sm co H R h).2.1 = (beF A sm co H (clr R ((beF A sm co H R h).2.2 / 100)) (d.1 + 1)).2.1 + 1 ∧ (beF A sm co H R h).1 = d.2 + (beF A sm co H (clr R ((beF A sm co H R h).2.2 / 100)) (d.1 + 1)).1 := by
  have pk := (be_pk (sm := sm) (H := H) (h := h) hc hk hR).2.2 h0
  have e := pk.2.1
  unfold cdF at e
  by_cases z : R.testBit ((beF A sm co H R h).2.2 / 100) = true ∧ (beF A sm co H R h).2.2 % 100 / 10 ≤ (beF A sm co H R h).2.2 % 10 ∧ (beF A sm co H R h).2.2 % 10 < A 0
  · rw [if_pos z] at e
    cases ed : doF A sm co H ((beF A sm co H R h).2.2 / 100) ((beF A sm co H R h).2.2 % 100 / 10) ((beF A sm co H R h).2.2 % 10) h with
    | none => rw [ed] at e; exact absurd e (by simp)
    | some d =>
      rw [ed] at e
      have := Option.some.inj e
      exact ⟨pk.1, z.1, z.2.1, z.2.2, d, rfl, (congrArg Prod.snd this).symm, (congrArg Prod.fst this).symm⟩
  · rw [if_neg z] at e; exact absurd e (by simp)
theorem doF_H {k lo hi : Nat} : doF A sm co H k lo hi H = none := by
  unfold doF
  rw [Nat.sub_self]; rfl
theorem c_choose {Post : XS → Prop} {S : XS} {s : Nat} (hI : Inv A) (hx : RX S.1 S.2.1 A) (hs : ∀ h, sm h ≤ 40) (hc : ∀ h b, co h b ≤ 99) (hk : kbOK A) (hla : laX S A sm co H) (hH : H ≤ 24) (hsm : s < 2 ^ A 1) (hb4 : bitsN s ≤ 4)
    (hP : ∀ S' kO W, PFr S S' → wkOK A kO W → S'.1 1633 = nI W → RS kO W (2 ^ W - 1) = s → TabX A sm co H kO W S' 0 → Post S') : VC_X4_choose_51_1 Post (nI s) S := by
  obtain ⟨b0, b1, b2, b3, b4, b5, b6, b7, b8, b9⟩ := hI.b
  have p6 : 2 ^ A 1 ≤ 64 := pow6 b1
  intro K hK S1 e1
  -- once the works are known
  have main : ∀ (U : XS) (kO : Nat → Nat) (W : Nat), PFr S U → laX U A sm co H → wkOK A kO W → U.1 1633 = nI W → (∀ i, i < W → U.2.1 54 i = nI (kO i)) → (∀ i, i < W → s.testBit (kO i) = true) → (∀ b, s.testBit b = true → ∃ i, i < W ∧ kO i = b) → K (.inr (.inl (nI s, nI H))) U := by
    intro U kO W pU lU hW iU hkO k1 k2
    have w4 := hW.1
    have full : RS kO W (2 ^ W - 1) = s := by
      apply Nat.eq_of_testBit_eq
      intro t
      cases e : s.testBit t
      · cases e2 : (RS kO W (2 ^ W - 1)).testBit t
        · rfl
        · obtain ⟨i, i1, i2, i3⟩ := RS_bit.mp e2
          have := k1 i i1
          rw [i3, e] at this
          exact absurd this (by decide)
      · obtain ⟨i, i1, i2⟩ := k2 t e
        rw [RS_bit.mpr ⟨i, i1, by rw [Nat.testBit_two_pow_sub_one]; simp [i1], i2⟩]
    have down : ∀ n : Nat, ∀ V : XS, n ≤ H + 1 → PFr S V → laX V A sm co H → V.1 1633 = nI W → (∀ i, i < W → V.2.1 54 i = nI (kO i)) → TabX A sm co H kO W V n → K (.inr (.inl (nI s, nI n - 1))) V := by
      intro n
      induction n with
      | zero =>
        intro V hn pV lV iV kV tV
        exact hK _ _ ⟨fun _ => hP V kO W pV hW iV full tV, fun z => absurd (by decide) z⟩
      | succ n ih =>
        intro V hn pV lV iV kV tV
        rw [nI_pred]
        refine hK _ _ ⟨fun z => absurd z (nI_pos (by omega)), fun _ => ?_⟩
        refine c_empty hW iV (by omega) tV hH (fun V1 f1 t1 r1 => ?_)
        have la1 : laX V1 A sm co H := ⟨by rw [f1.1]; exact lV.1, fun u hu => by rw [f1.2.1 52 (by decide)]; exact lV.2.1 u hu, fun u b hu hb => by rw [f1.2.1 53 (by decide)]; exact lV.2.2 u b hu hb⟩
        have fin : ∀ V' : XS, PFr S V' → laX V' A sm co H → V'.1 1633 = nI W → (∀ i, i < W → V'.2.1 54 i = nI (kO i)) → TabX A sm co H kO W V' (n + 1) → RowX A sm co H kO W V' n 600 → ∀ v : Int32, v = nI n + -1 → K (.inr (.inl (nI s, v))) V' := fun V' p' l' i' k' t' r' v ev => by
          rw [ev, ← Int32.sub_eq_add_neg]
          refine ih V' (by omega) p' l' i' k' (fun s' h' a1 a2 a3 => ?_)
          by_cases z : h' = n
          · rw [z, beF_eq (RS_lt hW b1)]; exact r' s' a1
          · exact t' s' h' a1 (by omega) a3
        by_cases zH : n < H
        · have works : ∀ m w : Nat, ∀ V' : XS, ∀ c : Nat, w + m = W → PFr S V' → laX V' A sm co H → V'.1 1633 = nI W → (∀ i, i < W → V'.2.1 54 i = nI (kO i)) → TabX A sm co H kO W V' (n + 1) → c ≤ 600 → (∀ i, i < w → kO i < c / 100) → (∀ i, w ≤ i → i < W → c ≤ 100 * kO i) → c % 100 = 0 → RowX A sm co H kO W V' n c → K (.inr (.inr (nI s, nI n, nI w))) V' := by
            intro m
            induction m with
            | zero =>
              intro w V' c hw p' l' i' k' t' hc6 hlo hhi hc0 r'
              have ew : w = W := (by omega)
              refine hK _ _ ⟨fun _ v10 e10 => fin V' p' l' i' k' t' (fun s' a1 => ?_) v10 e10, fun z => absurd (by rw [i', ew]; exact Int32.le_refl _) z⟩
              rw [foF_skip hc6 (fun d d1 d2 => cd_none (fun z => ?_))]
              · exact r' s' a1
              · obtain ⟨j, j1, j2, j3⟩ := RS_bit.mp z.1
                have := hlo j (by omega)
                omega
            | succ m ihm =>
              intro w V' c hw p' l' i' k' t' hc6 hlo hhi hc0 r'
              refine hK _ _ ⟨fun z => absurd z (by rw [i']; exact nI_ge (by omega) (by omega)), fun _ => ⟨fun z => absurd z (by rw [l'.1]; exact nI_ge zH (by omega)), fun _ => ?_⟩⟩
              have kw := hW.2.1 w (by omega)
              have cw := hhi w (Nat.le_refl _) (by omega)
              have r2 : RowX A sm co H kO W V' n (100 * kO w) := fun s' a1 => by
                rw [foF_skip cw (fun d d1 d2 => cd_none (fun z => ?_))]
                · exact r' s' a1
                · obtain ⟨j, j1, j2, j3⟩ := RS_bit.mp z.1
                  by_cases zj : j < w
                  · have := hlo j zj; omega
                  · by_cases zj2 : j = w
                    · rw [zj2] at j3; omega
                    · have := hW.2.2 w j (by omega) j1; omega
              refine c_teams hI (p'.R hI hx) hW hs hc hk l' i' k' (by omega) hH zH t' r2 (fun V2 p2 l2 i2 k2' t2 r2' v13 e13 => ?_)
              rw [e13, nI_1]
              refine ihm (w + 1) V2 (100 * (kO w + 1)) (by omega) (p'.trans p2) l2 i2 k2' t2 (by omega) (fun i hi => ?_) (fun i h1 h2 => ?_) (by omega) r2'
              · by_cases z : i = w
                · rw [z]; omega
                · have := hlo i (by omega); have := hW.2.2 i w (by omega) (by omega); omega
              · have := hW.2.2 w i (by omega) h2; omega
          exact works W 0 V1 0 (by omega) (pV.trans f1.P) la1 (by rw [f1.1]; exact iV) (fun i hi => by rw [f1.2.1 54 (by decide)]; exact kV i hi) t1 (by omega) (fun i hi => absurd hi (by omega)) (fun i _ _ => Nat.zero_le _) rfl r1
        · have en : n = H := (by omega)
          have r6 : RowX A sm co H kO W V1 n 600 := fun s' a1 => by
            rw [foF_skip (a := 0) (by omega) (fun d d1 d2 => ?_)]
            · exact r1 s' a1
            · unfold cdF
              rw [en, doF_H]
              split <;> rfl
          have pl : ∀ v : Int32, v = nI n + -1 → K (.inr (.inl (nI s, v))) V1 := fin V1 (pV.trans f1.P) la1 (by rw [f1.1]; exact iV) (fun i hi => by rw [f1.2.1 54 (by decide)]; exact kV i hi) t1 r6
          refine hK _ _ ⟨fun _ v10 e10 => pl v10 e10, fun _ => ⟨fun _ v11 e11 => pl v11 e11, fun z => absurd ?_ z⟩⟩
          rw [la1.1, en]; exact Int32.le_refl _
    have := down (H + 1) U (Nat.le_refl _) pU lU iU hkO (fun s' h' _ a2 a3 => absurd a3 (by omega))
    rw [nI_pred] at this
    exact this
  have p1 : PFr S S1 := by rw [e1]; exact (PFr.refl S).I _ _ (by omega)
  have la0 : laX S1 A sm co H := ⟨by rw [e1, xI_n _ _ (by decide)]; exact hla.1, fun u hu => by rw [e1, xI_f]; exact hla.2.1 u hu, fun u b hu hb => by rw [e1, xI_f]; exact hla.2.2 u b hu hb⟩
  have loop : ∀ n k : Nat, ∀ (U : XS) (kO : Nat → Nat) (W : Nat), k + n = A 1 → PFr S U → laX U A sm co H → U.1 1633 = nI W → W = sumR (fun b => s.testBit b) (fun _ => 1) k → (∀ i, i < W → kO i < k ∧ s.testBit (kO i) = true ∧ U.2.1 54 i = nI (kO i)) → (∀ i j, i < j → j < W → kO i < kO j) → (∀ b, b < k → s.testBit b = true → ∃ i, i < W ∧ kO i = b) → K (.inl (nI s, nI k)) U := by
    intro n
    induction n with
    | zero =>
      intro k U kO W hn p l iU hW1 h1 h2 h3
      have ek : k = A 1 := (by omega)
      have big : ∀ b, s.testBit b = true → b < k := fun b hb => by
        by_cases z : b < k
        · exact z
        · rw [Nat.testBit_lt_two_pow (Nat.lt_of_lt_of_le hsm (Nat.pow_le_pow_right (by decide) (by omega)))] at hb
          exact absurd hb (by decide)
      have wle : W ≤ 4 := by
        have : sumR (fun b => s.testBit b) (fun _ => 1) 10 = sumR (fun b => s.testBit b) (fun _ => 1) k := sumR_tail (by omega) (fun i i1 _ => by cases z : s.testBit i; rfl; exact absurd (big i z) (by omega))
        have hb : bitsN s = sumR (fun b => s.testBit b) (fun _ => 1) 10 := rfl
        omega
      refine hK _ _ ⟨fun _ v2 e2 => ?_, fun z => absurd (by rw [(p.R hI hx).2.1.1, ek]; exact Int32.le_refl _) z⟩
      rw [e2, l.1]
      exact main U kO W p l ⟨wle, fun i hi => by have := (h1 i hi).1; omega, h2⟩ iU (fun i hi => (h1 i hi).2.2) (fun i hi => (h1 i hi).2.1) (fun b hb => h3 b (big b hb) hb)
    | succ n ih =>
      intro k U kO W hn p l iU hW1 h1 h2 h3
      have wle : W ≤ 4 := by
        by_cases zz : ∃ b, k ≤ b ∧ b < 10 ∧ s.testBit b = true
        · obtain ⟨b, z1, z2, z3⟩ := zz
          have := sumR_more (q := fun b => s.testBit b) (m := 10) z1 z2 z3
          have hb : bitsN s = sumR (fun b => s.testBit b) (fun _ => 1) 10 := rfl
          omega
        · have : sumR (fun b => s.testBit b) (fun _ => 1) 10 = sumR (fun b => s.testBit b) (fun _ => 1) k := sumR_tail (by omega) (fun i i1 i2 => by cases z : s.testBit i; rfl; exact absurd ⟨i, i1, i2, z⟩ zz)
          have hb : bitsN s = sumR (fun b => s.testBit b) (fun _ => 1) 10 := rfl
          omega
      refine hK _ _ ⟨fun z => absurd z (by rw [(p.R hI hx).2.1.1]; exact nI_ge (by omega) (by omega)), fun _ => ?_⟩
      rw [iU, show ((4 : Int32) ≤ nI W) = (4 ≤ W) by rw [show (4 : Int32) = nI 4 from rfl, nle (by omega) (by omega)]]
      refine ⟨fun h4 v3 e3 => ?_, fun h4 => ?_⟩
      · rw [e3, l.1]
        refine main U kO W p l ⟨wle, fun i hi => by have := (h1 i hi).1; omega, h2⟩ iU (fun i hi => (h1 i hi).2.2) (fun i hi => (h1 i hi).2.1) (fun b hb => ?_)
        by_cases z : b < k
        · exact h3 b z hb
        · have b10 : b < 10 := by
            by_cases w : b < 10
            · exact w
            · rw [Nat.testBit_lt_two_pow (Nat.lt_of_lt_of_le hsm (Nat.pow_le_pow_right (by decide) (by omega)))] at hb
              exact absurd hb (by decide)
          have := sumR_more (q := fun b => s.testBit b) (m := 10) (k := k) (by omega) b10 hb
          have hbb : bitsN s = sumR (fun b => s.testBit b) (fun _ => 1) 10 := rfl
          omega
      · rw [show ((nI s >>> (nI k &&& 31)) &&& 1 = (0 : Int32)) = (s.testBit k = false) by rw [L31, L1, L0, nbit0 (by omega) (by omega)]]
        refine ⟨fun hb v4 e4 => ?_, fun hb => ⟨vp_in_nI (by omega) (by decide), fun S5 e5 v6 e6 S7 e7 v8 e8 => ?_⟩⟩
        · rw [e4, nI_1]
          refine ih (k + 1) U kO W (by omega) p l iU ?_ (fun i hi => by have := h1 i hi; exact ⟨(by omega), this.2⟩) h2 (fun b b1 b2 => ?_)
          · show W = sumR (fun b => s.testBit b) (fun _ => 1) k + (if s.testBit k then 1 else 0)
            rw [hb, ← hW1]; rfl
          · by_cases z : b = k
            · rw [z, hb] at b2; exact absurd b2 (by decide)
            · exact h3 b (by omega) b2
        · have hb1 : s.testBit k = true := by cases z : s.testBit k; exact absurd z hb; rfl
          rw [ncl (by omega)] at e5
          rw [e5, xF_i, iU, L1, nadd] at e6
          rw [e8, nI_1]
          have f7 : S7.2.1 54 = upd (U.2.1 54) W (nI k) := by rw [e7, xI_f, e5, xF_s]
          refine ih (k + 1) S7 (fun i => if i = W then k else kO i) (W + 1) (by omega) (by rw [e7, e5]; exact (p.F _ _ (by omega)).I _ _ (by omega)) ⟨by rw [e7, xI_n _ _ (by decide), e5, xF_i]; exact l.1, fun u hu => by rw [e7, xI_f, e5, xF_o _ _ _ _ (by decide)]; exact l.2.1 u hu, fun u b hu hb' => by rw [e7, xI_f, e5, xF_o _ _ _ _ (by decide)]; exact l.2.2 u b hu hb'⟩ (by rw [e7, xI_s, e6]) ?_ (fun i hi => ?_) (fun i j hij hj => ?_) (fun b b1 b2 => ?_)
          · show W + 1 = sumR (fun b => s.testBit b) (fun _ => 1) k + (if s.testBit k then 1 else 0)
            rw [hb1, ← hW1]; rfl
          · by_cases z : i = W
            · simp only [z, if_true]
              exact ⟨(by omega), hb1, by rw [f7, upd_s]⟩
            · simp only [z, if_false]
              have := h1 i (by omega)
              exact ⟨(by omega), this.2.1, by rw [f7, upd_n _ _ z]; exact this.2.2⟩
          · by_cases z : j = W
            · simp only [z, if_true, show ¬ i = W by omega, if_false]
              exact (h1 i (by omega)).1
            · simp only [z, show ¬ i = W by omega, if_false]
              exact h2 i j hij (by omega)
          · by_cases z : b = k
            · exact ⟨W, (by omega), by simp [z]⟩
            · obtain ⟨i, i1, i2⟩ := h3 b (by omega) b2
              exact ⟨i, (by omega), by simp only [show ¬ i = W by omega, if_false]; exact i2⟩
  exact loop (A 1) 0 S1 (fun _ => 0) 0 (by omega) p1 la0 (by rw [e1, xI_s]; rfl) rfl (fun i hi => absurd hi (by omega)) (fun i j _ hj => absurd hj (by omega)) (fun b hb => absurd hb (by omega))
/-- what is answered -/
def ansF (A : Nat → Nat) (sm : Nat → Nat) (co : Nat → Nat → Nat) (H s : Nat) (a : Int32) (r : Int32) : Prop := (a = -1 → r = iI (beF A sm co H s 0).1) ∧ (a = -2 → r = nI (beF A sm co H s 0).2.1) ∧ (∀ i, a = nI i → i < (beF A sm co H s 0).2.1 → r = nI (ptF A sm co H i s 0)) ∧ (¬ a = -1 → ¬ a = -2 → ¬ isOne a (beF A sm co H s 0).2.1 → r = -1000000)
theorem c_answer {Post : Int32 → XS → Prop} {S : XS} {kO : Nat → Nat} {W s : Nat} {a0 : Int32} (hI : Inv A) (hc : ∀ h b, co h b ≤ 99) (hk : kbOK A) (hH : H ≤ 24) (hW : wkOK A kO W) (i1 : S.1 1633 = nI W) (full : RS kO W (2 ^ W - 1) = s) (hT : TabX A sm co H kO W S 0)
    (hP : ∀ r, ansF A sm co H s a0 r → Post r S) : VC_X4_answer_51 Post a0 S := by
  obtain ⟨b0, b1, b2, b3, b4, b5, b6, b7, b8, b9⟩ := hI.b
  have w4 := hW.1
  have p4 : 2 ^ W ≤ 16 := Nat.pow_le_pow_right (n := 2) (j := 4) (by decide) w4
  have p0 : 0 < 2 ^ W := Nat.two_pow_pos W
  have sh : (1 : Int32) <<< (nI W &&& 31) = nI (2 ^ W) := by rw [L1, L31, nshl1 (by omega)]
  have s64 : s < 2 ^ A 1 := by rw [← full]; exact RS_lt2 hW
  have top := hT (2 ^ W - 1) 0 (by omega) (Nat.le_refl _) (Nat.zero_le _)
  rw [full] at top
  have ob := bsF_b (sm := sm) (H := H) hc hk 6 s 0 s64
  have c6 : (beF A sm co H s 0).2.1 ≤ 6 := ob.2.2
  intro K hK
  have er : (nI (2 ^ W) - 1) * 25 + 0 = nI ((2 ^ W - 1) * 25 + 0) := by rw [L1, nsub (by omega), L25, nmul, Int32.add_zero]; rfl
  unfold VC_X4_cellOf
  rw [i1, sh, er]
  obtain ⟨t1, t2, t3, t4⟩ := id top
  refine ⟨fun n1 => ⟨fun n2 => ⟨fun hlt => hP _ ⟨fun z => absurd z n1, fun z => absurd z n2, fun i ei _ => absurd hlt (by rw [ei]; exact nI_pos (by omega)), fun _ _ _ => rfl⟩, fun hge => ⟨vp_in_nI (by omega) (by decide), ?_⟩⟩, fun e2 => ⟨vp_in_nI (by omega) (by decide), ?_⟩⟩, fun e1 => ⟨vp_in_nI (by omega) (by decide), ?_⟩⟩
  · rw [ncl (by omega), t2]
    obtain ⟨j, hj, ej⟩ := nI_of hge
    subst ej
    rw [nlt (by omega) (by omega)]
    refine ⟨fun hl => ?_, fun hl => hP _ ⟨fun z => absurd z n1, fun z => absurd z n2, fun i ei hi => absurd hi (by rw [← (nI_eq (by omega) (by omega)).mp ei]; exact hl), fun _ _ _ => rfl⟩⟩
    have loop : ∀ n i : Nat, ∀ s' h : Nat, i + n = j → s' < 2 ^ W → h ≤ H → n < (beF A sm co H (RS kO W s') h).2.1 → ptF A sm co H n (RS kO W s') h = ptF A sm co H j s 0 → K (nI j, nI (s' * 25 + h), nI i) S := by
      intro n
      induction n with
      | zero =>
        intro i s' h hn hs' hh hlt he
        have ei : i = j := (by omega)
        subst ei
        have ac := hT s' h hs' (Nat.zero_le _) hh
        refine hK _ _ ⟨fun _ => ⟨vp_in_nI (by omega) (by decide), ?_⟩, fun z => absurd (Int32.le_refl _) z⟩
        rw [ncl (by omega), (ac.2.2.2 hlt).1]
        refine hP _ ⟨fun z => absurd z n1, fun z => absurd z n2, fun i' ei' _ => ?_, fun _ _ z => absurd ⟨i, hl, rfl⟩ z⟩
        rw [← (nI_eq (by omega) (by omega)).mp ei', ← he]; rfl
      | succ n ih =>
        intro i s' h hn hs' hh hlt he
        have ac := hT s' h hs' (Nat.zero_le _) hh
        obtain ⟨-, w, e, g, v1, v2, v3, v4, v5⟩ := ac.2.2.2 (by omega)
        have hR : RS kO W s' < 2 ^ A 1 := RS_lt2 hW
        obtain ⟨q1, q2, q3, q4, d, d1, d2, d3⟩ := be_first (sm := sm) (H := H) (h := h) hc hk hR (by omega)
        have ed : d = (e, g) := Option.some.inj (d1.symm.trans v4)
        subst ed
        have kk := hk.2 ((beF A sm co H (RS kO W s') h).2.2 / 100) (bit_lt hR q2)
        have db := doF_b hc kk.2 kk.1 v4
        simp only at db d2
        refine hK _ _ ⟨fun z => absurd z (nI_ge (by omega) (by omega)), fun _ => ⟨vp_in_nI (by omega) (by decide), fun v2' e2' v3' e3' => ?_⟩⟩
        rw [ncl (by omega), v5] at e2'
        rw [e2', e3', nI_1]
        have cR := RS_clr (s := s') hW v1
        rw [v3] at cR
        refine ih (i + 1) (clr s' w) (e + 1) (by omega) (clr_lt hs') (by omega) (by rw [cR]; omega) ?_
        rw [cR, ← he]
        show _ = (doF A sm co H _ _ _ h).elim 0 _
        rw [v4]; rfl
    exact loop j 0 (2 ^ W - 1) 0 (by omega) (by omega) (Nat.zero_le _) (by rw [full]; exact hl) (by rw [full])
  · rw [ncl (by omega), t2]
    exact hP _ ⟨fun z => absurd z n1, fun _ => rfl, fun i ei _ => by rw [e2, L2] at ei; exact absurd ei.symm (by rw [nm2 (by omega)]; exact id), fun _ z => absurd e2 z⟩
  · rw [ncl (by omega), t1]
    exact hP _ ⟨fun _ => rfl, fun z => absurd (e1.symm.trans z) (by decide), fun i ei _ => by rw [e1, L1] at ei; exact absurd ei.symm (by rw [nm1 (by omega)]; exact id), fun z => absurd e1 z⟩
end CHOOSE
