/-! sell: the reference's side -/
section SELL2
variable {A : Nat → Nat} {x : XS} {y : MS} {o : LAW}
theorem r_sell {Post : Int32 → MS → Prop} {a0 : Int32} (hI : Inv A) (hy : y.2.2.1 0 = enc A) (jr : JTr (y.2.2.1 2) (A 5) 3 o) (ho : ∀ q, o = some q → ∀ v, q v ≤ topL 3)
    (h1 : ∀ p y', p < A 2 → a0 = nI p → A (151 + 10 * p) = 1 → A (153 + 10 * p) = 0 → YFr y y' → y'.2.2.1 0 = enc (sellN o A p) → Post (nI (sumR (fun _ => true) (payB o A p) (A 0))) y') (h0 : ¬ (∃ p, p < A 2 ∧ a0 = nI p ∧ A (151 + 10 * p) = 1 ∧ A (153 + 10 * p) = 0) → Post (-1) y) : VC_sell Post a0 y := by
  obtain ⟨b0, b1, b2, b3, b4, b5, b6, b7, b8, b9⟩ := hI.b
  have l : ∀ k : Nat, k < 3890 → vp_in (nI k) 3890 := fun k hk => vp_in_nI hk (by decide)
  intro K hK
  refine mP hy (by omega) (fun i0 => ⟨fun z => absurd z (by decide), fun _ => pieceA ?_⟩) (fun hn => ⟨fun _ => h0 (fun ⟨p, z1, z2, _⟩ => hn ⟨p, z1, z2⟩), fun z => absurd rfl z⟩)
  obtain ⟨p, hp, rfl⟩ := i0
  have uq : ∀ p', p' < A 2 → nI p = nI p' → p' = p := fun p' hp' e => ((nI_eq (by omega) (by omega)).mp e).symm
  have hst2 : A (151 + 10 * p) ≤ 2 := by
    rcases (hI.piece hp).2.1 with ⟨-, z⟩ | ⟨-, -, z⟩ | ⟨-, -, z⟩ <;> omega
  have hs1 := (hI.piece hp).2.2.2.1
  have hka := (hI.piece hp).1
  have hkk := hI.2.2.2.1 _ hka
  have q0 : 150 + 10 * nI p = nI (150 + 10 * p) := by rw [L150, L10, nmul, nadd]
  have q1 : nI (150 + 10 * p) + 1 = nI (151 + 10 * p) := by rw [L1, nadd]; congr 1; omega
  have q3 : nI (150 + 10 * p) + 3 = nI (153 + 10 * p) := by rw [L3, nadd]; congr 1; omega
  rw [q0, q1, enc_cell hy (by omega) (by omega)]
  refine ⟨l _ (by omega), ?_⟩
  rw [show (1 : Int32) = nI 1 from rfl, neq (by omega) (by omega)]
  refine ⟨fun ne => h0 (fun ⟨p', z1, z2, z3, _⟩ => ne (by rw [← uq p' z1 z2]; exact z3)), fun st1 => pieceA ?_⟩
  rw [q0, q3, enc_cell hy (by omega) (by omega), neq (by omega) (by omega)]
  refine ⟨l _ (by omega), fun ne => r_keepN b6 hy (pieceA ?_), fun e => h0 (fun ⟨p', z1, z2, z3, z4⟩ => by rw [uq p' z1 z2] at z4; omega)⟩
  have so0 : A (153 + 10 * p) = 0 := (by omega)
  rw [q0, q3]
  refine ⟨l _ (by omega), fun S7 e7 => ?_⟩
  rw [sF_same, sF_sF, ncl (by omega), enc_u (by omega)] at e7
  generalize hCe : uN (keepN A) (153 + 10 * p) 1 = C at e7
  have hC : ∀ j, j < 410 → j ≠ 6 → j ≠ 153 + 10 * p → C j = A j := fun j j1 j2 j3 => by rw [← hCe, uN_n _ _ _ _ j3, keepN_lo A j1 j2]
  have hC0 := hC 0 (by omega) (by omega) (by omega)
  have y7 : YFr y S7 := by rw [e7]; exact (YFr.refl y).F _ _ (by omega)
  have c7 : S7.2.2.1 0 = enc C := by rw [e7, sF_same]
  have c0 : ∀ {S : MS} {E : Nat → Nat}, S.2.2.1 0 = enc E → S.2.2.1 0 (0 : Int32).toNatClampNeg = nI (E 0) := fun e => enc_cell (k := 0) e (by decide) (by decide)
  have al := allS_le ho hI hp (A 0) (Nat.le_refl _)
  have post := fun y' => h1 p y' hp rfl st1 so0
  -- pay
  have pay : ∀ n i : Nat, ∀ (S : MS) (E : Nat → Nat), i + n = A 0 → YFr y S → S.2.2.1 0 = enc E → (∀ b, b < A 0 → S.2.2.1 25 b = nI (shB o A p b)) → (∀ b, b < i → E (12 + 5 * b) = A (12 + 5 * b) + payB o A p b) → (∀ j, (j < 10 ∨ 40 ≤ j ∨ j % 5 ≠ 2 ∨ 12 + 5 * i ≤ j) → E j = C j) → K (.inr (.inr (.inl (nI p, nI (allS o A p (A 0)), nI (sumR (fun _ => true) (payB o A p) i), nI i)))) S := by
    intro n
    induction n with
    | zero =>
      intro i S E hi yS eS hsh hlo hE
      have ei : i = A 0 := (by omega)
      refine hK _ _ ⟨l 0 (by decide), fun _ => ?_, fun z => absurd (by rw [c0 eS, hE 0 (by omega), hC0, ei]; exact Int32.le_refl _) z⟩
      rw [ei]
      refine post S yS ?_
      have : E = sellN o A p := by
        funext j
        unfold sellN
        by_cases z1 : j = 153 + 10 * p
        · rw [if_pos z1, hE j (by omega), z1, ← hCe, uN_s]
        · rw [if_neg z1]
          by_cases z2 : 10 ≤ j ∧ j < 40 ∧ j % 5 = 2 ∧ (j - 12) / 5 < A 0
          · rw [if_pos z2]
            have := hlo ((j - 12) / 5) (by omega)
            rwa [show 12 + 5 * ((j - 12) / 5) = j by omega] at this
          · rw [if_neg z2, hE j (by omega), ← hCe, uN_n _ _ _ _ z1]
      rw [← this]; exact eS
    | succ n ih =>
      intro i S E hi yS eS hsh hlo hE
      have bi := (hI.2.1 i (by omega)).2.2.2.1
      have shi := shB_le ho hI hp (b := i) (by omega)
      have mw : A (42 + 3 * A (150 + 10 * p)) * shB o A p i ≤ 999 * 360 := Nat.mul_le_mul (by omega) shi
      have dv : A (42 + 3 * A (150 + 10 * p)) * shB o A p i / allS o A p (A 0) ≤ 999 * 360 := Nat.le_trans (Nat.div_le_self _ _) mw
      have Ei : E (10 + 5 * i + 2) = A (12 + 5 * i) := by rw [hE _ (by omega), hC _ (by omega) (by omega) (by omega)]; congr 1; omega
      refine hK _ _ ⟨l 0 (by decide), fun z => absurd z (by rw [c0 eS, hE 0 (by omega), hC0]; exact nI_ge (by omega) (by omega)), fun _ => ?_⟩
      by_cases za : allS o A p (A 0) = 0
      · -- nobody is paid
        have p0' : ∀ b, payB o A p b = 0 := fun b => by unfold payB; rw [if_pos za]
        have sum0 : ∀ n, sumR (fun _ => true) (payB o A p) n = 0 := by
          intro n
          induction n with
          | zero => rfl
          | succ n ih => show sumR _ _ n + (if true = true then payB o A p n else 0) = 0; rw [ih, p0' n]; rfl
        refine ⟨fun _ => ?_, fun z => absurd (by rw [za]; exact Int32.le_refl _) z⟩
        have := post S yS
        rw [sum0] at this ⊢
        refine this ?_
        have : E = sellN o A p := by
          funext j
          unfold sellN
          by_cases z1 : j = 153 + 10 * p
          · rw [if_pos z1, hE j (by omega), z1, ← hCe, uN_s]
          · rw [if_neg z1]
            by_cases z2 : 10 ≤ j ∧ j < 40 ∧ j % 5 = 2 ∧ (j - 12) / 5 < A 0
            · rw [if_pos z2, p0', Nat.add_zero]
              by_cases z3 : (j - 12) / 5 < i
              · have := hlo ((j - 12) / 5) z3
                rwa [show 12 + 5 * ((j - 12) / 5) = j by omega, p0', Nat.add_zero] at this
              · rw [hE j (by omega), hC j (by omega) (by omega) z1]
            · rw [if_neg z2, hE j (by omega), ← hCe, uN_n _ _ _ _ z1]
        rw [← this]; exact eS
      · refine ⟨fun z => absurd z (nI_nle (by omega) (by omega)), fun _ => pieceA ?_⟩
        have q5 : (40 + 3 * nI (A (150 + 10 * p))) + 2 = nI (42 + 3 * A (150 + 10 * p)) := by rw [L40, L3, L2, nmul, nadd, nadd]; congr 1; omega
        rw [q0, enc_cell eS (by omega) (by omega), hE _ (by omega), hC _ (by omega) (by omega) (by omega), q5, enc_cell eS (by omega) (by omega), hE _ (by omega), hC _ (by omega) (by omega) (by omega), ncl (by omega), hsh i (by omega), nmul, pk_div (by omega) (by omega) (by omega)]
        refine ⟨l _ (by omega), l _ (by omega), vp_in_nI (by omega) (by decide), nI_ne0 (by omega) (by omega), fun v16 e16 => mget eS rfl L2 (by omega) (by omega) ?_⟩
        have fin : ∀ v : Int32, v = nI (payB o A p i) → K (.inr (.inr (.inr (nI p, nI (allS o A p (A 0)), nI (sumR (fun _ => true) (payB o A p) i), nI i, v)))) S := fun v ev => by
          refine hK _ _ ?_
          unfold B_sell
          refine mget eS rfl L2 (by omega) (by omega) ?_
          rw [Ei, ev, nadd, nadd]
          refine mset (b := i) (k := 2) eS rfl L2 rfl (by omega) (by omega) (fun v25 e25 v26 e26 => ?_)
          rw [e25, e26, nI_1]
          refine ih (i + 1) _ _ (by omega) (yS.F _ _ (by omega)) (sF_same _ _ _) (fun b hb => by rw [sF_o _ _ _ _ (by decide)]; exact hsh b hb) (fun b hb => ?_) (fun j hj => by rw [uN_n _ _ _ _ (by omega), hE j (by omega)])
          by_cases z : b = i
          · rw [z, show 12 + 5 * i = 10 + 5 * i + 2 by omega, uN_s, show 10 + 5 * i + 2 = 12 + 5 * i by omega]
          · rw [uN_n _ _ _ _ (by omega), hlo b (by omega)]
        rw [Ei, e16, nadd, L999, nle (by omega) (by omega)]
        refine ⟨fun hle => fin _ ?_, fun hgt => mget eS rfl L2 (by omega) (by omega) (fun v21 e21 => fin _ ?_)⟩
        · unfold payB
          rw [if_neg za, if_neg (by omega)]
        · rw [e21, Ei, nsub bi]
          unfold payB
          rw [if_neg za, if_pos (by omega)]
  have loop : ∀ n i : Nat, ∀ S : MS, i + n = A 0 → YFr y S → S.2.2.1 0 = enc C → (∀ b, b < i → S.2.2.1 25 b = nI (shB o A p b)) → K (.inl (nI p, nI (allS o A p i), nI i)) S := by
    intro n
    induction n with
    | zero =>
      intro i S hi yS eS hsh
      have ei : i = A 0 := (by omega)
      refine hK _ _ ⟨l 0 (by decide), fun _ => ?_, fun z => absurd (by rw [c0 eS, hC0, ei]; exact Int32.le_refl _) z⟩
      rw [ei]
      exact pay (A 0) 0 S C (by omega) yS eS (fun b hb => hsh b (by omega)) (fun b hb => absurd hb (by omega)) (fun _ _ => rfl)
    | succ n ih =>
      intro i S hi yS eS hsh
      have gl := gv_le hI hp (b := i) (by omega)
      have st : ∀ (S' : MS) (s : Nat), YFr y S' → S'.2.2.1 0 = enc C → (∀ b, b < i → S'.2.2.1 25 b = nI (shB o A p b)) → s = shB o A p i → K (.inr (.inl (nI p, nI (allS o A p i), nI i, nI i, nI s))) S' := fun S' s yS' eS' hsh' es => by
        refine hK _ _ ⟨vp_in_nI (by omega) (by decide), fun S12 e12 => ⟨vp_in_nI (by omega) (by decide), fun v13 e13 v14 e14 => ?_⟩⟩
        rw [ncl (by omega)] at e12
        rw [e12, ncl (by omega), sF_same, upd_s, nadd, es] at e13
        rw [e13, e14, nI_1]
        refine ih (i + 1) S12 (by omega) (by rw [e12]; exact yS'.F _ _ (by omega)) (by rw [e12, sF_o _ _ _ _ (by decide)]; exact eS') (fun b hb => ?_)
        rw [e12, sF_same]
        by_cases z : b = i
        · rw [z, upd_s, es]
        · rw [upd_n _ _ z, hsh' b (by omega)]
      refine hK _ _ ⟨l 0 (by decide), fun z => absurd z (by rw [c0 eS, hC0]; exact nI_ge (by omega) (by omega)), fun _ => mgave eS rfl rfl (by omega) (by omega) ?_⟩
      rw [hC _ (by omega) (by omega) (by omega), L0, nle (by omega) (by omega)]
      refine ⟨fun hle => st S 0 yS eS hsh (by unfold shB; rw [if_pos (by omega)]), fun hgt => ?_⟩
      refine r_share (A := A) (o := o) (by rw [yS.2.1]; exact jr) hI eS (fun j j1 j2 j3 => hC j (by omega) j2 j3) hp (by omega) (fun S' f' => st S' _ (yS.trans f'.Y) (f'.e eS) (fun b hb => by rw [f'.2 25 (by decide) (by decide)]; exact hsh b hb) (by unfold shB; rw [if_neg (by omega)]))
  exact loop (A 0) 0 S7 (by omega) y7 c7 (fun b hb => absurd hb (by omega))
theorem op_sell {B : Nat → Nat} {a0 : Int32} (h : RelA TXd A B x y) : VC_X11_sell_0 (fun r x' => VC_sell (fun r' y' => r = r' ∧ RelT TXd x' y') a0 y) a0 x := by
  obtain ⟨g1, -, g3, -, g5, -⟩ := id h
  have bb := g1.b
  obtain ⟨o, lo, jc, jr⟩ := judge_ex h (l := 3) (by decide)
  refine c_sell g1 g3 jc lo (fun p x' hp e0 e1 e2 fx hx' => ?_) (fun hn => ?_)
  · refine r_sell g1 g5 jr lo (fun p' y' hp' e0' _ _ fy hy' => ?_) (fun hn => absurd ⟨p, hp, e0, e1, e2⟩ hn)
    have z1 : p' = p := (nI_eq (by omega) (by omega)).mp (e0'.symm.trans e0)
    subst z1
    exact ⟨rfl, h.step fx fy (Inv_sell g1 hp) hx' hy' (by rw [se_o (by omega) (by omega), keepN_lo A (by omega) (by omega)])⟩
  · exact r_sell g1 g5 jr lo (fun p' y' hp' e0' e1' e2' _ _ => absurd ⟨p', hp', e0', e1', e2'⟩ hn) (fun _ => ⟨rfl, A, B, h⟩)
end SELL2
