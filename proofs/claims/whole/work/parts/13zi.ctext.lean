/-! the class's parse and text -/
def filR (k n : Nat) (v : Int32) (S U : XS) : Prop := U.1 = S.1 ∧ (∀ a, a ≠ k → U.2.1 a = S.2.1 a) ∧ U.2.2 = S.2.2 ∧ ∀ j, j < n → U.2.1 k j = v
theorem c_fill45 {Post : XS → Prop} {v : Int32} {S : XS} (h : ∀ U, filR 45 4 v S U → Post U) : VC_J7_fill_53178_45 Post v S := by
  intro K hK
  have loop : ∀ d i : Nat, ∀ U : XS, i + d = 4 → filR 45 i v S U → K (v, nI i, nI 4) U := by
    intro d
    induction d with
    | zero =>
      intro i U hi g
      have ei : i = 4 := (by omega)
      subst ei
      exact hK _ _ ⟨fun _ => h U g, fun z => absurd (Int32.le_refl _) z⟩
    | succ d ih =>
      intro i U hi g
      refine hK _ _ ?_
      dsimp only [B_J7_fill_53178_45]
      rw [nle (by omega) (by omega), ncl (by omega)]
      refine ⟨fun z => absurd z (by omega), fun _ => ⟨vp_in_nI (by omega) (by decide), fun S1 e1 v2 e2 => ?_⟩⟩
      rw [nI_1] at e2
      rw [e2]
      obtain ⟨g1, g2, g3, g4⟩ := g
      refine ih (i + 1) S1 (by omega) ⟨by rw [e1, xF_i, g1], fun a ha => by rw [e1, xF_o _ _ _ _ ha, g2 a ha], by rw [e1, xF_22, g3], fun j hj => ?_⟩
      rw [e1, xF_s]
      by_cases z : j = i
      · rw [z, upd_s]
      · rw [upd_n _ _ z]; exact g4 j (by omega)
  exact loop 4 0 S (by decide) ⟨rfl, fun _ _ => rfl, rfl, fun j hj => absurd hj (Nat.not_lt_zero j)⟩
theorem c_fill46 {Post : XS → Prop} {v : Int32} {S : XS} (h : ∀ U, filR 46 4 v S U → Post U) : VC_J7_fill_53178_46 Post v S := by
  intro K hK
  have loop : ∀ d i : Nat, ∀ U : XS, i + d = 4 → filR 46 i v S U → K (v, nI i, nI 4) U := by
    intro d
    induction d with
    | zero =>
      intro i U hi g
      have ei : i = 4 := (by omega)
      subst ei
      exact hK _ _ ⟨fun _ => h U g, fun z => absurd (Int32.le_refl _) z⟩
    | succ d ih =>
      intro i U hi g
      refine hK _ _ ?_
      dsimp only [B_J7_fill_53178_46]
      rw [nle (by omega) (by omega), ncl (by omega)]
      refine ⟨fun z => absurd z (by omega), fun _ => ⟨vp_in_nI (by omega) (by decide), fun S1 e1 v2 e2 => ?_⟩⟩
      rw [nI_1] at e2
      rw [e2]
      obtain ⟨g1, g2, g3, g4⟩ := g
      refine ih (i + 1) S1 (by omega) ⟨by rw [e1, xF_i, g1], fun a ha => by rw [e1, xF_o _ _ _ _ ha, g2 a ha], by rw [e1, xF_22, g3], fun j hj => ?_⟩
      rw [e1, xF_s]
      by_cases z : j = i
      · rw [z, upd_s]
      · rw [upd_n _ _ z]; exact g4 j (by omega)
  exact loop 4 0 S (by decide) ⟨rfl, fun _ _ => rfl, rfl, fun j hj => absurd hj (Nat.not_lt_zero j)⟩
theorem c_fill47 {Post : XS → Prop} {v : Int32} {S : XS} (h : ∀ U, filR 47 96 v S U → Post U) : VC_J7_fill_53178_47 Post v S := by
  intro K hK
  have loop : ∀ d i : Nat, ∀ U : XS, i + d = 96 → filR 47 i v S U → K (v, nI i, nI 96) U := by
    intro d
    induction d with
    | zero =>
      intro i U hi g
      have ei : i = 96 := (by omega)
      subst ei
      exact hK _ _ ⟨fun _ => h U g, fun z => absurd (Int32.le_refl _) z⟩
    | succ d ih =>
      intro i U hi g
      refine hK _ _ ?_
      dsimp only [B_J7_fill_53178_47]
      rw [nle (by omega) (by omega), ncl (by omega)]
      refine ⟨fun z => absurd z (by omega), fun _ => ⟨vp_in_nI (by omega) (by decide), fun S1 e1 v2 e2 => ?_⟩⟩
      rw [nI_1] at e2
      rw [e2]
      obtain ⟨g1, g2, g3, g4⟩ := g
      refine ih (i + 1) S1 (by omega) ⟨by rw [e1, xF_i, g1], fun a ha => by rw [e1, xF_o _ _ _ _ ha, g2 a ha], by rw [e1, xF_22, g3], fun j hj => ?_⟩
      rw [e1, xF_s]
      by_cases z : j = i
      · rw [z, upd_s]
      · rw [upd_n _ _ z]; exact g4 j (by omega)
  exact loop 96 0 S (by decide) ⟨rfl, fun _ _ => rfl, rfl, fun j hj => absurd hj (Nat.not_lt_zero j)⟩
def TP (x S : XS) : Prop := (∀ k, k < 1376 ∨ 1387 < k → S.1 k = x.1 k) ∧ S.1 1376 = nI 1 ∧ (∀ a, a < 44 ∨ 47 < a → S.2.1 a = x.2.1 a) ∧ S.2.2 = x.2.2
theorem TP.tf {x S U : XS} (h : TP x S) (g : TF S U) : TP x U := ⟨fun k hk => (g.1 k (by omega)).trans (h.1 k hk), (g.1 1376 (by omega)).trans h.2.1, fun a ha => (g.2.1 a ha).trans (h.2.2.1 a ha), g.2.2.trans h.2.2.2⟩
section CPARSE
variable {T : Nat → Nat} {m : Nat}
theorem c_parse {Post : Option Nat → XS → Prop} {x : XS} (ht : tpX x T m)
    (k0 : ∀ f q', textF T m 25 (eF bB T m 0) ([], 0, 0) = .inl (f, q') → (1 ≤ f ∧ f ≤ 6) → ∀ S', TP x S' → S'.1 1377 = nI f → S'.1 1378 = nI q' → Post none S')
    (k1 : ∀ S q, textF T m 25 (eF bB T m 0) ([], 0, 0) = .inr S → ∀ S', TP x S' → cS S' T m q S → VCt_parse Post S') : VC_X3_parse_43 Post x := by
  intro K hK S1 e1 S2 e2 S3 e3 S4 e4 S5 e5 S6 e6 S7 e7
  refine c_fill45 (fun U1 g1 => c_fill46 (fun U2 g2 => c_fill47 (fun U3 g3 => ?_)))
  have m3 := ht.2.1
  have I3 : U3.1 = S7.1 := by rw [g3.1, g2.1, g1.1]
  have i7 : ∀ j, j < 1376 ∨ 1387 < j → U3.1 j = x.1 j := fun j hj => by rw [I3, e7, xI_n _ _ (by omega), e6, xI_n _ _ (by omega), e5, xI_n _ _ (by omega), e4, xI_n _ _ (by omega), e3, xI_n _ _ (by omega), e2, xI_n _ _ (by omega), e1, xI_n _ _ (by omega)]
  have F7 : S7.2 = x.2 := by rw [e7, xI_f, e6, xI_f, e5, xI_f, e4, xI_f, e3, xI_f, e2, xI_f, e1, xI_f]
  have A3 : ∀ a, a < 44 ∨ 47 < a → U3.2.1 a = x.2.1 a := fun a ha => by rw [g3.2.1 a (by omega), g2.2.1 a (by omega), g1.2.1 a (by omega), F7]
  have z1376 : U3.1 1376 = nI 1 := by rw [I3, e7, xI_n _ _ (by decide), e6, xI_n _ _ (by decide), e5, xI_n _ _ (by decide), e4, xI_n _ _ (by decide), e3, xI_n _ _ (by decide), e2, xI_n _ _ (by decide), e1, xI_s]; rfl
  have z1377 : U3.1 1377 = 0 := by rw [I3, e7, xI_n _ _ (by decide), e6, xI_n _ _ (by decide), e5, xI_n _ _ (by decide), e4, xI_n _ _ (by decide), e3, xI_n _ _ (by decide), e2, xI_s]
  have z1378 : U3.1 1378 = -1 := by rw [I3, e7, xI_n _ _ (by decide), e6, xI_n _ _ (by decide), e5, xI_n _ _ (by decide), e4, xI_n _ _ (by decide), e3, xI_s]
  have z1380 : U3.1 1380 = nI 0 := by rw [I3, e7, xI_n _ _ (by decide), e6, xI_n _ _ (by decide), e5, xI_n _ _ (by decide), e4, xI_s]; rfl
  have z1384 : U3.1 1384 = nI 0 := by rw [I3, e7, xI_n _ _ (by decide), e6, xI_n _ _ (by decide), e5, xI_s]; rfl
  have z1386 : U3.1 1386 = nI 0 := by rw [I3, e7, xI_n _ _ (by decide), e6, xI_s]; rfl
  have z1387 : U3.1 1387 = nI 0 := by rw [I3, e7, xI_s]; rfl
  have t3 : tpX U3 T m := by
    unfold tpX
    rw [i7 1313 (by omega), A3 42 (by omega)]; exact ht
  have P3 : TP x U3 := ⟨i7, z1376, A3, by rw [g3.2.2.1, g2.2.2.1, g1.2.2.1, F7]⟩
  refine c_adv t3 z1377 z1380 (Nat.zero_le _) (fun S11 a11 b0 b2 b1 b3 => ?_)
  have le := eF_le (q := bB) (T := T) (m := m) (Nat.zero_le m)
  have c11 : cS S11 T m (eF bB T m 0) ([], 0, 0) := by
    refine ⟨⟨a11.tp t3, le.2, by rw [a11.1 1377 (by decide) (by decide) (by decide) (by decide), z1377], ⟨b0, b2, b1, b3⟩, by rw [a11.1 1384 (by decide) (by decide) (by decide) (by decide), z1384], by rw [a11.1 1387 (by decide) (by decide) (by decide) (by decide), z1387], Nat.zero_le _⟩, by rw [a11.1 1386 (by decide) (by decide) (by decide) (by decide), z1386]; rfl, by rw [a11.1 1378 (by decide) (by decide) (by decide) (by decide), z1378], Nat.zero_le _, fun k c hc => absurd hc (by simp), fun l hl _ => ?_⟩
    rw [a11.2, g3.2.1 45 (by decide), g2.2.1 45 (by decide)]; exact g1.2.2.2 l hl
  have loop : ∀ n i q : Nat, ∀ (U : XS) (S : TS), i + n = 25 → S.1.length = i → TP x U → cS U T m q S → (∀ f q', textF T m n q S = .inl (f, q') → (1 ≤ f ∧ f ≤ 6) → ∀ S', TP x S' → S'.1 1377 = nI f → S'.1 1378 = nI q' → Post none S') → (∀ S' q', textF T m n q S = .inr S' → ∀ U', TP x U' → cS U' T m q' S' → VCt_parse Post U') → K (nI i) U := by
    intro n
    induction n with
    | zero =>
      intro i q U S hi hl pU cU
      have := cU.2.2.2.1
      omega
    | succ n ih =>
      intro i q U S hi hl pU cU h0 h1
      have l24 := cU.2.2.2.1
      have f0 : U.1 1377 = 0 := cU.1.2.2.1
      unfold textF at h0 h1
      refine hK _ _ ?_
      dsimp only [B_X3_parse_43]
      rw [show ((24 : Int32) < nI i) = (24 < i) by rw [L24, nlt (by decide) (by omega)], show (U.1 1381 = (16 : Int32)) = (tkC T m q = 16) from tk_c cU.1 16 (by decide)]
      refine ⟨fun z => absurd z (by omega), fun _ => ⟨fun z => absurd f0 z, fun _ => ⟨fun z => ⟨fun _ => ?_, fun y => absurd f0 y⟩, fun z => ?_⟩⟩⟩
      · rw [if_pos z] at h1
        exact h1 S q rfl U pU cU
      · rw [if_neg z] at h0 h1
        refine c_clause cU (fun x' r' v13 e13 => ?_)
        rw [nI_1] at e13
        rw [e13]
        cases hh : clauseF T m q S with
        | inl v =>
          obtain ⟨f, q'⟩ := v
          rw [hh, sb_l] at h0
          rw [hh] at r'
          obtain ⟨ff, ft, f1, f2, _⟩ := r'
          have nz : ¬ x'.1 1377 = 0 := by rw [f1]; exact nI_n6 ff
          have out : Post none x' := h0 f q' rfl ff x' (pU.tf ft) f1 f2
          exact hK _ _ ⟨fun _ => ⟨fun y => absurd y nz, fun _ => out⟩, fun _ => ⟨fun _ => ⟨fun y => absurd y nz, fun _ => out⟩, fun y => absurd y nz⟩⟩
        | inr v =>
          obtain ⟨q', c⟩ := v
          rw [hh, sb_r] at h0 h1
          rw [hh] at r'
          obtain ⟨r1, r2, r3⟩ := r'
          refine ih (i + 1) q' x' (addC S c) (by omega) ?_ (pU.tf r2) r1 h0 h1
          show (S.1 ++ [c]).length = i + 1
          rw [List.length_append, hl]; rfl
  exact loop 25 0 (eF bB T m 0) S11 ([], 0, 0) (by decide) rfl (P3.tf a11.cf.tf) c11 k0 (fun S q h => k1 S q h)
/-- the record of a text -/
def tOf (t : TR) (S : TS) (F : Nat → Nat → Int32) : Prop := t.2.1.1 = S.2.1 ∧ S.2.1 ≤ 300 ∧ (∀ j, j < S.2.1 → t.2.1.2 j = F 44 j) ∧ t.2.2.1 = F 45 ∧ t.2.2.2.1 = F 46 ∧ t.2.2.2.2.1 = 4 * S.1.length ∧ (∀ j, j < 4 * S.1.length → t.2.2.2.2.2 j = F 47 j) ∧ rowsC F S.1 S.2.1 ∧ S.1.length ≤ 24
theorem c_text {Post : Int32 → XS → Prop} {x : XS} {n : Nat} (ht : tpX x T m) (e38 : x.1 38 = nI n) (hn : n ≤ 4) (kf : n = 4 → Post (-1) x)
    (k0 : n < 4 → ∀ f q', textF T m 25 (eF bB T m 0) ([], 0, 0) = .inl (f, q') → (1 ≤ f ∧ f ≤ 6) → ∀ S', TP x S' → S'.1 1377 = nI f → S'.1 1378 = nI q' → Post (-1) (xI S' 1313 0))
    (k1 : n < 4 → ∀ S, textF T m 25 (eF bB T m 0) ([], 0, 0) = .inr S → ∀ (S' : XS) (a : Nat) (t : TR) (F : Nat → Nat → Int32), TP x S' → S'.1 1377 = 0 → S'.1 1378 = -1 → (∀ t' ∈ x.2.2.2, t'.1.1 ≠ a) → t.1.1 = a → tOf t S F → Post (nI n) (xI (xG (xI (xT S' t) 1313 0) 20 (va_up (x.2.2.1 20) n (some a))) 38 (nI (n + 1)))) : VC_X11_text_0 Post x := by
  unfold VC_X11_text_0
  rw [e38, show (nI n < (4 : Int32)) = (n < 4) by rw [L4, nlt (by omega) (by decide)]]
  refine ⟨fun h4 => c_parse ht (fun f q' e ff S' p' f1 f2 => ⟨fun _ S4 e4 => by rw [e4]; exact k0 h4 f q' e ff S' p' f1 f2, fun a z => absurd z (by simp)⟩) (fun S q e S' p' c' => ?_), fun h4 => kf (by omega)⟩
  obtain ⟨d1, n1, pl1, l24, rw1⟩ := c'
  have m3 := d1.1.2.1
  have sq := d1.2.2.2.2.2.2
  have qm := d1.2.1
  have e87 := d1.2.2.2.2.2.1
  have e4 : 4 * (S'.1 1386) = nI (4 * S.1.length) := by rw [n1, L4, nmul]
  unfold VCt_parse
  rw [e87, e4, ncl (show S.2.1 < 2147483648 by omega), ncl (show 4 * S.1.length < 2147483648 by omega)]
  refine ⟨nI_pos (by omega), (by omega), nI_pos (by omega), (by omega), fun a c0 f0 t0 r0 cf rf fr hc hr => ⟨fun z => absurd z (by simp), fun a3 ea S5 e5 => ?_⟩⟩
  have : a3 = a := (Option.some.inj ea).symm
  subst this
  have g38 : S5.1 38 = nI n := by rw [e5, xI_n _ _ (by decide)]; exact (p'.1 38 (by omega)).trans e38
  unfold VC_X5_addText_1
  rw [g38, show (nI n < (4 : Int32)) = (n < 4) by rw [L4, nlt (by omega) (by decide)], ncl (by omega)]
  refine ⟨fun _ => ⟨fun a' ea' => ?_, vp_in_nI (by omega) (by decide), fun S1 e1 v2 e2 S3 e3 => ?_⟩, fun z => absurd h4 z⟩
  · have : a' = a3 := (Option.some.inj ea').symm
    subst this
    refine ⟨((a', c0, f0, t0, r0), (S.2.1, cf), S'.2.1 45, S'.2.1 46, 4 * S.1.length, rf), S'.2.2.2.length, ?_, rfl⟩
    rw [e5]
    show (S'.2.2.2 ++ [_])[S'.2.2.2.length]? = _
    rw [List.getElem?_append_right (Nat.le_refl _), Nat.sub_self]; rfl
  · have i1 : S1.1 38 = nI n := by rw [e1]; exact g38
    rw [i1, nI_1] at e2
    have i3 : S3.1 38 - 1 = nI n := by rw [e3, xI_s, e2]; exact sub1
    rw [i3, e3, e2, e1, e5]
    have G20 : (xI (xT S' ((a3, c0, f0, t0, r0), (S.2.1, cf), S'.2.1 45, S'.2.1 46, 4 * S.1.length, rf)) 1313 0).2.2.1 20 = x.2.2.1 20 := by
      show S'.2.2.1 20 = _
      rw [p'.2.2.2]
    rw [G20]
    exact k1 h4 S e S' a3 _ S'.2.1 p' d1.2.2.1 pl1 (by rw [← p'.2.2.2]; exact fr) rfl ⟨rfl, (by omega), hc, rfl, rfl, rfl, hr, rw1, l24⟩
end CPARSE
