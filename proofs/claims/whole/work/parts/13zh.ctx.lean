/-! the class's clauses, and its parse -/
def rowC (f44 f45 f46 f47 : Nat → Int32) (cs k : Nat) (c : CL) : Prop := f47 (4 * k) = nI (32 + c.1) ∧ (c.1 < 4 → f45 c.1 = nI c.2.1 ∧ f46 c.1 = nI (c.2.1 + cl c.2.2.2.2) ∧ hasC f44 c.2.1 (cC c.2.1 c.2.2.2.2) ∧ (cC c.2.1 c.2.2.2.2).length = cl c.2.2.2.2 ∧ c.2.1 + cl c.2.2.2.2 ≤ cs) ∧ (4 ≤ c.1 → f47 (4 * k + 1) = nI c.2.1) ∧ (c.1 = 5 → f47 (4 * k + 2) = nI c.2.2.1 ∧ f47 (4 * k + 3) = nI c.2.2.2.1)
def rowsC (F : Nat → Nat → Int32) (C : List CL) (cs : Nat) : Prop := (∀ k c, C[k]? = some c → rowC (F 44) (F 45) (F 46) (F 47) cs k c) ∧ ∀ l, l < 4 → hasL C l = false → F 45 l = -1
def cS (x : XS) (T : Nat → Nat) (m q : Nat) (S : TS) : Prop := dst x T m q S.2.1 ∧ x.1 1386 = nI S.1.length ∧ x.1 1378 = -1 ∧ S.1.length ≤ 24 ∧ rowsC x.2.1 S.1 S.2.1
def cRes (T : Nat → Nat) (m : Nat) (x : XS) (S : TS) (x' : XS) : (Nat × Nat) ⊕ (Nat × CL) → Prop
  | .inl (f, q') => (1 ≤ f ∧ f ≤ 6) ∧ FT (nI f) (nI q') x x'
  | .inr (q', c) => cS x' T m q' (addC S c) ∧ TF x x' ∧ S.1.length < 24
theorem nI_n6 {f : Nat} (h : 1 ≤ f ∧ f ≤ 6) : nI f ≠ 0 := fun z => by
  rw [show (0 : Int32) = nI 0 from rfl, neq (by omega) (by decide)] at z; omega
section CTX2
variable {T : Nat → Nat} {m : Nat}
theorem hasL_f {C : List CL} {l : Nat} (h : hasL C l = false) {k : Nat} {c : CL} (hc : C[k]? = some c) : c.1 ≠ l := fun e => by
  have : C.any (fun c => c.1 == l) = true := List.any_eq_true.mpr ⟨c, List.mem_of_getElem? hc, by rw [e]; exact beq_self_eq_true l⟩
  unfold hasL at h
  rw [this] at h; exact absurd h (by decide)
theorem hasL_t {C : List CL} {l : Nat} (h : hasL C l = true) : ∃ (k : Nat) (c : CL), C[k]? = some c ∧ c.1 = l := by
  obtain ⟨c, hc, e⟩ := List.any_eq_true.mp h
  obtain ⟨k, hk⟩ := List.getElem?_of_mem hc
  exact ⟨k, c, hk, eq_of_beq e⟩
theorem hasL_a {C : List CL} {c : CL} {l : Nat} : hasL (C ++ [c]) l = (hasL C l || c.1 == l) := by
  unfold hasL
  rw [List.any_append]
  show (_ || (c.1 == l || false)) = _
  rw [Bool.or_false]
theorem get_a {C : List CL} {c d : CL} {k : Nat} (h : (C ++ [c])[k]? = some d) : (k < C.length ∧ C[k]? = some d) ∨ (k = C.length ∧ d = c) := by
  by_cases z : k < C.length
  · rw [List.getElem?_append_left z] at h
    exact Or.inl ⟨z, h⟩
  · rw [List.getElem?_append_right (by omega)] at h
    by_cases y : k - C.length = 0
    · rw [y] at h
      exact Or.inr ⟨by omega, (Option.some.inj h).symm⟩
    · rw [show k - C.length = (k - C.length - 1) + 1 by omega] at h
      exact absurd h (by simp)
theorem get_lt {C : List CL} {d : CL} {k : Nat} (h : C[k]? = some d) : k < C.length := by
  by_cases z : k < C.length
  · exact z
  · rw [List.getElem?_eq_none (by omega)] at h
    exact absurd h (by simp)
/-- a row is kept -/
theorem rowC.keep {f44 f45 f46 f47 g44 g45 g46 g47 : Nat → Int32} {cs cs' k : Nat} {c : CL} (h : rowC f44 f45 f46 f47 cs k c) (hcs : cs ≤ cs') (h44 : keepC f44 g44 cs) (h45 : c.1 < 4 → g45 c.1 = f45 c.1) (h46 : c.1 < 4 → g46 c.1 = f46 c.1) (h47 : ∀ j, 4 * k ≤ j → j < 4 * k + 4 → g47 j = f47 j) : rowC g44 g45 g46 g47 cs' k c := by
  obtain ⟨h1, h2, h3, h4⟩ := h
  refine ⟨by rw [h47 _ (by omega) (by omega)]; exact h1, fun z => ?_, fun z => by rw [h47 _ (by omega) (by omega)]; exact h3 z, fun z => by rw [h47 _ (by omega) (by omega), h47 _ (by omega) (by omega)]; exact h4 z⟩
  obtain ⟨a, b, d, e, f⟩ := h2 z
  exact ⟨by rw [h45 z]; exact a, by rw [h46 z]; exact b, d.keep h44 (by rw [e]; exact f), e, (by omega)⟩
theorem tk_c {x : XS} {q s : Nat} (h : dst x T m q s) (c : Nat) (hc : c < 57) : (x.1 1381 = nI c) = (tkC T m q = c) := by
  have tl := tkC_lt (q := q) h.hT
  rw [h.2.2.2.1.2.2.1, neq (by omega) (by omega)]
theorem sub32 {t : Nat} (h : 32 ≤ t) (h2 : t < 100) : nI t - 32 = nI (t - 32) := by rw [L32, nsub h]
theorem c_clause {Post : XS → Prop} {x : XS} {q : Nat} {S : TS} (h : cS x T m q S) (hp : ∀ x', cRes T m x S x' (clauseF T m q S) → Post x') : VC_X3_parseClause_43 Post x := by
  obtain ⟨h1, h2, h3, h4, ⟨r1, r2⟩⟩ := id h
  have tl := tkC_lt (q := q) h1.hT
  have v3 := h1.2.2.2.1.2.2.1
  have m3 := h1.1.2.1
  obtain ⟨C, cs, ws⟩ := S
  dsimp only at h1 h2 h4 r1 r2
  unfold clauseF at hp
  dsimp only at hp
  intro K hK v1 e1
  rw [v3] at e1
  subst e1
  have one : (tkC T m q < 32 ∨ 38 < tkC T m q) → K (.inl (nI (tkC T m q))) x := fun z => by
    rw [if_pos z] at hp
    exact hK _ _ (d_fail (f := 1) h1 (TF.refl x) (fun x' f' => hp x' ⟨(by omega), f'⟩))
  rw [show (nI (tkC T m q) < (32 : Int32)) = (tkC T m q < 32) by rw [L32, nlt (by omega) (by decide)], show (nI (tkC T m q) ≤ (38 : Int32)) = (tkC T m q ≤ 38) by rw [L38, nle (by omega) (by decide)], show ((36 : Int32) ≤ nI (tkC T m q)) = (36 ≤ tkC T m q) by rw [L36, nle (by decide) (by omega)]]
  refine ⟨fun z => one (Or.inl z), fun z1 => ⟨fun z2 => ?_, fun z => one (Or.inr (by omega))⟩⟩
  rw [if_neg (by omega)] at hp
  -- the third head: room for a clause
  have lt := nx_lt (T := T) h1.2.1 (by omega)
  have le := nx_le (T := T) h1.2.1
  have room : ∀ t0 : Int32, ((t0 = 0) ↔ 36 ≤ tkC T m q) → ¬ (tkC T m q < 36 ∧ hasL C (tkC T m q - 32) = true) → K (.inr (.inr (.inl (nI (tkC T m q), t0)))) x := fun t0 ht n4 => by
    rw [if_neg n4] at hp
    refine hK _ _ ?_
    dsimp only [B_X3_parseClause_43]
    rw [h2, show (nI C.length < (24 : Int32)) = (C.length < 24) by rw [L24, nlt (by omega) (by decide)]]
    refine ⟨fun c24 v4 e4 v5 e5 S6 e6 => ?_, fun c24 => ?_⟩
    · rw [if_neg (by omega)] at hp
      rw [L4, nmul] at e4
      rw [nI_1] at e5
      rw [e4, ncl (by omega)]
      refine ⟨vp_in_nI (by omega) (by decide), fun S7 e7 => ?_⟩
      have t7 : TF x S7 := by rw [e7, e6]; exact ((TF.refl x).I _ _ (by omega)).F _ _ (by omega)
      have i6 : ∀ j, j ≠ 1386 → S7.1 j = x.1 j := fun j hj => by rw [e7, xF_i, e6, xI_n _ _ hj]
      have d7 : dst S7 T m q cs := by
        obtain ⟨a1, a2, a3, ⟨b1, b2, b3, b4⟩, a5, a6, a7⟩ := h1
        exact ⟨t7.tp a1, a2, by rw [i6 _ (by decide)]; exact a3, ⟨by rw [i6 _ (by decide)]; exact b1, by rw [i6 _ (by decide)]; exact b2, by rw [i6 _ (by decide)]; exact b3, fun z => by rw [i6 _ (by decide)]; exact b4 z⟩, by rw [i6 _ (by decide)]; exact a5, by rw [i6 _ (by decide)]; exact a6, a7⟩
      have n7 : S7.1 1386 = nI (C.length + 1) := by rw [e7, xF_i, e6, xI_s, e5]
      have F7 : ∀ a, a ≠ 47 → S7.2.1 a = x.2.1 a := fun a ha => by rw [e7, xF_o _ _ _ _ ha, e6, xI_f]
      have R7 : S7.2.1 47 = upd (x.2.1 47) (4 * C.length) (nI (tkC T m q)) := by rw [e7, xF_s, e6, xI_f]
      refine d_adv d7 (fun S8 d8 a8 => ?_)
      have t8 := t7.trans a8.cf.tf
      have n8 : S8.1 1386 = nI (C.length + 1) := by rw [a8.1 1386 (by decide) (by decide) (by decide) (by decide), n7]
      have p8 : S8.1 1378 = -1 := by rw [a8.1 1378 (by decide) (by decide) (by decide) (by decide), i6 _ (by decide), h3]
      -- the end: ';'
      have fin : ∀ (U : XS) (x2 : Int32) (q' : Nat) (c : CL), dst U T m q' (addC (C, cs, ws) c).2.1 → TF x U → U.1 1386 = nI (C.length + 1) → U.1 1378 = -1 → rowsC U.2.1 (C ++ [c]) (addC (C, cs, ws) c).2.1 → (∀ x', cRes T m x (C, cs, ws) x' (dueS T m 10 q' (fun q2 => .inr (q2, c))) → Post x') → K (.inr (.inr (.inr (nI (tkC T m q), x2, nI (4 * C.length))))) U := fun U x2 q' c dU tU nU pU rU hp => by
        refine hK _ _ ?_
        dsimp only [B_X3_parseClause_43]
        refine d_expect (a := 10) (by decide) dU tU (fun z S' d' a' => hp S' ?_) (fun z S' f' => hp S' ?_)
        · rw [dueS_p z]
          refine ⟨⟨d', ?_, ?_, ?_, ?_⟩, tU.trans a'.cf.tf, c24⟩
          · show S'.1 1386 = nI (C ++ [c]).length
            rw [a'.1 1386 (by decide) (by decide) (by decide) (by decide), nU, List.length_append]; rfl
          · rw [a'.1 1378 (by decide) (by decide) (by decide) (by decide), pU]
          · show (C ++ [c]).length ≤ 24
            rw [List.length_append]; exact c24
          · rw [a'.2]; exact rU
        · rw [dueS_n z]
          exact ⟨(by omega), f'⟩
      have bad : ∀ (U : XS) (x2 : Int32) (f q' : Nat), 1 ≤ f ∧ f ≤ 5 → FT (nI f) (nI q') x U → (∀ x', cRes T m x (C, cs, ws) x' (.inl (f, q')) → Post x') → K (.inr (.inr (.inr (nI (tkC T m q), x2, nI (4 * C.length))))) U := fun U x2 f q' ff fU hp => by
        refine hK _ _ ?_
        dsimp only [B_X3_parseClause_43]
        exact ft_expect (by decide) (nI_n0 ff) fU (fun S' f' => hp S' ⟨(by omega), f'⟩)
      refine ⟨fun t00 => ?_, fun t01 => ?_⟩
      · -- a deed
        have d36 := ht.mp t00
        rw [if_neg (by omega)] at hp
        have es : nI (tkC T m q) = nI (32 + (tkC T m q - 32)) := by rw [show 32 + (tkC T m q - 32) = tkC T m q by omega]
        rw [es]
        rw [es] at fin bad
        refine d_deed (s := tkC T m q - 32) d8 c24 (by omega) (fun S9 r9 => ?_)
        cases hh : deedF T m (tkC T m q - 32) (nx T m q) with
        | inl v =>
          obtain ⟨f, q'⟩ := v
          rw [hh] at hp r9
          exact bad S9 _ f q' r9.1 (r9.2.up t8) hp
        | inr v =>
          obtain ⟨q', a1, a2, a3⟩ := v
          rw [hh, sb_r] at hp
          rw [hh] at r9
          obtain ⟨w1, w2, w3, ⟨w4, w4'⟩, w5, w6, w7⟩ := r9
          have c4 : ¬ (tkC T m q - 32, a1, a2, a3, eNum 0).1 < 4 := by show ¬ tkC T m q - 32 < 4; omega
          have ecs : (addC (C, cs, ws) (tkC T m q - 32, a1, a2, a3, eNum 0)).2.1 = cs := if_neg c4
          refine fin S9 _ q' (tkC T m q - 32, a1, a2, a3, eNum 0) (by rw [ecs]; exact w1) (t8.trans w2) (by rw [w4, n8]) (by rw [w4', p8]) ?_ hp
          rw [ecs]
          have G : ∀ a, a ≠ 47 → S9.2.1 a = x.2.1 a := fun a ha => by rw [w3 a ha, a8.2, F7 a ha]
          refine ⟨fun k c hc => ?_, fun l hl hn => ?_⟩
          · rcases get_a hc with ⟨k1, k2⟩ | ⟨k1, k2⟩
            · refine (r1 k c k2).keep (Nat.le_refl _) (by rw [G 44 (by decide)]; exact keepC.refl _ _) (fun _ => by rw [G 45 (by decide)]) (fun _ => by rw [G 46 (by decide)]) (fun j j1 j2 => ?_)
              rw [w5 j (Or.inl (by omega)), a8.2, R7, upd_n _ _ (by omega)]
            · subst k1 k2
              refine ⟨?_, fun z => absurd z c4, fun _ => w6, fun z => w7 z⟩
              rw [w5 _ (Or.inl (by omega)), a8.2, R7, upd_s]
              exact es
          · rw [hasL_a, Bool.or_eq_false_iff] at hn
            rw [G 45 (by decide)]; exact r2 l hl hn.1
      · -- a law
        have l36 : tkC T m q < 36 := by
          rcases Nat.lt_or_ge (tkC T m q) 36 with y | y
          · exact y
          · exact absurd (ht.mpr y) t01
        rw [if_pos l36] at hp
        intro v10 e10 S11 e11 v12 e12
        have hl4 : tkC T m q - 32 < 4 := (by omega)
        have e10' : v10 = nI (tkC T m q - 32) := by rw [e10]; exact sub32 (by omega) (by omega)
        generalize el : tkC T m q - 32 = l at *
        have i11 : S11.1 1385 = nI l := by rw [e11, xI_s, e10']
        have s11 : S11.1 1387 = nI cs := by rw [e11, xI_n _ _ (by decide)]; exact d8.2.2.2.2.2.1
        rw [s11] at e12
        rw [i11, ncl (by omega)]
        refine ⟨vp_in_nI hl4 (by decide), fun S13 e13 => ?_⟩
        have t13 : TF x S13 := by rw [e13, e11]; exact ((t8.I _ _ (by omega)).F _ _ (by omega))
        have i13 : ∀ j, j ≠ 1385 → S13.1 j = S8.1 j := fun j hj => by rw [e13, xF_i, e11, xI_n _ _ hj]
        have c13 : cst S13 T m l (nx T m q) 0 cs := by
          obtain ⟨a1, a2, a3, ⟨b1, b2, b3, b4⟩, a5, a6, a7⟩ := d8
          exact ⟨t13.tp h1.1, a2, by rw [i13 _ (by decide)]; exact a3, ⟨by rw [i13 _ (by decide)]; exact b1, by rw [i13 _ (by decide)]; exact b2, by rw [i13 _ (by decide)]; exact b3, fun z => by rw [i13 _ (by decide)]; exact b4 z⟩, ⟨by rw [i13 _ (by decide)]; exact a5, (by decide)⟩, ⟨by rw [e13, xF_i, i11], hl4⟩, by rw [i13 _ (by decide)]; exact a6, a7⟩
        refine CG 100 0 _ S13 (nx T m q) 0 cs (by decide) c13 (by decide) (fun S14 r14 v15 e15 => ?_)
        unfold lawF at hp
        cases hh : PF T m l 100 0 (nx T m q) 0 with
        | inl v =>
          obtain ⟨f, q'⟩ := v
          rw [hh] at hp r14
          have f14 : FT (nI f) (nI q') x S14 := r14.2.ft t13
          have e85 : S14.1 1385 = nI l := by rw [r14.2.1.1 1385 (by omega)]; exact c13.2.2.2.2.2.1.1
          rw [e85]
          refine ⟨vp_in_nI hl4 (by decide), fun S16 e16 => ?_⟩
          exact bad S16 _ f q' r14.1 (by rw [e16]; exact f14.F _ _ (by omega)) hp
        | inr v =>
          obtain ⟨q', e⟩ := v
          rw [hh, sb_r] at hp
          rw [hh] at r14
          obtain ⟨⟨c14, f14, p14, k14, hc14⟩, len⟩ := r14
          obtain ⟨a1, a2, a3, a4, a5, a6, a7, a8'⟩ := id c14
          rw [len cs] at a7 a8'
          rw [a6.1, ncl (by omega)]
          refine ⟨vp_in_nI hl4 (by decide), fun S16 e16 => ?_⟩
          have c4 : (l, cs, ws, 0, e).1 < 4 := hl4
          have ecs : (addC (C, cs, ws) (l, cs, ws, 0, e)).2.1 = cs + cl e := if_pos c4
          have t14 := t13.trans f14.tf
          have t16 : TF x S16 := by rw [e16]; exact t14.F _ _ (by omega)
          have d16 : dst S16 T m q' (cs + cl e) := by
            rw [e16]
            exact dst.F ⟨a1, a2, a3, a4, a5.1, a7, a8'⟩ (by decide)
          refine fin S16 _ q' (l, cs, ws, 0, e) (by rw [ecs]; exact d16) t16 ?_ ?_ ?_ hp
          · rw [e16, xF_i, f14.1 1386 (by omega), i13 _ (by decide), n8]
          · rw [e16, xF_i, p14, i13 _ (by decide), p8]
          · rw [ecs]
            have G : ∀ a, a ≠ 44 → a ≠ 45 → a ≠ 46 → S16.2.1 a = S8.2.1 a := fun a h1 h2 h3 => by rw [e16, xF_o _ _ _ _ h3, f14.2.1 a h1, e13, xF_o _ _ _ _ h2, e11, xI_f]
            have G44 : S16.2.1 44 = S14.2.1 44 := by rw [e16, xF_o _ _ _ _ (by decide)]
            have G45 : S16.2.1 45 = upd (x.2.1 45) l (nI cs) := by rw [e16, xF_o _ _ _ _ (by decide), f14.2.1 45 (by decide), e13, xF_s, e12, e11, xI_f, a8.2, F7 45 (by decide)]
            have G46 : S16.2.1 46 = upd (x.2.1 46) l (nI (cs + cl e)) := by rw [e16, xF_s, e15, a7, f14.2.1 46 (by decide), e13, xF_o _ _ _ _ (by decide), e11, xI_f, a8.2, F7 46 (by decide)]
            have K44 : keepC (x.2.1 44) (S16.2.1 44) cs := by
              rw [G44]
              intro j hj
              rw [k14 j hj, e13, xF_o _ _ _ _ (by decide), e11, xI_f, a8.2, F7 44 (by decide)]
            have nl : hasL C l = false := by
              cases y : hasL C l with
              | false => rfl
              | true => exact absurd ⟨l36, y⟩ n4
            refine ⟨fun k c hc => ?_, fun l' hl' hn => ?_⟩
            · rcases get_a hc with ⟨k1, k2⟩ | ⟨k1, k2⟩
              · have ne := hasL_f nl k2
                refine (r1 k c k2).keep (by omega) K44 (fun _ => by rw [G45, upd_n _ _ ne]) (fun _ => by rw [G46, upd_n _ _ ne]) (fun j j1 j2 => ?_)
                rw [G 47 (by decide) (by decide) (by decide), a8.2, R7, upd_n _ _ (by omega)]
              · subst k1 k2
                refine ⟨?_, fun _ => ⟨?_, ?_, ?_, len cs, Nat.le_refl _⟩, fun z => absurd z (by show ¬ 4 ≤ l; omega), fun z => absurd z (by show ¬ l = 5; omega)⟩
                · rw [G 47 (by decide) (by decide) (by decide), a8.2, R7, upd_s]
                  show _ = nI (32 + l)
                  rw [show 32 + l = tkC T m q by omega]
                · rw [G45]; exact upd_s _ _ _
                · rw [G46]; exact upd_s _ _ _
                · rw [G44]; exact hc14
            · rw [hasL_a, Bool.or_eq_false_iff] at hn
              have ne : l' ≠ l := fun w => by
                have := hn.2
                rw [w] at this
                exact absurd ((beq_self_eq_true l).symm.trans this) (by decide)
              rw [G45, upd_n _ _ ne]; exact r2 l' hl' hn.1
    · rw [if_pos (by omega)] at hp
      exact d_fail (f := 6) h1 (TF.refl x) (fun x' f' => hp x' ⟨(by omega), f'⟩)
  refine ⟨fun z36 => ?_, fun z36 => ?_⟩
  · refine hK _ _ ⟨fun _ => room 0 ⟨fun _ => z36, fun _ => rfl⟩ (fun z => absurd z.1 (by omega)), fun z => absurd rfl z⟩
  · refine hK _ _ ⟨fun z => absurd z (by decide), fun _ => ?_⟩
    rw [sub32 (by omega) (by omega), ncl (by omega)]
    refine ⟨vp_in_nI (by omega) (by decide), fun z => ?_, fun z => ?_⟩
    · refine room 1 ⟨fun y => absurd y (by decide), fun y => absurd y z36⟩ (fun y => ?_)
      obtain ⟨k, c, g1, g2⟩ := hasL_t y.2
      have := ((r1 k c g1).2.1 (by rw [g2]; omega)).1
      rw [g2, z] at this
      have lt31 : c.2.1 < 2147483648 := by
        have := ((r1 k c g1).2.1 (by rw [g2]; omega)).2.2.2.2
        have := h1.2.2.2.2.2.2
        omega
      exact absurd this.symm (by rw [show (-1 : Int32) = -nI 1 from rfl, nm1 lt31]; exact id)
    · have y : hasL C (tkC T m q - 32) = true := by
        cases w : hasL C (tkC T m q - 32) with
        | true => rfl
        | false => exact absurd (r2 _ (by omega) w) z
      rw [if_pos ⟨by omega, y⟩] at hp
      exact d_fail (f := 4) h1 (TF.refl x) (fun x' f' => hp x' ⟨(by omega), f'⟩)
end CTX2
