/-! signs and the next token, of the class -/
def gS : List Nat := [60, 62, 61, 35, 43, 45, 42, 47, 40, 41, 59, 63, 58]
def sgF (c : Nat) : Nat := if gS.idxOf c < 13 then gS.idxOf c else 17
def ixF (c : Nat) : Int32 := if gS.idxOf c < 13 then nI (gS.idxOf c) else -1
theorem gS_ok : ∀ c : Fin 256, ∀ j : Fin 13, (eG.getD j.1 0 = (((nI c.1).toUInt32 % 65536).toInt32).toInt8.toInt32 ↔ gS.getD j.1 0 = c.1) := by decide +kernel
theorem gS_c : ∀ c : Fin 256, ((nI c.1).toUInt32 % 65536).toInt32 = nI c.1 := by decide +kernel
theorem gS_f : ∀ c : Fin 256, ∀ j : Fin 13, gS.getD j.1 0 = c.1 → (∀ i : Fin 13, i.1 < j.1 → ¬ gS.getD i.1 0 = c.1) → gS.idxOf c.1 = j.1 := by decide +kernel
theorem gS_n : ∀ c : Fin 256, (∀ i : Fin 13, ¬ gS.getD i.1 0 = c.1) → ¬ gS.idxOf c.1 < 13 := by decide +kernel
theorem c_idx {Post : Int32 → XS → Prop} {S : XS} {c : Nat} (hc : c ≤ 255) (h : Post (ixF c) S) : VC_J0_indexOf_0f7a4_102 Post (((nI c).toUInt32 % 65536).toInt32) S := by
  have g1 := gS_ok ⟨c, (by omega)⟩
  have g2 := gS_c ⟨c, (by omega)⟩
  have g3 := gS_f ⟨c, (by omega)⟩
  have g4 := gS_n ⟨c, (by omega)⟩
  simp only at g1 g2 g3 g4
  refine ⟨fun z => absurd z (by decide), fun _ => ⟨fun z => absurd z (by decide), fun _ => ⟨fun z => absurd z (by decide), fun _ => ⟨fun z => absurd z (by decide), fun _ => ?_⟩⟩⟩⟩
  have k1 : ¬ ((nI c).toUInt32 % 65536).toInt32 < 0 := by rw [g2]; exact nI_pos (by omega)
  have k2 : ¬ 255 < ((nI c).toUInt32 % 65536).toInt32 := by rw [g2]; exact nI_nlt (a := 255) (by omega) (by decide)
  refine ⟨fun z => absurd z k1, fun _ => ⟨fun z => absurd z k2, fun _ => ⟨fun _ v2 e2 v3 e3 => ⟨fun _ => ?_, fun z => absurd (by rw [e2, e3]; decide) z⟩, fun z => absurd z (by decide)⟩⟩⟩
  intro K hK v4 e4
  have e2' : v2 = nI 0 := by rw [e2]; rfl
  have e3' : v3 = nI 13 := by rw [e3]; rfl
  rw [e2', e3']
  have loop : ∀ n x : Nat, x + n = 13 → (∀ i : Fin 13, i.1 < x → ¬ gS.getD i.1 0 = c) → K (((nI c).toUInt32 % 65536).toInt32, nI 0, nI 13, v4, nI x) S := by
    intro n
    induction n with
    | zero =>
      intro x hx hm
      have ex : x = 13 := (by omega)
      subst ex
      refine hK _ _ ⟨fun _ => ?_, fun z => absurd (Int32.le_refl _) z⟩
      have e : ixF c = -1 := if_neg (g4 (fun i => hm i i.2))
      rw [← e]; exact h
    | succ n ih =>
      intro x hx hm
      refine hK _ _ ⟨fun z => absurd z (nI_ge (by omega) (by omega)), fun _ => ⟨vp_in_nI (by omega) (by decide), ?_⟩⟩
      rw [ncl (by omega), e4, g1 ⟨x, (by omega)⟩]
      refine ⟨fun ne v2 e2 => ?_, fun e => ?_⟩
      · rw [e2, nI_1, ← e4]
        refine ih (x + 1) (by omega) (fun i hi => ?_)
        by_cases z : i.1 = x
        · rw [z]; exact ne
        · exact hm i (by omega)
      · have e5 := g3 ⟨x, (by omega)⟩ e hm
        have e6 : ixF c = nI x := by unfold ixF; rw [e5]; exact if_pos (by omega)
        rw [← e6]; exact h
  exact loop 13 0 rfl (fun i hi => absurd hi (by omega))
def twF (T : Nat → Nat) (m q : Nat) : Bool := decide ((T q = 60 ∨ T q = 62) ∧ q + 1 < m ∧ T (q + 1) = 61)
def sgC (T : Nat → Nat) (m q : Nat) : Nat := if twF T m q = true then (if T q = 60 then 13 else 14) else sgF (T q)
def sgE (T : Nat → Nat) (m q : Nat) : Nat := if twF T m q = true then q + 2 else q + 1
def tkC (T : Nat → Nat) (m q : Nat) : Nat := if m ≤ q then 16 else if bL (T q) = true then wcF T q (eF bL T m q) 135 else if bD (T q) = true then 15 else sgC T m q
def tkE (T : Nat → Nat) (m q : Nat) : Nat := if m ≤ q then q else if bL (T q) = true then eF bL T m q else if bD (T q) = true then eF bD T m q else sgE T m q
def tkV (T : Nat → Nat) (m q : Nat) : Nat := vcF T m (m - q) q 0
theorem gS_01 : ∀ c : Fin 256, (ixF c.1 = 0 ↔ c.1 = 60) ∧ (ixF c.1 = 1 ↔ c.1 = 62) ∧ (0 ≤ ixF c.1 → ixF c.1 = nI (sgF c.1)) ∧ (¬ 0 ≤ ixF c.1 → sgF c.1 = 17) := by decide +kernel
theorem wcF_n15 {T : Nat → Nat} {p e : Nat} : ∀ {x : Nat}, ¬ wcF T p e x = 15
  | 0 => show ¬ ((17 : Nat) = 15) from (by decide)
  | x + 1 => by
    unfold wcF
    split
    · omega
    · exact wcF_n15
theorem sgF_n15 : ∀ c : Fin 256, ¬ sgF c.1 = 15 := by decide +kernel
theorem sgC_n15 {T : Nat → Nat} {m q : Nat} (h : T q ≤ 255) : ¬ sgC T m q = 15 := by
  unfold sgC
  split
  · split <;> decide
  · exact sgF_n15 ⟨T q, (by omega)⟩
section CADV
variable {T : Nat → Nat} {m : Nat}
theorem c_sign {Post : XS → Prop} {S : XS} {q : Nat} (ht : tpX S T m) (i0 : S.1 1380 = nI q) (hq : q < m) (h : ∀ S', AFr S S' → S'.1 1380 = nI (sgE T m q) → S'.1 1382 = S.1 1382 → S'.1 1381 = nI (sgC T m q) → Post S') : VC_X3_readSign_43 Post (nI (T q)) S := by
  obtain ⟨t1, t2, t3⟩ := id ht
  have tq := (t3 q hq).2
  obtain ⟨g0, g1, g2, g3⟩ := gS_01 ⟨T q, (by omega)⟩
  simp only at g0 g1 g2 g3
  intro K hK
  refine c_idx tq (fun v3 e3 S4 e4 => ?_)
  rw [i0, nI_1] at e3
  have a4 : AFr S S4 := by rw [e4]; exact (AFr.refl S).I _ _ (by omega)
  have z0 : S4.1 1380 = nI (q + 1) := by rw [e4, xI_s, e3]
  have z2 : S4.1 1382 = S.1 1382 := by rw [e4, xI_n _ _ (by decide)]
  have one : twF T m q = false → K (.inr (nI (T q), ixF (T q), 0)) S4 := fun w => by
    have w1 : sgE T m q = q + 1 := if_neg (by rw [w]; decide)
    have w2 : sgC T m q = sgF (T q) := if_neg (by rw [w]; decide)
    refine hK _ _ ⟨fun _ => ⟨fun z S5 e5 => ?_, fun z S6 e6 => ?_⟩, fun z => absurd rfl z⟩
    · refine h S5 (by rw [e5]; exact a4.I _ _ (by omega)) (by rw [e5, xI_n _ _ (by decide), z0, w1]) (by rw [e5, xI_n _ _ (by decide), z2]) (by rw [e5, xI_s, g2 z, w2])
    · refine h S6 (by rw [e6]; exact a4.I _ _ (by omega)) (by rw [e6, xI_n _ _ (by decide), z0, w1]) (by rw [e6, xI_n _ _ (by decide), z2]) (by rw [e6, xI_s, w2, g3 z]; rfl)
  have two : (T q = 60 ∨ T q = 62) → K (.inl (nI (T q), ixF (T q))) S4 := fun w => by
    refine hK _ _ ⟨fun z => one ?_, fun z => ?_⟩
    · rw [(a4.tp ht).1, z0] at z
      refine decide_eq_false (fun y => absurd z (nI_ge (by omega) (by omega)))
    · rw [(a4.tp ht).1, z0] at z
      have hl : q + 1 < m := by
        rcases Nat.lt_or_ge (q + 1) m with y | y
        · exact y
        · exact absurd (nI_le (by omega) (by omega)) z
      have t4 := (a4.tp ht).2.2 (q + 1) hl
      rw [z0, ncl (by omega), t4.1, show (nI (T (q + 1)) = (61 : Int32)) = (T (q + 1) = 61) by rw [show (61 : Int32) = nI 61 from rfl, neq (by omega) (by decide)]]
      refine ⟨vp_in_nI (by omega) (by decide), fun y => one (decide_eq_false (fun x => y x.2.2)), fun y => hK _ _ ⟨fun z => absurd z (by decide), fun _ v7 e7 S8 e8 => ?_⟩⟩
      have tw : twF T m q = true := decide_eq_true ⟨w, hl, y⟩
      have w1 : sgE T m q = q + 2 := if_pos tw
      have w2 : sgC T m q = (if T q = 60 then 13 else 14) := if_pos tw
      have a8 : AFr S S8 := by rw [e8]; exact a4.I _ _ (by omega)
      rw [z0, nI_1] at e7
      refine ⟨fun x S9 e9 => ?_, fun x S10 e10 => ?_⟩
      · refine h S9 (by rw [e9]; exact a8.I _ _ (by omega)) (by rw [e9, xI_n _ _ (by decide), e8, xI_s, e7, w1]) (by rw [e9, xI_n _ _ (by decide), e8, xI_n _ _ (by decide), z2]) (by rw [e9, xI_s, w2, if_neg (fun y => x (g0.mpr y))]; rfl)
      · refine h S10 (by rw [e10]; exact a8.I _ _ (by omega)) (by rw [e10, xI_n _ _ (by decide), e8, xI_s, e7, w1]) (by rw [e10, xI_n _ _ (by decide), e8, xI_n _ _ (by decide), z2]) (by rw [e10, xI_s, w2, if_pos (g0.mp x)]; rfl)
  rw [g0, g1]
  refine ⟨fun w => two (Or.inl w), fun w => ⟨fun y => one (decide_eq_false (fun x => x.1.elim w y)), fun y => two (Or.inr y)⟩⟩
theorem c_adv {Post : XS → Prop} {S : XS} {p : Nat} (ht : tpX S T m) (hf : S.1 1377 = 0) (i0 : S.1 1380 = nI p) (hp : p ≤ m) (h : ∀ S', AFr S S' → S'.1 1380 = nI (tkE T m (eF bB T m p)) → S'.1 1382 = nI (eF bB T m p) → S'.1 1381 = nI (tkC T m (eF bB T m p)) → (tkC T m (eF bB T m p) = 15 → S'.1 1383 = nI (tkV T m (eF bB T m p))) → Post S') : VC_X3_advance_43 Post S := by
  obtain ⟨t1, t2, t3⟩ := id ht
  have le := eF_le (q := bB) (T := T) (m := m) hp
  intro K hK
  refine ⟨fun _ => ?_, fun z => absurd hf z⟩
  obtain ⟨q, eq⟩ : ∃ q, q = eF bB T m p := ⟨_, rfl⟩
  rw [← eq] at h le
  have read : ∀ U : XS, AFr S U → U.1 1380 = nI q → K (.inr ()) U := by
    intro U fU u0
    refine hK _ _ (fun v5 e5 S6 e6 => ?_)
    have f6 : AFr S S6 := by rw [e6]; exact fU.I _ _ (by omega)
    have s0 : S6.1 1380 = nI q := by rw [e6, xI_n _ _ (by decide), u0]
    have s2 : S6.1 1382 = nI q := by rw [e6, xI_s, e5, u0]
    have tS := f6.tp ht
    refine ⟨fun z => ?_, fun z S15 e15 => ?_⟩
    · have hq : q < m := by
        rw [s0, tS.1] at z
        rcases Nat.lt_or_ge q m with y | y
        · exact y
        · exact absurd z (nI_nlt (by omega) (by omega))
      have tx := tS.2.2 q hq
      have nq : ¬ m ≤ q := (by omega)
      rw [s0, ncl (by omega), tx.1]
      refine ⟨vp_in_nI (by omega) (by decide), fun v7 e7 => ?_⟩
      rw [e7]
      refine c_isL tx.2 (fun hl => ⟨fun z => absurd z (by decide), fun _ => ?_⟩) (fun hl => ⟨fun _ => ?_, fun z => absurd rfl z⟩)
      · have w1 : tkC T m q = wcF T q (eF bL T m q) 135 := by unfold tkC; rw [if_neg nq, if_pos hl]
        have w2 : tkE T m q = eF bL T m q := by unfold tkE; rw [if_neg nq, if_pos hl]
        refine c_word tS s0 s2 (by omega) (fun S' f k0 k2 k1 => h S' (f6.trans f) (by rw [k0, w2]) k2 (by rw [k1, w1]) (fun z => absurd z ?_))
        rw [w1]; exact wcF_n15
      · have nl : ¬ bL (T q) = true := by rw [hl]; decide
        refine c_isD tx.2 (fun hd => ⟨fun z => absurd z (by decide), fun _ => ?_⟩) (fun hd => ⟨fun _ => ?_, fun z => absurd rfl z⟩)
        · have w1 : tkC T m q = 15 := by unfold tkC; rw [if_neg nq, if_neg nl, if_pos hd]
          have w2 : tkE T m q = eF bD T m q := by unfold tkE; rw [if_neg nq, if_neg nl, if_pos hd]
          exact c_num tS s0 (by omega) (fun S' f k0 k2 k1 k3 => h S' (f6.trans f) (by rw [k0, w2]) (by rw [k2, s2]) (by rw [k1, w1]) (fun _ => k3))
        · have nd : ¬ bD (T q) = true := by rw [hd]; decide
          have w1 : tkC T m q = sgC T m q := by unfold tkC; rw [if_neg nq, if_neg nl, if_neg nd]
          have w2 : tkE T m q = sgE T m q := by unfold tkE; rw [if_neg nq, if_neg nl, if_neg nd]
          refine c_sign tS s0 hq (fun S' f k0 k2 k1 => h S' (f6.trans f) (by rw [k0, w2]) (by rw [k2, s2]) (by rw [k1, w1]) (fun z => absurd z ?_))
          rw [w1]; exact sgC_n15 tx.2
    · have hq : m ≤ q := by
        rw [s0, tS.1] at z
        rcases Nat.lt_or_ge q m with y | y
        · exact absurd (nI_lt y (by omega)) z
        · exact y
      have w1 : tkC T m q = 16 := if_pos hq
      have w2 : tkE T m q = q := if_pos hq
      exact h S15 (by rw [e15]; exact f6.I _ _ (by omega)) (by rw [e15, xI_n _ _ (by decide), s0, w2]) (by rw [e15, xI_n _ _ (by decide), s2]) (by rw [e15, xI_s, w1]; rfl) (fun z => by rw [w1] at z; exact absurd z (by decide))
  have run : ∀ n x : Nat, ∀ U : XS, x + n = m → AFr S U → U.1 1380 = nI x → eF bB T m x = q → K (.inl ()) U := by
    intro n
    induction n with
    | zero =>
      intro x U hx fU u0 he
      have ex : x = m := (by omega)
      have e1 : eF bB T m x = x := eF_n (by omega)
      refine hK _ _ ⟨fun _ => read U fU (by rw [← he, e1]; exact u0), fun z => absurd ?_ z⟩
      rw [(fU.tp ht).1, u0, ex]; exact Int32.le_refl _
    | succ n ih =>
      intro x U hx fU u0 he
      have tx := (fU.tp ht).2.2 x (by omega)
      refine hK _ _ ⟨fun z => absurd z (by rw [(fU.tp ht).1, u0]; exact nI_ge (by omega) (by omega)), fun _ => ?_⟩
      rw [u0, ncl (by omega), tx.1, show (nI (T x) = (32 : Int32)) = (T x = 32) by rw [show (32 : Int32) = nI 32 from rfl, neq (by omega) (by decide)], show (nI (T x) = (10 : Int32)) = (T x = 10) by rw [show (10 : Int32) = nI 10 from rfl, neq (by omega) (by decide)], nI_1]
      have go : bB (T x) = true → ∀ v : Int32, v = nI (x + 1) → ∀ V : XS, V = xI U 1380 v → K (.inl ()) V := fun hb v ev V eV =>
        ih (x + 1) V (by omega) (by rw [eV]; exact fU.I _ _ (by omega)) (by rw [eV, xI_s, ev]) (by rw [← he, eF_y (by omega) hb])
      refine ⟨vp_in_nI (by omega) (by decide), fun z v ev V eV => go (decide_eq_true (Or.inl z)) v ev V eV, fun z => ⟨vp_in_nI (by omega) (by decide), fun w => read U fU ?_, fun w v ev V eV => go (decide_eq_true (Or.inr w)) v ev V eV⟩⟩
      have nb : bB (T x) = false := decide_eq_false (fun y => y.elim z w)
      rw [← he, eF_n (fun y => by rw [nb] at y; exact absurd y.2 (by decide))]; exact u0
  exact run (m - p) p S (by omega) (AFr.refl S) i0 eq.symm
end CADV
