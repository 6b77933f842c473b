/-! odds -/
def smN (n : Nat) (f : Nat → Nat) : Nat := sumR (fun _ => true) f n
theorem smN_s (n : Nat) (f : Nat → Nat) : smN (n + 1) f = smN n f + f n := rfl
theorem smN_add (n : Nat) (f g : Nat → Nat) : smN n (fun i => f i + g i) = smN n f + smN n g := by
  induction n with
  | zero => rfl
  | succ n ih => rw [smN_s, smN_s, smN_s, ih]; omega
theorem smN_congr {n : Nat} {f g : Nat → Nat} (h : ∀ i, i < n → f i = g i) : smN n f = smN n g := sumR_congr (fun i hi => ⟨rfl, h i hi⟩)
theorem smN_le {n B : Nat} {f : Nat → Nat} (h : ∀ i, i < n → f i ≤ B) : smN n f ≤ n * B := sumR_le h
/-- pairs are counted twice -/
theorem twice {m : Nat → Nat → Nat} : ∀ {n : Nat}, (∀ b c, b < n → c < n → m b c = m c b) → (∀ b, b < n → m b b = 0) → smN n (fun b => smN n (m b)) = 2 * smN n (fun b => smN b (m b))
  | 0, _, _ => rfl
  | n + 1, h1, h2 => by
    have ih := twice (n := n) (fun b c hb hc => h1 b c (by omega) (by omega)) (fun b hb => h2 b (by omega))
    rw [smN_s, smN_s n (fun b => smN b (m b)), smN_s n (m n), h2 n (by omega)]
    have e : smN n (fun b => smN (n + 1) (m b)) = smN n (fun b => smN n (m b)) + smN n (m n) := by
      rw [← smN_add]
      refine smN_congr (fun b hb => ?_)
      rw [smN_s, h1 b n (by omega) (by omega)]
    rw [e, ih]
    omega
theorem sumR_tail {q : Nat → Bool} {w : Nat → Nat} {n : Nat} : ∀ {m : Nat}, n ≤ m → (∀ i, n ≤ i → i < m → q i = false) → sumR q w m = sumR q w n
  | 0, h, _ => by rw [show n = 0 by omega]
  | m + 1, h, hq => by
    by_cases z : n = m + 1
    · rw [z]
    · show sumR q w m + (if q m then w m else 0) = _
      rw [hq m (by omega) (by omega), sumR_tail (m := m) (by omega) (fun i h1 h2 => hq i h1 (by omega))]
      rfl
theorem sumR_sm (q : Nat → Bool) (w : Nat → Nat) : ∀ n, sumR q w n = smN n (fun i => if q i then w i else 0)
  | 0 => rfl
  | n + 1 => by
    show sumR q w n + _ = _
    rw [sumR_sm q w n, smN_s]
theorem bitsN_sm {t n : Nat} (ht : t < 2 ^ n) (hn : n ≤ 10) : bitsN t = smN n (fun c => if t.testBit c then 1 else 0) := by
  unfold bitsN
  rw [← sumR_sm]
  exact sumR_tail hn (fun i h1 _ => Nat.testBit_lt_two_pow (Nat.lt_of_lt_of_le ht (Nat.pow_le_pow_right (by decide) h1)))
/-- a pair of givers who quarrel -/
def mQ (A : Nat → Nat) (p b c : Nat) : Nat := if 0 < A (154 + 10 * p + b) ∧ 0 < A (154 + 10 * p + c) ∧ (A (14 + 5 * b)).testBit c = true then 1 else 0
def qrN (A : Nat → Nat) (p n : Nat) : Nat := smN n (fun b => smN b (mQ A p b))
def mnN (A : Nat → Nat) (p n : Nat) : Nat := smN n (fun b => if 0 < A (154 + 10 * p + b) then 1 else 0)
def nuK (A : Nat → Nat) (p : Nat) : Nat → Nat := fun k => if k = 0 then A 3 else if k = 5 then A (150 + 10 * p) else if k = 6 then A (40 + 3 * A (150 + 10 * p)) else if k = 7 then A (42 + 3 * A (150 + 10 * p)) else if k = 9 then qrN A p (A 0) else mnN A p (A 0)
def brV (o : LAW) (A : Nat → Nat) (p : Nat) : Nat := o.elim 0 (fun q => q (nuK A p))
theorem brV_le {o : LAW} (ho : ∀ q, o = some q → ∀ v, q v ≤ topL 2) (A : Nat → Nat) (p : Nat) : brV o A p ≤ 10 := by
  cases o with
  | none => show 0 ≤ 10; omega
  | some q => exact ho q rfl _
theorem mQ_le (A : Nat → Nat) (p b c : Nat) : mQ A p b c ≤ 1 := by unfold mQ; split <;> omega
theorem qrN_le (A : Nat → Nat) (p n : Nat) : qrN A p n ≤ n * n := smN_le (fun b hb => Nat.le_trans (smN_le (B := 1) (fun c _ => mQ_le A p b c)) (by omega))
theorem mnN_le (A : Nat → Nat) (p n : Nat) : mnN A p n ≤ n := by
  have : mnN A p n ≤ n * 1 := smN_le (fun b _ => by split <;> omega)
  omega
theorem nuK_le {A : Nat → Nat} {p k : Nat} (hI : Inv A) (hp : p < A 2) : nuK A p k ≤ 1000 := by
  have bb := hI.b
  have kk := (hI.piece hp).1
  have := hI.2.2.2.1 _ kk
  have h1 := qrN_le A p (A 0)
  have h2 := mnN_le A p (A 0)
  have h3 : A 0 * A 0 ≤ 6 * 6 := Nat.mul_le_mul (by omega) (by omega)
  unfold nuK
  split
  · omega
  split
  · omega
  split
  · omega
  split
  · omega
  split <;> omega
section BRIT
variable {A : Nat → Nat} {x : XS} {y : MS} {o : LAW}
theorem c_quarrels {Post : Int32 → XS → Prop} {S : XS} {s : Nat} (hI : Inv A) (hC : rxCrew S.1 S.2.1 A) (hs : s < 2 ^ A 0) {p : Nat} (hg : ∀ b, b < A 0 → (s.testBit b = true ↔ 0 < A (154 + 10 * p + b))) (h : Post (nI (qrN A p (A 0))) S) : VC_X1_quarrelsIn_2 Post (nI s) S := by
  obtain ⟨b0, b1, b2, b3, b4, b5, b6, b7, b8, b9⟩ := hI.b
  have p6 : 2 ^ A 0 ≤ 64 := pow6 b0
  intro K hK
  have fs : ∀ b, b < A 0 → A (14 + 5 * b) &&& s < 2 ^ A 0 := fun b hb => Nat.lt_of_le_of_lt Nat.and_le_right hs
  have row : ∀ b, b < A 0 → (if s.testBit b then bitsN (A (14 + 5 * b) &&& s) else 0) = smN (A 0) (mQ A p b) := fun b hb => by
    by_cases z : s.testBit b = true
    · rw [if_pos z, bitsN_sm (fs b hb) (by omega)]
      refine smN_congr (fun c hc => ?_)
      unfold mQ
      rw [Nat.testBit_and]
      have g1 := (hg b hb).mp z
      have g2 := hg c hc
      cases z1 : (A (14 + 5 * b)).testBit c <;> cases z2 : s.testBit c
      · simp
      · simp
      · have : ¬ 0 < A (154 + 10 * p + c) := fun w => by rw [g2.mpr w] at z2; exact absurd z2 (by decide)
        simp [this]
      · have : 0 < A (154 + 10 * p + c) := g2.mp z2
        simp [this, g1]
    · rw [if_neg z]
      symm
      have : ¬ 0 < A (154 + 10 * p + b) := fun w => z ((hg b hb).mpr w)
      have e : ∀ n, smN n (mQ A p b) = 0 := by
        intro n
        induction n with
        | zero => rfl
        | succ n ih => rw [smN_s, ih]; unfold mQ; rw [if_neg (fun w => this w.1)]
      exact e _
  have tw : smN (A 0) (fun b => smN (A 0) (mQ A p b)) = 2 * qrN A p (A 0) := twice (fun b c hb hc => by
      unfold mQ
      have := (hI.2.2.1 b c hb hc).1
      rw [this]
      by_cases z1 : 0 < A (154 + 10 * p + b) <;> by_cases z2 : 0 < A (154 + 10 * p + c) <;> simp [z1, z2]) (fun b hb => by
      unfold mQ
      rw [(hI.2.2.1 b b hb hb).2, if_neg (fun w => absurd w.2.2 (by decide))])
  have rl : ∀ b, b < A 0 → smN (A 0) (mQ A p b) ≤ 6 := fun b hb => Nat.le_trans (smN_le (B := 1) (fun c _ => mQ_le A p b c)) (by omega)
  have loop : ∀ k i : Nat, i + k = A 0 → K (nI s, nI (smN i (fun b => smN (A 0) (mQ A p b))), nI i) S := by
    intro k
    induction k with
    | zero =>
      intro i hi
      have ei : i = A 0 := (by omega)
      refine hK _ _ ⟨fun _ => ⟨by decide, ?_⟩, fun z => absurd (by rw [hC.1, ei]; exact Int32.le_refl _) z⟩
      have q1 := qrN_le A p (A 0)
      have q2 : A 0 * A 0 ≤ 6 * 6 := Nat.mul_le_mul (by omega) (by omega)
      rw [ei, tw, L2, pk_div (by omega) (by decide) (by decide), show 2 * qrN A p (A 0) / 2 = qrN A p (A 0) by omega]
      exact h
    | succ k ih =>
      intro i hi
      have nx := ih (i + 1) (by omega)
      rw [smN_s, ← row i (by omega)] at nx
      refine hK _ _ ⟨fun z => absurd z (by rw [hC.1]; exact nI_ge (by omega) (by omega)), fun _ => ?_⟩
      rw [L31, L1, L0, nbit0 (by omega) (by omega)]
      refine ⟨fun z v1 e1 => ?_, fun z => ⟨vp_in_nI (by omega) (by decide), ?_⟩⟩
      · rw [e1, nadd]
        rw [z, if_neg (by decide), Nat.add_zero] at nx
        exact nx
      · have z1 : s.testBit i = true := by cases w : s.testBit i; exact absurd w z; rfl
        have f6 := fs i (by omega)
        refine bc (s := A (14 + 5 * i) &&& s) (by rw [ncl (by omega), (hC.2 i (by omega)).2.2.2, nand]) (by omega) (fun v3 e3 v4 e4 => ?_)
        rw [e3, e4, nadd, nadd]
        rw [if_pos z1] at nx
        exact nx
  exact loop (A 0) 0 (by omega)
theorem c_brittle {Post : Int32 → XS → Prop} {p : Nat} (hJ : JTc x.2.2 (x.1 38) (x.1 39) 2 o) (hI : Inv A) (hx : RX x.1 x.2.1 A) (hp : p < A 2) (hP : ∀ x', JFr x x' → Post (nI (brV o A p)) x') : VC_X2_brittleOf_48_1 Post (nI p) x := by
  obtain ⟨b0, b1, b2, b3, b4, b5, b6, b7, b8, b9⟩ := hI.b
  have p6 : 2 ^ A 0 ≤ 64 := pow6 b0
  have hj := hJ x rfl rfl rfl
  cases o with
  | none => exact hj.1 rfl _ ⟨fun _ => hP x (JFr.refl x), fun a z => absurd z (by simp)⟩
  | some q =>
    obtain ⟨a, t, h1, h2, h3⟩ := hj.2 q rfl
    refine h3 _ ⟨fun z => absurd z (by simp), fun a3 e3 => ?_⟩
    have : a3 = a := (Option.some.inj e3).symm
    subst this
    have hB := hx.2.2.1
    refine c_givers (P := fun i => A (250 + 4 * i)) (B := fun i => A (251 + 4 * i)) hB.2.2.1 (by omega) (fun i hi => ⟨(rxLog hB i hi).1, (rxLog hB i hi).2.1⟩) (fun i hi => by have := hI.log i hi; omega) (by omega) ?_
    have hset : setR (fun i => decide (A (250 + 4 * i) = p)) (fun i => A (251 + 4 * i)) (A 9) < 2 ^ A 0 := setR_lt (fun i hi => (hI.log i hi).2.1)
    have hgv : ∀ b, b < A 0 → ((setR (fun i => decide (A (250 + 4 * i) = p)) (fun i => A (251 + 4 * i)) (A 9)).testBit b = true ↔ 0 < A (154 + 10 * p + b)) := fun b hb => by
      rw [givers_bit (m := A 9) (v := live A) rfl hI.now.2.2.2.2.1, (hI.piece hp).2.2.2.2 b (by omega)]
    generalize hse : setR (fun i => decide (A (250 + 4 * i) = p)) (fun i => A (251 + 4 * i)) (A 9) = s at *
    intro v6 e6
    refine ⟨litIn 0 (by decide) (by decide), fun S7 e7 => ?_⟩
    rw [hB.1] at e6
    rw [litC 0 (by decide), e6] at e7
    have f7 : JFr x S7 := by rw [e7]; exact (JFr.refl x).F _ _ (Or.inl rfl)
    refine c_quarrels (p := p) hI (f7.R hI hx).1 hset hgv ⟨litIn 9 (by decide) (by decide), fun S10 e10 => ?_⟩
    rw [litC 9 (by decide)] at e10
    have f10 : JFr x S10 := by rw [e10]; exact f7.F _ _ (Or.inl rfl)
    refine bc rfl (by omega) ⟨litIn 10 (by decide) (by decide), fun S12 e12 => ?_⟩
    rw [litC 10 (by decide)] at e12
    have f12 : JFr x S12 := by rw [e12]; exact f10.F _ _ (Or.inl rfl)
    have n12 : S12.2.1 49 = upd (upd (upd (x.2.1 49) 0 (nI (A 3))) 9 (nI (qrN A p (A 0)))) 10 (nI (bitsN s)) := by rw [e12, xF_s, e10, xF_s, e7, xF_s]
    have hm : bitsN s = mnN A p (A 0) := by
      rw [bitsN_sm hset (by omega)]
      refine smN_congr (fun b hb => ?_)
      by_cases z : s.testBit b = true
      · rw [if_pos z, if_pos ((hgv b hb).mp z)]
      · rw [if_neg z, if_neg (fun w => z ((hgv b hb).mpr w))]
    refine c_nameK hI (f12.R hI hx).2.1 (f12.R hI hx).2.2.1 hp (fun S13 f13 i13 m5 m6 m7 m8 => ?_)
    refine h2 Post S13 (nuK A p) (f13.tx (f12.tx h1)) (fun k hk => ⟨?_, nuK_le hI hp⟩) (fun x' f' => hP x' (f12.trans (f13.trans f')))
    rcases al_2 hk with z | z | z | z | z | z <;> subst z
    · rw [m8 0 (by omega), n12, upd_n _ _ (by decide), upd_n _ _ (by decide), upd_s]; rfl
    · exact m5
    · exact m6
    · exact m7
    · rw [m8 9 (by omega), n12, upd_n _ _ (by decide), upd_s]; rfl
    · rw [m8 10 (by omega), n12, upd_s, hm]; rfl
theorem r_brittle {Post : Int32 → MS → Prop} {p : Nat} (hJ : JTr (y.2.2.1 2) (A 5) 2 o) (hI : Inv A) (e : y.2.2.1 0 = enc A) (hp : p < A 2) (hP : ∀ y', KFr y y' → Post (nI (brV o A p)) y') : VC_brittleOf Post (nI p) y := by
  obtain ⟨b0, b1, b2, b3, b4, b5, b6, b7, b8, b9⟩ := hI.b
  have kk := (hI.piece hp).1
  have p6 : 2 ^ A 0 ≤ 64 := pow6 b0
  intro K hK
  refine ⟨litIn 3 (by decide) (by decide), fun v1 e1 => ⟨litIn 0 (by decide) (by decide), fun S2 e2 => pieceA ?_⟩⟩
  rw [show y.2.2.1 0 (3 : Int32).toNatClampNeg = nI (A 3) from enc_cell (k := 3) e (by decide) (by decide)] at e1
  rw [litC 0 (by decide), e1] at e2
  have f2 : KFr y S2 := by rw [e2]; exact (KFr.refl y).F _ _ (Or.inl rfl)
  have q0 : 150 + 10 * nI p = nI (150 + 10 * p) := by rw [L150, L10, nmul, nadd]
  rw [q0, enc_cell (f2.e e) (by omega) (by omega)]
  refine ⟨vp_in_nI (by omega) (by decide), r_nameK (f2.e e) (by omega) (fun S4 f4 m5 m6 m7 m8 => ⟨litIn 9 (by decide) (by decide), fun S5 e5 => ⟨litIn 10 (by decide) (by decide), fun S6 e6 => ?_⟩⟩)⟩
  rw [litC 9 (by decide)] at e5
  rw [litC 10 (by decide)] at e6
  have f6 : KFr y S6 := by rw [e6, e5]; exact ((f2.trans f4).F _ _ (Or.inl rfl)).F _ _ (Or.inl rfl)
  have n6 : S6.2.2.1 22 = upd (upd (S4.2.2.1 22) 9 0) 10 0 := by rw [e6, sF_same, e5, sF_same]
  have n0 : S4.2.2.1 22 0 = nI (A 3) := by rw [m8 0 (by omega), e2, sF_same, upd_s]
  have c0 : ∀ {S : MS}, S.2.2.1 0 = enc A → S.2.2.1 0 (0 : Int32).toNatClampNeg = nI (A 0) := fun e => enc_cell (k := 0) e (by decide) (by decide)
  have inv : ∀ k i : Nat, ∀ S : MS, i + k = A 0 → KFr y S → (∀ j, j ≠ 9 → j ≠ 10 → S.2.2.1 22 j = S4.2.2.1 22 j) → S.2.2.1 22 9 = nI (qrN A p i) → S.2.2.1 22 10 = nI (mnN A p i) → K (.inl (nI p, nI i)) S := by
    intro k
    induction k with
    | zero =>
      intro i S hi fS nS n9 n10
      have ei : i = A 0 := (by omega)
      refine hK _ _ ⟨litIn 0 (by decide) (by decide), fun _ => ?_, fun z => absurd (by rw [c0 (fS.e e), ei]; exact Int32.le_refl _) z⟩
      rw [ei] at n9 n10
      refine hJ S A (nuK A p) _ 0 (fS.2 2 (by decide) (by decide)) (fS.e e) rfl (fun k hk => ⟨?_, nuK_le hI hp⟩) (fun ho => ?_) (fun q ho S' f' => ?_)
      · rcases al_2 hk with z | z | z | z | z | z <;> subst z
        · rw [nS 0 (by decide) (by decide), n0]; rfl
        · rw [nS 5 (by decide) (by decide)]; exact m5
        · rw [nS 6 (by decide) (by decide)]; exact m6
        · rw [nS 7 (by decide) (by decide)]; exact m7
        · exact n9
        · exact n10
      · have := hP S fS
        rw [ho] at this; exact this
      · have := hP S' (fS.trans f')
        rw [ho] at this; exact this
    | succ k ih =>
      intro i S hi fS nS n9 n10
      have gl := gv_le hI hp (b := i) (by omega)
      refine hK _ _ ⟨litIn 0 (by decide) (by decide), fun z => absurd z (by rw [c0 (fS.e e)]; exact nI_ge (by omega) (by omega)), fun _ => mgave (fS.e e) rfl rfl (by omega) (by omega) ?_⟩
      rw [L0, neq (by omega) (by omega)]
      refine ⟨fun ne => ⟨litIn 10 (by decide) (by decide), fun v11 e11 => ⟨litIn 10 (by decide) (by decide), fun S12 e12 => ?_⟩⟩, fun ez v13 e13 => ?_⟩
      · rw [litC 10 (by decide), n10, L1, nadd] at e11
        rw [litC 10 (by decide), e11] at e12
        have f12 : KFr y S12 := by rw [e12]; exact fS.F _ _ (Or.inl rfl)
        have mn1 : mnN A p (i + 1) = mnN A p i + 1 := by
          show smN (i + 1) _ = _
          rw [smN_s, if_pos (by omega)]; rfl
        have inner : ∀ m c : Nat, ∀ S' : MS, c + m = i → KFr y S' → (∀ j, j ≠ 9 → j ≠ 10 → S'.2.2.1 22 j = S4.2.2.1 22 j) → S'.2.2.1 22 9 = nI (qrN A p i + smN c (mQ A p i)) → S'.2.2.1 22 10 = nI (mnN A p (i + 1)) → K (.inr (nI p, nI i, nI c)) S' := by
          intro m
          induction m with
          | zero =>
            intro c S' hc fS' nS' n9' n10'
            have ec : c = i := (by omega)
            subst ec
            refine hK _ _ ⟨fun _ v14 e14 => ?_, fun z => absurd (Int32.le_refl _) z⟩
            rw [e14, nI_1]
            exact ih (c + 1) S' (by omega) fS' nS' n9' n10'
          | succ m ihm =>
            intro c S' hc fS' nS' n9' n10'
            have gc := gv_le hI hp (b := c) (by omega)
            have st : ∀ (S'' : MS) (u : Nat), S'' = sF S' 22 (upd (S'.2.2.1 22) 9 (nI u)) → u = qrN A p i + smN (c + 1) (mQ A p i) → K (.inr (nI p, nI i, nI (c + 1))) S'' := fun S'' u es eu => by
              refine ihm (c + 1) S'' (by omega) (by rw [es]; exact fS'.F _ _ (Or.inl rfl)) (fun j j1 j2 => by rw [es, sF_same, upd_n _ _ j1, nS' j j1 j2]) (by rw [es, sF_same, upd_s, eu]) (by rw [es, sF_same, upd_n _ _ (by decide), n10'])
            refine hK _ _ ⟨fun z => absurd z (nI_ge (by omega) (by omega)), fun _ => ⟨litIn 9 (by decide) (by decide), mgave (fS'.e e) rfl rfl (by omega) (by omega) ?_⟩⟩
            rw [litC 9 (by decide), n9', L0, nle (by omega) (by omega)]
            have fo := (hI.2.1 i (by omega)).2.2.2.2
            refine ⟨fun hle v17 e17 => ⟨litIn 9 (by decide) (by decide), fun S18 e18 v19 e19 => ?_⟩, fun hgt => mget (fS'.e e) rfl L4 (by omega) (by omega) ?_⟩
            · rw [e17, nadd, Nat.add_zero] at e18
              rw [e19, nI_1]
              refine st S18 _ e18 ?_
              rw [smN_s]; unfold mQ; rw [if_neg (fun w => absurd w.2.1 (by omega))]; rfl
            · rw [show 10 + 5 * i + 4 = 14 + 5 * i by omega]
              refine has_of rfl rfl (by omega) (by omega) (fun hb => ⟨fun z => absurd z (by decide), fun _ v26 e26 => ⟨litIn 9 (by decide) (by decide), fun S27 e27 v28 e28 => ?_⟩⟩) (fun hb => ⟨fun _ v23 e23 => ⟨litIn 9 (by decide) (by decide), fun S24 e24 v25 e25 => ?_⟩, fun z => absurd rfl z⟩)
              · rw [e26, L1, nadd] at e27
                rw [e28, nI_1]
                refine st S27 _ e27 ?_
                rw [smN_s]; unfold mQ; rw [if_pos ⟨(by omega), (by omega), hb⟩]; rfl
              · rw [e23, nadd, Nat.add_zero] at e24
                rw [e25, nI_1]
                refine st S24 _ e24 ?_
                rw [smN_s]; unfold mQ; rw [if_neg (fun w => absurd (hb.symm.trans w.2.2) (by decide))]; rfl
        refine inner i 0 S12 (by omega) f12 (fun j j1 j2 => by rw [e12, sF_same, upd_n _ _ j2, nS j j1 j2]) (by rw [e12, sF_same, upd_n _ _ (by decide), n9]; rfl) (by rw [e12, sF_same, upd_s, mn1])
      · rw [e13, nI_1]
        have e1' : qrN A p (i + 1) = qrN A p i := by
          show smN (i + 1) _ = _
          rw [smN_s]
          have : ∀ n, smN n (mQ A p i) = 0 := by
            intro n
            induction n with
            | zero => rfl
            | succ n ih => rw [smN_s, ih]; unfold mQ; rw [if_neg (fun w => absurd w.1 (by omega))]
          rw [this]; rfl
        have e2' : mnN A p (i + 1) = mnN A p i := by
          show smN (i + 1) _ = _
          rw [smN_s, if_neg (by omega)]; rfl
        exact ih (i + 1) S (by omega) fS nS (by rw [e1']; exact n9) (by rw [e2']; exact n10)
  exact inv (A 0) 0 S6 (by omega) f6 (fun j j1 j2 => by rw [n6, upd_n _ _ j2, upd_n _ _ j1]) (by rw [n6, upd_n _ _ (by decide), upd_s]; rfl) (by rw [n6, upd_s]; rfl)
end BRIT
/-! the greatest common divisor -/
theorem lc0 {b : Nat} (hb : b < 9223372036854775808) : (lg_cmp (lN b) 0 = 0) = (b = 0) := by
  rw [eq_iff_iff, lg_cmp_eq]
  exact pk_lEQ (b := 0) hb (by decide)
theorem halve {b r : Nat} (hr : 0 < r) (h : r < b) : 2 * (b % r) < b := by
  have h1 := Nat.mod_lt b hr
  have h2 := Nat.div_add_mod b r
  have h3 : 1 ≤ b / r := Nat.div_pos (Nat.le_of_lt h) hr
  have h4 : r * 1 ≤ r * (b / r) := Nat.mul_le_mul_left r h3
  omega
theorem c_gcd {Post : Int64 → Prop} {u v : Int64} (K : Hd_X11_commonDivisor → Prop) (hK : ∀ h, B_X11_commonDivisor Post K h → K h) : ∀ n a b t : Nat, b < 2 ^ n → n ≤ 40 → a < 9223372036854775808 → t + 2 * n + 1 ≤ 100 → Post (lN (Nat.gcd a b)) → K (u, v, lN a, lN b, nI t) := by
  have p40 : ∀ n, n ≤ 40 → 2 ^ n ≤ 1099511627776 := fun n hn => Nat.pow_le_pow_right (n := 2) (by decide) hn
  intro n
  induction n with
  | zero =>
    intro a b t hb _ ha ht hp
    have : b = 0 := (by omega)
    subst this
    rw [Nat.gcd_zero_right] at hp
    refine hK _ ⟨fun _ => hp, fun _ => ⟨fun _ => hp, fun z => absurd ?_ z⟩⟩
    rw [lc0 (by omega)]
  | succ n ih =>
    intro a b t hb hn ha ht hp
    have p1 := p40 (n + 1) hn
    by_cases zb : b = 0
    · subst zb
      rw [Nat.gcd_zero_right] at hp
      refine hK _ ⟨fun _ => hp, fun _ => ⟨fun _ => hp, fun z => absurd ?_ z⟩⟩
      rw [lc0 (by omega)]
    have hlt := Nat.mod_lt a (Nat.pos_of_ne_zero zb)
    have nz : ∀ {c : Nat}, c ≠ 0 → c < 9223372036854775808 → ¬ lN c = 0 := fun hc hc2 z => hc ((pk_lEQ (b := 0) hc2 (by decide)).mp z)
    refine hK _ ⟨fun z => absurd z (nI_ge (b := 100) (by omega) (by decide)), fun _ => ⟨fun z => absurd (by rw [lc0 (by omega)] at z; exact z) zb, fun _ => ⟨nz zb (by omega), fun v1 e1 v2 e2 => ?_⟩⟩⟩
    rw [pk_lRem (by omega) (Nat.pos_of_ne_zero zb) (by omega)] at e1
    rw [e1, e2, nI_1]
    have g1 : Nat.gcd b (a % b) = Nat.gcd a b := by rw [Nat.gcd_comm a b, Nat.gcd_rec b a, Nat.gcd_comm]
    by_cases zr : a % b = 0
    · rw [zr] at g1 ⊢
      rw [Nat.gcd_zero_right] at g1
      rw [← g1] at hp
      refine hK _ ⟨fun _ => hp, fun _ => ⟨fun _ => hp, fun z => absurd ?_ z⟩⟩
      rw [lc0 (by decide)]
    · refine hK _ ⟨fun z => absurd z (nI_ge (b := 100) (by omega) (by decide)), fun _ => ⟨fun z => absurd (by rw [lc0 (by omega)] at z; exact z) zr, fun _ => ⟨nz zr (by omega), fun w1 d1 w2 d2 => ?_⟩⟩⟩
      rw [pk_lRem (by omega) (Nat.pos_of_ne_zero zr) (by omega)] at d1
      rw [d1, d2, nI_1]
      have hh := halve (Nat.pos_of_ne_zero zr) hlt
      have hpw : 2 ^ (n + 1) = 2 * 2 ^ n := by rw [Nat.pow_succ, Nat.mul_comm]
      have g2 : Nat.gcd (a % b) (b % (a % b)) = Nat.gcd b (a % b) := by rw [Nat.gcd_comm b (a % b), Nat.gcd_rec (a % b) b, Nat.gcd_comm]
      exact ih (a % b) (b % (a % b)) (t + 1 + 1) (by omega) (by omega) (by omega) (by omega) (by rw [g2, g1]; exact hp)
theorem r_gcd {Post : Int64 → Prop} {u v : Int64} (K : Hd_common → Prop) (hK : ∀ h, B_common Post K h → K h) : ∀ m a b : Nat, b ≤ m → m < 9223372036854775808 → a < 9223372036854775808 → Post (lN (Nat.gcd a b)) → K (u, v, lN a, lN b) := by
  intro m
  induction m with
  | zero =>
    intro a b hb _ ha hp
    have : b = 0 := (by omega)
    subst this
    rw [Nat.gcd_zero_right] at hp
    refine hK _ ⟨fun _ => hp, fun z => absurd ?_ z⟩
    rw [lc0 (by decide)]
  | succ m ih =>
    intro a b hb hm ha hp
    by_cases zb : b = 0
    · subst zb
      rw [Nat.gcd_zero_right] at hp
      refine hK _ ⟨fun _ => hp, fun z => absurd ?_ z⟩
      rw [lc0 (by decide)]
    have hlt := Nat.mod_lt a (Nat.pos_of_ne_zero zb)
    refine hK _ ⟨fun z => absurd (by rw [lc0 (by omega)] at z; exact z) zb, fun _ => ⟨fun z => zb ((pk_lEQ (b := 0) (by omega) (by decide)).mp z), fun v1 e1 => ?_⟩⟩
    rw [pk_lRem (by omega) (Nat.pos_of_ne_zero zb) (by omega)] at e1
    rw [e1]
    have g1 : Nat.gcd b (a % b) = Nat.gcd a b := by rw [Nat.gcd_comm a b, Nat.gcd_rec b a, Nat.gcd_comm]
    exact ih b (a % b) (by omega) (by omega) (by omega) (by rw [g1]; exact hp)
/-- the product so far, from piece i on: none if one isn't done -/
def odF (o : LAW) (A : Nat → Nat) (s : Nat) : Nat → Nat → Nat → Nat → Option (Nat × Nat)
  | 0, _, u, w => some (u, w)
  | n + 1, i, u, w => if s.testBit i then (if A (151 + 10 * i) = 1 then odF o A s n (i + 1) (u * (10 - brV o A i)) (w * 10) else none) else odF o A s n (i + 1) u w
section OPODDS
variable {A B : Nat → Nat} {x : XS} {y : MS}
theorem op_odds {a0 a1 : Int32} (h : RelA TXd A B x y) : VC_X11_odds_0 (fun r x' => VC_odds (fun r' y' => r = r' ∧ RelT TXd x' y') a0 a1 y) a0 a1 x := by
  obtain ⟨g1, -, g3, -, g5, -⟩ := id h
  obtain ⟨b0, b1, b2, b3, b4, b5, b6, b7, b8, b9⟩ := g1.b
  obtain ⟨o, lo, jc, jr⟩ := judge_ex h (l := 2) (by decide)
  have p10 : 2 ^ A 2 ≤ 1024 := Nat.pow_le_pow_right (n := 2) (by decide) b2
  have p0 : 0 < 2 ^ A 2 := Nat.two_pow_pos _
  have i2 : vp_in (2 : Int32) 3890 := litIn 2 (by decide) (by decide)
  have c2 : ∀ {S : MS}, S.2.2.1 0 = enc A → S.2.2.1 0 (2 : Int32).toNatClampNeg = nI (A 2) := fun e => enc_cell (k := 2) e (by decide) (by decide)
  have sh : (1 : Int32) <<< (nI (A 2) &&& 31) = nI (2 ^ A 2) := by rw [L1, L31, nshl1 (by omega)]
  have sh1 : nI (2 ^ A 2) - 1 = nI (2 ^ A 2 - 1) := by rw [L1, nsub (by omega)]
  have bad : ∀ x', JFr x x' → ¬ (isOne a0 (2 ^ A 2) ∧ isOne a1 2) → VC_odds (fun r' y' => (-1 : Int64) = r' ∧ RelT TXd x' y') a0 a1 y := fun x' fx hn K hK => by
    refine ⟨i2, ?_⟩
    rw [c2 g5, sh, sh1]
    refine mFrom (l := 0) (h := 2 ^ A 2 - 1) (h1 := fun j1 => ⟨fun z => absurd z (by decide), fun _ => ?_⟩) (h0 := fun _ => ⟨fun _ => ⟨rfl, h.judge fx (KFr.refl y)⟩, fun z => absurd rfl z⟩)
    refine mFrom (l := 0) (h := 1) (h1 := fun j2 => absurd ⟨?_, isFrom0.mp j2⟩ hn) (h0 := fun _ => ⟨fun z => absurd rfl z, fun _ => ⟨rfl, h.judge fx (KFr.refl y)⟩⟩)
    have := isFrom0.mp j1
    rwa [show 2 ^ A 2 - 1 + 1 = 2 ^ A 2 by omega] at this
  intro K hK
  refine wFrom (l := 0) (h := 1) (h1 := fun j1 => ⟨fun z => absurd z (by decide), fun _ => ?_⟩) (h0 := fun n => ⟨fun _ => bad x (JFr.refl x) (fun z => n (isFrom0.mpr z.2)), fun z => absurd rfl z⟩)
  refine ⟨fun hlt => bad x (JFr.refl x) (fun z => ((isOne_iff (by omega)).mp z.1).1 hlt), fun hge => ?_⟩
  rw [g3.2.2.1.2.1, sh]
  refine ⟨fun hl => ?_, fun hl => bad x (JFr.refl x) (fun ⟨⟨v, v1, v2⟩, _⟩ => hl (by rw [v2]; exact nI_lt v1 (by omega)))⟩
  obtain ⟨s, hs0, es⟩ := nI_of hge
  subst es
  have hs : s < 2 ^ A 2 := (nI_ltI (by omega) (by omega)).mp hl
  obtain ⟨wh, wh2, rfl⟩ := isFrom0.mp j1
  -- the product stays small
  have small : ∀ n i u w, u ≤ w → w ≤ 10 ^ i → i + n = A 2 → ∀ u' w', odF o A s n i u w = some (u', w') → u' ≤ w' ∧ w' ≤ 10000000000 ∧ (0 < w → 0 < w') := by
    intro n
    induction n with
    | zero =>
      intro i u w h1 h2 hi u' w' e
      have := Option.some.inj e
      have e1 : u = u' := congrArg Prod.fst this
      have e2 : w = w' := congrArg Prod.snd this
      have : 10 ^ i ≤ 10 ^ 10 := Nat.pow_le_pow_right (by decide) (by omega)
      have t10 : 10 ^ 10 = 10000000000 := rfl
      omega
    | succ n ih =>
      intro i u w h1 h2 hi u' w' e
      unfold odF at e
      have hp : 10 ^ (i + 1) = 10 ^ i * 10 := Nat.pow_succ 10 i
      by_cases z : s.testBit i = true
      · rw [if_pos z] at e
        by_cases z1 : A (151 + 10 * i) = 1
        · rw [if_pos z1] at e
          have m1 : u * (10 - brV o A i) ≤ w * 10 := Nat.mul_le_mul h1 (by omega)
          have := ih (i + 1) _ _ m1 (by omega) (by omega) u' w' e
          exact ⟨this.1, this.2.1, fun w0 => this.2.2 (by omega)⟩
        · rw [if_neg z1] at e; exact absurd e (by simp)
      · rw [if_neg z] at e
        exact ih (i + 1) u w h1 (by omega) (by omega) u' w' e
  -- the reference
  have ref : ∀ (r : Int64) (x' : XS), JFr x x' → (odF o A s (A 2) 0 1 1 = none → r = -1) → (∀ u w, odF o A s (A 2) 0 1 1 = some (u, w) → r = lN (if wh = 0 then u else w) / lN (Nat.gcd u w)) → VC_odds (fun r' y' => r = r' ∧ RelT TXd x' y') (nI s) (nI wh) y := by
    intro r x' fx r0 r1
    intro K' hK'
    refine ⟨i2, ?_⟩
    rw [c2 g5, sh, sh1]
    refine mFrom (l := 0) (h := 2 ^ A 2 - 1) (h1 := fun _ => ⟨fun z => absurd z (by decide), fun _ => ?_⟩) (h0 := fun z => absurd ⟨s, (by omega), (by omega), rfl⟩ z)
    refine mFrom (l := 0) (h := 1) (h1 := fun _ => ⟨fun _ => ?_, fun z => absurd z (by decide)⟩) (h0 := fun z => absurd ⟨wh, (by omega), (by omega), rfl⟩ z)
    have loop : ∀ n i u w : Nat, ∀ y' : MS, i + n = A 2 → u ≤ w → w ≤ 10 ^ i → 0 < w → KFr y y' → odF o A s n i u w = odF o A s (A 2) 0 1 1 → K' (.inl (nI s, nI wh, lN u, lN w, nI i)) y' := by
      intro n
      induction n with
      | zero =>
        intro i u w y' hi huw hw w0 fy he
        have ei : i = A 2 := (by omega)
        have sm := small 0 i u w huw hw (by omega) u w rfl
        have e1 := r1 u w he.symm
        have gp : 0 < Nat.gcd u w := Nat.gcd_pos_of_pos_right _ w0
        have gl : Nat.gcd u w ≤ w := Nat.le_of_dvd w0 (Nat.gcd_dvd_right u w)
        have last : ∀ t : Int64, t = lN (if wh = 0 then u else w) → K' (.inr (nI s, nI wh, lN u, lN w, nI i, t)) y' := fun t et => by
          refine hK' _ _ ?_
          show VC_common _ (lN u) (lN w)
          intro K3 hK3
          refine r_gcd K3 hK3 w u w (Nat.le_refl _) (by omega) (by omega) ⟨fun z => absurd ((pk_lEQ (b := 0) (by omega) (by decide)).mp z) (by omega), ?_, h.judge fx fy⟩
          rw [et]; exact e1
        refine hK' _ _ ⟨i2, fun _ => ⟨fun ne => last _ ?_, fun e => last _ ?_⟩, fun z => absurd (by rw [c2 (fy.e g5), ei]; exact Int32.le_refl _) z⟩
        · rw [if_neg (fun z => ne (by rw [z]; rfl))]
        · rw [if_pos ((nI_eq (b := 0) (by omega) (by omega)).mp e)]
      | succ n ih =>
        intro i u w y' hi huw hw w0 fy he
        have hp10 : 10 ^ (i + 1) = 10 ^ i * 10 := Nat.pow_succ 10 i
        have stI := (g1.piece (p := i) (by omega)).2.1
        have hst2 : A (151 + 10 * i) ≤ 2 := by
          rcases stI with ⟨-, z⟩ | ⟨-, -, z⟩ | ⟨-, -, z⟩ <;> omega
        refine hK' _ _ ⟨i2, fun z => absurd z (by rw [c2 (fy.e g5)]; exact nI_ge (by omega) (by omega)), fun _ => ?_⟩
        refine has_of rfl rfl (by omega) (by omega) (fun hb => ⟨fun _ => pieceA ?_, fun z => absurd z (by decide)⟩) (fun hb => ⟨fun z => absurd rfl z, fun _ v10 e10 => ?_⟩)
        · have q1 : (150 + 10 * nI i) + 1 = nI (151 + 10 * i) := by rw [L150, L10, L1, nmul, nadd, nadd]; congr 1; omega
          rw [q1, enc_cell (fy.e g5) (by omega) (by omega), L1, neq (by omega) (by omega)]
          refine ⟨vp_in_nI (by omega) (by decide), fun e1 => ?_, fun n1 => ⟨r0 ?_, h.judge fx fy⟩⟩
          · refine r_brittle (A := A) (o := o) (by rw [fy.2 2 (by decide) (by decide)]; exact jr) g1 (fy.e g5) (by omega) (fun y'' fy' v7 e7 v8 e8 v9 e9 => ?_)
            have br := brV_le lo A i
            rw [L10, nsub br, nI_l (by omega), lN_mul] at e7
            rw [show (10 : Int64) = lN 10 from rfl, lN_mul] at e8
            rw [e7, e8, e9, nadd]
            refine ih (i + 1) _ _ y'' (by omega) (Nat.mul_le_mul huw (by omega)) (by omega) (by omega) (fy.trans fy') ?_
            rw [← he]
            conv => rhs; unfold odF
            rw [if_pos hb, if_pos e1]
          · rw [← he]; unfold odF; rw [if_pos hb, if_neg n1]
        · rw [e10, nI_1]
          refine ih (i + 1) u w y' (by omega) huw (by omega) w0 fy ?_
          rw [← he]
          conv => rhs; unfold odF
          rw [if_neg (by rw [hb]; decide)]
    exact loop (A 2) 0 1 1 y (by omega) (Nat.le_refl _) (Nat.le_refl _) (by omega) (KFr.refl y) rfl
  have loop : ∀ n i u w : Nat, ∀ x' : XS, i + n = A 2 → u ≤ w → w ≤ 10 ^ i → 0 < w → JFr x x' → odF o A s n i u w = odF o A s (A 2) 0 1 1 → K (.inl (nI s, nI wh, lN u, lN w, nI i)) x' := by
    intro n
    induction n with
    | zero =>
      intro i u w x' hi huw hw w0 fx he
      have ei : i = A 2 := (by omega)
      have sm := small 0 i u w huw hw (by omega) u w rfl
      have gp : 0 < Nat.gcd u w := Nat.gcd_pos_of_pos_right _ w0
      have gl : Nat.gcd u w ≤ w := Nat.le_of_dvd w0 (Nat.gcd_dvd_right u w)
      refine hK _ _ ⟨fun _ => ?_, fun z => absurd (by rw [fx.1 353 (by decide), g3.2.2.1.2.1, ei]; exact Int32.le_refl _) z⟩
      intro K3 hK3
      have m1 : (if lN (Nat.gcd u w) < 1 then (1 : Int64) else lN (Nat.gcd u w)) = lN (Nat.gcd u w) := if_neg (fun z => absurd ((pk_lLT (b := 1) (by omega) (by decide)).mp z) (by omega))
      have last : ∀ t : Int64, t = lN (if wh = 0 then u else w) → K (.inr (nI s, nI wh, lN u, lN w, lN (Nat.gcd u w), t)) x' := fun t et => by
        refine hK _ _ ?_
        show ¬ (if lN (Nat.gcd u w) < 1 then (1 : Int64) else lN (Nat.gcd u w)) = 0 ∧ _
        rw [m1]
        refine ⟨fun z => absurd ((pk_lEQ (b := 0) (by omega) (by decide)).mp z) (by omega), ?_⟩
        rw [et]
        refine ref _ x' fx (fun z => absurd (he.trans z) (by show ¬ some (u, w) = none; simp)) (fun u' w' e => ?_)
        have := Option.some.inj (he.trans e)
        rw [show u = u' from congrArg Prod.fst this, show w = w' from congrArg Prod.snd this]
      refine c_gcd K3 hK3 34 u w 0 ?_ (by decide) (by omega) (by decide) ⟨fun ne => last _ ?_, fun e => last _ ?_⟩
      · have : (2 : Nat) ^ 34 = 17179869184 := rfl
        omega
      · rw [if_neg (fun z => ne (by rw [z]; rfl))]
      · rw [if_pos ((nI_eq (b := 0) (by omega) (by omega)).mp e)]
    | succ n ih =>
      intro i u w x' hi huw hw w0 fx he
      have hp10 : 10 ^ (i + 1) = 10 ^ i * 10 := Nat.pow_succ 10 i
      have hx' := fx.R g1 g3
      refine hK _ _ ⟨fun z => absurd z (by rw [fx.1 353 (by decide), g3.2.2.1.2.1]; exact nI_ge (by omega) (by omega)), fun _ => ?_⟩
      rw [L31, L1, L0, nbit0 (by omega) (by omega)]
      refine ⟨fun hb v3 e3 => ?_, fun hb => ?_⟩
      · rw [e3, nadd]
        refine ih (i + 1) u w x' (by omega) huw (by omega) w0 fx ?_
        rw [← he]
        conv => rhs; unfold odF
        rw [if_neg (by rw [hb]; decide)]
      · have hb1 : s.testBit i = true := by cases z : s.testBit i; exact absurd z hb; rfl
        refine c_stateOf g1 hx'.1 hx'.2.1 hx'.2.2.1 (fun p hp ep => ?_) (fun z => absurd ⟨i, (by omega), rfl⟩ z)
        have : p = i := ((nI_eq (by omega) (by omega)).mp ep).symm
        subst this
        have stI := (g1.piece (p := p) (by omega)).2.1
        have hst2 : A (151 + 10 * p) ≤ 2 := by
          rcases stI with ⟨-, z⟩ | ⟨-, -, z⟩ | ⟨-, -, z⟩ <;> omega
        rw [neq (by omega) (by omega)]
        refine ⟨fun e1 => ?_, fun n1 => ?_⟩
        · refine c_brittle (A := A) (o := o) (by rw [fx.2.2, fx.1 38 (by decide), fx.1 39 (by decide)]; exact jc) g1 hx' hp (fun x'' fx' v8 e8 v9 e9 v10 e10 => ?_)
          have br := brV_le lo A p
          rw [L10, nsub br, nI_l (by omega), lN_mul] at e8
          rw [show (10 : Int64) = lN 10 from rfl, lN_mul] at e9
          rw [e8, e9, e10, nadd]
          refine ih (p + 1) _ _ x'' (by omega) (Nat.mul_le_mul huw (by omega)) (by omega) (by omega) (fx.trans fx') ?_
          rw [← he]
          conv => rhs; unfold odF
          rw [if_pos hb1, if_pos e1]
        · have en : odF o A s (A 2) 0 1 1 = none := by rw [← he]; unfold odF; rw [if_pos hb1, if_neg n1]
          exact ref _ x' fx (fun _ => rfl) (fun u' w' e => absurd (en.symm.trans e) (by simp))
  exact loop (A 2) 0 1 1 x (by omega) (Nat.le_refl _) (Nat.le_refl _) (by omega) (JFr.refl x) rfl
end OPODDS
