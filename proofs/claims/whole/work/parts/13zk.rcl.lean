/-! the reference's laws and clauses -/
def QF (b : Nat) (y y' : MS) : Prop := (∀ k, k < 7 → y'.1 k = y.1 k) ∧ (∀ a, a ≠ 2 → a ≠ 16 → y'.2.2.1 a = y.2.2.1 a) ∧ (∀ j, j < b ∨ b + 680 ≤ j → y'.2.2.1 2 j = y.2.2.1 2 j)
theorem QF.refl (b : Nat) (y : MS) : QF b y y := ⟨fun _ _ => rfl, fun _ _ _ => rfl, fun _ _ => rfl⟩
theorem QF.trans {b : Nat} {x y z : MS} (h : QF b x y) (g : QF b y z) : QF b x z := ⟨fun k hk => (g.1 k hk).trans (h.1 k hk), fun a h1 h2 => (g.2.1 a h1 h2).trans (h.2.1 a h1 h2), fun j hj => (g.2.2 j hj).trans (h.2.2 j hj)⟩
theorem RF.qf {b : Nat} {x y : MS} (h : RF b x y) : QF b x y := ⟨fun k hk => h.1 k (by omega), h.2.1, fun j hj => h.2.2.1 j (by omega)⟩
theorem RFr.qf {b : Nat} {x y : MS} (h : RFr x y) : QF b x y := (RFr.rf (b := b) h).qf
theorem LF.qf {b X : Nat} {x y : MS} (h : LF X x y) (h1 : b ≤ X) (h2 : X + 2 < b + 680) : QF b x y := ⟨fun k hk => h.1 k (by omega) (by omega) (by omega) (by omega), fun a ha _ => h.2.1 a ha, fun j hj => h.2.2.1 j (by omega) (by omega)⟩
theorem QF.I {b : Nat} {x y : MS} (h : QF b x y) (k : Nat) (v : Int32) (hk : 7 ≤ k) : QF b x (sI y k v) := ⟨fun j hj => by rw [sI_o _ _ _ _ (show j ≠ k by omega), h.1 j hj], h.2⟩
theorem QF.W {b : Nat} {x y : MS} (h : QF b x y) (j : Nat) (v : Int32) (hj : b ≤ j ∧ j < b + 680) : QF b x (sF y 2 (upd (y.2.2.1 2) j v)) := ⟨fun k hk => h.1 k hk, fun a h1 h2 => by rw [sF_o _ _ _ _ h1, h.2.1 a h1 h2], fun i hi => by rw [sF_same, upd_n _ _ (show i ≠ j by omega), h.2.2 i hi]⟩
theorem QF.tp {b : Nat} {y y' : MS} {T : Nat → Nat} {m : Nat} (h : QF b y y') (t : tpM y T m) : tpM y' T m := by
  unfold tpM
  rw [h.1 4 (by decide), h.2.1 3 (by decide) (by decide)]; exact t
theorem hasR.ext {f g : Nat → Int32} {b : Nat} {W : List (Nat × Nat)} (h : hasR f b W) (e : ∀ j, b + 75 ≤ j → g j = f j) : hasR g b W := fun j hj => by rw [e _ (by omega), e _ (by omega)]; exact h j hj
section RCL
variable {T : Nat → Nat} {m b : Nat}
def npR (m q : Nat) : (Nat × Nat) ⊕ (Nat × Nat) → Prop
  | .inl _ => True
  | .inr (q', _) => q ≤ q' ∧ q' ≤ m
def dpR (q : Nat) : (Nat × Nat) ⊕ (Nat × Nat × Nat × Nat) → Prop
  | .inl _ => True
  | .inr (q', _) => q ≤ q'
theorem num_gr {lo hi q : Nat} (h : q ≤ m) : npR m q (numF T m lo hi q) := by
  have le := nx_le (T := T) h
  unfold numF
  by_cases a : tkC T m q = 15
  · rw [if_pos a]
    by_cases c : lo ≤ rkV T m q ∧ rkV T m q ≤ hi
    · rw [if_pos c]; exact le
    · rw [if_neg c]; trivial
  · rw [if_neg a]; trivial
theorem deed_gr {s q : Nat} (h : q ≤ m) : dpR q (deedF T m s q) := by
  have one : ∀ lo hi : Nat, dpR q (sb (numF T m lo hi q) (fun v => (Sum.inr (v.1, v.2, 0, 0) : (Nat × Nat) ⊕ (Nat × Nat × Nat × Nat)))) := fun lo hi => by
    have a := num_gr (T := T) (lo := lo) (hi := hi) h
    cases hh : numF T m lo hi q with
    | inl v => trivial
    | inr v => rw [hh] at a; exact a.1
  unfold deedF
  by_cases s4 : s = 4
  · rw [if_pos s4]; exact one 0 5
  · rw [if_neg s4]
    by_cases s5 : s = 5
    · rw [if_pos s5]
      have a := num_gr (T := T) (lo := 0) (hi := 9) h
      cases hh : numF T m 0 9 q with
      | inl v => trivial
      | inr v =>
        obtain ⟨q1, v⟩ := v
        rw [hh] at a
        have a1 : q ≤ q1 := a.1
        have a2 : q1 ≤ m := a.2
        rw [sb_r]
        by_cases z : tkC T m q1 = 39
        · rw [dueS_p z]
          have le := nx_le (T := T) a2
          have c := num_gr (T := T) (lo := 0) (hi := 5) le.2
          dsimp only
          cases h2 : numF T m 0 5 (nx T m q1) with
          | inl v => trivial
          | inr w =>
            obtain ⟨q2, w⟩ := w
            rw [h2] at c
            have c1 : nx T m q1 ≤ q2 := c.1
            have c2 : q2 ≤ m := c.2
            rw [sb_r]
            by_cases z2 : tkC T m q2 = 40
            · rw [dueS_p z2]
              have le2 := nx_le (T := T) c2
              have d := num_gr (T := T) (lo := 1) (hi := 9) le2.2
              dsimp only
              cases h3 : numF T m 1 9 (nx T m q2) with
              | inl v => trivial
              | inr x =>
                obtain ⟨q3, x⟩ := x
                rw [h3] at d
                have d1 : nx T m q2 ≤ q3 := d.1
                show q ≤ q3
                omega
            · rw [dueS_n z2]; trivial
        · rw [dueS_n z]; trivial
    · rw [if_neg s5]; exact one 1 99
theorem g_parsed {Post : Int32 → MS → Prop} {y : MS} {q l : Nat} {W : List (Nat × Nat)} (h : gst y T m q) (h12 : y.1 12 = nI b ∧ b ≤ 2040) (h14 : y.1 14 = nI W.length ∧ hasR (y.2.2.1 2) b W) (h18 : y.1 18 = nI 0) (h20 : y.1 20 = nI l ∧ l < 4) (hW : W.length ≤ q)
    (k0 : ∀ f q', PF T m l 100 0 q 0 = .inl (f, q') → ∀ y', RF b y y' → y'.1 8 = nI q' → Post (nI f) y')
    (k1 : ∀ q' e, PF T m l 100 0 q 0 = .inr (q', e) → ∀ y', gst y' T m q' → RF b y y' → y'.1 14 = nI (W ++ rC e).length → hasR (y'.2.2.1 2) b (W ++ rC e) → y'.1 18 = nI 0 → (W ++ rC e).length ≤ q' → Post 0 y') : VC_parsed Post 0 y := by
  intro K hK S1 e1 S2 e2
  have m3 := h.1.2.1
  have f2 : RF b y S2 := by rw [e2, e1]; exact ((RF.refl y).I _ _ (by omega)).I _ _ (by omega)
  have i2 : ∀ j, j ≠ 17 → j ≠ 19 → S2.1 j = y.1 j := fun j h1 h2 => by rw [e2, sI_o _ _ _ _ h2, e1, sI_o _ _ _ _ h1]
  have A2 : S2.2 = y.2 := by rw [e2, sI_2, e1, sI_2]
  have t2 : rTk S2 T m q := by
    unfold rTk
    rw [i2 7 (by decide) (by decide), i2 8 (by decide) (by decide), i2 9 (by decide) (by decide), i2 10 (by decide) (by decide), A2]; exact h.2.2
  have r2 : rs T m b l S2 [] W 0 q := by
    refine ⟨f2.tp h.1, h.2.1, t2, ⟨⟨by rw [i2 _ (by decide) (by decide)]; exact h12.1, h12.2⟩, ⟨by rw [i2 _ (by decide) (by decide)]; exact h14.1, by rw [A2]; exact h14.2⟩, ⟨?_, trivial⟩, ⟨by rw [i2 _ (by decide) (by decide)]; exact h18, Nat.zero_le _⟩, ?_, ⟨by rw [i2 _ (by decide) (by decide)]; exact h20.1, h20.2⟩⟩, hW, Nat.zero_le _⟩
    · rw [e2, sI_o _ _ _ _ (by decide), e1, sI_s]; rfl
    · rw [e2, sI_s]; rfl
  refine RG hK 100 0 q [] W S2 (by decide) r2 (by decide) (by decide) ⟨fun a Q e => absurd e (List.cons_ne_nil _ _).symm, fun w => absurd w (by decide)⟩ (fun _ _ => rfl) (fun w => absurd w (by decide)) ?_
  have st0 := stop_0 (T := T) (m := m) (l := l) (d := 100) (o := 0) m3 h.2.1
  show rres T m b l Post K S2 0 [] W (PF T m l 100 0 q 0)
  cases hh : PF T m l 100 0 q 0 with
  | inl v =>
    obtain ⟨f, q'⟩ := v
    exact fun y' f' p' => k0 f q' hh y' (f2.trans f') p'
  | inr v =>
    obtain ⟨q', e⟩ := v
    rw [hh] at st0
    obtain ⟨⟨_, s6, s7⟩, s4, s5⟩ := st0
    intro P' W' y' r' f' st le _
    have mk : mkS P' = [] := (alike_ko (r := rkK 0) (by decide) st).2
    have ko : koF P' = 40 := by unfold koF; rw [mk]; rfl
    have bw : bwN P' (tkC T m q') = 0 := bw_no s4 s5 s6 s7 (fun w => by rw [ko] at w; exact absurd w (by decide))
    have nm : ∀ {X : Prop} {a : Nat} {Q : List Nat}, mkS P' = a :: Q → X := fun w => by rw [mk] at w; exact absurd w (List.cons_ne_nil _ _).symm
    have e1' : stl 1 P' W' = ([], W ++ rC e) := alike_low (r := 1) (s := rkK 0) (by decide) st
    have sl := stl_len (r := 1) (P := P') (W := W')
    rw [e1'] at sl
    have sl2 : (W ++ rC e).length + 0 = W'.length + P'.length := sl.2
    have b5 := r'.2.2.2.2.1
    refine run1 hK r' (r_beh r' (by omega) (fun nz => absurd bw nz) (fun _ Q _ w => nm w) (fun _ Q _ w => nm w) (fun _ Q a _ w => nm w) (fun _ _ _ _ _ => runE hK r' (fun z => absurd mk z) (fun _ y2 c2 q2 => ?_)))
    rw [e1'] at c2
    exact k1 q' e hh y2 ⟨q2.1.tp r'.1, r'.2.1, r'.2.2.1.rt q2⟩ (f2.trans (f'.trans q2.1)) c2.2.1.1 c2.2.1.2 c2.2.2.2.1.1 (by omega)
def subW (W : List (Nat × Nat)) (w : Nat) (L : List (Nat × Nat)) : Prop := w + L.length ≤ W.length ∧ ∀ j, j < L.length → W.getD (w + j) (0, 0) = L.getD j (0, 0)
theorem subW.app {W M L : List (Nat × Nat)} {w : Nat} (h : subW W w L) : subW (W ++ M) w L := by
  refine ⟨by rw [List.length_append]; have := h.1; omega, fun j hj => ?_⟩
  have := h.1
  rw [List.getD_eq_getElem?_getD, List.getElem?_append_left (by omega), ← List.getD_eq_getElem?_getD]
  exact h.2 j hj
theorem subW.new {W L : List (Nat × Nat)} : subW (W ++ L) W.length L := by
  refine ⟨by rw [List.length_append]; exact Nat.le_refl _, fun j hj => ?_⟩
  rw [List.getD_eq_getElem?_getD, List.getElem?_append_right (by omega), ← List.getD_eq_getElem?_getD, show W.length + j - W.length = j by omega]
def rowR (g : Nat → Int32) (b : Nat) (W : List (Nat × Nat)) (k : Nat) (c : CL) : Prop := g (b + 1 + 3 * k) = nI c.1 ∧ (c.1 < 4 → g (b + 2 + 3 * k) = nI c.2.2.1 ∧ g (b + 3 + 3 * k) = nI (c.2.2.1 + (rC c.2.2.2.2).length) ∧ subW W c.2.2.1 (rC c.2.2.2.2)) ∧ (4 ≤ c.1 → g (b + 2 + 3 * k) = nI c.2.1) ∧ (c.1 = 5 → g (b + 3 + 3 * k) = nI (10 * c.2.2.1 + c.2.2.2.1))
theorem rowR.keep {g g' : Nat → Int32} {W M : List (Nat × Nat)} {k : Nat} {c : CL} (h : rowR g b W k c) (e : ∀ j, b + 1 + 3 * k ≤ j → j ≤ b + 3 + 3 * k → g' j = g j) : rowR g' b (W ++ M) k c := by
  obtain ⟨h1, h2, h3, h4⟩ := h
  refine ⟨by rw [e _ (by omega) (by omega)]; exact h1, fun z => ?_, fun z => by rw [e _ (by omega) (by omega)]; exact h3 z, fun z => by rw [e _ (by omega) (by omega)]; exact h4 z⟩
  obtain ⟨a, c, d⟩ := h2 z
  exact ⟨by rw [e _ (by omega) (by omega)]; exact a, by rw [e _ (by omega) (by omega)]; exact c, d.app⟩
def rSt (y : MS) (T : Nat → Nat) (m b q : Nat) (S : TS) : Prop := gst y T m q ∧ (y.1 12 = nI b ∧ b ≤ 2040) ∧ (y.2.2.1 2 b = nI S.1.length ∧ S.1.length ≤ 24) ∧ y.1 18 = nI 0 ∧ (∃ u : Nat, y.1 21 = nI u ∧ u < 16 ∧ ∀ l, l < 4 → u.testBit l = hasL S.1 l) ∧ ∃ W : List (Nat × Nat), y.1 14 = nI W.length ∧ W.length = S.2.2 ∧ S.2.2 ≤ q ∧ hasR (y.2.2.1 2) b W ∧ ∀ k c, S.1[k]? = some c → rowR (y.2.2.1 2) b W k c
def rRes (T : Nat → Nat) (m b : Nat) (Post : Int32 → MS → Prop) (y : MS) (S : TS) : (Nat × Nat) ⊕ (Nat × CL) → Prop
  | .inl (f, q') => (1 ≤ f ∧ f ≤ 6) → ∀ y', QF b y y' → y'.1 8 = nI q' → Post (nI f) y'
  | .inr (q', c) => ∀ y', rSt y' T m b q' (addC S c) → QF b y y' → Post 0 y'
theorem bit_or {u s l : Nat} : (u ||| 2 ^ s).testBit l = (u.testBit l || s == l) := by
  rw [Nat.testBit_or, Nat.testBit_two_pow]
  congr 1
theorem g_clause {Post : Int32 → MS → Prop} {y : MS} {q : Nat} {S : TS} (h : rSt y T m b q S) (PFf : ∀ l q f q', PF T m l 100 0 q 0 = .inl (f, q') → q ≤ m → l < 4 → 1 ≤ f ∧ f ≤ 5) (hp : rRes T m b Post y S (clauseF T m q S)) : VC_clause Post y := by
  obtain ⟨h1, h12, h2, h18, ⟨u, u1, u2, u3⟩, W, w1, w2, w3, w4, w5⟩ := id h
  have tl := tkC_lt (q := q) h1.hT
  have m3 := h1.1.2.1
  obtain ⟨C, cs, ws⟩ := S
  dsimp only at h2 u3 w2 w3 w5
  unfold clauseF at hp
  dsimp only at hp
  intro K hK
  have pl := h1.2.2.2.1
  refine g_sort h1 (fun s hs ts => ?_) (fun z => ⟨fun w => absurd w (by decide), fun _ => ?_⟩)
  · rw [if_neg (by omega), show tkC T m q - 32 = s by omega] at hp
    have lt := nx_lt (T := T) h1.2.1 (by omega)
    have le := nx_le (T := T) h1.2.1
    -- the last head
    have fin : ∀ (U : MS) (q' : Nat) (c : CL) (x4 x5 : Int32) (u' : Nat) (W' : List (Nat × Nat)), gst U T m q' → QF b y U → U.1 12 = nI b → U.2.2.1 2 b = nI C.length → C.length < 24 → U.1 18 = nI 0 → U.1 21 = nI u' → u' < 16 → (∀ l, l < 4 → u'.testBit l = hasL (C ++ [c]) l) → U.1 14 = nI W'.length → W'.length = (addC (C, cs, ws) c).2.2 → W'.length ≤ q' → hasR (U.2.2.1 2) b W' → (∀ k d, (C ++ [c])[k]? = some d → rowR (U.2.2.1 2) b W' k d) → rRes T m b Post y (C, cs, ws) (dueS T m 10 q' (fun q2 => .inr (q2, c))) → K (.inr (.inr (.inr (nI s, nI C.length, nI (b + 1 + 3 * C.length), x4, x5)))) U := fun U q' c x4 x5 u' W' gU qU u12 ub c24 u18 u21 u16 ub' u14 uW uq uR uC hp => by
      refine hK _ _ ?_
      dsimp only [B_clause]
      rw [u12, ncl (by omega), ub, nI_1]
      refine ⟨vp_in_nI (by omega) (by decide), fun v18 e18 => ⟨vp_in_nI (by omega) (by decide), fun S19 e19 => ?_⟩⟩
      have g19 : gst S19 T m q' := by rw [e19]; exact gU.W
      have e10 : tkC T m q' = 10 ↔ rkC T m q' = 59 := tk_iff (q := q') gU.hT (k := 10) (by decide)
      have q19 : QF b y S19 := by rw [e19]; exact qU.W _ _ (by omega)
      rw [show (59 : Int32) = nI 59 from rfl, tok2 g19.hT g19.2.2 59 (by decide), ← propext e10]
      refine ⟨fun z => g_next g19 (fun S20 g20 f20 => ?_), fun z => ?_⟩
      · rw [dueS_p z] at hp
        have A20 : S20.2.2.1 = S19.2.2.1 := by rw [f20.2]
        have R20 : ∀ j, j ≠ b → S20.2.2.1 2 j = U.2.2.1 2 j := fun j hj => by rw [A20, e19, sF_same, upd_n _ _ hj]
        have I20 : ∀ k, k ≠ 7 → k ≠ 8 → k ≠ 9 → k ≠ 10 → S20.1 k = U.1 k := fun k a1 a2 a3 a4 => by rw [f20.1 k a1 a2 a3 a4, e19]; rfl
        have lq := (nx_le (T := T) gU.2.1).1
        refine hp S20 ⟨g20, ⟨by rw [I20 _ (by decide) (by decide) (by decide) (by decide)]; exact u12, h12.2⟩, ⟨?_, ?_⟩, by rw [I20 _ (by decide) (by decide) (by decide) (by decide)]; exact u18, ⟨u', by rw [I20 _ (by decide) (by decide) (by decide) (by decide)]; exact u21, u16, ub'⟩, W', by rw [I20 _ (by decide) (by decide) (by decide) (by decide)]; exact u14, uW, by rw [← uW]; omega, uR.ext (fun j hj => R20 j (by omega)), fun k d hd => ?_⟩ (q19.trans f20.qf)
        · rw [A20, e19, sF_same, upd_s, e18]
          show _ = nI (C ++ [c]).length
          rw [List.length_append]; rfl
        · show (C ++ [c]).length ≤ 24
          rw [List.length_append]; exact c24
        · have := (uC k d hd).keep (M := []) (g' := S20.2.2.1 2) (fun j j1 j2 => R20 j (by omega))
          rw [List.append_nil] at this; exact this
      · rw [dueS_n z] at hp
        exact hp (by omega) S19 q19 g19.2.2.2.1
    -- the second head
    have room : ∀ (U : MS) (u' : Nat), gst U T m q → QF b y U → (∀ k, k ≠ 21 → U.1 k = y.1 k) → U.2 = y.2 → U.1 21 = nI u' → u' < 16 → (∀ l, l < 4 → u'.testBit l = (hasL C l || (s == l))) → C.length < 24 → rRes T m b Post y (C, cs, ws) (if tkC T m q < 36 then lawF T m s (nx T m q) cs ws else sb (deedF T m s (nx T m q)) (fun v => dueS T m 10 v.1 (fun q2 => .inr (q2, (s, v.2.1, v.2.2.1, v.2.2.2, eNum 0))))) → ¬ (s < 4 ∧ hasL C s = true) → K (.inr (.inl (nI s, nI C.length))) U := fun U u' gU qU iU aU uU u16 ub c24 hp n4 => by
      refine hK _ _ ?_
      dsimp only [B_clause]
      intro S6 e6
      have i6 : ∀ k, k ≠ 20 → k ≠ 21 → S6.1 k = y.1 k := fun k k1 k2 => by rw [e6, sI_o _ _ _ _ k1, iU k k2]
      have a6 : S6.2 = y.2 := by rw [e6, sI_2, aU]
      have g6 : gst S6 T m q := by
        refine ⟨?_, h1.2.1, ?_⟩
        · unfold tpM
          rw [i6 4 (by decide) (by decide), a6]; exact h1.1
        · unfold rTk
          rw [i6 7 (by decide) (by decide), i6 8 (by decide) (by decide), i6 9 (by decide) (by decide), i6 10 (by decide) (by decide), a6]; exact h1.2.2
      have q6 : QF b y S6 := by rw [e6]; exact qU.I _ _ (by decide)
      refine g_next g6 (fun S7 g7 f7 v8 e8 => ?_)
      have i7 : ∀ k, k ≠ 7 → k ≠ 8 → k ≠ 9 → k ≠ 10 → k ≠ 20 → k ≠ 21 → S7.1 k = y.1 k := fun k a1 a2 a3 a4 a5 a6 => by rw [f7.1 k a1 a2 a3 a4, i6 k a5 a6]
      have s20 : S7.1 20 = nI s := by rw [f7.1 20 (by decide) (by decide) (by decide) (by decide), e6, sI_s]
      have s21 : S7.1 21 = nI u' := by rw [f7.1 21 (by decide) (by decide) (by decide) (by decide), e6, sI_o _ _ _ _ (by decide), uU]
      have A7 : S7.2.2.1 = y.2.2.1 := by rw [f7.2, a6]
      rw [i7 12 (by decide) (by decide) (by decide) (by decide) (by decide) (by decide), h12.1] at e8
      have d8 : v8 = nI (b + 1 + 3 * C.length) := by rw [e8, L1, L3, nmul, nadd, nadd]
      rw [d8, ncl (by omega)]
      refine ⟨vp_in_nI (by omega) (by decide), fun S9 e9 v10 e10 => ?_⟩
      have g9 : gst S9 T m (nx T m q) := by rw [e9]; exact g7.W
      have q9 : QF b y S9 := by rw [e9]; exact (q6.trans f7.qf).W _ _ (by omega)
      have I9 : S9.1 = S7.1 := by rw [e9]; rfl
      have R9 : S9.2.2.1 2 = upd (y.2.2.1 2) (b + 1 + 3 * C.length) (nI s) := by rw [e9, sF_same, A7]
      have t9 : S9.1 14 = nI W.length := by rw [I9, i7 14 (by decide) (by decide) (by decide) (by decide) (by decide) (by decide)]; exact w1
      have wR9 : hasR (S9.2.2.1 2) b W := w4.ext (fun j hj => by rw [R9, upd_n _ _ (by omega)])
      rw [t9] at e10
      rw [show ((4 : Int32) ≤ nI s) = (4 ≤ s) by rw [L4, nle (by decide) (by omega)]]
      refine ⟨fun s4 => ?_, fun s4 => ?_⟩
      · -- a deed
        rw [if_neg (by omega)] at hp
        refine g_line (X := b + 1 + 3 * C.length) (s := s) (by omega) (by omega) g9 ?_
        cases hh : deedF T m s (nx T m q) with
        | inl v =>
          obtain ⟨f, q'⟩ := v
          rw [hh, sb_l] at hp
          intro ff y' l' p'
          exact hK _ _ ⟨fun z => absurd z (nI_n0 ff), fun _ => hp (by omega) y' (q9.trans (l'.qf (by omega) (by omega))) p'⟩
        | inr v =>
          obtain ⟨q', a1, a2, a3⟩ := v
          rw [hh, sb_r] at hp
          intro y' g' l' r1 r2
          refine hK _ _ ⟨fun _ => ⟨fun _ => ?_, fun z => absurd (by rw [L4, nle (by decide) (by omega)]; exact s4) z⟩, fun z => absurd rfl z⟩
          have c4 : ¬ (s, a1, a2, a3, eNum 0).1 < 4 := by show ¬ s < 4; omega
          have ews : (addC (C, cs, ws) (s, a1, a2, a3, eNum 0)).2.2 = ws := if_neg c4
          have le' : nx T m q ≤ q' := by
            have := deed_gr (T := T) (m := m) (s := s) le.2
            rw [hh] at this; exact this
          have L' : ∀ j, j ≠ b + 1 + 3 * C.length + 1 → j ≠ b + 1 + 3 * C.length + 2 → j ≠ b + 1 + 3 * C.length → y'.2.2.1 2 j = y.2.2.1 2 j := fun j j1 j2 j3 => by rw [l'.2.2.1 j j1 j2, R9, upd_n _ _ j3]
          refine fin y' q' (s, a1, a2, a3, eNum 0) _ _ u' W g' (q9.trans (l'.qf (by omega) (by omega))) ?_ ?_ c24 ?_ ?_ u16 (fun l hl => by rw [hasL_a]; exact ub l hl) ?_ (by rw [ews]; exact w2) (by omega) (w4.ext (fun j hj => L' j (by omega) (by omega) (by omega))) (fun k d hd => ?_) hp
          · rw [l'.1 12 (by decide) (by decide) (by decide) (by decide), I9, i7 12 (by decide) (by decide) (by decide) (by decide) (by decide) (by decide)]; exact h12.1
          · rw [L' b (by omega) (by omega) (by omega)]; exact h2.1
          · rw [l'.1 18 (by decide) (by decide) (by decide) (by decide), I9, i7 18 (by decide) (by decide) (by decide) (by decide) (by decide) (by decide)]; exact h18
          · rw [l'.1 21 (by decide) (by decide) (by decide) (by decide), I9]; exact s21
          · rw [l'.1 14 (by decide) (by decide) (by decide) (by decide)]; exact t9
          · rcases get_a hd with ⟨k1, k2⟩ | ⟨k1, k2⟩
            · have := (w5 k d k2).keep (M := []) (g' := y'.2.2.1 2) (fun j j1 j2 => L' j (by omega) (by omega) (by omega))
              rw [List.append_nil] at this; exact this
            · subst k1 k2
              refine ⟨?_, fun z => absurd z c4, fun _ => ?_, fun z => ?_⟩
              · rw [l'.2.2.1 _ (by omega) (by omega), R9, upd_s]
              · rw [show b + 2 + 3 * C.length = b + 1 + 3 * C.length + 1 by omega]; exact r1
              · rw [show b + 3 + 3 * C.length = b + 1 + 3 * C.length + 2 by omega]; exact r2 z
      · -- a law
        rw [if_pos (by omega)] at hp
        unfold lawF at hp
        have hl4 : s < 4 := (by omega)
        have nl : hasL C s = false := by
          cases y : hasL C s with
          | false => rfl
          | true => exact absurd ⟨hl4, y⟩ n4
        refine g_parsed (b := b) (l := s) (W := W) g9 ⟨by rw [I9, i7 12 (by decide) (by decide) (by decide) (by decide) (by decide) (by decide)]; exact h12.1, h12.2⟩ ⟨t9, wR9⟩ (by rw [I9, i7 18 (by decide) (by decide) (by decide) (by decide) (by decide) (by decide)]; exact h18) ⟨by rw [I9]; exact s20, hl4⟩ (by omega) (fun f q' en y' f' p' => ?_) (fun q' e en y' g' f' n14 r14 n18 wq => ?_)
        · have ff := PFf _ _ _ _ en le.2 hl4
          rw [en, sb_l] at hp
          exact hK _ _ ⟨fun z => absurd z (nI_n0 ff), fun _ => hp (by omega) y' (q9.trans f'.qf) p'⟩
        · rw [en, sb_r] at hp
          have c4 : (s, cs, ws, 0, e).1 < 4 := hl4
          have ews : (addC (C, cs, ws) (s, cs, ws, 0, e)).2.2 = ws + (rC e).length := if_pos c4
          have wl : (W ++ rC e).length = ws + (rC e).length := by rw [List.length_append, w2]
          have R' : ∀ j, j < b + 75 ∨ b + 680 ≤ j → j ≠ b + 1 + 3 * C.length → y'.2.2.1 2 j = y.2.2.1 2 j := fun j j1 j2 => by rw [f'.2.2.1 j j1, R9, upd_n _ _ j2]
          refine hK _ _ ⟨fun _ => ⟨fun z => absurd z (by rw [L4, nle (by decide) (by omega)]; exact s4), fun _ => ?_⟩, fun z => absurd rfl z⟩
          rw [nI_1, show nI (b + 1 + 3 * C.length) + 2 = nI (b + 1 + 3 * C.length + 2) by rw [L2, nadd], ncl (show b + 1 + 3 * C.length + 1 < 2147483648 by omega), ncl (show b + 1 + 3 * C.length + 2 < 2147483648 by omega)]
          refine ⟨vp_in_nI (by omega) (by decide), fun S15 e15 v16 e16 => ⟨vp_in_nI (by omega) (by decide), fun S17 e17 => ?_⟩⟩
          have i16 : v16 = nI (W ++ rC e).length := by rw [e16, e15]; exact n14
          have R17 : S17.2.2.1 2 = upd (upd (y'.2.2.1 2) (b + 1 + 3 * C.length + 1) (nI W.length)) (b + 1 + 3 * C.length + 2) (nI (W ++ rC e).length) := by rw [e17, sF_same, e15, sF_same, i16, e10]
          have I17 : S17.1 = y'.1 := by rw [e17, e15]; rfl
          have g17 : gst S17 T m q' := by rw [e17, e15]; exact g'.W.W
          have q17 : QF b y S17 := by rw [e17, e15]; exact ((q9.trans f'.qf).W _ _ (by omega)).W _ _ (by omega)
          have n20 : ∀ k, k = 12 ∨ 20 ≤ k → y'.1 k = S9.1 k := fun k hk => f'.1 k (by omega)
          refine fin S17 q' (s, cs, ws, 0, e) _ _ u' (W ++ rC e) g17 q17 ?_ ?_ c24 ?_ ?_ u16 (fun l hl => by rw [hasL_a]; exact ub l hl) ?_ (by rw [ews]; exact wl) wq ?_ (fun k d hd => ?_) hp
          · rw [I17, n20 12 (by omega), I9, i7 12 (by decide) (by decide) (by decide) (by decide) (by decide) (by decide)]; exact h12.1
          · rw [R17, upd_n _ _ (by omega), upd_n _ _ (by omega), R' b (by omega) (by omega)]; exact h2.1
          · rw [I17]; exact n18
          · rw [I17, n20 21 (by omega), I9]; exact s21
          · rw [I17]; exact n14
          · exact r14.ext (fun j hj => by rw [R17, upd_n _ _ (by omega), upd_n _ _ (by omega)])
          · rcases get_a hd with ⟨k1, k2⟩ | ⟨k1, k2⟩
            · exact (w5 k d k2).keep (fun j j1 j2 => by rw [R17, upd_n _ _ (by omega), upd_n _ _ (by omega), R' j (by omega) (by omega)])
            · subst k1 k2
              refine ⟨?_, fun _ => ⟨?_, ?_, ?_⟩, fun z => absurd z (by show ¬ 4 ≤ s; omega), fun z => absurd z (by show ¬ s = 5; omega)⟩
              · rw [R17, upd_n _ _ (by omega), upd_n _ _ (by omega), f'.2.2.1 _ (by omega), R9, upd_s]
              · rw [show b + 2 + 3 * C.length = b + 1 + 3 * C.length + 1 by omega, R17, upd_n _ _ (by omega), upd_s, w2]
              · rw [show b + 3 + 3 * C.length = b + 1 + 3 * C.length + 2 by omega, R17, upd_s, wl]
              · show subW (W ++ rC e) ws (rC e)
                rw [← w2]; exact subW.new
    -- the first head
    have first : ¬ (s < 4 ∧ hasL C s = true) → K (.inl (nI s)) y := fun n4 => by
      rw [if_neg (fun z => n4 ⟨by omega, z.2⟩)] at hp
      refine hK _ _ ?_
      dsimp only [B_clause]
      rw [h12.1, ncl (by omega), h2.1, show ((4 : Int32) ≤ nI s) = (4 ≤ s) by rw [L4, nle (by decide) (by omega)]]
      refine ⟨vp_in_nI (by omega) (by decide), fun v3 e3 => ?_⟩
      rw [e3, show (nI C.length = (24 : Int32)) = (C.length = 24) by rw [L24, neq (by omega) (by decide)]]
      refine ⟨fun z => ?_, fun z => ?_⟩
      · rw [if_neg (by omega)] at hp
        refine ⟨fun s4 => room y u h1 (QF.refl b y) (fun _ _ => rfl) rfl u1 u2 (fun l hl => ?_) (by omega) hp n4, fun s4 v4 e4 S5 e5 => ?_⟩
        · rw [u3 l hl, show (s == l) = false from by rw [beq_eq_false_iff_ne]; omega, Bool.or_false]
        · have e4' : v4 = nI (u ||| 2 ^ s) := by
            rw [e4, u1, show ((1 : Int32) <<< (nI s &&& 31)) = nI (2 ^ s) from nshl1 (by omega), nor]
          have u16 : u ||| 2 ^ s < 16 := by
            have a : 2 ^ s < 2 ^ 4 := Nat.pow_lt_pow_right (by decide) (by omega)
            exact Nat.or_lt_two_pow (n := 4) u2 a
          refine room S5 (u ||| 2 ^ s) ?_ (by rw [e5]; exact (QF.refl b y).I _ _ (by decide)) (fun k hk => by rw [e5, sI_o _ _ _ _ hk]) (by rw [e5, sI_2]) (by rw [e5, sI_s, e4']) u16 (fun l hl => by rw [bit_or, u3 l hl]) (by omega) hp n4
          rw [e5]
          refine ⟨?_, h1.2.1, ?_⟩
          · unfold tpM
            rw [sI_o _ _ _ _ (by decide)]; exact h1.1
          · unfold rTk
            rw [sI_o _ _ _ _ (by decide), sI_o _ _ _ _ (by decide), sI_o _ _ _ _ (by decide), sI_o _ _ _ _ (by decide)]; exact h1.2.2
      · rw [if_pos (by omega)] at hp
        exact hp (by omega) y (QF.refl b y) pl
    rw [show ((0 : Int32) ≤ nI s) = (0 ≤ s) by rw [L0, nle (by decide) (by omega)], show ((4 : Int32) ≤ nI s) = (4 ≤ s) by rw [L4, nle (by decide) (by omega)], u1]
    refine ⟨fun _ => ⟨fun s4 => first (fun z => absurd z.1 (by omega)), fun s4 => ?_⟩, fun z => absurd (Nat.zero_le _) z⟩
    have bt : ((nI u >>> (nI s &&& 31)) &&& 1 = (1 : Int32)) = (hasL C s = true) := by
      rw [← u3 s (by omega)]; exact nbit1 (s := u) (b := s) (by omega) (by omega)
    rw [bt]
    refine ⟨fun z => first (fun w => z w.2), fun z => ?_⟩
    rw [if_pos ⟨by omega, z⟩] at hp
    exact hp (by omega) y (QF.refl b y) pl
  · rw [if_pos z] at hp
    exact hp (by omega) y (QF.refl b y) pl
end RCL
