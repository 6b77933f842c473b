/-! the reference works its orders -/
def hasW (f : Nat → Int32) (B w : Nat) (L : List (Nat × Nat)) : Prop := ∀ j, j < L.length → f (B + 2 * (w + j)) = nI (L.getD j (0, 0)).1 ∧ f (B + 2 * (w + j) + 1) = nI (L.getD j (0, 0)).2
theorem hasW.l {f : Nat → Int32} {B w : Nat} {L M : List (Nat × Nat)} (h : hasW f B w (L ++ M)) : hasW f B w L := fun j hj => by
  have := h j (by rw [List.length_append]; omega)
  rw [List.getD_eq_getElem?_getD, List.getElem?_append_left hj, ← List.getD_eq_getElem?_getD] at this
  exact this
theorem hasW.r {f : Nat → Int32} {B w : Nat} {L M : List (Nat × Nat)} (h : hasW f B w (L ++ M)) : hasW f B (w + L.length) M := fun j hj => by
  have := h (L.length + j) (by rw [List.length_append]; omega)
  rw [List.getD_eq_getElem?_getD, List.getElem?_append_right (by omega), ← List.getD_eq_getElem?_getD, show L.length + j - L.length = j by omega] at this
  rw [Nat.add_assoc]; exact this
theorem hasW.h {f : Nat → Int32} {B w o a : Nat} (h : hasW f B w [(o, a)]) : f (B + 2 * w) = nI o ∧ f (B + 2 * w + 1) = nI a := h 0 (Nat.lt_succ_self 0)
def VF (y y' : MS) : Prop := y'.1 = y.1 ∧ ∀ k, k ≠ 24 → y'.2.2.1 k = y.2.2.1 k
theorem VF.refl (y : MS) : VF y y := ⟨rfl, fun _ _ => rfl⟩
theorem VF.trans {x y z : MS} (h : VF x y) (g : VF y z) : VF x z := ⟨g.1.trans h.1, fun k hk => (g.2 k hk).trans (h.2 k hk)⟩
theorem VF.V {x y : MS} (h : VF x y) (f : Nat → Int64) : VF x (sV y f) := h
theorem VF.F {x y : MS} (h : VF x y) (f : Nat → Int32) : VF x (sF y 24 f) := ⟨h.1, fun k hk => by rw [sF_o _ _ _ _ hk, h.2 k hk]⟩
theorem VF.K {x y : MS} (h : VF x y) : KFr x y := ⟨h.1, fun k _ k2 => h.2 k k2⟩
/-- where the run stands: the text, the end, the names -/
def wst (l : Nat) (X B E : Nat) (v : Nat → Nat) (y : MS) : Prop := X + 2 < 2720 ∧ B ≤ 2115 ∧ E ≤ 300 ∧ y.2.2.1 2 (X + 2) = nI E ∧ nmd l (y.2.2.1 22) v
theorem VF.w {l X B E : Nat} {v : Nat → Nat} {y y' : MS} (h : VF y y') (g : wst l X B E v y) : wst l X B E v y' := by
  unfold wst
  rw [h.2 2 (by decide), h.2 22 (by decide)]; exact g
def rN (l : Nat) (e : EX) (p : (Nat → Nat) → Int) : Prop := 1 ≤ (rC e).length ∧ ∀ (Post : MS → Prop) (K : Hd_work → MS → Prop), (∀ h S, B_work Post K h S → K h S) → ∀ (x1 : Int32) (X B E w n k : Nat) (v : Nat → Nat) (y : MS), wst l X B E v y → hasW (y.2.2.1 2) B w (rC e) → w + (rC e).length ≤ E → n + (rC e).length ≤ 320 → k + (rC e).length ≤ 320 → (∀ y', VF y y' → (y'.2.2.2 n).toInt = p v → (∀ j, j < n → y'.2.2.2 j = y.2.2.2 j) → (∀ j, j < k → y'.2.2.1 24 j = y.2.2.1 24 j) → K (x1, nI X, nI B, nI (n + 1), nI k, nI (w + (rC e).length)) y') → K (x1, nI X, nI B, nI n, nI k, nI w) y
def rB (l : Nat) (e : EX) (p : (Nat → Nat) → Int) : Prop := 1 ≤ (rC e).length ∧ ∀ (Post : MS → Prop) (K : Hd_work → MS → Prop), (∀ h S, B_work Post K h S → K h S) → ∀ (x1 : Int32) (X B E w n k : Nat) (v : Nat → Nat) (y : MS), wst l X B E v y → hasW (y.2.2.1 2) B w (rC e) → w + (rC e).length ≤ E → n + (rC e).length ≤ 320 → k + (rC e).length ≤ 320 → (∀ y', VF y y' → (p v = 0 → y'.2.2.1 24 k = 0) → (p v = 1 → y'.2.2.1 24 k = 1) → (∀ j, j < n → y'.2.2.2 j = y.2.2.2 j) → (∀ j, j < k → y'.2.2.1 24 j = y.2.2.1 24 j) → K (x1, nI X, nI B, nI n, nI (k + 1), nI (w + (rC e).length)) y') → K (x1, nI X, nI B, nI n, nI k, nI w) y
theorem nar1 : vp_nar .boolean 1 = 1 := by decide
theorem nar0 : vp_nar .boolean 0 = 0 := by decide
theorem sV_v (S : MS) (f : Nat → Int64) : (sV S f).2.2.2 = f := rfl
theorem sF_v (S : MS) (k : Nat) (f : Nat → Int32) : (sF S k f).2.2.2 = S.2.2.2 := rfl
theorem sub2 {o : Nat} : nI (o + 2) + (-2) = nI o := by
  rw [show (-2 : Int32) = -nI 2 from rfl, ← Int32.sub_eq_add_neg, nsub (by omega)]; rfl
section REX
variable {l : Nat}
theorem rE_num {n0 : Nat} (hn : n0 ≤ 9999) : rN l (eNum n0) (fun _ => (n0 : Int)) := by
  refine ⟨Nat.le_refl 1, fun Post K hK x1 X B E w n k v y hw0 h1 h2 h3 h4 kk => ?_⟩
  obtain ⟨X2, B2, E3, hE, nm⟩ := hw0
  have hw : w < E := h2
  have n3 : n + 1 ≤ 320 := h3
  obtain ⟨c1, c2⟩ := hasW.h h1
  have i1 : nI X + 2 = nI (X + 2) := by rw [L2, nadd]
  have i2 : nI B + 2 * nI w = nI (B + 2 * w) := by rw [L2, nmul, nadd]
  have i3 : nI (B + 2 * w) + 1 = nI (B + 2 * w + 1) := nI_1 _
  (refine hK _ _ ?_; dsimp only [B_work]; rw [i1, i2, i3, ncl (show X + 2 < 2147483648 by omega), ncl (show B + 2 * w < 2147483648 by omega), ncl (show B + 2 * w + 1 < 2147483648 by omega), hE, c1, c2]; refine ⟨vp_in_nI (by omega) (by decide), fun z => absurd z (nI_ge hw (by omega)), fun _ => ⟨vp_in_nI (by omega) (by decide), fun v4 e4 => ⟨vp_in_nI (by omega) (by decide), fun v5 e5 => ?_⟩⟩⟩; subst e4 e5)
  refine ⟨fun z => absurd z (by decide), fun _ => ⟨fun z => absurd rfl z, fun _ v47 e47 => ⟨vp_in_nI (by omega) (by decide), fun S48 e48 v49 e49 v50 e50 => ?_⟩⟩⟩
  rw [nI_1] at e49 e50
  rw [ncl (by omega)] at e48
  rw [e49, e50, e48, e47]
  refine kk _ ((VF.refl y).V _) ?_ (fun j hj => ?_) (fun j hj => rfl)
  · rw [sV_v, pk_uLs, Int32.toInt_toInt64, ntoInt (by omega)]
  · rw [sV_v, pk_uLn (by omega)]
theorem rE_nam {i : Nat} (hi : alN l i = true) : rN l (eNam i) (fun v => (v i : Int)) := by
  refine ⟨Nat.le_refl 1, fun Post K hK x1 X B E w n k v y hw0 h1 h2 h3 h4 kk => ?_⟩
  obtain ⟨X2, B2, E3, hE, nm⟩ := hw0
  have hw : w < E := h2
  have n3 : n + 1 ≤ 320 := h3
  have i11 := al_lt hi
  obtain ⟨c1, c2⟩ := hasW.h h1
  have hv := nm i hi
  have i1 : nI X + 2 = nI (X + 2) := by rw [L2, nadd]
  have i2 : nI B + 2 * nI w = nI (B + 2 * w) := by rw [L2, nmul, nadd]
  have i3 : nI (B + 2 * w) + 1 = nI (B + 2 * w + 1) := nI_1 _
  (refine hK _ _ ?_; dsimp only [B_work]; rw [i1, i2, i3, ncl (show X + 2 < 2147483648 by omega), ncl (show B + 2 * w < 2147483648 by omega), ncl (show B + 2 * w + 1 < 2147483648 by omega), hE, c1, c2]; refine ⟨vp_in_nI (by omega) (by decide), fun z => absurd z (nI_ge hw (by omega)), fun _ => ⟨vp_in_nI (by omega) (by decide), fun v4 e4 => ⟨vp_in_nI (by omega) (by decide), fun v5 e5 => ?_⟩⟩⟩; subst e4 e5)
  refine ⟨fun z => absurd z (by decide), fun _ => ⟨fun _ => ⟨vp_in_nI i11 (by decide), fun v43 e43 => ⟨vp_in_nI (by omega) (by decide), fun S44 e44 v45 e45 v46 e46 => ?_⟩⟩, fun z => absurd z (by decide)⟩⟩
  rw [nI_1] at e45 e46
  rw [ncl (by omega)] at e44
  rw [ncl (by omega), hv.1] at e43
  rw [e45, e46, e44, e43]
  refine kk _ ((VF.refl y).V _) ?_ (fun j hj => ?_) (fun j hj => rfl)
  · rw [sV_v, pk_uLs, Int32.toInt_toInt64, ntoInt (by omega)]
  · rw [sV_v, pk_uLn (by omega)]
theorem rE_neg {e : EX} {p : (Nat → Nat) → Int} (h : rN l e p) (hb : ∀ v, nice l v → b6 (p v)) : rN l (eNeg e) (fun v => - p v) := by
  have len : (rC (eNeg e)).length = (rC e).length + 1 := by show (rC e ++ [(2, 0)]).length = _; rw [List.length_append]; rfl
  refine ⟨by rw [len]; omega, fun Post K hK x1 X B E w0 n k v y hw0 h1 h2 h3 h4 kk => ?_⟩
  have h1' : hasW (y.2.2.1 2) B w0 (rC e ++ [(2, 0)]) := h1
  rw [len] at h2 h3 h4 kk
  refine h.2 Post K hK x1 X B E w0 n k v y hw0 h1'.l (by omega) (by omega) (by omega) (fun y1 f1 r1 q1 q2 => ?_)
  have hb' := hb v hw0.2.2.2.2.nice
  obtain ⟨b1, b2⟩ := hb'
  rw [← f1.2 2 (by decide)] at h1'
  obtain ⟨c1, c2⟩ := h1'.r.h
  obtain ⟨X2, B2, E3, hE, nm⟩ := f1.w hw0
  generalize ew : w0 + (rC e).length = w at c1 c2
  rw [show w0 + ((rC e).length + 1) = w + 1 by omega] at kk
  have hw : w < E := (by omega)
  have i1 : nI X + 2 = nI (X + 2) := by rw [L2, nadd]
  have i2 : nI B + 2 * nI w = nI (B + 2 * w) := by rw [L2, nmul, nadd]
  have i3 : nI (B + 2 * w) + 1 = nI (B + 2 * w + 1) := nI_1 _
  (refine hK _ _ ?_; dsimp only [B_work]; rw [i1, i2, i3, ncl (show X + 2 < 2147483648 by omega), ncl (show B + 2 * w < 2147483648 by omega), ncl (show B + 2 * w + 1 < 2147483648 by omega), hE, c1, c2]; refine ⟨vp_in_nI (by omega) (by decide), fun z => absurd z (nI_ge hw (by omega)), fun _ => ⟨vp_in_nI (by omega) (by decide), fun v4 e4 => ⟨vp_in_nI (by omega) (by decide), fun v5 e5 => ?_⟩⟩⟩; subst e4 e5)
  rw [sub1, ncl (show n < 2147483648 by omega)]
  refine ⟨fun _ => ⟨fun z => absurd rfl z, fun _ => ⟨vp_in_nI (by omega) (by decide), fun v40 e40 => ⟨vp_in_nI (by omega) (by decide), fun S41 e41 v42 e42 => ?_⟩⟩⟩, fun z => absurd (by decide) z⟩
  rw [nI_1] at e42
  rw [e42, e41, e40]
  refine kk _ (f1.V _) ?_ (fun j hj => ?_) (fun j hj => q2 j hj)
  · rw [sV_v, pk_uLs, Int64.toInt_neg, r1, bm64 (by omega) (by omega)]
  · rw [sV_v, pk_uLn (by omega)]; exact q1 j hj
theorem rE_two {a b : EX} {t : Nat} {p q : (Nat → Nat) → Int} (ht : t = 4 ∨ t = 5 ∨ t = 6 ∨ t = 7) (ha : rN l a p) (hb : rN l b q) (bp : ∀ v, nice l v → b6 (p v)) (bq : ∀ v, nice l v → b6 (q v)) : rN l (eTwo t a b) (fun v => cl6 (opI t (p v) (q v))) := by
  have len : (rC (eTwo t a b)).length = (rC a).length + (rC b).length + 1 := by show (rC a ++ rC b ++ [(roF t, 0)]).length = _; rw [List.length_append, List.length_append]; rfl
  have la := ha.1
  refine ⟨by rw [len]; omega, fun Post K hK x1 X B E w0 n k v y hw0 h1 h2 h3 h4 kk => ?_⟩
  have h1' : hasW (y.2.2.1 2) B w0 (rC a ++ rC b ++ [(roF t, 0)]) := h1
  rw [len] at h2 h3 h4 kk
  refine ha.2 Post K hK x1 X B E w0 n k v y hw0 h1'.l.l (by omega) (by omega) (by omega) (fun y1 f1 r1 q1 q2 => ?_)
  rw [← f1.2 2 (by decide)] at h1'
  refine hb.2 Post K hK x1 X B E _ (n + 1) k v y1 (f1.w hw0) h1'.l.r (by omega) (by omega) (by omega) (fun y2 f2 r2 q3 q4 => ?_)
  rw [← f2.2 2 (by decide)] at h1'
  obtain ⟨c1, c2⟩ := h1'.r.h
  obtain ⟨X2, B2, E3, hE, nm⟩ := (f1.trans f2).w hw0
  rw [List.length_append] at c1 c2
  rw [show w0 + ((rC a).length + (rC b).length) = w0 + (rC a).length + (rC b).length by omega] at c1 c2
  generalize ew : w0 + (rC a).length + (rC b).length = w at c1 c2
  rw [show w0 + ((rC a).length + (rC b).length + 1) = w + 1 by omega] at kk
  have hw : w < E := (by omega)
  have i1 : nI X + 2 = nI (X + 2) := by rw [L2, nadd]
  have i2 : nI B + 2 * nI w = nI (B + 2 * w) := by rw [L2, nmul, nadd]
  have i3 : nI (B + 2 * w) + 1 = nI (B + 2 * w + 1) := nI_1 _
  have ro : 3 ≤ roF t ∧ roF t ≤ 6 := by rcases ht with e | e | e | e <;> subst e <;> decide
  (refine hK _ _ ?_; dsimp only [B_work]; rw [i1, i2, i3, ncl (show X + 2 < 2147483648 by omega), ncl (show B + 2 * w < 2147483648 by omega), ncl (show B + 2 * w + 1 < 2147483648 by omega), hE, c1, c2]; refine ⟨vp_in_nI (by omega) (by decide), fun z => absurd z (nI_ge hw (by omega)), fun _ => ⟨vp_in_nI (by omega) (by decide), fun v4 e4 => ⟨vp_in_nI (by omega) (by decide), fun v5 e5 => ?_⟩⟩⟩; subst e4 e5)
  rw [show ((1 : Int32) < nI (roF t)) = (1 < roF t) by rw [L1, nlt (by decide) (by omega)], show ((10 : Int32) ≤ nI (roF t)) = (10 ≤ roF t) by rw [L10, nle (by decide) (by omega)], show (nI (roF t) = (2 : Int32)) = (roF t = 2) by rw [L2, neq (by omega) (by decide)]]
  refine ⟨fun _ => ⟨fun _ => ⟨fun z => absurd z (by omega), fun _ v36 e36 => ?_⟩, fun z => absurd z (by omega)⟩, fun z => absurd (by omega) z⟩
  rw [less1, sub1] at e36
  subst e36
  rw [sub1, ncl (show n < 2147483648 by omega), ncl (show n + 1 < 2147483648 by omega)]
  refine ⟨vp_in_nI (by omega) (by decide), vp_in_nI (by omega) (by decide), r_two ht (by rw [q3 n (by omega)]; exact r1) r2 (bp v nm.nice) (bq v nm.nice) (fun r er => ⟨vp_in_nI (by omega) (by decide), fun S38 e38 v39 e39 => ?_⟩)⟩
  rw [nI_1] at e39
  rw [e39, e38]
  refine kk _ ((f1.trans f2).V _) ?_ (fun j hj => ?_) (fun j hj => ?_)
  · rw [sV_v, pk_uLs]; exact er
  · rw [sV_v, pk_uLn (by omega), q3 j (by omega)]; exact q1 j hj
  · show y2.2.2.1 24 j = _
    rw [q4 j hj, q2 j hj]
theorem rE_cmp {a b : EX} {t : Nat} {p q : (Nat → Nat) → Int} (ht : isCmp t = true) (ha : rN l a p) (hb : rN l b q) : rB l (eTwo t a b) (fun v => cl6 (opI t (p v) (q v))) := by
  have len : (rC (eTwo t a b)).length = (rC a).length + (rC b).length + 1 := by show (rC a ++ rC b ++ [(roF t, 0)]).length = _; rw [List.length_append, List.length_append]; rfl
  have la := ha.1
  have t57 : t < 57 := by have := of_decide_eq_true ht; omega
  have ro := roF_b t57 ht
  refine ⟨by rw [len]; omega, fun Post K hK x1 X B E w0 n k v y hw0 h1 h2 h3 h4 kk => ?_⟩
  have h1' : hasW (y.2.2.1 2) B w0 (rC a ++ rC b ++ [(roF t, 0)]) := h1
  rw [len] at h2 h3 h4 kk
  refine ha.2 Post K hK x1 X B E w0 n k v y hw0 h1'.l.l (by omega) (by omega) (by omega) (fun y1 f1 r1 q1 q2 => ?_)
  rw [← f1.2 2 (by decide)] at h1'
  refine hb.2 Post K hK x1 X B E _ (n + 1) k v y1 (f1.w hw0) h1'.l.r (by omega) (by omega) (by omega) (fun y2 f2 r2 q3 q4 => ?_)
  rw [← f2.2 2 (by decide)] at h1'
  obtain ⟨c1, c2⟩ := h1'.r.h
  obtain ⟨X2, B2, E3, hE, nm⟩ := (f1.trans f2).w hw0
  rw [List.length_append] at c1 c2
  rw [show w0 + ((rC a).length + (rC b).length) = w0 + (rC a).length + (rC b).length by omega] at c1 c2
  generalize ew : w0 + (rC a).length + (rC b).length = w at c1 c2
  rw [show w0 + ((rC a).length + (rC b).length + 1) = w + 1 by omega] at kk
  have hw : w < E := (by omega)
  have i1 : nI X + 2 = nI (X + 2) := by rw [L2, nadd]
  have i2 : nI B + 2 * nI w = nI (B + 2 * w) := by rw [L2, nmul, nadd]
  have i3 : nI (B + 2 * w) + 1 = nI (B + 2 * w + 1) := nI_1 _
  have e01 := cmp_01 (x := p v) (y := q v) ht
  have ecl : cl6 (opI t (p v) (q v)) = opI t (p v) (q v) := cl6_id (by unfold b6; omega)
  dsimp only at kk
  rw [ecl] at kk
  (refine hK _ _ ?_; dsimp only [B_work]; rw [i1, i2, i3, ncl (show X + 2 < 2147483648 by omega), ncl (show B + 2 * w < 2147483648 by omega), ncl (show B + 2 * w + 1 < 2147483648 by omega), hE, c1, c2]; refine ⟨vp_in_nI (by omega) (by decide), fun z => absurd z (nI_ge hw (by omega)), fun _ => ⟨vp_in_nI (by omega) (by decide), fun v4 e4 => ⟨vp_in_nI (by omega) (by decide), fun v5 e5 => ?_⟩⟩⟩; subst e4 e5)
  rw [show ((1 : Int32) < nI (roF t)) = (1 < roF t) by rw [L1, nlt (by decide) (by omega)], show ((10 : Int32) ≤ nI (roF t)) = (10 ≤ roF t) by rw [L10, nle (by decide) (by omega)], show ((20 : Int32) ≤ nI (roF t)) = (20 ≤ roF t) by rw [L20, nle (by decide) (by omega)], show (nI (roF t) = (2 : Int32)) = (roF t = 2) by rw [L2, neq (by omega) (by decide)]]
  refine ⟨fun _ => ⟨fun _ => ⟨fun _ => ⟨fun z => absurd z (by omega), fun _ v31 e31 => ?_⟩, fun z => absurd (by omega) z⟩, fun z => absurd z (by omega)⟩, fun z => absurd (by omega) z⟩
  rw [show n + 1 + 1 = n + 2 by omega, sub2] at e31
  subst e31
  rw [nI_1 n, ncl (show n < 2147483648 by omega), ncl (show n + 1 < 2147483648 by omega), ncl (show k < 2147483648 by omega)]
  have fin : ∀ r : Int32, (opI t (p v) (q v) = 0 → r = 0) → (opI t (p v) (q v) = 1 → r = 1) → vp_nar .boolean r = r → vp_in (nI k) 330 ∧ ∀ S33 : MS, S33 = sF y2 24 (upd (y2.2.2.1 24) k (vp_nar .boolean r)) → ∀ v34 : Int32, v34 = nI k + 1 → ∀ v35 : Int32, v35 = nI w + 1 → K (x1, nI X, nI B, nI n, v34, v35) S33 := fun r g0 g1 gn => by
    refine ⟨vp_in_nI (by omega) (by decide), fun S33 e33 v34 e34 v35 e35 => ?_⟩
    rw [nI_1] at e34 e35
    rw [gn] at e33
    rw [e35, e34, e33]
    refine kk _ ((f1.trans f2).F _) (fun z => ?_) (fun z => ?_) (fun j hj => ?_) (fun j hj => ?_)
    · rw [sF_same, upd_s]; exact g0 z
    · rw [sF_same, upd_s]; exact g1 z
    · rw [sF_v, q3 j (by omega), q1 j hj]
    · rw [sF_same, upd_n _ _ (by omega), q4 j hj, q2 j hj]
  refine ⟨vp_in_nI (by omega) (by decide), vp_in_nI (by omega) (by decide), r_asked (x := p v) (y := q v) ht (by rw [q3 n (by omega)]; exact r1) r2 (fun z => ?_) (fun z => ?_)⟩
  · exact fin 1 (fun w => absurd (z.symm.trans w) (by decide)) (fun _ => rfl) nar1
  · exact fin 0 (fun _ => rfl) (fun w => absurd (z.symm.trans w) (by decide)) nar0
end REX
