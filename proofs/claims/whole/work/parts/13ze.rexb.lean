/-! the reference works its orders: not, and, or, a choice -/
section REXB
variable {l : Nat}
theorem rE_inv {e : EX} {p : (Nat → Nat) → Int} (h : rB l e p) (hb : ∀ v, nice l v → p v = 0 ∨ p v = 1) : rB l (eInv e) (fun v => 1 - p v) := by
  have len : (rC (eInv e)).length = (rC e).length + 1 := by show (rC e ++ [(20, 0)]).length = _; rw [List.length_append]; rfl
  refine ⟨by rw [len]; omega, fun Post K hK x1 X B E w0 n k v y hw0 h1 h2 h3 h4 kk => ?_⟩
  have h1' : hasW (y.2.2.1 2) B w0 (rC e ++ [(20, 0)]) := h1
  rw [len] at h2 h3 h4 kk
  refine h.2 Post K hK x1 X B E w0 n k v y hw0 h1'.l (by omega) (by omega) (by omega) (fun y1 f1 r0 r1 q1 q2 => ?_)
  have hb' := hb v hw0.2.2.2.2.nice
  rw [← f1.2 2 (by decide)] at h1'
  obtain ⟨c1, c2⟩ := h1'.r.h
  obtain ⟨X2, B2, E3, hE, nm⟩ := f1.w hw0
  generalize ew : w0 + (rC e).length = w at c1 c2
  rw [show w0 + ((rC e).length + 1) = w + 1 by omega] at kk
  have hw : w < E := (by omega)
  have i1 : nI X + 2 = nI (X + 2) := by rw [L2, nadd]
  have i2 : nI B + 2 * nI w = nI (B + 2 * w) := by rw [L2, nmul, nadd]
  have i3 : nI (B + 2 * w) + 1 = nI (B + 2 * w + 1) := nI_1 _
  have fin : ∀ r : Int32, (1 - p v = 0 → r = 0) → (1 - p v = 1 → r = 1) → vp_nar .boolean r = r → vp_in (nI k) 330 ∧ ∀ S27 : MS, S27 = sF y1 24 (upd (y1.2.2.1 24) k (vp_nar .boolean r)) → ∀ v28 : Int32, v28 = nI w + 1 → K (x1, nI X, nI B, nI n, nI (k + 1), v28) S27 := fun r g0 g1 gn => by
    refine ⟨vp_in_nI (by omega) (by decide), fun S33 e33 v35 e35 => ?_⟩
    rw [nI_1] at e35
    rw [gn] at e33
    rw [e35, e33]
    refine kk _ (f1.F _) (fun z => ?_) (fun z => ?_) (fun j hj => ?_) (fun j hj => ?_)
    · rw [sF_same, upd_s]; exact g0 z
    · rw [sF_same, upd_s]; exact g1 z
    · rw [sF_v, q1 j hj]
    · rw [sF_same, upd_n _ _ (by omega), q2 j hj]
  (refine hK _ _ ?_; dsimp only [B_work]; rw [i1, i2, i3, ncl (show X + 2 < 2147483648 by omega), ncl (show B + 2 * w < 2147483648 by omega), ncl (show B + 2 * w + 1 < 2147483648 by omega), hE, c1, c2]; refine ⟨vp_in_nI (by omega) (by decide), fun z => absurd z (nI_ge hw (by omega)), fun _ => ⟨vp_in_nI (by omega) (by decide), fun v4 e4 => ⟨vp_in_nI (by omega) (by decide), fun v5 e5 => ?_⟩⟩⟩; subst e4 e5)
  rw [sub1, ncl (show k < 2147483648 by omega)]
  refine ⟨fun _ => ⟨fun _ => ⟨fun _ => ⟨fun _ => ⟨fun z => absurd rfl z, fun _ => ⟨vp_in_nI (by omega) (by decide), fun g => ?_, fun g => ?_⟩⟩, fun z => absurd (by decide) z⟩, fun z => absurd (by decide) z⟩, fun z => absurd z (by decide)⟩, fun z => absurd (by decide) z⟩
  · have pv : ¬ p v = 0 := fun z => g (r0 z)
    exact fin 0 (fun _ => rfl) (fun z => absurd z (by omega)) nar0
  · have pv : ¬ p v = 1 := fun z => by rw [r1 z] at g; exact absurd g (by decide)
    exact fin 1 (fun z => absurd z (by omega)) (fun _ => rfl) nar1
theorem rE_ao {a b : EX} {t : Nat} {p q : (Nat → Nat) → Int} (ht : t = 43 ∨ t = 44) (ha : rB l a p) (hb : rB l b q) (bp : ∀ v, nice l v → p v = 0 ∨ p v = 1) (bq : ∀ v, nice l v → q v = 0 ∨ q v = 1) : rB l (eTwo t a b) (fun v => cl6 (opI t (p v) (q v))) := by
  have len : (rC (eTwo t a b)).length = (rC a).length + (rC b).length + 1 := by show (rC a ++ rC b ++ [(roF t, 0)]).length = _; rw [List.length_append, List.length_append]; rfl
  have la := ha.1
  refine ⟨by rw [len]; omega, fun Post K hK x1 X B E w0 n k v y hw0 h1 h2 h3 h4 kk => ?_⟩
  have h1' : hasW (y.2.2.1 2) B w0 (rC a ++ rC b ++ [(roF t, 0)]) := h1
  rw [len] at h2 h3 h4 kk
  refine ha.2 Post K hK x1 X B E w0 n k v y hw0 h1'.l.l (by omega) (by omega) (by omega) (fun y1 f1 r0 r1 q1 q2 => ?_)
  rw [← f1.2 2 (by decide)] at h1'
  refine hb.2 Post K hK x1 X B E _ n (k + 1) v y1 (f1.w hw0) h1'.l.r (by omega) (by omega) (by omega) (fun y2 f2 r2 r3 q3 q4 => ?_)
  rw [← f2.2 2 (by decide)] at h1'
  obtain ⟨c1, c2⟩ := h1'.r.h
  obtain ⟨X2, B2, E3, hE, nm⟩ := (f1.trans f2).w hw0
  rw [List.length_append] at c1 c2
  rw [show w0 + ((rC a).length + (rC b).length) = w0 + (rC a).length + (rC b).length by omega] at c1 c2
  generalize ew : w0 + (rC a).length + (rC b).length = w at c1 c2
  rw [show w0 + ((rC a).length + (rC b).length + 1) = w + 1 by omega] at kk
  have hw : w < E := (by omega)
  have i1 : nI X + 2 = nI (X + 2) := by rw [L2, nadd]
  have i2 : nI B + 2 * nI w = nI (B + 2 * w) := by rw [L2, nmul, nadd]
  have i3 : nI (B + 2 * w) + 1 = nI (B + 2 * w + 1) := nI_1 _
  have p01 := bp v nm.nice
  have q01 := bq v nm.nice
  have o01 : opI t (p v) (q v) = 0 ∨ opI t (p v) (q v) = 1 := by
    rcases ht with e | e <;> subst e
    · rw [opI_43]; split <;> omega
    · rw [opI_44]; split <;> omega
  have ecl : cl6 (opI t (p v) (q v)) = opI t (p v) (q v) := cl6_id (by unfold b6; omega)
  dsimp only at kk
  rw [ecl] at kk
  have ta : y2.2.2.1 24 k = y1.2.2.1 24 k := q4 k (by omega)
  have A : (y1.2.2.1 24 k = 0) ↔ p v = 0 := ⟨fun z => p01.resolve_right (fun w => by rw [r1 w] at z; exact absurd z (by decide)), r0⟩
  have Bq : (y2.2.2.1 24 (k + 1) = 0) ↔ q v = 0 := ⟨fun z => q01.resolve_right (fun w => by rw [r3 w] at z; exact absurd z (by decide)), r2⟩
  have fin : ∀ r : Int32, (opI t (p v) (q v) = 0 → r = 0) → (opI t (p v) (q v) = 1 → r = 1) → vp_nar .boolean r = r → vp_in (nI k) 330 ∧ ∀ S27 : MS, S27 = sF y2 24 (upd (y2.2.2.1 24) k (vp_nar .boolean r)) → ∀ v28 : Int32, v28 = nI w + 1 → K (x1, nI X, nI B, nI n, nI (k + 1), v28) S27 := fun r g0 g1 gn => by
    refine ⟨vp_in_nI (by omega) (by decide), fun S33 e33 v35 e35 => ?_⟩
    rw [nI_1] at e35
    rw [gn] at e33
    rw [e35, e33]
    refine kk _ ((f1.trans f2).F _) (fun z => ?_) (fun z => ?_) (fun j hj => ?_) (fun j hj => ?_)
    · rw [sF_same, upd_s]; exact g0 z
    · rw [sF_same, upd_s]; exact g1 z
    · rw [sF_v, q3 j hj, q1 j hj]
    · rw [sF_same, upd_n _ _ (by omega), q4 j (by omega), q2 j hj]
  rcases ht with e | e <;> subst e
  · rw [opI_43] at fin
    have c1' : y2.2.2.1 2 (B + 2 * w) = nI 22 := c1
    clear c1
    have c1 := c1'
    (refine hK _ _ ?_; dsimp only [B_work]; rw [i1, i2, i3, ncl (show X + 2 < 2147483648 by omega), ncl (show B + 2 * w < 2147483648 by omega), ncl (show B + 2 * w + 1 < 2147483648 by omega), hE, c1, c2]; refine ⟨vp_in_nI (by omega) (by decide), fun z => absurd z (nI_ge hw (by omega)), fun _ => ⟨vp_in_nI (by omega) (by decide), fun v4 e4 => ⟨vp_in_nI (by omega) (by decide), fun v5 e5 => ?_⟩⟩⟩; subst e4 e5)
    refine ⟨fun _ => ⟨fun _ => ⟨fun _ => ⟨fun _ => ⟨fun _ => ⟨fun _ v6 e6 => ⟨fun _ => ?_, fun z => absurd z (by decide)⟩, fun z => absurd z (by decide)⟩, fun z => absurd z (by decide)⟩, fun z => absurd (by decide) z⟩, fun z => absurd (by decide) z⟩, fun z => absurd z (by decide)⟩, fun z => absurd (by decide) z⟩
    rw [less1, sub1] at e6
    subst e6
    rw [sub1, ncl (show k < 2147483648 by omega), ncl (show k + 1 < 2147483648 by omega), ta]
    refine ⟨vp_in_nI (by omega) (by decide), fun g => ?_, fun g => ⟨vp_in_nI (by omega) (by decide), fun g2 => ?_, fun g2 => ?_⟩⟩
    · rw [A] at g
      rw [if_neg g] at fin
      have := fin 1 (fun z => absurd z (by decide)) (fun _ => rfl) nar1
      exact this
    · rw [A] at g
      rw [Bq] at g2
      rw [if_pos g] at fin
      have := fin 0 (fun _ => rfl) (fun z => absurd z (by omega)) nar0
      exact this
    · rw [A] at g
      rw [Bq] at g2
      rw [if_pos g] at fin
      have := fin 1 (fun z => absurd z g2) (fun _ => rfl) nar1
      exact this
  · rw [opI_44] at fin
    have c1' : y2.2.2.1 2 (B + 2 * w) = nI 21 := c1
    clear c1
    have c1 := c1'
    (refine hK _ _ ?_; dsimp only [B_work]; rw [i1, i2, i3, ncl (show X + 2 < 2147483648 by omega), ncl (show B + 2 * w < 2147483648 by omega), ncl (show B + 2 * w + 1 < 2147483648 by omega), hE, c1, c2]; refine ⟨vp_in_nI (by omega) (by decide), fun z => absurd z (nI_ge hw (by omega)), fun _ => ⟨vp_in_nI (by omega) (by decide), fun v4 e4 => ⟨vp_in_nI (by omega) (by decide), fun v5 e5 => ?_⟩⟩⟩; subst e4 e5)
    refine ⟨fun _ => ⟨fun _ => ⟨fun _ => ⟨fun _ => ⟨fun _ => ⟨fun _ v6 e6 => ⟨fun z => absurd rfl z, fun _ => ?_⟩, fun z => absurd z (by decide)⟩, fun z => absurd z (by decide)⟩, fun z => absurd (by decide) z⟩, fun z => absurd (by decide) z⟩, fun z => absurd z (by decide)⟩, fun z => absurd (by decide) z⟩
    rw [less1, sub1] at e6
    subst e6
    rw [sub1, ncl (show k < 2147483648 by omega), ncl (show k + 1 < 2147483648 by omega), ta]
    refine ⟨vp_in_nI (by omega) (by decide), fun g => ?_, fun g => ⟨vp_in_nI (by omega) (by decide), fun g2 => ?_, fun g2 => ?_⟩⟩
    · rw [A] at g
      rw [if_pos g] at fin
      have := fin 0 (fun _ => rfl) (fun z => absurd z (by decide)) nar0
      exact this
    · rw [A] at g
      rw [Bq] at g2
      rw [if_neg g] at fin
      have := fin 0 (fun _ => rfl) (fun z => absurd z (by omega)) nar0
      exact this
    · rw [A] at g
      rw [Bq] at g2
      rw [if_neg g] at fin
      have := fin 1 (fun z => absurd z g2) (fun _ => rfl) nar1
      exact this
theorem rE_cond {c a b : EX} {p q r : (Nat → Nat) → Int} (hc : rB l c p) (ha : rN l a q) (hb : rN l b r) (bp : ∀ v, nice l v → p v = 0 ∨ p v = 1) : rN l (eCond c a b) (fun v => if p v = 0 then r v else q v) := by
  have len : (rC (eCond c a b)).length = (rC c).length + (rC a).length + (rC b).length + 1 := by show (rC c ++ rC a ++ rC b ++ [(23, 0)]).length = _; rw [List.length_append, List.length_append, List.length_append]; rfl
  have lc := hc.1
  have la := ha.1
  refine ⟨by rw [len]; omega, fun Post K hK x1 X B E w0 n k v y hw0 h1 h2 h3 h4 kk => ?_⟩
  have h1' : hasW (y.2.2.1 2) B w0 (rC c ++ rC a ++ rC b ++ [(23, 0)]) := h1
  rw [len] at h2 h3 h4 kk
  refine hc.2 Post K hK x1 X B E w0 n k v y hw0 h1'.l.l.l (by omega) (by omega) (by omega) (fun y1 f1 r0 r1 q1 q2 => ?_)
  rw [← f1.2 2 (by decide)] at h1'
  refine ha.2 Post K hK x1 X B E _ n (k + 1) v y1 (f1.w hw0) h1'.l.l.r (by omega) (by omega) (by omega) (fun y2 f2 r2 q3 q4 => ?_)
  rw [← f2.2 2 (by decide)] at h1'
  have h3' := h1'.l.r
  rw [List.length_append, ← Nat.add_assoc] at h3'
  refine hb.2 Post K hK x1 X B E _ (n + 1) (k + 1) v y2 ((f1.trans f2).w hw0) h3' (by omega) (by omega) (by omega) (fun y3 f3 r3 q5 q6 => ?_)
  have ff := f1.trans (f2.trans f3)
  rw [← f3.2 2 (by decide)] at h1'
  obtain ⟨c1, c2⟩ := h1'.r.h
  obtain ⟨X2, B2, E3, hE, nm⟩ := ff.w hw0
  rw [List.length_append, List.length_append] at c1 c2
  rw [show w0 + ((rC c).length + (rC a).length + (rC b).length) = w0 + (rC c).length + (rC a).length + (rC b).length by omega] at c1 c2
  generalize ew : w0 + (rC c).length + (rC a).length + (rC b).length = w at c1 c2
  rw [show w0 + ((rC c).length + (rC a).length + (rC b).length + 1) = w + 1 by omega] at kk
  have hw : w < E := (by omega)
  have i1 : nI X + 2 = nI (X + 2) := by rw [L2, nadd]
  have i2 : nI B + 2 * nI w = nI (B + 2 * w) := by rw [L2, nmul, nadd]
  have i3 : nI (B + 2 * w) + 1 = nI (B + 2 * w + 1) := nI_1 _
  have p01 := bp v nm.nice
  have tr : y3.2.2.1 24 k = y1.2.2.1 24 k := by rw [q6 k (by omega), q4 k (by omega)]
  have A : (y3.2.2.1 24 k = 0) ↔ p v = 0 := by rw [tr]; exact ⟨fun z => p01.resolve_right (fun w => by rw [r1 w] at z; exact absurd z (by decide)), r0⟩
  have fin : ∀ z : Int64, z.toInt = (if p v = 0 then r v else q v) → ∀ S22 : MS, S22 = sV y3 (vp_updL (y3.2.2.2) n z) → ∀ v23 : Int32, v23 = nI w + 1 → K (x1, nI X, nI B, nI (n + 1), nI k, v23) S22 := fun z ez S22 e22 v23 e23 => by
    rw [nI_1] at e23
    rw [e23, e22]
    refine kk _ (ff.V _) ?_ (fun j hj => ?_) (fun j hj => ?_)
    · rw [sV_v, pk_uLs]; exact ez
    · rw [sV_v, pk_uLn (by omega), q5 j (by omega), q3 j (by omega), q1 j hj]
    · show y3.2.2.1 24 j = _
      rw [q6 j (by omega), q4 j (by omega), q2 j hj]
  (refine hK _ _ ?_; dsimp only [B_work]; rw [i1, i2, i3, ncl (show X + 2 < 2147483648 by omega), ncl (show B + 2 * w < 2147483648 by omega), ncl (show B + 2 * w + 1 < 2147483648 by omega), hE, c1, c2]; refine ⟨vp_in_nI (by omega) (by decide), fun z => absurd z (nI_ge hw (by omega)), fun _ => ⟨vp_in_nI (by omega) (by decide), fun v4 e4 => ⟨vp_in_nI (by omega) (by decide), fun v5 e5 => ?_⟩⟩⟩; subst e4 e5)
  refine ⟨fun _ => ⟨fun _ => ⟨fun _ => ⟨fun _ => ⟨fun _ => ⟨fun z => absurd rfl z, fun _ v19 e19 v20 e20 => ?_⟩, fun z => absurd z (by decide)⟩, fun z => absurd (by decide) z⟩, fun z => absurd (by decide) z⟩, fun z => absurd z (by decide)⟩, fun z => absurd (by decide) z⟩
  rw [less1, sub1] at e19 e20
  subst e19 e20
  rw [sub1, ncl (show k < 2147483648 by omega), ncl (show n < 2147483648 by omega), ncl (show n + 1 < 2147483648 by omega)]
  refine ⟨vp_in_nI (by omega) (by decide), fun g => ⟨vp_in_nI (by omega) (by decide), fun v21 e21 => ⟨vp_in_nI (by omega) (by decide), fin v21 ?_⟩⟩, fun g => ⟨vp_in_nI (by omega) (by decide), fun v24 e24 => ⟨vp_in_nI (by omega) (by decide), fin v24 ?_⟩⟩⟩
  · rw [A] at g
    rw [if_pos g, e21]; exact r3
  · rw [A] at g
    rw [if_neg g, e24, q5 n (by omega)]; exact r2
end REXB
