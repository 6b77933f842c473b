/-! the class works its orders -/
def nmd (l : Nat) (f : Nat → Int32) (v : Nat → Nat) : Prop := ∀ k, alN l k = true → f k = nI (v k) ∧ v k ≤ 1000
def nice (l : Nat) (v : Nat → Nat) : Prop := ∀ k, alN l k = true → v k ≤ 1000
theorem nmd.nice {l : Nat} {f : Nat → Int32} {v : Nat → Nat} (h : nmd l f v) : nice l v := fun k hk => (h k hk).2
def WF (x x' : XS) : Prop := (∀ k, k ≠ 1538 → x'.1 k = x.1 k) ∧ (∀ k, k ≠ 50 → x'.2.1 k = x.2.1 k) ∧ x'.2.2 = x.2.2
theorem WF.refl (x : XS) : WF x x := ⟨fun _ _ => rfl, fun _ _ => rfl, rfl⟩
theorem WF.trans {x y z : XS} (h : WF x y) (g : WF y z) : WF x z := ⟨fun k hk => (g.1 k hk).trans (h.1 k hk), fun k hk => (g.2.1 k hk).trans (h.2.1 k hk), g.2.2.trans h.2.2⟩
theorem WF.tx {x x' : XS} {a : Nat} {t : TR} (h : WF x x') (ht : tx x a t) : tx x' a t := by
  obtain ⟨j, q1, q2⟩ := ht
  exact ⟨j, by rw [h.2.2]; exact q1, q2⟩
theorem WF.J {x x' : XS} (h : WF x x') : JFr x x' := ⟨h.1, fun k _ k2 => h.2.1 k k2, h.2.2⟩
theorem WF.nm {x x' : XS} {l : Nat} {v : Nat → Nat} (h : WF x x') (n : nmd l (x.2.1 49) v) : nmd l (x'.2.1 49) v := by rw [h.2.1 49 (by decide)]; exact n
def puS (S : XS) (top : Nat) (r : Int32) : XS := xI (xF S 50 (upd (S.2.1 50) top r)) 1538 (nI (top + 1))
theorem puS_1 (S : XS) (top : Nat) (r : Int32) : (puS S top r).1 1538 = nI (top + 1) := xI_s _ _ _
theorem puS_f (S : XS) (top : Nat) (r : Int32) : (puS S top r).2.1 50 = upd (S.2.1 50) top r := by
  show (xF S 50 _).2.1 50 = _
  rw [xF_s]
theorem puS_W (S : XS) (top : Nat) (r : Int32) : WF S (puS S top r) := ⟨fun k hk => by unfold puS; rw [xI_n _ _ hk, xF_i], fun k hk => by show (xF S 50 _).2.1 k = _; rw [xF_o _ _ _ _ hk], rfl⟩
theorem tpS_W (S : XS) (v : Int32) : WF S (xI S 1538 v) := ⟨fun k hk => xI_n _ _ hk, fun _ _ => rfl, rfl⟩
theorem nmax {a b : Nat} (h : a ≤ b) (hb : b < 2147483648) : (if nI a < nI b then nI b else nI a) = nI b := by
  by_cases z : a < b
  · rw [if_pos (nI_lt z hb)]
  · rw [show a = b by omega]; split <;> rfl
theorem c_put {Post : XS → Prop} {S : XS} {top : Nat} {r : Int32} (e : S.1 1538 = nI top) (h : top < 64) (k : Post (puS S top r)) : VC_X2_put_48 Post r S := by
  unfold VC_X2_put_48
  rw [e, L64, nle (by decide) (by omega), ncl (by omega)]
  refine ⟨fun z => absurd z (by omega), fun _ => ⟨vp_in_nI h (by decide), fun S1 e1 v2 e2 S3 e3 => ?_⟩⟩
  rw [e1, xF_i, e, nI_1] at e2
  rw [e3, e2, e1]; exact k
theorem c_take {Post : Int32 → XS → Prop} {S : XS} {top : Nat} (e : S.1 1538 = nI (top + 1)) (h : top < 64) (k : Post (S.2.1 50 top) (xI S 1538 (nI top))) : VC_X2_takeTop_48 Post S := by
  unfold VC_X2_takeTop_48
  rw [e, L0, neq (by omega) (by omega)]
  refine ⟨fun _ v1 e1 S2 e2 => ?_, fun z => absurd z (by omega)⟩
  rw [sub1] at e1
  rw [e1] at e2
  have e3 : S2.1 1538 = nI top := by rw [e2, xI_s]
  rw [e3, ncl (by omega)]
  refine ⟨vp_in_nI h (by decide), ?_⟩
  rw [e2]; exact k
theorem cw_o {w : Nat × Nat} (h1 : w.1 < 128) (h2 : w.2 < 1000000) : cw w &&& 127 = nI w.1 := by
  unfold cw
  have e := Nat.and_two_pow_sub_one_eq_mod (w.1 + 128 * w.2) 7
  rw [L127, nand, show (127 : Nat) = 2 ^ 7 - 1 from rfl, e, show (w.1 + 128 * w.2) % 2 ^ 7 = w.1 by omega]
theorem cw_v {w : Nat × Nat} (h1 : w.1 < 128) (h2 : w.2 < 1000000) : cw w >>> ((7 : Int32) &&& 31) = nI w.2 := by
  unfold cw
  rw [show nI (w.1 + 128 * w.2) >>> ((7 : Int32) &&& 31) = nI ((w.1 + 128 * w.2) / 2 ^ 7) from nshr (b := 7) (by omega) (by decide), show (w.1 + 128 * w.2) / 2 ^ 7 = w.2 by omega]
section CEX
variable {Post : Int32 → XS → Prop} {K : Hd_X2_work_48 → XS → Prop} {a : Nat} {t : TR} {x2 : Int32}
theorem c_codeAt {Q : Int32 → XS → Prop} {S : XS} {s : Nat} {w : Nat × Nat} (ht : tx S a t) (hs : s < t.2.1.1) (h3 : t.2.1.1 ≤ 300) (hc : t.2.1.2 s = cw w) (k : Q (cw w) S) : VC_X9_codeAt_x Q a (nI s) S := by
  refine ⟨fun z => absurd z (nI_pos (by omega)), fun _ => ⟨t, ht, fun z => absurd z ?_, fun _ => ⟨t, ht, vp_in_nI hs (by omega), ?_⟩⟩⟩
  · rw [show Int32.ofNat t.2.1.1 = nI t.2.1.1 from rfl, nle (by omega) (by omega)]; omega
  · rw [ncl (by omega), hc]; exact k
theorem c_code (hK : ∀ h S, B_X2_work_48 Post K h S → K h S) {S : XS} {s B : Nat} {o u : Nat} (hs : s < B) (hB : B ≤ t.2.1.1) (h3 : t.2.1.1 ≤ 300) (ht : tx S a t) (hc : t.2.1.2 s = cw (o, u)) (w1 : o < 128) (w2 : u < 1000000)
    (k : (o = 62 → K (.inr (.inl (a, x2, nI B, nI s, nI o, nI u))) S) ∧ (¬ o = 62 → ((¬ o = 63 → K (.inr (.inr (a, x2, nI B, nI s, nI o, nI u))) S) ∧ (o = 63 → VC_X2_takeTop_48 (fun r19 S18 => ((¬ r19 = 0 → K (.inr (.inr (a, x2, nI B, nI s, nI o, nI u))) S18) ∧ (r19 = 0 → K (.inr (.inl (a, x2, nI B, nI s, nI o, nI u))) S18))) S)))) : K (.inl (a, x2, nI B, nI s)) S := by
  refine hK _ _ ?_
  dsimp only [B_X2_work_48]
  rw [nle (by omega) (by omega)]
  refine ⟨fun z => absurd z (by omega), fun _ => ⟨t, ht, c_codeAt (w := (o, u)) ht (by omega) h3 hc (fun v13 e13 => ⟨t, ht, c_codeAt (w := (o, u)) ht (by omega) h3 hc (fun v17 e17 => ?_)⟩)⟩⟩
  rw [cw_o (w := (o, u)) w1 w2] at e13
  rw [cw_v (w := (o, u)) w1 w2] at e17
  subst e13 e17
  rw [L62, L63, neq (by omega) (by decide), neq (by omega) (by decide)]; exact k
theorem c_obs (hK : ∀ h S, B_X2_work_48 Post K h S → K h S) {S : XS} {s B : Nat} {o u : Nat} (hs : s < B) (hB : B ≤ t.2.1.1) (h3 : t.2.1.1 ≤ 300) (ht : tx S a t) (hc : t.2.1.2 s = cw (o, u)) (w1 : o < 128) (w2 : u < 1000000) (n2 : o ≠ 62) (n3 : o ≠ 63)
    (k : VC_X2_obey_48 (fun S' => K (.inl (a, x2, nI B, nI (s + 1))) S') (nI o) (nI u) S) : K (.inl (a, x2, nI B, nI s)) S := by
  refine c_code hK hs hB h3 ht hc w1 w2 ⟨fun z => absurd z n2, fun _ => ⟨fun _ => hK _ _ ?_, fun z => absurd z n3⟩⟩
  dsimp only [B_X2_work_48]
  rw [L63, neq (by omega) (by decide)]
  refine ⟨fun z => absurd z n3, fun _ => ?_⟩
  have e : (fun S23 => ∀ v24 : Int32, v24 = nI s + 1 → K (.inl (a, x2, nI B, v24)) S23) = (fun S' => K (.inl (a, x2, nI B, nI (s + 1))) S') := by
    funext S'
    exact propext ⟨fun g => g _ (nI_1 _).symm, fun g v ev => by rw [ev, nI_1]; exact g⟩
  rw [e]; exact k
end CEX
def cEx (l : Nat) (e : EX) (nd : Nat) (p : (Nat → Nat) → Int) : Prop := (∀ s, (cC s e).length = cl e) ∧ ∀ (Post : Int32 → XS → Prop) (K : Hd_X2_work_48 → XS → Prop), (∀ h S, B_X2_work_48 Post K h S → K h S) → ∀ (a : Nat) (t : TR) (x2 : Int32) (s B top : Nat) (S : XS) (v : Nat → Nat), hasC t.2.1.2 s (cC s e) → s + cl e ≤ B → B ≤ t.2.1.1 → t.2.1.1 ≤ 300 → tx S a t → nmd l (S.2.1 49) v → S.1 1538 = nI top → top + nd ≤ 64 → (∀ S', WF S S' → S'.1 1538 = nI (top + 1) → (S'.2.1 50 top).toInt = p v → (∀ j, j < top → S'.2.1 50 j = S.2.1 50 j) → K (.inl (a, x2, nI B, nI (s + cl e))) S') → K (.inl (a, x2, nI B, nI s)) S
theorem hasC.l {f : Nat → Int32} {s : Nat} {L M : List (Nat × Nat)} (h : hasC f s (L ++ M)) : hasC f s L := fun j hj => by
  have := h j (by rw [List.length_append]; omega)
  rw [List.getD_eq_getElem?_getD, List.getElem?_append_left hj, ← List.getD_eq_getElem?_getD] at this
  exact this
theorem hasC.r {f : Nat → Int32} {s n : Nat} {L M : List (Nat × Nat)} (h : hasC f s (L ++ M)) (hn : L.length = n) : hasC f (s + n) M := fun j hj => by
  have := h (n + j) (by rw [List.length_append]; omega)
  rw [List.getD_eq_getElem?_getD, List.getElem?_append_right (by omega), ← List.getD_eq_getElem?_getD, show n + j - L.length = j by omega] at this
  rw [Nat.add_assoc]; exact this
theorem hasC.h {f : Nat → Int32} {s : Nat} {w : Nat × Nat} (h : hasC f s [w]) : f s = cw w := h 0 (Nat.lt_succ_self 0)
section CEX2
variable {l : Nat}
theorem cEx.up {e : EX} {nd n : Nat} {p : (Nat → Nat) → Int} (h : cEx l e nd p) (hn : nd ≤ n) : cEx l e n p :=
  ⟨h.1, fun Post K hK a t x2 s B top S v h1 h2 h3 h4 h5 h6 h7 h8 => h.2 Post K hK a t x2 s B top S v h1 h2 h3 h4 h5 h6 h7 (by omega)⟩
theorem cE_num {n : Nat} (hn : n ≤ 9999) : cEx l (eNum n) 1 (fun _ => (n : Int)) := by
  refine ⟨fun _ => rfl, fun Post K hK a t x2 s B top S v h1 h2 h3 h4 h5 h6 h7 h8 k => ?_⟩
  have h2' : s + 1 ≤ B := h2
  have hc : t.2.1.2 s = cw (60, n) := hasC.h h1
  refine c_obs (o := 60) (u := n) hK (by omega) h3 h4 h5 hc (by decide) (show n < 1000000 by omega) (by decide) (by decide) ?_
  intro K2 hK2
  refine ⟨fun z => absurd z (by decide), fun _ => c_put h7 (by omega) ?_, fun z => absurd z (by decide), fun z => absurd z (by decide), fun _ z => absurd rfl z⟩
  exact k _ (puS_W _ _ _) (puS_1 _ _ _) (by rw [puS_f, upd_s]; exact ntoInt (by omega)) (fun j hj => by rw [puS_f, upd_n _ _ (by omega)])
theorem cE_nam {i : Nat} (hi : alN l i = true) : cEx l (eNam i) 1 (fun v => (v i : Int)) := by
  refine ⟨fun _ => rfl, fun Post K hK a t x2 s B top S v h1 h2 h3 h4 h5 h6 h7 h8 k => ?_⟩
  have h2' : s + 1 ≤ B := h2
  have i11 := al_lt hi
  have hc : t.2.1.2 s = cw (61, i) := hasC.h h1
  have hv := h6 i hi
  refine c_obs (o := 61) (u := i) hK (by omega) h3 h4 h5 hc (by decide) (show i < 1000000 by omega) (by decide) (by decide) ?_
  intro K2 hK2
  refine ⟨fun z => absurd z (by decide), fun z => absurd z (by decide), fun _ => ⟨fun z => absurd z (nI_pos (by omega)), fun _ => ⟨fun z => absurd z (nI_ge (b := 11) i11 (by decide)), fun _ => ⟨vp_in_nI i11 (by decide), ?_⟩⟩⟩, fun z => absurd z (by decide), fun _ _ z => absurd rfl z⟩
  rw [show (nI i).toNatClampNeg = i from ncl (by omega), hv.1]
  refine c_put h7 (by omega) ?_
  exact k _ (puS_W _ _ _) (puS_1 _ _ _) (by rw [puS_f, upd_s]; exact ntoInt (by omega)) (fun j hj => by rw [puS_f, upd_n _ _ (by omega)])
/-- one order more on the top value -/
theorem cE_un {e : EX} {nd w : Nat} {mk : EX → EX} {g : Int32 → Int32} {p p' : (Nat → Nat) → Int} (hw : w = 45 ∨ w = 64) (hmk : ∀ s e, cC s (mk e) = cC s e ++ [(w, 0)]) (hcl : ∀ e, cl (mk e) = cl e + 1) (h : cEx l e nd p) (hn : 1 ≤ nd)
    (hg : ∀ v, nice l v → ∀ r : Int32, r.toInt = p v → (g r).toInt = p' v)
    (ho : ∀ (Q : XS → Prop) (S : XS), VC_X2_takeTop_48 (fun r S1 => VC_X2_put_48 Q (g r) S1) S → VC_X2_obey_48 Q (nI w) (nI 0) S) : cEx l (mk e) nd p' := by
  have len : ∀ s, (cC s (mk e)).length = cl (mk e) := fun s => by rw [hmk, hcl, List.length_append, h.1]; rfl
  refine ⟨len, fun Post K hK a t x2 s B top S v h1 h2 h3 h4 h5 h6 h7 h8 k => ?_⟩
  rw [hmk] at h1
  rw [hcl] at h2 k
  refine h.2 Post K hK a t x2 s B top S v h1.l (by omega) h3 h4 h5 h6 h7 h8 (fun S1 f1 t1 r1 q1 => ?_)
  have hc := (h1.r (h.1 s)).h
  refine c_obs (o := w) (u := 0) hK (by omega) h3 h4 (f1.tx h5) hc (show w < 128 by omega) (show 0 < 1000000 by omega) (show w ≠ 62 by omega) (show w ≠ 63 by omega) ?_
  refine ho _ _ (c_take t1 (by omega) (c_put (xI_s _ _ _) (by omega) ?_))
  rw [show s + cl e + 1 = s + (cl e + 1) by omega]
  refine k _ (f1.trans ((tpS_W _ _).trans (puS_W _ _ _))) (puS_1 _ _ _) ?_ (fun j hj => ?_)
  · rw [puS_f, upd_s]; exact hg v h6.nice _ r1
  · rw [puS_f, upd_n _ _ (by omega)]; exact q1 j hj
theorem cE_neg {e : EX} {nd : Nat} {p : (Nat → Nat) → Int} (h : cEx l e nd p) (hn : 1 ≤ nd) (hb : ∀ v, nice l v → b6 (p v)) : cEx l (eNeg e) nd (fun v => - p v) :=
  cE_un (w := 64) (mk := eNeg) (g := fun r => -r) (Or.inr rfl) (fun _ _ => rfl) (fun _ => rfl) h hn (fun v hv r er => by
    have := hb v hv
    obtain ⟨a, b⟩ := this
    rw [Int32.toInt_neg, er, bm32 (by omega) (by omega)]) (fun Q S hh K2 hK2 => ⟨fun z => absurd z (by decide), fun z => absurd z (by decide), fun z => absurd z (by decide), fun _ => hh, fun _ _ _ z => absurd rfl z⟩)
theorem cE_inv {e : EX} {nd : Nat} {p : (Nat → Nat) → Int} (h : cEx l e nd p) (hn : 1 ≤ nd) (hb : ∀ v, nice l v → p v = 0 ∨ p v = 1) : cEx l (eInv e) nd (fun v => 1 - p v) :=
  cE_un (w := 45) (mk := eInv) (g := fun r => 1 - r) (Or.inl rfl) (fun _ _ => rfl) (fun _ => rfl) h hn (fun v hv r er => by
    have := hb v hv
    rw [Int32.toInt_sub, er, show (1 : Int32).toInt = 1 from by decide, bm32 (by omega) (by omega)]) (fun Q S hh K2 hK2 => ⟨fun _ => hh, fun z => absurd z (by decide), fun z => absurd z (by decide), fun z => absurd z (by decide), fun z => absurd rfl z⟩)
theorem cE_two {a b : EX} {na nb n t : Nat} {p q : (Nat → Nat) → Int} (ht : tOK t) (ha : cEx l a na p) (hb : cEx l b nb q) (n1 : na ≤ n) (n2 : nb + 1 ≤ n) (n3 : 1 ≤ nb) (bp : ∀ v, nice l v → b6 (p v)) (bq : ∀ v, nice l v → b6 (q v)) (h01 : (t = 43 ∨ t = 44) → ∀ v, nice l v → (p v = 0 ∨ p v = 1) ∧ (q v = 0 ∨ q v = 1)) : cEx l (eTwo t a b) n (fun v => cl6 (opI t (p v) (q v))) := by
  have len : ∀ s, (cC s (eTwo t a b)).length = cl (eTwo t a b) := fun s => by
    show (cC s a ++ cC (s + cl a) b ++ [(t, 0)]).length = cl a + cl b + 1
    rw [List.length_append, List.length_append, ha.1, hb.1]; rfl
  have ht' := ht
  unfold tOK at ht'
  refine ⟨len, fun Post K hK ad tr x2 s B top S v h1 h2 h3 h4 h5 h6 h7 h8 k => ?_⟩
  have h1' : hasC tr.2.1.2 s (cC s a ++ cC (s + cl a) b ++ [(t, 0)]) := h1
  have h2' : s + (cl a + cl b + 1) ≤ B := h2
  have ca := h1'.l.l
  have cb := h1'.l.r (ha.1 s)
  have cc := (h1'.r (n := cl a + cl b) (by rw [List.length_append, ha.1, hb.1])).h
  refine ha.2 Post K hK ad tr x2 s B top S v ca (by omega) h3 h4 h5 h6 h7 (by omega) (fun S1 f1 t1 r1 q1 => ?_)
  refine hb.2 Post K hK ad tr x2 (s + cl a) B (top + 1) S1 v cb (by omega) h3 h4 (f1.tx h5) (f1.nm h6) t1 (by omega) (fun S2 f2 t2 r2 q2 => ?_)
  rw [Nat.add_assoc]
  refine c_obs (o := t) (u := 0) hK (by omega) h3 h4 ((f1.trans f2).tx h5) cc (show t < 128 by omega) (show 0 < 1000000 by omega) (show t ≠ 62 by omega) (show t ≠ 63 by omega) ?_
  have tn : ∀ c, c = 45 ∨ c = 60 ∨ c = 61 ∨ c = 64 → ¬ nI t = nI c := fun c hc z => by rw [neq (by omega) (by omega)] at z; omega
  intro K2 hK2
  refine ⟨fun z => absurd z (tn 45 (by omega)), fun z => absurd z (tn 60 (by omega)), fun z => absurd z (tn 61 (by omega)), fun z => absurd z (tn 64 (by omega)), fun _ _ _ _ => ?_⟩
  refine c_take t2 (by omega) (c_take (xI_s _ _ _) (by omega) ?_)
  have e1 : (((xI S2 1538 (nI (top + 1))).2.1 50 top).toInt64).toInt = p v := by
    rw [Int32.toInt_toInt64, xI_f, q2 top (by omega)]; exact r1
  have e2 : ((S2.2.1 50 (top + 1)).toInt64).toInt = q v := by rw [Int32.toInt_toInt64]; exact r2
  refine c_join ht e1 e2 (bp v h6.nice) (bq v h6.nice) (fun w => h01 w v h6.nice) (fun r er => ?_)
  refine c_clampI (L := -1000000) (H := 1000000) (by decide) (by decide) (by decide) (by decide) (by decide) (fun s1 es => c_put (top := top) (xI_s _ _ _) (by omega) ?_)
  rw [show s + (cl a + cl b) + 1 = s + cl (eTwo t a b) from by show _ = s + (cl a + cl b + 1); omega]
  refine k _ (f1.trans (f2.trans ((tpS_W _ _).trans ((tpS_W _ _).trans (puS_W _ _ _))))) (puS_1 _ _ _) ?_ (fun j hj => ?_)
  · rw [puS_f, upd_s, es, er]; rfl
  · rw [puS_f, upd_n _ _ (by omega)]
    show S2.2.1 50 j = _
    rw [q2 j (by omega), q1 j hj]
theorem cE_cond {c a b : EX} {nc na nb n : Nat} {p q r : (Nat → Nat) → Int} (hc : cEx l c nc p) (ha : cEx l a na q) (hb : cEx l b nb r) (n1 : nc ≤ n) (n2 : na ≤ n) (n3 : nb ≤ n) (n0 : 1 ≤ n) : cEx l (eCond c a b) n (fun v => if p v = 0 then r v else q v) := by
  have len : ∀ s, (cC s (eCond c a b)).length = cl (eCond c a b) := fun s => by
    show (cC s c ++ [(63, s + cl c + 1 + cl a + 1)] ++ cC (s + cl c + 1) a ++ [(62, s + cl c + 1 + cl a + 1 + cl b)] ++ cC (s + cl c + 1 + cl a + 1) b).length = cl c + 1 + cl a + 1 + cl b
    simp only [List.length_append, hc.1, ha.1, hb.1, List.length_cons, List.length_nil]
  refine ⟨len, fun Post K hK ad tr x2 s B top S v h1 h2 h3 h4 h5 h6 h7 h8 k => ?_⟩
  have h1' : hasC tr.2.1.2 s (cC s c ++ [(63, s + cl c + 1 + cl a + 1)] ++ cC (s + cl c + 1) a ++ [(62, s + cl c + 1 + cl a + 1 + cl b)] ++ cC (s + cl c + 1 + cl a + 1) b) := h1
  have h2' : s + (cl c + 1 + cl a + 1 + cl b) ≤ B := h2
  have gc := h1'.l.l.l.l
  have g63 := (h1'.l.l.l.r (hc.1 s)).h
  have ga := h1'.l.l.r (n := cl c + 1) (by simp only [List.length_append, hc.1, List.length_cons, List.length_nil])
  have g62 := (h1'.l.r (n := cl c + 1 + cl a) (by simp only [List.length_append, hc.1, ha.1, List.length_cons, List.length_nil])).h
  have gb := h1'.r (n := cl c + 1 + cl a + 1) (by simp only [List.length_append, hc.1, ha.1, List.length_cons, List.length_nil])
  rw [show s + (cl c + 1) = s + cl c + 1 by omega] at ga
  rw [show s + (cl c + 1 + cl a) = s + cl c + 1 + cl a by omega] at g62
  rw [show s + (cl c + 1 + cl a + 1) = s + cl c + 1 + cl a + 1 by omega] at gb
  have fin : s + cl (eCond c a b) = s + cl c + 1 + cl a + 1 + cl b := by show s + (cl c + 1 + cl a + 1 + cl b) = _; omega
  rw [fin] at k
  refine hc.2 Post K hK ad tr x2 s B top S v gc (by omega) h3 h4 h5 h6 h7 (by omega) (fun S1 f1 t1 r1 q1 => ?_)
  refine c_code (o := 63) (u := s + cl c + 1 + cl a + 1) hK (by omega) h3 h4 (f1.tx h5) g63 (by decide) (show s + cl c + 1 + cl a + 1 < 1000000 by omega) ⟨fun z => absurd z (by decide), fun _ => ⟨fun z => absurd rfl z, fun _ => c_take t1 (by omega) ?_⟩⟩
  have f2 : WF S (xI S1 1538 (nI top)) := f1.trans (tpS_W _ _)
  refine ⟨fun z => hK _ _ ?_, fun z => hK _ _ ?_⟩
  · -- the first part
    have pv : ¬ p v = 0 := fun w => z (Int32.toInt_inj.mp (by rw [r1, w]; decide))
    dsimp only [B_X2_work_48]
    refine ⟨fun _ v22 e22 => ?_, fun z => absurd rfl z⟩
    rw [e22, nI_1]
    refine ha.2 Post K hK ad tr x2 (s + cl c + 1) B top (xI S1 1538 (nI top)) v ga (by omega) h3 h4 (f2.tx h5) (f2.nm h6) (xI_s _ _ _) (by omega) (fun S3 f3 t3 r3 q3 => ?_)
    refine c_code (o := 62) (u := s + cl c + 1 + cl a + 1 + cl b) hK (by omega) h3 h4 ((f2.trans f3).tx h5) g62 (by decide) (show s + cl c + 1 + cl a + 1 + cl b < 1000000 by omega) ⟨fun _ => hK _ _ ?_, fun z => absurd rfl z⟩
    dsimp only [B_X2_work_48]
    intro v20 e20 v21 e21
    have e20' : v20 = nI (s + cl c + 1 + cl a + cl b) := by
      rw [e20, show nI (s + cl c + 1 + cl a + 1 + cl b) - 1 = nI (s + cl c + 1 + cl a + cl b) from by rw [show s + cl c + 1 + cl a + 1 + cl b = (s + cl c + 1 + cl a + cl b) + 1 by omega]; exact sub1]
      exact nmax (by omega) (by omega)
    rw [e21, e20', nI_1, show s + cl c + 1 + cl a + cl b + 1 = s + cl c + 1 + cl a + 1 + cl b by omega]
    refine k S3 (f2.trans f3) t3 (r3.trans (if_neg pv).symm) (fun j hj => ?_)
    rw [q3 j hj]; exact q1 j hj
  · -- the other part
    have pv : p v = 0 := by rw [← r1, z]; decide
    dsimp only [B_X2_work_48]
    intro v20 e20 v21 e21
    have e20' : v20 = nI (s + cl c + 1 + cl a) := by
      rw [e20, sub1]
      exact nmax (by omega) (by omega)
    rw [e21, e20', nI_1]
    refine hb.2 Post K hK ad tr x2 (s + cl c + 1 + cl a + 1) B top (xI S1 1538 (nI top)) v gb (by omega) h3 h4 (f2.tx h5) (f2.nm h6) (xI_s _ _ _) (by omega) (fun S3 f3 t3 r3 q3 => ?_)
    refine k S3 (f2.trans f3) t3 (r3.trans (if_pos pv).symm) (fun j hj => ?_)
    rw [q3 j hj]; exact q1 j hj
end CEX2
