/-! a text, clause by clause: what is read; the class's numbers and deeds -/
abbrev CL : Type := Nat × Nat × Nat × Nat × EX
abbrev TS : Type := List CL × Nat × Nat
def sb {β γ : Type} : (Nat × Nat) ⊕ β → (β → (Nat × Nat) ⊕ γ) → (Nat × Nat) ⊕ γ
  | .inl v, _ => .inl v
  | .inr v, g => g v
def hasL (C : List CL) (l : Nat) : Bool := C.any (fun c => c.1 == l)
def addC (S : TS) (c : CL) : TS := (S.1 ++ [c], if c.1 < 4 then S.2.1 + cl c.2.2.2.2 else S.2.1, if c.1 < 4 then S.2.2 + (rC c.2.2.2.2).length else S.2.2)
section TXF
variable (T : Nat → Nat) (m : Nat)
def dueS {γ : Type} (k q : Nat) (g : Nat → (Nat × Nat) ⊕ γ) : (Nat × Nat) ⊕ γ := if tkC T m q = k then g (nx T m q) else .inl (1, q)
def numF (lo hi q : Nat) : (Nat × Nat) ⊕ (Nat × Nat) := if tkC T m q = 15 then (if lo ≤ rkV T m q ∧ rkV T m q ≤ hi then .inr (nx T m q, rkV T m q) else .inl (2, q)) else .inl (1, q)
def deedF (s q : Nat) : (Nat × Nat) ⊕ (Nat × Nat × Nat × Nat) :=
  if s = 4 then sb (numF T m 0 5 q) (fun v => .inr (v.1, v.2, 0, 0))
  else if s = 5 then sb (numF T m 0 9 q) (fun v => dueS T m 39 v.1 (fun q2 => sb (numF T m 0 5 q2) (fun u => dueS T m 40 u.1 (fun q3 => sb (numF T m 1 9 q3) (fun w => .inr (w.1, v.2, u.2, w.2))))))
  else sb (numF T m 1 99 q) (fun v => .inr (v.1, v.2, 0, 0))
def lawF (l q cs ws : Nat) : (Nat × Nat) ⊕ (Nat × CL) := sb (PF T m l 100 0 q 0) (fun v => dueS T m 10 v.1 (fun q2 => .inr (q2, (l, cs, ws, 0, v.2))))
def clauseF (q : Nat) (S : TS) : (Nat × Nat) ⊕ (Nat × CL) :=
  if tkC T m q < 32 ∨ 38 < tkC T m q then .inl (1, q)
  else if tkC T m q < 36 ∧ hasL S.1 (tkC T m q - 32) = true then .inl (4, q)
  else if 24 ≤ S.1.length then .inl (6, q)
  else if tkC T m q < 36 then lawF T m (tkC T m q - 32) (nx T m q) S.2.1 S.2.2
  else sb (deedF T m (tkC T m q - 32) (nx T m q)) (fun v => dueS T m 10 v.1 (fun q2 => .inr (q2, (tkC T m q - 32, v.2.1, v.2.2.1, v.2.2.2, eNum 0))))
def textF : Nat → Nat → TS → (Nat × Nat) ⊕ TS
  | 0, _, S => .inr S
  | n + 1, q, S => if tkC T m q = 16 then .inr S else sb (clauseF T m q S) (fun v => textF n v.1 (addC S v.2))
end TXF
theorem sb_r {β γ : Type} (v : β) (g : β → (Nat × Nat) ⊕ γ) : sb (.inr v) g = g v := rfl
theorem sb_l {β γ : Type} (v : Nat × Nat) (g : β → (Nat × Nat) ⊕ γ) : sb (.inl v) g = .inl v := rfl
theorem dueS_p {γ : Type} {T : Nat → Nat} {m k q : Nat} {g : Nat → (Nat × Nat) ⊕ γ} (h : tkC T m q = k) : dueS T m k q g = g (nx T m q) := if_pos h
theorem dueS_n {γ : Type} {T : Nat → Nat} {m k q : Nat} {g : Nat → (Nat × Nat) ⊕ γ} (h : ¬ tkC T m q = k) : dueS T m k q g = .inl (1, q) := if_neg h
def TF (S S' : XS) : Prop := (∀ k, k < 1377 ∨ 1387 < k → S'.1 k = S.1 k) ∧ (∀ a, a < 44 ∨ 47 < a → S'.2.1 a = S.2.1 a) ∧ S'.2.2 = S.2.2
theorem TF.refl (S : XS) : TF S S := ⟨fun _ _ => rfl, fun _ _ => rfl, rfl⟩
theorem TF.trans {x y z : XS} (h : TF x y) (g : TF y z) : TF x z := ⟨fun k hk => (g.1 k hk).trans (h.1 k hk), fun a ha => (g.2.1 a ha).trans (h.2.1 a ha), g.2.2.trans h.2.2⟩
theorem CF.tf {x y : XS} (h : CF x y) : TF x y := ⟨fun k hk => h.1 k (by omega), fun a ha => h.2.1 a (by omega), h.2.2⟩
theorem TF.I {x x' : XS} (h : TF x x') (k : Nat) (v : Int32) (hk : 1377 ≤ k ∧ k ≤ 1387) : TF x (xI x' k v) := ⟨fun j hj => by rw [xI_n _ _ (show j ≠ k by omega), h.1 j hj], h.2⟩
theorem TF.F {x x' : XS} (h : TF x x') (k : Nat) (f : Nat → Int32) (hk : 44 ≤ k ∧ k ≤ 47) : TF x (xF x' k f) := ⟨fun j hj => h.1 j hj, fun a ha => by rw [xF_o _ _ _ _ (show a ≠ k by omega), h.2.1 a ha], h.2.2⟩
theorem TF.tp {S S' : XS} {T : Nat → Nat} {m : Nat} (h : TF S S') (t : tpX S T m) : tpX S' T m := by
  unfold tpX
  rw [h.1 1313 (by omega), h.2.1 42 (by omega)]; exact t
def FT (f p : Int32) (S S' : XS) : Prop := TF S S' ∧ S'.1 1377 = f ∧ S'.1 1378 = p ∧ S'.1 1381 = 17 ∧ ∃ s, s ≤ 300 ∧ S'.1 1387 = nI s
theorem FX.ft {f p : Int32} {S0 S S' : XS} (h : FX f p S S') (t : TF S0 S) : FT f p S0 S' := ⟨t.trans h.1.tf, h.2⟩
theorem FT.fx {f p : Int32} {S0 S : XS} (h : FT f p S0 S) : FX f p S S := ⟨CF.refl S, h.2⟩
theorem FT.F {f p : Int32} {S0 S : XS} (h : FT f p S0 S) (k : Nat) (g : Nat → Int32) (hk : 44 ≤ k ∧ k ≤ 47) : FT f p S0 (xF S k g) := ⟨h.1.F k g hk, h.2⟩
theorem FT.up {f p : Int32} {S0 S S' : XS} (h : FT f p S S') (t : TF S0 S) : FT f p S0 S' := ⟨t.trans h.1, h.2⟩
section FTS
variable {f p : Int32} {S0 : XS}
theorem ft_fail {Post : XS → Prop} {a : Int32} {S : XS} (hf : f ≠ 0) (h : FT f p S0 S) (k : ∀ S', FT f p S0 S' → Post S') : VC_X3_fail_43 Post a S := f_fail hf h.fx (fun S' g => k S' (g.ft h.1))
theorem ft_expect {Post : XS → Prop} {a : Int32} {S : XS} (ha : (17 : Int32) ≠ a) (hf : f ≠ 0) (h : FT f p S0 S) (k : ∀ S', FT f p S0 S' → Post S') : VC_X3_expect_43 Post a S := f_expect ha hf h.fx (fun S' g => k S' (g.ft h.1))
theorem ft_num {Post : Int32 → XS → Prop} {a b : Int32} {S : XS} (hf : f ≠ 0) (h : FT f p S0 S) (k : ∀ S', FT f p S0 S' → Post 0 S') : VC_X3_number_43 Post a b S :=
  ⟨fun z => by rw [h.2.2.2.1] at z; exact absurd z (by decide), fun _ => ft_fail hf h k⟩
end FTS
section CTX
variable {T : Nat → Nat} {m : Nat}
def dst (S : XS) (T : Nat → Nat) (m q s : Nat) : Prop := tpX S T m ∧ q ≤ m ∧ S.1 1377 = 0 ∧ cTk S T m q ∧ S.1 1384 = nI 0 ∧ S.1 1387 = nI s ∧ s ≤ q
theorem dst.hT {S : XS} {q s : Nat} (h : dst S T m q s) : ∀ i, i < m → T i ≤ 255 := fun i hi => (h.1.2.2 i hi).2
theorem d_adv {Post : XS → Prop} {S : XS} {q s : Nat} (h : dst S T m q s) (k : ∀ S', dst S' T m (nx T m q) s → AFr S S' → Post S') : VC_X3_advance_43 Post S := by
  obtain ⟨h1, h2, h3, ⟨k1, k2, k3, k4⟩, h5, h7, h8⟩ := h
  have le := nx_le (T := T) h2
  refine c_adv h1 h3 k1 (tkE_le h2).2 (fun S' a a0 a2 a1 a3 => k S' ⟨a.tp h1, le.2, ?_, ⟨a0, a2, a1, a3⟩, ?_, ?_, Nat.le_trans h8 le.1⟩ a)
  · rw [a.1 1377 (by decide) (by decide) (by decide) (by decide)]; exact h3
  · rw [a.1 1384 (by decide) (by decide) (by decide) (by decide)]; exact h5
  · rw [a.1 1387 (by decide) (by decide) (by decide) (by decide)]; exact h7
theorem d_fail {Post : XS → Prop} {S0 S : XS} {q s f : Nat} (h : dst S T m q s) (hc : TF S0 S) (k : ∀ S', FT (nI f) (nI q) S0 S' → Post S') : VC_X3_fail_43 Post (nI f) S :=
  c_fail (CF.refl S) h.2.2.2.1.2.1 h.2.2.1 h.2.2.2.2.2.1 (by have := h.2.2.2.2.2.2; have := h.2.1; have := h.1.2.1; omega) (fun S' g => k S' (g.ft hc))
theorem d_expect {Post : XS → Prop} {S0 S : XS} {q s a : Nat} (ha : a < 57) (h : dst S T m q s) (hc : TF S0 S) (h1 : tkC T m q = a → ∀ S', dst S' T m (nx T m q) s → AFr S S' → Post S') (h0 : ¬ tkC T m q = a → ∀ S', FT (nI 1) (nI q) S0 S' → Post S') : VC_X3_expect_43 Post (nI a) S := by
  have tl := tkC_lt (q := q) h.hT
  have v3 := h.2.2.2.1.2.2.1
  unfold VC_X3_expect_43
  rw [v3, neq (by omega) (by omega)]
  exact ⟨fun z => d_fail (f := 1) h hc (h0 z), fun z => d_adv h (h1 z)⟩
theorem d_num {Post : Int32 → XS → Prop} {S0 S : XS} {q s lo hi : Nat} (hl : lo ≤ 9999) (hh : hi ≤ 9999) (h : dst S T m q s) (hc : TF S0 S) (k1 : ∀ q' v, numF T m lo hi q = .inr (q', v) → (lo ≤ v ∧ v ≤ hi) → q + 1 ≤ q' → ∀ S', dst S' T m q' s → AFr S S' → Post (nI v) S') (k0 : ∀ f q', numF T m lo hi q = .inl (f, q') → (1 ≤ f ∧ f ≤ 5) → ∀ S', FT (nI f) (nI q') S0 S' → Post 0 S') : VC_X3_number_43 Post (nI lo) (nI hi) S := by
  have tl := tkC_lt (q := q) h.hT
  obtain ⟨v1, v2, v3, v4⟩ := h.2.2.2.1
  unfold numF at k1 k0
  unfold VC_X3_number_43
  rw [v3, show (15 : Int32) = nI 15 from rfl, neq (by omega) (by decide)]
  refine ⟨fun z => ?_, fun z => ?_⟩
  · rw [if_pos z] at k1 k0
    have v5 := v4 z
    have mn := tkV_min (T := T) h.2.1
    have lt := nx_lt (T := T) h.2.1 (by omega)
    rw [v5]
    by_cases g : lo ≤ rkV T m q ∧ rkV T m q ≤ hi
    · rw [if_pos g] at k1
      have et : tkV T m q = rkV T m q := by rw [mn, if_pos (by omega)]
      rw [et]
      refine wIn (fun y => ?_) (fun _ _ => ⟨fun _ v2 e2 => ?_, fun y => absurd y (by decide)⟩)
      · rw [nlt (by omega) (by omega), nlt (by omega) (by omega)] at y; omega
      · rw [e2]; exact d_adv h (fun S' d' a' => k1 _ _ rfl g lt.1 S' d' a')
    · rw [if_neg g] at k0
      have tb : tkV T m q ≤ 10000 := by rw [mn]; split <;> omega
      refine wIn (fun _ => ⟨fun y => absurd rfl y, fun _ => d_fail (f := 2) h hc (k0 2 q rfl (by omega))⟩) (fun y1 y2 => ?_)
      rw [nlt (by omega) (by omega)] at y1 y2
      by_cases r : rkV T m q < 10000
      · rw [if_pos r] at mn; omega
      · rw [if_neg r] at mn; omega
  · rw [if_neg z] at k0
    exact d_fail (f := 1) h hc (k0 1 q rfl (by omega))
/-- what a deed writes into row k -/
def rowD (f g : Nat → Int32) (k : Nat) : Prop := ∀ j, j < 4 * k + 1 ∨ 4 * k + 4 ≤ j → g j = f j
theorem dst.F {S : XS} {q s k : Nat} {g : Nat → Int32} (h : dst S T m q s) (hk : 44 ≤ k) : dst (xF S k g) T m q s := by
  obtain ⟨h1, h2, h3, h4, h5, h7, h8⟩ := h
  refine ⟨?_, h2, h3, h4, h5, h7, h8⟩
  unfold tpX
  rw [xF_i, xF_o _ _ _ _ (show 42 ≠ k by omega)]; exact h1
def dRes (T : Nat → Nat) (m : Nat) (S : XS) (s k sz : Nat) (S' : XS) : (Nat × Nat) ⊕ (Nat × Nat × Nat × Nat) → Prop
  | .inl (f, q') => (1 ≤ f ∧ f ≤ 5) ∧ FT (nI f) (nI q') S S'
  | .inr (q', a1, a2, a3) => dst S' T m q' sz ∧ TF S S' ∧ (∀ a, a ≠ 47 → S'.2.1 a = S.2.1 a) ∧ (S'.1 1386 = S.1 1386 ∧ S'.1 1378 = S.1 1378) ∧ rowD (S.2.1 47) (S'.2.1 47) k ∧ S'.2.1 47 (4 * k + 1) = nI a1 ∧ (s = 5 → S'.2.1 47 (4 * k + 2) = nI a2 ∧ S'.2.1 47 (4 * k + 3) = nI a3)
theorem d_one {Post : XS → Prop} {S : XS} {q sz k lo hi s : Nat} (hl : lo ≤ 9999) (hh : hi ≤ 9999) (hs : s ≠ 5) (h : dst S T m q sz) (hk : k < 24) (hp : ∀ S', dRes T m S s k sz S' (sb (numF T m lo hi q) (fun v => .inr (v.1, v.2, 0, 0))) → Post S') : VC_X3_number_43 (fun r2 S1 => vp_in (nI (4 * k) + 1) 96 ∧ ∀ S3 : XS, S3 = xF S1 47 (upd (S1.2.1 47) (nI (4 * k) + 1).toNatClampNeg r2) → Post S3) (nI lo) (nI hi) S := by
  have e : nI (4 * k) + 1 = nI (4 * k + 1) := nI_1 _
  rw [e, ncl (by omega)]
  refine d_num hl hh h (TF.refl S) (fun q' v en _ lt S1 d1 a1 => ⟨vp_in_nI (by omega) (by decide), fun S3 e3 => hp S3 ?_⟩) (fun f q' en ff S1 f1 => ⟨vp_in_nI (by omega) (by decide), fun S3 e3 => hp S3 ?_⟩)
  · rw [en, e3]
    refine ⟨d1.F (by decide), (a1.cf.tf).F _ _ (by decide), fun a ha => ?_, ⟨?_, ?_⟩, fun j hj => ?_, ?_, fun z => absurd z hs⟩
    · rw [xF_o _ _ _ _ ha, a1.2]
    · rw [xF_i, a1.1 1386 (by decide) (by decide) (by decide) (by decide)]
    · rw [xF_i, a1.1 1378 (by decide) (by decide) (by decide) (by decide)]
    · rw [xF_s, upd_n _ _ (by omega), a1.2]
    · rw [xF_s, upd_s]
  · rw [en, e3]
    exact ⟨ff, f1.F _ _ (by decide)⟩
theorem d_deed {Post : XS → Prop} {S : XS} {q sz k s : Nat} (h : dst S T m q sz) (hk : k < 24) (hs : 4 ≤ s ∧ s ≤ 6) (hp : ∀ S', dRes T m S s k sz S' (deedF T m s q) → Post S') : VC_X3_parseDeed_43 Post (nI (32 + s)) (nI (4 * k)) S := by
  have cs : s = 4 ∨ s = 5 ∨ s = 6 := (by omega)
  rcases cs with e | e | e <;> subst e
  · exact ⟨fun _ => d_one (lo := 0) (hi := 5) (s := 4) (by decide) (by decide) (by decide) h hk hp, fun z => absurd z (by decide), fun z => absurd rfl z⟩
  · refine ⟨fun z => absurd z (by decide), fun _ => ?_, fun _ z => absurd rfl z⟩
    have e1 : nI (4 * k) + 1 = nI (4 * k + 1) := nI_1 _
    have e2 : nI (4 * k) + 2 = nI (4 * k + 2) := by rw [L2, nadd]
    have e3 : nI (4 * k) + 3 = nI (4 * k + 3) := by rw [L3, nadd]
    rw [e1, e2, e3, ncl (show 4 * k + 1 < 2147483648 by omega), ncl (show 4 * k + 2 < 2147483648 by omega), ncl (show 4 * k + 3 < 2147483648 by omega)]
    have i1 : vp_in (nI (4 * k + 1)) 96 := vp_in_nI (by omega) (by decide)
    have i2 : vp_in (nI (4 * k + 2)) 96 := vp_in_nI (by omega) (by decide)
    have i3 : vp_in (nI (4 * k + 3)) 96 := vp_in_nI (by omega) (by decide)
    have hp' : ∀ S', dRes T m S 5 k sz S' (sb (numF T m 0 9 q) (fun v => dueS T m 39 v.1 (fun q2 => sb (numF T m 0 5 q2) (fun u => dueS T m 40 u.1 (fun q3 => sb (numF T m 1 9 q3) (fun w => .inr (w.1, v.2, u.2, w.2))))))) → Post S' := hp
    clear hp
    -- behind a fault
    have f5 : ∀ (f q' : Nat) (U : XS), 1 ≤ f ∧ f ≤ 5 → (∀ S', dRes T m S 5 k sz S' (.inl (f, q')) → Post S') → FT (nI f) (nI q') S U → ∀ S14 : XS, S14 = xF U 47 (upd (U.2.1 47) (4 * k + 3) 0) → Post S14 := fun f q' U ff hp g S14 e14 => hp S14 ⟨ff, by rw [e14]; exact g.F _ _ (by decide)⟩
    have f4 : ∀ (f q' : Nat) (U : XS), 1 ≤ f ∧ f ≤ 5 → (∀ S', dRes T m S 5 k sz S' (.inl (f, q')) → Post S') → FT (nI f) (nI q') S U → VC_X3_number_43 (fun r13 S12 => vp_in (nI (4 * k + 3)) 96 ∧ ∀ S14 : XS, S14 = xF S12 47 (upd (S12.2.1 47) (4 * k + 3) r13) → Post S14) 1 9 U := fun f q' U ff hp g => ft_num (nI_n0 ff) g (fun S' g' => ⟨i3, f5 f q' S' ff hp g'⟩)
    have f3 : ∀ (f q' : Nat) (U : XS), 1 ≤ f ∧ f ≤ 5 → (∀ S', dRes T m S 5 k sz S' (.inl (f, q')) → Post S') → FT (nI f) (nI q') S U → ∀ S10 : XS, S10 = xF U 47 (upd (U.2.1 47) (4 * k + 2) 0) → VC_X3_expect_43 (fun S11 => VC_X3_number_43 (fun r13 S12 => vp_in (nI (4 * k + 3)) 96 ∧ ∀ S14 : XS, S14 = xF S12 47 (upd (S12.2.1 47) (4 * k + 3) r13) → Post S14) 1 9 S11) 40 S10 := fun f q' U ff hp g S10 e10 => ft_expect (by decide) (nI_n0 ff) (show FT (nI f) (nI q') S S10 by rw [e10]; exact g.F _ _ (by decide)) (fun S' g' => f4 f q' S' ff hp g')
    have f2 : ∀ (f q' : Nat) (U : XS), 1 ≤ f ∧ f ≤ 5 → (∀ S', dRes T m S 5 k sz S' (.inl (f, q')) → Post S') → FT (nI f) (nI q') S U → VC_X3_number_43 (fun r9 S8 => vp_in (nI (4 * k + 2)) 96 ∧ ∀ S10 : XS, S10 = xF S8 47 (upd (S8.2.1 47) (4 * k + 2) r9) → VC_X3_expect_43 (fun S11 => VC_X3_number_43 (fun r13 S12 => vp_in (nI (4 * k + 3)) 96 ∧ ∀ S14 : XS, S14 = xF S12 47 (upd (S12.2.1 47) (4 * k + 3) r13) → Post S14) 1 9 S11) 40 S10) 0 5 U := fun f q' U ff hp g => ft_num (nI_n0 ff) g (fun S' g' => ⟨i2, f3 f q' S' ff hp g'⟩)
    refine d_num (lo := 0) (hi := 9) (by decide) (by decide) h (TF.refl S) (fun q1 v en _ lt1 S4 d4 a4 => ⟨i1, fun S6 e6 => ?_⟩) (fun f q' en ff S4 f4' => ⟨i1, fun S6 e6 => ?_⟩)
    · rw [en] at hp'
      have d6 : dst S6 T m q1 sz := by rw [e6]; exact d4.F (by decide)
      have t6 : TF S S6 := by rw [e6]; exact (a4.cf.tf).F _ _ (by decide)
      refine d_expect (a := 39) (by decide) d6 t6 (fun z S7 d7 a7 => ?_) (fun z S7 g7 => ?_)
      · rw [sb_r, dueS_p z] at hp'
        have hp2 := hp'
        dsimp only at hp2
        have t7 := t6.trans a7.cf.tf
        refine d_num (lo := 0) (hi := 5) (by decide) (by decide) d7 t7 (fun q2 u en2 _ lt2 S8 d8 a8 => ⟨i2, fun S10 e10 => ?_⟩) (fun f q' en2 ff S8 f8 => ⟨i2, ?_⟩)
        · rw [en2] at hp2
          have d10 : dst S10 T m q2 sz := by rw [e10]; exact d8.F (by decide)
          have t10 : TF S S10 := by rw [e10]; exact (t7.trans a8.cf.tf).F _ _ (by decide)
          refine d_expect (a := 40) (by decide) d10 t10 (fun z2 S11 d11 a11 => ?_) (fun z2 S11 g11 => ?_)
          · rw [sb_r, dueS_p z2] at hp2
            have hp3 := hp2
            dsimp only at hp3
            have t11 := t10.trans a11.cf.tf
            refine d_num (lo := 1) (hi := 9) (by decide) (by decide) d11 t11 (fun q3 w en3 _ lt3 S12 d12 a12 => ⟨i3, fun S14 e14 => hp3 S14 ?_⟩) (fun f q' en3 ff S12 f12 => ⟨i3, ?_⟩)
            · rw [en3, e14]
              have F12 : S12.2.1 = S10.2.1 := by rw [a12.2, a11.2]
              have F10 : ∀ j, S10.2.1 47 j = upd (upd (S.2.1 47) (4 * k + 1) (nI v)) (4 * k + 2) (nI u) j := fun j => by rw [e10, xF_s, a8.2, a7.2, e6, xF_s, a4.2]
              refine ⟨d12.F (by decide), (t11.trans a12.cf.tf).F _ _ (by decide), fun a ha => ?_, ⟨?_, ?_⟩, fun j hj => ?_, ?_, fun _ => ⟨?_, ?_⟩⟩
              · rw [xF_o _ _ _ _ ha, F12, e10, xF_o _ _ _ _ ha, a8.2, a7.2, e6, xF_o _ _ _ _ ha, a4.2]
              · rw [xF_i, a12.1 1386 (by decide) (by decide) (by decide) (by decide), a11.1 1386 (by decide) (by decide) (by decide) (by decide), e10, xF_i, a8.1 1386 (by decide) (by decide) (by decide) (by decide), a7.1 1386 (by decide) (by decide) (by decide) (by decide), e6, xF_i, a4.1 1386 (by decide) (by decide) (by decide) (by decide)]
              · rw [xF_i, a12.1 1378 (by decide) (by decide) (by decide) (by decide), a11.1 1378 (by decide) (by decide) (by decide) (by decide), e10, xF_i, a8.1 1378 (by decide) (by decide) (by decide) (by decide), a7.1 1378 (by decide) (by decide) (by decide) (by decide), e6, xF_i, a4.1 1378 (by decide) (by decide) (by decide) (by decide)]
              · rw [xF_s, upd_n _ _ (by omega), F12, F10, upd_n _ _ (by omega), upd_n _ _ (by omega)]
              · rw [xF_s, upd_n _ _ (by omega), F12, F10, upd_n _ _ (by omega), upd_s]
              · rw [xF_s, upd_n _ _ (by omega), F12, F10, upd_s]
              · rw [xF_s, upd_s]
            · rw [en3] at hp3
              exact f5 f q' S12 ff hp3 f12
          · rw [sb_r, dueS_n z2] at hp2
            exact f4 1 q2 S11 (by omega) hp2 g11
        · rw [en2] at hp2
          exact f3 f q' S8 ff hp2 f8
      · rw [sb_r, dueS_n z] at hp'
        exact f2 1 q1 S7 (by omega) hp' g7
    · rw [en] at hp'
      exact ft_expect (by decide) (nI_n0 ff) (show FT (nI f) (nI q') S S6 by rw [e6]; exact f4'.F _ _ (by decide)) (fun S' g' => f2 f q' S' ff hp' g')
  · refine ⟨fun z => absurd z (by decide), fun z => absurd z (by decide), fun _ _ => d_one (lo := 1) (hi := 99) (s := 6) (by decide) (by decide) (by decide) h hk hp⟩
end CTX
