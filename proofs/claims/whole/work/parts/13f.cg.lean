/-! the class's parser keeps to the descent -/
theorem nshl7 {b : Nat} (hb : b < 16777216) : nI b <<< ((7 : Int32) &&& 31) = nI (b * 128) := by
  apply Int32.toBitVec_inj.mp
  rw [Int32.toBitVec_shiftLeft]
  rw [show ((7 : Int32) &&& 31).toBitVec.smod 32 = 7#32 by decide]
  rw [show (nI b).toBitVec = BitVec.ofNat 32 b from rfl, show (nI (b * 128)).toBitVec = BitVec.ofNat 32 (b * 128) from rfl]
  apply BitVec.eq_of_toNat_eq
  rw [show BitVec.ofNat 32 b <<< 7#32 = BitVec.ofNat 32 b <<< 7 from rfl, BitVec.toNat_shiftLeft, BitVec.toNat_ofNat, BitVec.toNat_ofNat, Nat.shiftLeft_eq, Nat.mod_eq_of_lt (a := b) (by omega)]
theorem n_word {a b : Nat} (ha : a < 128) (hb : b < 16777216) : nI a ||| (nI b <<< ((7 : Int32) &&& 31)) = nI (a + 128 * b) := by
  rw [nshl7 hb, nor]
  have := Nat.shiftLeft_add_eq_or_of_lt (i := 7) (b := a) (by omega) b
  rw [Nat.shiftLeft_eq] at this
  rw [Nat.or_comm, show b * 128 = b * 2 ^ 7 by omega, ← this]
  congr 1; omega
/-- codes written -/
def cw (w : Nat × Nat) : Int32 := nI (w.1 + 128 * w.2)
def hasC (f : Nat → Int32) (s : Nat) (L : List (Nat × Nat)) : Prop := ∀ j, j < L.length → f (s + j) = cw (L.getD j (0, 0))
def keepC (f g : Nat → Int32) (s : Nat) : Prop := ∀ j, j < s → g j = f j
theorem hasC.app {f : Nat → Int32} {s : Nat} {L M : List (Nat × Nat)} (h : hasC f s L) (g : hasC f (s + L.length) M) : hasC f s (L ++ M) := by
  intro j hj
  rw [List.length_append] at hj
  by_cases z : j < L.length
  · rw [List.getD_eq_getElem?_getD, List.getElem?_append_left z, ← List.getD_eq_getElem?_getD]; exact h j z
  · rw [List.getD_eq_getElem?_getD, List.getElem?_append_right (by omega), ← List.getD_eq_getElem?_getD]
    have := g (j - L.length) (by omega)
    rw [show s + L.length + (j - L.length) = s + j by omega] at this
    exact this
theorem hasC.keep {f g : Nat → Int32} {s t : Nat} {L : List (Nat × Nat)} (h : hasC f s L) (k : keepC f g t) (ht : s + L.length ≤ t) : hasC g s L := fun j hj => by rw [k _ (by omega)]; exact h j hj
theorem hasC.one {f : Nat → Int32} {s : Nat} {w : Nat × Nat} (h : f s = cw w) : hasC f s [w] := fun j hj => by
  have : j = 0 := by simp only [List.length_cons, List.length_nil] at hj; omega
  subst this; exact h
theorem keepC.trans {f g h : Nat → Int32} {s t : Nat} (a : keepC f g s) (b : keepC g h t) (st : s ≤ t) : keepC f h s := fun j hj => by rw [b j (by omega), a j hj]
theorem keepC.refl (f : Nat → Int32) (s : Nat) : keepC f f s := fun _ _ => rfl
/-- what parsing leaves alone -/
def CF (S S' : XS) : Prop := (∀ k, (k < 1377 ∨ k = 1379 ∨ k = 1385 ∨ k = 1386 ∨ 1387 < k) → S'.1 k = S.1 k) ∧ (∀ a, a ≠ 44 → S'.2.1 a = S.2.1 a) ∧ S'.2.2 = S.2.2
theorem CF.refl (S : XS) : CF S S := ⟨fun _ _ => rfl, fun _ _ => rfl, rfl⟩
theorem CF.trans {x y z : XS} (h : CF x y) (g : CF y z) : CF x z := ⟨fun k hk => (g.1 k hk).trans (h.1 k hk), fun a ha => (g.2.1 a ha).trans (h.2.1 a ha), g.2.2.trans h.2.2⟩
theorem CF.I {x x' : XS} (h : CF x x') (k : Nat) (v : Int32) (hk : ¬ (k < 1377 ∨ k = 1379 ∨ k = 1385 ∨ k = 1386 ∨ 1387 < k)) : CF x (xI x' k v) := ⟨fun j hj => by rw [xI_n _ _ (show j ≠ k by omega), h.1 j hj], h.2⟩
theorem CF.F {x x' : XS} (h : CF x x') (f : Nat → Int32) : CF x (xF x' 44 f) := ⟨fun j hj => h.1 j hj, fun a ha => by rw [xF_o _ _ _ _ ha, h.2.1 a ha], h.2.2⟩
theorem AFr.cf {x y : XS} (h : AFr x y) : CF x y := ⟨fun k hk => h.1 k (by omega) (by omega) (by omega) (by omega), fun a _ => by rw [h.2], by rw [h.2]⟩
theorem CF.tp {S S' : XS} {T : Nat → Nat} {m : Nat} (h : CF S S') (t : tpX S T m) : tpX S' T m := by
  unfold tpX
  rw [h.1 1313 (by omega), h.2.1 42 (by decide)]; exact t
/-! behind a fault -/
def FX (f p : Int32) (S S' : XS) : Prop := CF S S' ∧ S'.1 1377 = f ∧ S'.1 1378 = p ∧ S'.1 1381 = 17 ∧ ∃ s, s ≤ 300 ∧ S'.1 1387 = nI s
theorem aim_in {a : Int32} {s : Nat} (hs : s ≤ 300) (h1 : ¬ a < 0) (h2 : ¬ nI s ≤ a) : vp_in a 300 := by
  obtain ⟨j, hj, e⟩ := nI_of h1
  subst e
  refine vp_in_nI ?_ (by decide)
  rcases Nat.lt_or_ge j s with y | y
  · omega
  · exact absurd (nI_le y hj) h2
section FALL
variable {f p : Int32} {S0 : XS}
theorem f_fail {Post : XS → Prop} {a : Int32} {S : XS} (hf : f ≠ 0) (h : FX f p S0 S) (k : ∀ S', FX f p S0 S' → Post S') : VC_X3_fail_43 Post a S := by
  obtain ⟨h1, h2, h3, h4, s, h5, h6⟩ := h
  refine ⟨fun _ S1 e1 => k S1 ⟨?_, ?_, ?_, ?_, s, h5, ?_⟩, fun z => absurd (h2 ▸ z) hf⟩
  · rw [e1]; exact h1.I _ _ (by omega)
  · rw [e1, xI_n _ _ (by decide), h2]
  · rw [e1, xI_n _ _ (by decide), h3]
  · rw [e1, xI_s]
  · rw [e1, xI_n _ _ (by decide), h6]
theorem f_adv {Post : XS → Prop} {S : XS} (hf : f ≠ 0) (h : FX f p S0 S) (k : ∀ S', FX f p S0 S' → Post S') : VC_X3_advance_43 Post S := fun K hK => ⟨fun z => absurd (h.2.1 ▸ z) hf, fun _ => k S h⟩
theorem f_expect {Post : XS → Prop} {a : Int32} {S : XS} (ha : (17 : Int32) ≠ a) (hf : f ≠ 0) (h : FX f p S0 S) (k : ∀ S', FX f p S0 S' → Post S') : VC_X3_expect_43 Post a S := ⟨fun _ => f_fail hf h k, fun z => absurd (h.2.2.2.1 ▸ z) ha⟩
theorem f_emit {Post : Int32 → XS → Prop} {a b : Int32} {S : XS} (h : FX f p S0 S) (k : ∀ r S', FX f p S0 S' → Post r S') : VC_X3_emit_43 Post a b S := by
  obtain ⟨h1, h2, h3, h4, s, h5, h6⟩ := id h
  refine ⟨fun _ => k _ S h, fun z v1 e1 => ?_⟩
  rw [h6] at z ⊢
  have hs : s < 300 := by
    rcases Nat.lt_or_ge s 300 with y | y
    · exact y
    · exact absurd (nI_le (a := 300) y (by omega)) z
  refine ⟨vp_in_nI hs (by decide), fun S2 e2 v3 e3 S4 e4 => k _ S4 ⟨?_, ?_, ?_, ?_, s + 1, hs, ?_⟩⟩
  · rw [e4, e2]; exact (h1.F _).I _ _ (by omega)
  · rw [e4, xI_n _ _ (by decide), e2, xF_i, h2]
  · rw [e4, xI_n _ _ (by decide), e2, xF_i, h3]
  · rw [e4, xI_n _ _ (by decide), e2, xF_i, h4]
  · rw [e4, xI_s, e3, e2, xF_i, h6, nI_1]
theorem f_aim {Post : XS → Prop} {a : Int32} {S : XS} (h : FX f p S0 S) (k : ∀ S', FX f p S0 S' → Post S') : VC_X3_aim_43 Post a S := by
  obtain ⟨h1, h2, h3, h4, s, h5, h6⟩ := id h
  refine ⟨fun _ => k S h, fun z1 => ⟨fun _ => k S h, fun z2 => ?_⟩⟩
  rw [h6] at z2
  have hin : vp_in a 300 := aim_in h5 z1 z2
  refine ⟨hin, fun v1 e1 => ⟨hin, fun S2 e2 => k S2 ⟨?_, ?_, ?_, ?_, s, h5, ?_⟩⟩⟩
  · rw [e2]; exact h1.F _
  · rw [e2, xF_i, h2]
  · rw [e2, xF_i, h3]
  · rw [e2, xF_i, h4]
  · rw [e2, xF_i, h6]
theorem f_name {Post : XS → Prop} {S : XS} (hf : f ≠ 0) (h : FX f p S0 S) (k : ∀ S', FX f p S0 S' → Post S') : VC_X3_parseName_43 Post S := by
  intro v1 e1
  rw [h.2.2.2.1] at e1
  subst e1
  exact wIn (fun _ => ⟨fun z => absurd rfl z, fun _ => f_fail hf h k⟩) (fun z => absurd (by decide) z)
/-- the rest behind a fault, by the nonterminal -/
def hK (k : Nat) : Nat := ([3, 2, 1, 0, 6, 5, 4] : List Nat).getD k 9
theorem fall (hf : f ≠ 0) : ∀ (d k : Nat) (Post : XS → Prop) (S : XS), hK k ≤ d → k ≤ 6 → k ≠ 3 → FX f p S0 S → (∀ S', FX f p S0 S' → Post S') → VG d k Post S := by
  intro d
  induction d with
  | zero =>
    intro k Post S h1 h6 h3
    exfalso
    rcases (show k = 0 ∨ k = 1 ∨ k = 2 ∨ k = 4 ∨ k = 5 ∨ k = 6 by omega) with e | e | e | e | e | e <;> subst e <;> exact absurd h1 (by decide)
  | succ d ih =>
    intro k Post S hd h6 h3 hS kk
    have t17 : ∀ {U : XS} {a : Int32}, FX f p S0 U → (17 : Int32) ≠ a → ¬ U.1 1381 = a := fun hU ha z => ha (hU.2.2.2.1 ▸ z)
    have cs : k = 0 ∨ k = 1 ∨ k = 2 ∨ k = 4 ∨ k = 5 ∨ k = 6 := (by omega)
    rcases cs with e | e | e | e | e | e <;> subst e
    · show VC_X3_parseSum_43 (VG d) Post S
      intro K hK'
      refine ih 1 _ S (Nat.le_of_succ_le_succ (n := 2) hd) (by decide) (by decide) hS (fun S1 f1 => hK' _ _ ⟨fun _ => kk S1 f1, fun _ => ⟨fun z => absurd z (t17 f1 (by decide)), fun _ => ⟨fun _ => kk S1 f1, fun z => absurd z (t17 f1 (by decide))⟩⟩⟩)
    · show VC_X3_parseProduct_43 (VG d) Post S
      intro K hK'
      refine ih 2 _ S (Nat.le_of_succ_le_succ (n := 1) hd) (by decide) (by decide) hS (fun S1 f1 => hK' _ _ ⟨fun _ => kk S1 f1, fun _ => ⟨fun z => absurd z (t17 f1 (by decide)), fun _ => ⟨fun _ => kk S1 f1, fun z => absurd z (t17 f1 (by decide))⟩⟩⟩)
    · show VC_X3_parseOne_43 (VG d) Post S
      exact ⟨fun z => absurd z (t17 hS (by decide)), fun z => absurd z (t17 hS (by decide)), fun z => absurd z (t17 hS (by decide)), fun z => absurd z (t17 hS (by decide)), fun _ _ _ _ => f_name hf hS kk⟩
    · show VC_X3_parseEither_43 (VG d) Post S
      intro K hK'
      refine ih 5 _ S (Nat.le_of_succ_le_succ (n := 5) hd) (by decide) (by decide) hS (fun S1 f1 => hK' _ _ ⟨fun _ => kk S1 f1, fun _ => ⟨fun _ => kk S1 f1, fun z => absurd z (t17 f1 (by decide))⟩⟩)
    · show VC_X3_parseBoth_43 (VG d) Post S
      intro K hK'
      refine ih 6 _ S (Nat.le_of_succ_le_succ (n := 4) hd) (by decide) (by decide) hS (fun S1 f1 => hK' _ _ ⟨fun _ => kk S1 f1, fun _ => ⟨fun _ => kk S1 f1, fun z => absurd z (t17 f1 (by decide))⟩⟩)
    · show VC_X3_parseAsk_43 (VG d) Post S
      intro K hK'
      refine ⟨fun _ => ih 0 _ S (Nat.le_of_succ_le_succ (n := 3) hd) (by decide) (by decide) hS (fun S1 f1 v2 e2 => ?_), fun z => absurd z (t17 hS (by decide))⟩
      rw [f1.2.2.2.1] at e2
      subst e2
      exact wIn (fun _ => ⟨fun z => absurd rfl z, fun _ => ⟨fun z => absurd z (by decide), fun _ => ⟨fun _ => f_fail hf f1 kk, fun z => absurd z (by decide)⟩⟩⟩) (fun _ z => absurd (by decide) z)
end FALL
