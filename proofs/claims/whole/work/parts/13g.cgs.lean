/-! states of the class's parser -/
section CGS
variable {T : Nat → Nat} {m l : Nat}
def cTk (S : XS) (T : Nat → Nat) (m q : Nat) : Prop := S.1 1380 = nI (tkE T m q) ∧ S.1 1382 = nI q ∧ S.1 1381 = nI (tkC T m q) ∧ (tkC T m q = 15 → S.1 1383 = nI (tkV T m q))
def cst (S : XS) (T : Nat → Nat) (m l q o s : Nat) : Prop := tpX S T m ∧ q ≤ m ∧ S.1 1377 = 0 ∧ cTk S T m q ∧ (S.1 1384 = nI o ∧ o ≤ 8) ∧ (S.1 1385 = nI l ∧ l < 4) ∧ S.1 1387 = nI s ∧ s ≤ q
def OKL (T : Nat → Nat) (m l : Nat) (S S' : XS) (q o s : Nat) (L : List (Nat × Nat)) : Prop := cst S' T m l q o (s + L.length) ∧ CF S S' ∧ S'.1 1378 = S.1 1378 ∧ keepC (S.2.1 44) (S'.2.1 44) s ∧ hasC (S'.2.1 44) s L
def OKs (T : Nat → Nat) (m l : Nat) (S S' : XS) (q o s : Nat) (e : EX) : Prop := OKL T m l S S' q o s (cC s e) ∧ ∀ s, (cC s e).length = cl e
def emS (S : XS) (s : Nat) (w : Nat × Nat) : XS := xI (xF S 44 (upd (S.2.1 44) s (cw w))) 1387 (nI (s + 1))
theorem cst.hT {S : XS} {q o s : Nat} (h : cst S T m l q o s) : ∀ i, i < m → T i ≤ 255 := fun i hi => (h.1.2.2 i hi).2
theorem tkC_lt {q : Nat} (hT : ∀ i, i < m → T i ≤ 255) : tkC T m q < 57 := by
  rcases tk_rk (q := q) hT with ⟨a, _⟩ | ⟨a, _⟩ | ⟨_, _, _, b⟩
  · omega
  · omega
  · rcases wc_or (T := T) (p := q) (e := eF bL T m q) with g | ⟨j, g1, g2, g3⟩ <;> omega
theorem OKL.nil {S : XS} {q o s : Nat} (h : cst S T m l q o s) : OKL T m l S S q o s [] := ⟨h, CF.refl S, rfl, keepC.refl _ _, fun j hj => absurd hj (Nat.not_lt_zero j)⟩
theorem OKL.app {S S1 S2 : XS} {q q' o o' s : Nat} {L M : List (Nat × Nat)} (h : OKL T m l S S1 q o s L) (g : OKL T m l S1 S2 q' o' (s + L.length) M) : OKL T m l S S2 q' o' s (L ++ M) := by
  obtain ⟨h1, h2, h3, h4, h5⟩ := h
  obtain ⟨g1, g2, g3, g4, g5⟩ := g
  refine ⟨?_, h2.trans g2, g3.trans h3, h4.trans g4 (by omega), (h5.keep g4 (Nat.le_refl _)).app g5⟩
  rw [List.length_append, ← Nat.add_assoc]; exact g1
theorem OKL.adv {S S1 S2 : XS} {q q' o s : Nat} {L : List (Nat × Nat)} (h : OKL T m l S S1 q o s L) (c : cst S2 T m l q' o (s + L.length)) (a : AFr S1 S2) : OKL T m l S S2 q' o s L :=
  ⟨c, h.2.1.trans a.cf, (a.1 1378 (by decide) (by decide) (by decide) (by decide)).trans h.2.2.1, by rw [a.2]; exact h.2.2.2.1, by rw [a.2]; exact h.2.2.2.2⟩
theorem OKL.opn {S S1 : XS} {q o s : Nat} {L : List (Nat × Nat)} (h : OKL T m l S S1 q o s L) (o' : Nat) (ho : o' ≤ 8) : OKL T m l S (xI S1 1384 (nI o')) q o' s L := by
  obtain ⟨⟨h1, h2, h3, ⟨k1, k2, k3, k4⟩, h5, h6, h7, h8⟩, c, d, e, f⟩ := h
  refine ⟨⟨?_, h2, ?_, ⟨?_, ?_, ?_, fun z => ?_⟩, ⟨xI_s _ _ _, ho⟩, ⟨?_, h6.2⟩, ?_, h8⟩, c.I _ _ (by omega), ?_, e, f⟩
  · exact ((CF.refl S1).I 1384 (nI o') (by omega)).tp h1
  · rw [xI_n _ _ (by decide)]; exact h3
  · rw [xI_n _ _ (by decide)]; exact k1
  · rw [xI_n _ _ (by decide)]; exact k2
  · rw [xI_n _ _ (by decide)]; exact k3
  · rw [xI_n _ _ (by decide)]; exact k4 z
  · rw [xI_n _ _ (by decide)]; exact h6.1
  · rw [xI_n _ _ (by decide)]; exact h7
  · rw [xI_n _ _ (by decide)]; exact d
theorem emS_n {S : XS} {s k : Nat} {w : Nat × Nat} (h : k ≠ 1387) : (emS S s w).1 k = S.1 k := by
  unfold emS; rw [xI_n _ _ h, xF_i]
theorem emS_f {S : XS} {s : Nat} {w : Nat × Nat} : (emS S s w).2.1 44 = upd (S.2.1 44) s (cw w) := by
  show (xF S 44 _).2.1 44 = _
  rw [xF_s]
theorem OKL.emit {S S1 : XS} {q o s : Nat} {L : List (Nat × Nat)} {w : Nat × Nat} (h : OKL T m l S S1 q o s L) (hs : s + L.length + 1 ≤ q) : OKL T m l S (emS S1 (s + L.length) w) q o s (L ++ [w]) := by
  obtain ⟨⟨h1, h2, h3, ⟨k1, k2, k3, k4⟩, h5, h6, h7, h8⟩, c, d, e, f⟩ := h
  have kp : keepC (S1.2.1 44) ((emS S1 (s + L.length) w).2.1 44) (s + L.length) := fun j hj => by rw [emS_f, upd_n _ _ (by omega)]
  refine ⟨⟨?_, h2, ?_, ⟨?_, ?_, ?_, fun z => ?_⟩, ⟨?_, h5.2⟩, ⟨?_, h6.2⟩, ?_, ?_⟩, (c.F _).I _ _ (by omega), ?_, e.trans kp (by omega), (f.keep kp (Nat.le_refl _)).app (hasC.one (by rw [emS_f, upd_s]))⟩
  · exact (((CF.refl S1).F _).I 1387 _ (by omega)).tp h1
  · rw [emS_n (by decide)]; exact h3
  · rw [emS_n (by decide)]; exact k1
  · rw [emS_n (by decide)]; exact k2
  · rw [emS_n (by decide)]; exact k3
  · rw [emS_n (by decide)]; exact k4 z
  · rw [emS_n (by decide)]; exact h5.1
  · rw [emS_n (by decide)]; exact h6.1
  · rw [List.length_append]; exact xI_s _ _ _
  · rw [List.length_append]; exact hs
  · rw [emS_n (by decide)]; exact d
theorem OKL.aim {S S1 : XS} {q o s t v : Nat} {L M : List (Nat × Nat)} (h : OKL T m l S S1 q o s (L ++ [(t, 0)] ++ M)) : OKL T m l S (xF S1 44 (upd (S1.2.1 44) (s + L.length) (cw (t, v)))) q o s (L ++ [(t, v)] ++ M) := by
  obtain ⟨⟨h1, h2, h3, k, h5, h6, h7, h8⟩, c, d, e, f⟩ := h
  have len : (L ++ [(t, v)] ++ M).length = (L ++ [(t, 0)] ++ M).length := by simp only [List.length_append, List.length_cons, List.length_nil]
  refine ⟨⟨((CF.refl S1).F _).tp h1, h2, h3, k, h5, h6, by rw [len]; exact h7, by rw [len]; exact h8⟩, c.F _, d, ?_, ?_⟩
  · intro j hj
    rw [xF_s, upd_n _ _ (by omega)]; exact e j hj
  · intro j hj
    rw [len] at hj
    have fj := f j hj
    rw [xF_s]
    by_cases z : j = L.length
    · rw [z, upd_s]
      rw [List.append_assoc, List.getD_eq_getElem?_getD, List.getElem?_append_right (Nat.le_refl _), Nat.sub_self]; rfl
    · rw [upd_n _ _ (by omega), fj]
      congr 1
      rw [List.append_assoc, List.append_assoc, List.getD_eq_getElem?_getD, List.getD_eq_getElem?_getD]
      by_cases y : j < L.length
      · rw [List.getElem?_append_left y, List.getElem?_append_left y]
      · have ye : L.length ≤ j := (by omega)
        rw [List.getElem?_append_right (l₂ := [(t, 0)] ++ M) ye, List.getElem?_append_right (l₂ := [(t, v)] ++ M) ye]
        rw [show j - L.length = (j - L.length - 1) + 1 by omega]; rfl
/-- one step of the class's reading -/
theorem c_advs {Post : XS → Prop} {S : XS} {q o s : Nat} (h : cst S T m l q o s) (k : ∀ S', cst S' T m l (nx T m q) o s → AFr S S' → Post S') : VC_X3_advance_43 Post S := by
  obtain ⟨h1, h2, h3, ⟨k1, k2, k3, k4⟩, h5, h6, h7, h8⟩ := h
  have le := nx_le (T := T) h2
  refine c_adv h1 h3 k1 (tkE_le h2).2 (fun S' a a0 a2 a1 a3 => k S' ⟨a.tp h1, le.2, ?_, ⟨a0, a2, a1, a3⟩, ⟨?_, h5.2⟩, ⟨?_, h6.2⟩, ?_, Nat.le_trans h8 le.1⟩ a)
  · rw [a.1 1377 (by decide) (by decide) (by decide) (by decide)]; exact h3
  · rw [a.1 1384 (by decide) (by decide) (by decide) (by decide)]; exact h5.1
  · rw [a.1 1385 (by decide) (by decide) (by decide) (by decide)]; exact h6.1
  · rw [a.1 1387 (by decide) (by decide) (by decide) (by decide)]; exact h7
theorem c_fail {Post : XS → Prop} {S0 S : XS} {q s f : Nat} (hc : CF S0 S) (h2 : S.1 1382 = nI q) (h3 : S.1 1377 = 0) (h7 : S.1 1387 = nI s) (h8 : s ≤ 300) (k : ∀ S', FX (nI f) (nI q) S0 S' → Post S') : VC_X3_fail_43 Post (nI f) S := by
  refine ⟨fun z => absurd h3 z, fun _ S2 e2 v3 e3 S4 e4 S5 e5 => k S5 ⟨?_, ?_, ?_, ?_, s, h8, ?_⟩⟩
  · rw [e5, e4, e2]; exact ((hc.I _ _ (by omega)).I _ _ (by omega)).I _ _ (by omega)
  · rw [e5, xI_n _ _ (by decide), e4, xI_n _ _ (by decide), e2, xI_s]
  · rw [e5, xI_n _ _ (by decide), e4, xI_s, e3, e2, xI_n _ _ (by decide), h2]
  · rw [e5, xI_s]
  · rw [e5, xI_n _ _ (by decide), e4, xI_n _ _ (by decide), e2, xI_n _ _ (by decide), h7]
theorem c_fails {Post : XS → Prop} {S0 S : XS} {q o s f : Nat} (hc : CF S0 S) (h : cst S T m l q o s) (k : ∀ S', FX (nI f) (nI q) S0 S' → Post S') : VC_X3_fail_43 Post (nI f) S :=
  c_fail hc h.2.2.2.1.2.1 h.2.2.1 h.2.2.2.2.2.2.1 (by have := h.2.2.2.2.2.2.2; have := h.2.1; have := h.1.2.1; omega) k
theorem c_emit {Post : Int32 → XS → Prop} {S : XS} {s a b : Nat} (ha : a < 128) (hb : b < 16777216) (h7 : S.1 1387 = nI s) (hs : s < 300) (k : Post (nI s) (emS S s (a, b))) : VC_X3_emit_43 Post (nI a) (nI b) S := by
  unfold VC_X3_emit_43
  rw [h7]
  refine ⟨fun z => absurd z (nI_ge (b := 300) (by omega) (by decide)), fun _ v1 e1 => ⟨vp_in_nI hs (by decide), fun S2 e2 v3 e3 S4 e4 => ?_⟩⟩
  rw [n_word ha hb] at e1
  rw [e2, xF_i, h7, nI_1] at e3
  rw [e1, ncl (by omega)] at e2
  have e5 : S4 = emS S s (a, b) := by rw [e4, e3, e2]; rfl
  have e6 : S4.1 1387 - 1 = nI s := by rw [e4, xI_s, e3, L1, nsub (by omega)]; rfl
  rw [e6, e5]; exact k
theorem c_aim {Post : XS → Prop} {S : XS} {r s t : Nat} (h7 : S.1 1387 = nI s) (hs : s ≤ 300) (hr : r < s) (ht : t < 128) (hc : S.2.1 44 r = cw (t, 0)) (k : Post (xF S 44 (upd (S.2.1 44) r (cw (t, s))))) : VC_X3_aim_43 Post (nI r) S := by
  unfold VC_X3_aim_43
  rw [h7]
  refine ⟨fun z => absurd z (nI_pos (by omega)), fun _ => ⟨fun z => absurd z (nI_ge (by omega) (by omega)), fun _ => ⟨vp_in_nI (by omega) (by decide), fun v1 e1 => ⟨vp_in_nI (by omega) (by decide), fun S2 e2 => ?_⟩⟩⟩⟩
  rw [ncl (by omega)] at e1 e2
  rw [hc, show cw (t, 0) = nI t from rfl, n_word ht (by omega)] at e1
  rw [e2, e1]; exact k
end CGS
