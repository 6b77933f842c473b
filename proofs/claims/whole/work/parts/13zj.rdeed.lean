/-! the reference's numbers, deeds and sorts -/
section RDEED
variable {T : Nat → Nat} {m : Nat}
def gst (y : MS) (T : Nat → Nat) (m q : Nat) : Prop := tpM y T m ∧ q ≤ m ∧ rTk y T m q
theorem gst.hT {y : MS} {q : Nat} (h : gst y T m q) : ∀ i, i < m → T i ≤ 255 := fun i hi => (h.1.2.2 i hi).2
/-- what a deed at X leaves alone -/
def LF (X : Nat) (y y' : MS) : Prop := (∀ k, k ≠ 7 → k ≠ 8 → k ≠ 9 → k ≠ 10 → y'.1 k = y.1 k) ∧ (∀ a, a ≠ 2 → y'.2.2.1 a = y.2.2.1 a) ∧ (∀ j, j ≠ X + 1 → j ≠ X + 2 → y'.2.2.1 2 j = y.2.2.1 2 j) ∧ y'.2.2.2 = y.2.2.2
theorem LF.refl (X : Nat) (y : MS) : LF X y y := ⟨fun _ _ _ _ _ => rfl, fun _ _ => rfl, fun _ _ _ => rfl, rfl⟩
theorem LF.trans {X : Nat} {x y z : MS} (h : LF X x y) (g : LF X y z) : LF X x z := ⟨fun k a b c d => (g.1 k a b c d).trans (h.1 k a b c d), fun a ha => (g.2.1 a ha).trans (h.2.1 a ha), fun j a b => (g.2.2.1 j a b).trans (h.2.2.1 j a b), g.2.2.2.trans h.2.2.2⟩
theorem LF.W {X : Nat} {x y : MS} (h : LF X x y) (j : Nat) (v : Int32) (hj : j = X + 1 ∨ j = X + 2) : LF X x (sF y 2 (upd (y.2.2.1 2) j v)) := ⟨fun k a b c d => h.1 k a b c d, fun a ha => by rw [sF_o _ _ _ _ ha, h.2.1 a ha], fun i h1 h2 => by rw [sF_same, upd_n _ _ (show i ≠ j by omega), h.2.2.1 i h1 h2], h.2.2.2⟩
theorem RFr.lf {X : Nat} {x y : MS} (h : RFr x y) : LF X x y := ⟨h.1, fun a _ => by rw [h.2], fun j _ _ => by rw [h.2], by rw [h.2]⟩
theorem LF.tp {X : Nat} {y y' : MS} (h : LF X y y') (t : tpM y T m) : tpM y' T m := by
  unfold tpM
  rw [h.1 4 (by decide) (by decide) (by decide) (by decide), h.2.1 3 (by decide)]; exact t
theorem g_next {Post : MS → Prop} {y : MS} {q : Nat} (h : gst y T m q) (k : ∀ y', gst y' T m (nx T m q) → RFr y y' → Post y') : VC_nextToken Post y :=
  r_nexts h.1 h.2.1 h.2.2 (fun y' t f => k y' ⟨(RFr.lf (X := 0) f).tp h.1, (nx_le h.2.1).2, t⟩ f)
theorem gst.W {y : MS} {q j : Nat} {v : Int32} (h : gst y T m q) : gst (sF y 2 (upd (y.2.2.1 2) j v)) T m q := by
  refine ⟨?_, h.2.1, h.2.2⟩
  unfold tpM
  rw [sF_o _ _ _ _ (by decide)]; exact h.1
theorem g_15 {y : MS} {q : Nat} (h : gst y T m q) : (y.1 9 = (1 : Int32)) = (tkC T m q = 15) := by
  have e : tkC T m q = 15 ↔ rkC T m q = 1 := tk_iff (q := q) h.hT (k := 15) (by decide)
  rw [show (1 : Int32) = nI 1 from rfl, tok2 h.hT h.2.2 1 (by decide), eq_iff_iff]; exact e.symm
theorem g_fig {Post : Int32 → MS → Prop} {y : MS} {q X j lo hi : Nat} (hl : lo ≤ 9999) (hh : hi ≤ 9999) (hj : j = X + 1 ∨ j = X + 2) (hX : X + 2 < 2720) (h : gst y T m q) (k1 : ∀ q' v, numF T m lo hi q = .inr (q', v) → (lo ≤ v ∧ v ≤ hi) → ∀ y', gst y' T m q' → LF X y y' → y'.2.2.1 2 = upd (y.2.2.1 2) j (nI v) → Post 0 y') (k0 : ∀ f, numF T m lo hi q = .inl (f, q) → (1 ≤ f ∧ f ≤ 5) → Post (nI f) y) : VC_figure Post (nI j) (nI lo) (nI hi) y := by
  unfold numF at k1 k0
  unfold VC_figure
  have vb : rkV T m q ≤ 1000000 := rvF_le (by decide)
  rw [g_15 h]
  refine ⟨fun z => ?_, fun z => ?_⟩
  · rw [if_pos z] at k1 k0
    have e10 : y.1 10 = nI (rkV T m q) := h.2.2.2.2.2.1 ((tk_iff (q := q) h.hT (k := 15) (by decide)).mp z)
    rw [e10, ncl (by omega)]
    by_cases g : lo ≤ rkV T m q ∧ rkV T m q ≤ hi
    · rw [if_pos g] at k1
      refine mIn (fun w => ?_) (fun _ _ => ⟨fun _ v2 e2 => ⟨vp_in_nI (by omega) (by decide), fun S3 e3 => ?_⟩, fun w => absurd w (by decide)⟩)
      · rw [nlt (by omega) (by omega), nlt (by omega) (by omega)] at w; omega
      · have g3 : gst S3 T m q := by rw [e3]; exact h.W
        refine g_next g3 (fun S4 g4 f4 => k1 _ _ rfl g S4 g4 ?_ ?_)
        · refine LF.trans ?_ f4.lf
          rw [e3]; exact (LF.refl X y).W j _ hj
        · rw [f4.2, e3, sF_same, e2]
    · rw [if_neg g] at k0
      refine mIn (fun _ => ⟨fun w => absurd rfl w, fun _ => k0 2 rfl (by omega)⟩) (fun w1 w2 => ?_)
      rw [nlt (by omega) (by omega)] at w1 w2; omega
  · rw [if_neg z] at k0
    exact k0 1 rfl (by omega)
def lRes (T : Nat → Nat) (m X s : Nat) (Post : Int32 → MS → Prop) (y : MS) : (Nat × Nat) ⊕ (Nat × Nat × Nat × Nat) → Prop
  | .inl (f, q') => (1 ≤ f ∧ f ≤ 5) → ∀ y', LF X y y' → y'.1 8 = nI q' → Post (nI f) y'
  | .inr (q', a1, a2, a3) => ∀ y', gst y' T m q' → LF X y y' → y'.2.2.1 2 (X + 1) = nI a1 → (s = 5 → y'.2.2.1 2 (X + 2) = nI (10 * a2 + a3)) → Post 0 y'
theorem g_one {Post : Int32 → MS → Prop} {y : MS} {q X lo hi s : Nat} (hl : lo ≤ 9999) (hh : hi ≤ 9999) (hs : s ≠ 5) (hX : X + 2 < 2720) (h : gst y T m q) (hp : lRes T m X s Post y (sb (numF T m lo hi q) (fun v => .inr (v.1, v.2, 0, 0)))) : VC_figure Post (nI X + 1) (nI lo) (nI hi) y := by
  rw [nI_1]
  refine g_fig (X := X) hl hh (Or.inl rfl) hX h (fun q' v en _ y' g' l' w' => ?_) (fun f en ff => ?_)
  · rw [en, sb_r] at hp
    exact hp y' g' l' (by rw [w', upd_s]) (fun z => absurd z hs)
  · rw [en, sb_l] at hp
    exact hp ff y (LF.refl X y) h.2.2.2.1
theorem g_line {Post : Int32 → MS → Prop} {y : MS} {q X s : Nat} (hs : 4 ≤ s ∧ s ≤ 6) (hX : X + 2 < 2720) (h : gst y T m q) (hp : lRes T m X s Post y (deedF T m s q)) : VC_line Post (nI s) (nI X) y := by
  have cs : s = 4 ∨ s = 5 ∨ s = 6 := (by omega)
  rcases cs with e | e | e <;> subst e
  · exact ⟨fun z => absurd rfl z, fun _ => g_one (lo := 0) (hi := 5) (s := 4) (by decide) (by decide) (by decide) hX h hp⟩
  · refine ⟨fun _ => ⟨fun _ => ?_, fun z => absurd z (by decide)⟩, fun z => absurd z (by decide)⟩
    have hp' : lRes T m X 5 Post y (sb (numF T m 0 9 q) (fun v => dueS T m 39 v.1 (fun q2 => sb (numF T m 0 5 q2) (fun u => dueS T m 40 u.1 (fun q3 => sb (numF T m 1 9 q3) (fun w => .inr (w.1, v.2, u.2, w.2))))))) := hp
    clear hp
    have x1 : nI X + 1 = nI (X + 1) := nI_1 _
    have x2 : nI X + 2 = nI (X + 2) := by rw [L2, nadd]
    have i2 : vp_in (nI (X + 2)) 2720 := vp_in_nI hX (by decide)
    unfold VC_blown
    rw [x1, x2, ncl (show X + 2 < 2147483648 by omega)]
    refine g_fig (X := X) (lo := 0) (hi := 9) (by decide) (by decide) (Or.inl rfl) hX h (fun q1 v en _ S1 g1 l1 w1 => ⟨fun _ => ?_, fun z => absurd rfl z⟩) (fun f en ff => ⟨fun z => absurd z (nI_n0 ff), fun _ => ?_⟩)
    · rw [en, sb_r] at hp'
      have no : ¬ tkC T m q1 = 39 → Post 1 S1 := fun z => by
        rw [dueS_n z] at hp'
        exact hp' (by omega) S1 l1 g1.2.2.2.1
      rw [show (2 : Int32) = nI 2 from rfl, tok2 g1.hT g1.2.2 2 (by decide)]
      refine ⟨fun z => no (fun w => z ((tk_word g1.hT (i := 7) (by decide) (by decide)).mp w).1), fun z => ?_⟩
      refine And.symm (nstep (i := 7) g1.hT g1.2.2 z (by decide) (by decide) (by decide +kernel) no (fun t39 => ?_))
      rw [dueS_p t39] at hp'
      dsimp only at hp'
      refine g_next g1 (fun S3 g3 f3 => ?_)
      refine g_fig (X := X) (lo := 0) (hi := 5) (by decide) (by decide) (Or.inr rfl) hX g3 (fun q2 u en2 _ S4 g4 l4 w4 => ⟨fun _ => ?_, fun z => absurd rfl z⟩) (fun f en2 ff => ⟨fun z => absurd z (nI_n0 ff), fun _ => ?_⟩)
      · rw [en2, sb_r] at hp'
        have l14 := (l1.trans f3.lf).trans l4
        dsimp only [VC_w4, VC_w3]
        refine r_isWord (i := 8) g4.hT g4.2.2 (by decide) (by decide) (by decide +kernel) (fun t40 => ⟨fun _ => ?_, fun z => absurd z (by decide)⟩) (fun z => ⟨fun w => absurd rfl w, fun _ => ?_⟩)
        · have t40' : tkC T m q2 = 40 := t40
          rw [dueS_p t40'] at hp'
          dsimp only at hp'
          refine g_next g4 (fun S9 g9 f9 => ⟨i2, fun v10 e10 => ?_⟩)
          have ev : v10 = nI u := by rw [e10, f9.2, w4, upd_s]
          have l19 := l14.trans (f9.lf (X := X))
          have W9 : S9.2.2.1 2 (X + 1) = nI v := by rw [f9.2, w4, upd_n _ _ (by omega), f3.2, w1, upd_s]
          refine g_fig (X := X) (lo := 1) (hi := 9) (by decide) (by decide) (Or.inr rfl) hX g9 (fun q3 w en3 wb S11 g11 l11 w11 => ⟨i2, fun v13 e13 => ⟨i2, fun S14 e14 => ?_⟩⟩) (fun f en3 ff => ⟨i2, fun v13 e13 => ⟨i2, fun S14 e14 => ?_⟩⟩)
          · rw [en3, sb_r] at hp'
            rw [w11, upd_s, ev, L10, nmul, nadd] at e13
            refine hp' S14 (by rw [e14]; exact g11.W) ?_ ?_ (fun _ => ?_)
            · rw [e14]; exact (l19.trans l11).W _ _ (Or.inr rfl)
            · rw [e14, sF_same, upd_n _ _ (by omega), w11, upd_n _ _ (by omega), W9]
            · rw [e14, sF_same, upd_s, e13, show w + 10 * u = 10 * u + w by omega]
          · rw [en3, sb_l] at hp'
            refine hp' ff S14 ?_ ?_
            · rw [e14]; exact l19.W _ _ (Or.inr rfl)
            · rw [e14]; exact g9.2.2.2.1
        · have z' : ¬ tkC T m q2 = 40 := z
          rw [dueS_n z'] at hp'
          exact hp' (by omega) S4 l14 g4.2.2.2.1
      · rw [en2, sb_l] at hp'
        exact hp' ff S3 (l1.trans f3.lf) g3.2.2.2.1
    · rw [en, sb_l] at hp'
      exact hp' ff y (LF.refl X y) h.2.2.2.1
  · exact ⟨fun _ => ⟨fun z => absurd rfl z, fun _ => g_one (lo := 1) (hi := 99) (s := 6) (by decide) (by decide) (by decide) hX h hp⟩, fun z => absurd z (by decide)⟩
theorem g_sort {Post : Int32 → MS → Prop} {y : MS} {q : Nat} (h : gst y T m q) (k1 : ∀ s, s ≤ 6 → tkC T m q = 32 + s → Post (nI s) y) (k0 : (tkC T m q < 32 ∨ 38 < tkC T m q) → Post (-1) y) : VC_sortOf Post y := by
  dsimp only [VC_sortOf, VC_w5, VC_w4, VC_w3]
  refine r_isWord (i := 0) h.hT h.2.2 (by decide) (by decide) (by decide +kernel) (fun t => ⟨fun z => absurd z (by decide), fun _ => k1 0 (by decide) t⟩) (fun n0 => ⟨fun _ => ?_, fun z => absurd rfl z⟩)
  refine r_isWord (i := 1) h.hT h.2.2 (by decide) (by decide) (by decide +kernel) (fun t => ⟨fun z => absurd z (by decide), fun _ => k1 1 (by decide) t⟩) (fun n1 => ⟨fun _ => ?_, fun z => absurd rfl z⟩)
  refine r_isWord (i := 2) h.hT h.2.2 (by decide) (by decide) (by decide +kernel) (fun t => ⟨fun z => absurd z (by decide), fun _ => k1 2 (by decide) t⟩) (fun n2 => ⟨fun _ => ?_, fun z => absurd rfl z⟩)
  refine r_isWord (i := 3) h.hT h.2.2 (by decide) (by decide) (by decide +kernel) (fun t => ⟨fun z => absurd z (by decide), fun _ => k1 3 (by decide) t⟩) (fun n3 => ⟨fun _ => ?_, fun z => absurd rfl z⟩)
  refine r_isWord (i := 4) h.hT h.2.2 (by decide) (by decide) (by decide +kernel) (fun t => ⟨fun z => absurd z (by decide), fun _ => k1 4 (by decide) t⟩) (fun n4 => ⟨fun _ => ?_, fun z => absurd rfl z⟩)
  refine r_isWord (i := 5) h.hT h.2.2 (by decide) (by decide) (by decide +kernel) (fun t => ⟨fun z => absurd z (by decide), fun _ => k1 5 (by decide) t⟩) (fun n5 => ⟨fun _ => ?_, fun z => absurd rfl z⟩)
  refine r_isWord (i := 6) h.hT h.2.2 (by decide) (by decide) (by decide +kernel) (fun t => ⟨fun z => absurd z (by decide), fun _ => k1 6 (by decide) t⟩) (fun n6 => ⟨fun _ => k0 (by omega), fun z => absurd rfl z⟩)
end RDEED
