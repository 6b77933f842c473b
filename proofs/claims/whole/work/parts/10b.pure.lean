theorem wIn {Post : Int32 → Prop} {a l h : Int32} (h1 : a < l ∨ h < a → Post 0) (h2 : ¬ a < l → ¬ h < a → Post 1) : VC_X11_within Post a l h :=
  ⟨fun c => h1 (Or.inl c), fun c => ⟨fun d => h1 (Or.inr d), fun d => h2 c d⟩⟩
theorem mIn {Post : Int32 → Prop} {a l h : Int32} (h1 : a < l ∨ h < a → Post 0) (h2 : ¬ a < l → ¬ h < a → Post 1) : VC_isIn Post a l h :=
  ⟨fun c => h1 (Or.inl c), fun c => ⟨fun d => h1 (Or.inr d), fun d => h2 c d⟩⟩
/-- end: both sides at once -/
theorem t_end (x : XS) (y : MS) (a0 : Int32) (ht : x.1 1313 = y.1 4) (Q : Int32 → XS → Int32 → MS → Prop) (h1 : Q (-1) x (-1) y) (h2 : ¬ a0 < 0 → ¬ x.1 1313 < a0 → Q a0 (xI x 1313 a0) a0 (sI y 4 a0)) :
    VC_X11_end_0 (fun r x' => VC_end (fun r' y' => Q r x' r' y') a0 y) a0 x := by
  refine wIn (fun hc => ⟨fun h => absurd rfl h, fun _ => ?_⟩) (fun c d => ⟨fun _ S2 e2 => ?_, fun h => absurd h (by decide)⟩)
  · refine mIn (fun _ => ⟨fun h => absurd rfl h, fun _ => h1⟩) (fun c d => ?_)
    rcases hc with hc | hc
    · exact absurd hc c
    · exact absurd (ht ▸ hc) d
  · refine mIn (fun hc => ?_) (fun _ _ => ⟨fun _ T2 d2 => ?_, fun h => absurd h (by decide)⟩)
    · rcases hc with hc | hc
      · exact absurd hc c
      · exact absurd (ht ▸ hc) d
    · rw [e2, d2]
      exact h2 c d
/-- kind: both sides at once; n KINDS are told so far -/
theorem t_kind (x : XS) (y : MS) (a0 a1 a2 : Int32) (n : Nat) (hn : n ≤ 6) (hx : x.1 224 = nI n) (hy : y.2.2.1 0 1 = nI n) (Q : Int32 → XS → Int32 → MS → Prop) (h1 : Q (-1) x (-1) y)
    (h2 : ¬ a0 < 1 → ¬ 30 < a0 → ¬ a1 < 0 → ¬ 15 < a1 → ¬ a2 < 0 → ¬ 999 < a2 → n < 6 → Q (nI n) (xI (xF (xF (xF x 8 (upd (x.2.1 8) n a0)) 9 (upd (x.2.1 9) n a1)) 10 (upd (x.2.1 10) n a2)) 224 (nI (n + 1))) (nI n) (sF y 0 (upd (upd (upd (upd (y.2.2.1 0) (40 + 3 * n) a0) (41 + 3 * n) a1) (42 + 3 * n) a2) 1 (nI (n + 1))))) :
    VC_X11_kind_0 (fun r x' => VC_kind (fun r' y' => Q r x' r' y') a0 a1 a2 y) a0 a1 a2 x := by
  have i1 : vp_in (1 : Int32) 3890 := litIn 1 (by decide) (by decide)
  have c1 : (1 : Int32).toNatClampNeg = 1 := litC 1 (by decide)
  have bad : (a0 < 1 ∨ 30 < a0) ∨ (a1 < 0 ∨ 15 < a1) ∨ (a2 < 0 ∨ 999 < a2) ∨ n = 6 → VC_kind (fun r' y' => Q (-1) x r' y') a0 a1 a2 y := fun hb => by
    refine mIn (fun _ => ⟨fun _ => h1, fun h => absurd rfl h⟩) (fun b1 b2 => ⟨fun h => absurd h (by decide), fun _ => ?_⟩)
    refine mIn (fun _ => ⟨fun _ => h1, fun h => absurd rfl h⟩) (fun b3 b4 => ⟨fun h => absurd h (by decide), fun _ => ?_⟩)
    refine mIn (fun _ => ⟨fun _ => h1, fun h => absurd rfl h⟩) (fun b5 b6 => ⟨fun h => absurd h (by decide), fun _ => ?_⟩)
    have h6 : n = 6 := by
      rcases hb with (h | h) | (h | h) | (h | h) | h
      · exact absurd h b1
      · exact absurd h b2
      · exact absurd h b3
      · exact absurd h b4
      · exact absurd h b5
      · exact absurd h b6
      · exact h
    exact ⟨i1, fun hc => absurd (by rw [c1, hy, h6]; rfl) hc, fun _ => h1⟩
  refine wIn (fun hb => ⟨fun _ => bad (Or.inl hb), fun h => absurd rfl h⟩) (fun b1 b2 => ⟨fun h => absurd h (by decide), fun _ => ?_⟩)
  refine wIn (fun hb => ⟨fun _ => bad (Or.inr (Or.inl hb)), fun h => absurd rfl h⟩) (fun b3 b4 => ⟨fun h => absurd h (by decide), fun _ => ?_⟩)
  refine wIn (fun hb => ⟨fun h => absurd rfl h, fun _ => bad (Or.inr (Or.inr (Or.inl hb)))⟩) (fun b5 b6 => ⟨fun _ => ?_, fun h => absurd h (by decide)⟩)
  refine ⟨fun hlt => ?_, fun hge => ?_⟩
  · have h6 : n < 6 := by
      rw [hx] at hlt
      exact (nI_ltI (a := n) (b := 6) (by omega) (by decide)).mp hlt
    have inn : vp_in (nI n) 6 := vp_in_nI h6 (by decide)
    refine ⟨by rw [hx]; exact inn, fun S1 e1 => ⟨by rw [e1, xF_i, hx]; exact inn, fun S2 e2 => ⟨by rw [e2, e1, xF_i, xF_i, hx]; exact inn, fun S3 e3 v4 e4 S5 e5 => ?_⟩⟩⟩
    have q1 : S1.1 224 = nI n := by rw [e1, xF_i, hx]
    have q2 : S2.1 224 = nI n := by rw [e2, xF_i, q1]
    have q3 : S3.1 224 = nI n := by rw [e3, xF_i, q2]
    have f1 : S1.2.1 9 = x.2.1 9 := by rw [e1]; rfl
    have f2 : S2.2.1 10 = x.2.1 10 := by rw [e2, e1]; rfl
    rw [hx, nI_clamp (by omega)] at e1
    rw [q1, nI_clamp (by omega), f1, e1] at e2
    rw [q2, nI_clamp (by omega), f2, e2] at e3
    rw [q3, nI_1] at e4
    rw [e5, e4, xI_s, nI_pred, e3]
    refine mIn (fun hb => (hb.elim b1 b2).elim) (fun _ _ => ⟨fun h => absurd h (by decide), fun _ => ?_⟩)
    refine mIn (fun hb => (hb.elim b3 b4).elim) (fun _ _ => ⟨fun h => absurd h (by decide), fun _ => ?_⟩)
    refine mIn (fun hb => (hb.elim b5 b6).elim) (fun _ _ => ⟨fun h => absurd h (by decide), fun _ => ⟨i1, fun _ => ⟨i1, fun w4 d4 => ?_⟩, fun hc => ?_⟩⟩)
    · rw [c1, hy, litN 40, litN 3, pk_mul, nI_add] at d4
      have d41 : w4 + 1 = nI (41 + 3 * n) := by rw [d4, nI_1]; congr 1; omega
      have d42 : w4 + 2 = nI (42 + 3 * n) := by rw [d4, litN 2, nI_add]; congr 1; omega
      refine ⟨by rw [d4]; exact vp_in_nI (by omega) (by decide), fun T5 g5 => ⟨by rw [d41]; exact vp_in_nI (by omega) (by decide), fun T6 g6 => ⟨by rw [d42]; exact vp_in_nI (by omega) (by decide), fun T7 g7 => ⟨i1, fun v8 g8 => ⟨i1, fun T9 g9 => ⟨i1, ?_⟩⟩⟩⟩⟩⟩
      rw [d4, nI_clamp (by omega)] at g5
      rw [d41, nI_clamp (by omega), g5, sF_same, sF_sF] at g6
      rw [d42, nI_clamp (by omega), g6, sF_same, sF_sF] at g7
      rw [c1, g7, sF_same, upd_n _ _ (by omega), upd_n _ _ (by omega), upd_n _ _ (by omega), hy, nI_1] at g8
      rw [c1, g7, sF_same, sF_sF, g8] at g9
      rw [c1, g9, sF_same, upd_s, nI_pred]
      exact h2 b1 b2 b3 b4 b5 b6 h6
    · rw [c1, hy] at hc
      have := (nI_eq (a := n) (b := 6) (by omega) (by decide)).mp hc
      omega
  · have h6 : n = 6 := by
      rw [hx] at hge
      have : ¬ n < 6 := fun z => hge (nI_lt z (by decide))
      omega
    exact bad (Or.inr (Or.inr (Or.inr h6)))
