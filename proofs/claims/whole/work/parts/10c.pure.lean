theorem setM {Post : MS → Prop} {n k : Nat} {w : Int32} {S : MS} {a : Int32} {kk : Int32} (hw : w = nI n) (hk : kk = nI k) (hn : n < 6) (hk5 : k < 5) (h : Post (sF S 0 (upd (S.2.2.1 0) (10 + 5 * n + k) a))) : VC_set Post w kk a S := by
  have e : (10 + (5 * w)) + kk = nI (10 + 5 * n + k) := by rw [hw, hk, litN 10, litN 5, pk_mul, nI_add, nI_add]
  refine ⟨by rw [e]; exact vp_in_nI (by omega) (by decide), fun S1 e1 => ?_⟩
  rw [e, nI_clamp (by omega)] at e1
  rw [e1]
  exact h
/-- blower: both sides at once; n BLOWERS are told so far -/
theorem t_blower (x : XS) (y : MS) (a0 a1 a2 : Int32) (n : Nat) (hn : n ≤ 6) (hx : x.1 64 = nI n) (hy : y.2.2.1 0 0 = nI n) (Q : Int32 → XS → Int32 → MS → Prop) (h1 : Q (-1) x (-1) y)
    (h2 : ¬ a0 < 1 → ¬ 9 < a0 → ¬ a1 < 0 → ¬ 3 < a1 → ¬ a2 < 0 → ¬ 999 < a2 → n < 6 → Q (nI n) (xI (xF (xF (xF (xF x 3 (upd (x.2.1 3) n a0)) 4 (upd (x.2.1 4) n a1)) 5 (upd (x.2.1 5) n a2)) 6 (upd (x.2.1 6) n 0)) 64 (nI (n + 1))) (nI n) (sF y 0 (upd (upd (upd (upd (upd (upd (y.2.2.1 0) (10 + 5 * n + 0) a0) (10 + 5 * n + 1) a1) (10 + 5 * n + 2) a2) (10 + 5 * n + 3) 0) (10 + 5 * n + 4) 0) 0 (nI (n + 1))))) :
    VC_X11_blower_0 (fun r x' => VC_blower (fun r' y' => Q r x' r' y') a0 a1 a2 y) a0 a1 a2 x := by
  have i0 : vp_in (0 : Int32) 3890 := litIn 0 (by decide) (by decide)
  have c0 : (0 : Int32).toNatClampNeg = 0 := litC 0 (by decide)
  have bad : (a0 < 1 ∨ 9 < a0) ∨ (a1 < 0 ∨ 3 < a1) ∨ (a2 < 0 ∨ 999 < a2) ∨ n = 6 → VC_blower (fun r' y' => Q (-1) x r' y') a0 a1 a2 y := fun hb => by
    refine mIn (fun _ => ⟨fun _ => h1, fun h => absurd rfl h⟩) (fun b1 b2 => ⟨fun h => absurd h (by decide), fun _ => ?_⟩)
    refine mIn (fun _ => ⟨fun _ => h1, fun h => absurd rfl h⟩) (fun b3 b4 => ⟨fun h => absurd h (by decide), fun _ => ?_⟩)
    refine mIn (fun _ => ⟨fun _ => h1, fun h => absurd rfl h⟩) (fun b5 b6 => ⟨fun h => absurd h (by decide), fun _ => ?_⟩)
    have h6 : n = 6 := by
      rcases hb with (h | h) | (h | h) | (h | h) | h
      · exact absurd h b1
      · exact absurd h b2
      · exact absurd h b3
      · exact absurd h b4
      · exact absurd h b5
      · exact absurd h b6
      · exact h
    exact ⟨i0, fun hc => absurd (by rw [c0, hy, h6]; rfl) hc, fun _ => h1⟩
  refine wIn (fun hb => ⟨fun _ => bad (Or.inl hb), fun h => absurd rfl h⟩) (fun b1 b2 => ⟨fun h => absurd h (by decide), fun _ => ?_⟩)
  refine wIn (fun hb => ⟨fun _ => bad (Or.inr (Or.inl hb)), fun h => absurd rfl h⟩) (fun b3 b4 => ⟨fun h => absurd h (by decide), fun _ => ?_⟩)
  refine wIn (fun hb => ⟨fun h => absurd rfl h, fun _ => bad (Or.inr (Or.inr (Or.inl hb)))⟩) (fun b5 b6 => ⟨fun _ => ?_, fun h => absurd h (by decide)⟩)
  refine ⟨fun hlt => ?_, fun hge => ?_⟩
  · have h6 : n < 6 := by
      rw [hx] at hlt
      exact (nI_ltI (a := n) (b := 6) (by omega) (by decide)).mp hlt
    have inn : vp_in (nI n) 6 := vp_in_nI h6 (by decide)
    refine ⟨by rw [hx]; exact inn, fun S1 e1 => ?_⟩
    have q1 : S1.1 64 = nI n := by rw [e1, xF_i, hx]
    refine ⟨by rw [q1]; exact inn, fun S2 e2 => ?_⟩
    have q2 : S2.1 64 = nI n := by rw [e2, xF_i, q1]
    refine ⟨by rw [q2]; exact inn, fun S3 e3 => ?_⟩
    have q3 : S3.1 64 = nI n := by rw [e3, xF_i, q2]
    refine ⟨by rw [q3]; exact inn, fun S4 e4 v5 e5 S6 e6 => ?_⟩
    have q4 : S4.1 64 = nI n := by rw [e4, xF_i, q3]
    have f1 : S1.2.1 4 = x.2.1 4 := by rw [e1]; rfl
    have f2 : S2.2.1 5 = x.2.1 5 := by rw [e2, e1]; rfl
    have f3 : S3.2.1 6 = x.2.1 6 := by rw [e3, e2, e1]; rfl
    rw [hx, nI_clamp (by omega)] at e1
    rw [q1, nI_clamp (by omega), f1, e1] at e2
    rw [q2, nI_clamp (by omega), f2, e2] at e3
    rw [q3, nI_clamp (by omega), f3, e3] at e4
    rw [q4, nI_1] at e5
    rw [e6, e5, xI_s, nI_pred, e4]
    refine mIn (fun hb => (hb.elim b1 b2).elim) (fun _ _ => ⟨fun h => absurd h (by decide), fun _ => ?_⟩)
    refine mIn (fun hb => (hb.elim b3 b4).elim) (fun _ _ => ⟨fun h => absurd h (by decide), fun _ => ?_⟩)
    refine mIn (fun hb => (hb.elim b5 b6).elim) (fun _ _ => ⟨fun h => absurd h (by decide), fun _ => ⟨i0, fun _ => ⟨i0, fun w4 d4 => ?_⟩, fun hc => ?_⟩⟩)
    · rw [c0, hy] at d4
      refine setM (k := 0) d4 rfl h6 (by decide) (setM (k := 1) d4 rfl h6 (by decide) (setM (k := 2) d4 rfl h6 (by decide) (setM (k := 3) d4 rfl h6 (by decide) (setM (k := 4) d4 rfl h6 (by decide) ?_))))
      simp only [sF_same, sF_sF]
      refine ⟨i0, fun v10 g10 => ⟨i0, fun T g => ?_⟩⟩
      rw [c0, upd_n _ _ (by omega), upd_n _ _ (by omega), upd_n _ _ (by omega), upd_n _ _ (by omega), upd_n _ _ (by omega), hy, nI_1] at g10
      rw [c0, g10] at g
      rw [g, d4]
      exact h2 b1 b2 b3 b4 b5 b6 h6
    · rw [c0, hy] at hc
      have := (nI_eq (a := n) (b := 6) (by omega) (by decide)).mp hc
      omega
  · have h6 : n = 6 := by
      rw [hx] at hge
      have : ¬ n < 6 := fun z => hge (nI_lt z (by decide))
      omega
    exact bad (Or.inr (Or.inr (Or.inr h6)))
