/-- a number from low on and below n, as a place -/
theorem below {a : Int32} {n : Nat} (hn : n < 2147483648) (h0 : ¬ a < 0) (h1 : ¬ nI n - 1 < a) : ∃ j : Nat, j < n ∧ a = nI j := by
  obtain ⟨j, hj, e⟩ := nI_of h0
  cases n with
  | zero =>
    refine absurd ?_ h1
    rw [e]
    have h2 : (nI 0 - 1).toInt = -1 := by decide
    have h3 : (nI j).toInt = (j : Int) := nI_toInt hj
    rw [Int32.lt_iff_toInt_lt, h2, h3]
    omega
  | succ n =>
    rw [nI_pred, e] at h1
    refine ⟨j, ?_, e⟩
    have : ¬ n < j := fun z => h1 (nI_lt z hj)
    omega
/-- bubble: both sides at once; n BUBBLES -/
theorem t_bubble (x : XS) (y : MS) (a0 a1 : Int32) (n : Nat) (hn : n ≤ 40) (hx : x.1 356 = nI n) (hy : y.2.2.1 0 9 = nI n) (hlog : ∀ i, i < 4 * n → x.2.1 14 i = y.2.2.1 0 (250 + i)) (Q : Int32 → XS → Int32 → MS → Prop) (hQ : ∀ r, Q r x r y) :
    VC_X11_bubble_0 (fun r x' => VC_bubble (fun r' y' => Q r x' r' y') a0 a1 y) a0 a1 x := by
  have i9 : vp_in (9 : Int32) 3890 := litIn 9 (by decide) (by decide)
  have c9 : (9 : Int32).toNatClampNeg = 9 := litC 9 (by decide)
  refine ⟨fun hne => ?_, fun he => ⟨fun h => absurd he h, fun _ => ⟨i9, ?_⟩⟩⟩
  · have bad : (a0 < 0 ∨ nI n - 1 < a0) ∨ (a1 < 0 ∨ 3 < a1) → VC_bubble (fun r' y' => Q (-1) x r' y') a0 a1 y := fun hb => by
      refine ⟨fun _ => ⟨i9, ?_⟩, fun h => absurd h hne⟩
      rw [c9, hy]
      refine mIn (fun _ => ⟨fun _ => hQ _, fun h => absurd rfl h⟩) (fun b1 b2 => ⟨fun h => absurd h (by decide), fun _ => ?_⟩)
      exact mIn (fun _ => ⟨fun _ => hQ _, fun h => absurd rfl h⟩) (fun b3 b4 => (hb.elim (fun z => z.elim b1 b2) (fun z => z.elim b3 b4)).elim)
    rw [hx]
    refine wIn (fun hb => ⟨fun _ => bad (Or.inl hb), fun h => absurd rfl h⟩) (fun b1 b2 => ⟨fun h => absurd h (by decide), fun _ => ?_⟩)
    refine wIn (fun hb => ⟨fun h => absurd rfl h, fun _ => bad (Or.inr hb)⟩) (fun b3 b4 => ⟨fun _ => ?_, fun h => absurd h (by decide)⟩)
    obtain ⟨i, hi, ei⟩ := below (by omega) b1 b2
    obtain ⟨k, hk, ek⟩ := below (n := 4) (by decide) b3 b4
    have e1 : 4 * a0 + a1 = nI (4 * i + k) := by rw [ei, ek, litN 4, pk_mul, nI_add]
    have e2 : 250 + 4 * a0 + a1 = nI (250 + (4 * i + k)) := by rw [ei, ek, litN 4, litN 250, pk_mul, nI_add, nI_add]; congr 1; omega
    refine ⟨by rw [e1]; exact vp_in_nI (by omega) (by decide), ?_⟩
    refine ⟨fun _ => ⟨i9, ?_⟩, fun h => absurd h hne⟩
    rw [c9, hy]
    refine mIn (fun hb => (hb.elim b1 b2).elim) (fun _ _ => ⟨fun h => absurd h (by decide), fun _ => ?_⟩)
    refine mIn (fun hb => (hb.elim b3 b4).elim) (fun _ _ => ⟨fun h => absurd h (by decide), fun _ => ⟨by rw [e2]; exact vp_in_nI (by omega) (by decide), ?_⟩⟩)
    rw [e1, e2, nI_clamp (by omega), nI_clamp (by omega), hlog _ (by omega)]
    exact hQ _
  · rw [c9, hx, hy]
    exact hQ _
