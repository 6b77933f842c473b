/-! pure rows: literals, states -/
theorem litC (k : Nat) (h : k < 2147483648) : (OfNat.ofNat k : Int32).toNatClampNeg = k := nI_clamp h
theorem litIn (k : Nat) {n : Nat} (h : k < n) (hn : n < 2147483648) : vp_in (OfNat.ofNat k : Int32) n := vp_in_nI h hn
theorem litN (k : Nat) : (OfNat.ofNat k : Int32) = nI k := rfl
theorem upd_s (f : Nat → Int32) (k : Nat) (v : Int32) : upd f k v k = v := by simp [upd]
theorem upd_n (f : Nat → Int32) {k j : Nat} (v : Int32) (h : j ≠ k) : upd f k v j = f j := by simp [upd, h]
theorem xI_s (S : XS) (k : Nat) (v : Int32) : (xI S k v).1 k = v := by simp [xI, upd]
theorem xI_n (S : XS) {k j : Nat} (v : Int32) (h : j ≠ k) : (xI S k v).1 j = S.1 j := by simp [xI, upd, h]
theorem xF_i (S : XS) (k : Nat) (f : Nat → Int32) : (xF S k f).1 = S.1 := rfl
theorem xI_f (S : XS) (k : Nat) (v : Int32) : (xI S k v).2 = S.2 := rfl
/-- seen: both sides at once; n HOURS are seen so far -/
theorem t_seen (x : XS) (y : MS) (a0 : Int32) (n : Nat) (hn : n ≤ 8) (hx : x.1 544 = nI n) (hy : y.2.2.1 0 7 = nI n) (Q : Int32 → XS → Int32 → MS → Prop)
    (h0 : a0 = -1 → Q 0 (xI x 544 0) 0 (sF y 0 (upd (y.2.2.1 0) 7 0)))
    (h1 : Q (-2) x (-2) y)
    (h2 : ¬ a0 = -1 → ¬ a0 < 0 → ¬ 40 < a0 → n < 8 → Q (nI (n + 1)) (xI (xF x 18 (upd (x.2.1 18) n a0)) 544 (nI (n + 1))) (nI (n + 1)) (sF y 0 (upd (upd (y.2.2.1 0) (60 + n) a0) 7 (nI (n + 1))))) :
    VC_X11_seen_0 (fun r x' => VC_seen (fun r' y' => Q r x' r' y') a0 y) a0 x := by
  have i7 : vp_in (7 : Int32) 3890 := litIn 7 (by decide) (by decide)
  have c7 : (7 : Int32).toNatClampNeg = 7 := litC 7 (by decide)
  refine ⟨fun hne => ?_, fun he => ?_⟩
  · refine ⟨fun hlt => ⟨fun _ => ⟨fun _ => ⟨fun _ => ⟨fun _ => h1, fun h => absurd rfl h⟩, fun h => absurd hlt h⟩, fun he => absurd he hne⟩, fun h => absurd rfl h⟩, fun hnl => ⟨fun hgt => ⟨fun _ => ⟨fun _ => ⟨fun h => absurd h hnl, fun _ => ⟨fun _ => ⟨fun _ => h1, fun h => absurd rfl h⟩, fun h => absurd hgt h⟩⟩, fun he => absurd he hne⟩, fun h => absurd rfl h⟩, fun hng => ⟨fun h => absurd h (by decide), fun _ => ⟨fun hlt => ?_, fun hge => ?_⟩⟩⟩⟩
    · have hn8 : n < 8 := by
        rw [hx] at hlt
        exact (nI_ltI (by omega) (by decide)).mp hlt
      refine ⟨by rw [hx]; exact vp_in_nI hn8 (by decide), fun S2 e2 v3 e3 S4 e4 => ?_⟩
      rw [hx, nI_clamp (by omega)] at e2
      rw [e2, xF_i, hx, nI_1] at e3
      rw [e4, e3, xI_s, e2]
      refine ⟨fun _ => ⟨fun h => absurd h hnl, fun _ => ⟨fun h => absurd h hng, fun _ => ⟨fun h => absurd h (by decide), fun _ => ⟨i7, fun _ => ⟨i7, ?_, fun T2 d2 => ⟨i7, fun w3 d3 => ⟨i7, fun T4 d4 => ⟨i7, ?_⟩⟩⟩⟩, fun h8 => ?_⟩⟩⟩⟩, fun he => absurd he hne⟩
      · rw [c7, hy, litN 60, nI_add]; exact vp_in_nI (by omega) (by decide)
      · rw [c7, hy, litN 60, nI_add, nI_clamp (by omega)] at d2
        rw [c7, d2, sF_same, upd_n _ _ (by omega), hy, nI_1] at d3
        rw [c7, d2, sF_same, sF_sF, d3] at d4
        rw [c7, d4, sF_same, upd_s]
        exact h2 hne hnl hng hn8
      · rw [c7, hy] at h8
        have := (nI_eq (a := n) (b := 8) (by omega) (by decide)).mp h8
        omega
    · have hn8 : n = 8 := by
        rw [hx] at hge
        have : ¬ n < 8 := fun z => hge (nI_lt z (by decide))
        omega
      refine ⟨fun _ => ⟨fun h => absurd h hnl, fun _ => ⟨fun h => absurd h hng, fun _ => ⟨fun h => absurd h (by decide), fun _ => ⟨i7, fun hc => absurd (by rw [c7, hy, hn8]; rfl) hc, fun _ => h1⟩⟩⟩⟩, fun he => absurd he hne⟩
  · intro S5 e5
    rw [e5]
    refine ⟨fun hne => absurd he hne, fun _ => ⟨i7, fun T5 d5 => ?_⟩⟩
    rw [c7] at d5
    rw [d5]
    exact h0 he
