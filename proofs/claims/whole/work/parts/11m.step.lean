/-! a step is kept, on both sides -/
/-- the reference keeps what is now: from A to A1; o steps fall out at the front -/
def Kept (A A1 : Nat → Nat) (o : Nat) : Prop := ((A 6 < 30 ∧ o = 0) ∨ (A 6 = 30 ∧ o = 1)) ∧ A1 6 + o = A 6 + 1 ∧ (∀ k, k < 410 → k ≠ 6 → A1 k = A k) ∧ (∀ j, j < A1 6 → ∀ c, c < 116 → A1 (410 + 116 * j + c) = core A (j + o) c) ∧ ∀ k, 410 + 116 * A1 6 ≤ k → A1 k = A k
theorem enc_cell {S : MS} {A : Nat → Nat} (e : S.2.2.1 0 = enc A) {k : Nat} (h5 : k ≠ 5) (hk : k < 2147483648) : S.2.2.1 0 (nI k).toNatClampNeg = nI (A k) := by rw [e, ncl hk, enc_at h5]
theorem r_keep {Post : MS → Prop} {S : MS} {A : Nat → Nat} (h6 : A 6 ≤ 30) (e : S.2.2.1 0 = enc A) (h : ∀ A1 o, Kept A A1 o → Post (sF S 0 (enc A1))) : VC_keep Post S := by
  intro K hK
  have l : ∀ k : Nat, k < 3890 → vp_in (nI k) 3890 := fun k hk => vp_in_nI hk (by decide)
  -- the rest, once there is room
  have main : ∀ (D : Nat → Nat) (o : Nat), D 6 < 30 → (((A 6 < 30 ∧ o = 0) ∨ (A 6 = 30 ∧ o = 1)) ∧ D 6 + o = A 6) → (∀ k, k < 410 → k ≠ 6 → D k = A k) → (∀ j, j < D 6 → ∀ c, c < 116 → D (410 + 116 * j + c) = core A (j + o) c) → (∀ k, 410 + 116 * (D 6 + 1) ≤ k → D k = A k) → K (.inr (.inl ())) (sF S 0 (enc D)) := by
    intro D o hD ho hk hj hre
    have eD : (sF S 0 (enc D)).2.2.1 0 = enc D := sF_same _ _ _
    refine hK _ _ ?_
    show vp_in (nI 6) 3890 ∧ ∀ v6 : Int32, v6 = 410 + (116 * (((sF S 0 (enc D)).2.2.1 0) (nI 6).toNatClampNeg)) → vp_in (nI 3) 3890 ∧ ∀ v7 : Int32, v7 = ((sF S 0 (enc D)).2.2.1 0) (nI 3).toNatClampNeg → _
    refine ⟨l 6 (by decide), fun v6 e6 => ⟨l 3 (by decide), fun v7 e7 => ?_⟩⟩
    have q6 : v6 = nI (410 + 116 * D 6) := by rw [e6, enc_cell eD (by decide) (by decide), L116, L410, nmul, nadd]
    have p1 : nI (410 + 116 * D 6) + 1 = nI (410 + 116 * D 6 + 1) := by rw [L1, nadd]
    have p2 : nI (410 + 116 * D 6) + 2 = nI (410 + 116 * D 6 + 2) := by rw [L2, nadd]
    have p3 : nI (410 + 116 * D 6) + 3 = nI (410 + 116 * D 6 + 3) := by rw [L3, nadd]
    rw [q6, p1, p2, p3, ncl (by omega), ncl (by omega), ncl (by omega), ncl (by omega)]
    rw [enc_cell eD (by decide) (by decide)] at e7
    refine ⟨l _ (by omega), fun S8 e8 => ⟨l 2 (by decide), fun v9 e9 => ⟨l _ (by omega), fun S10 e10 => ⟨l 9 (by decide), fun v11 e11 => ⟨l _ (by omega), fun S12 e12 => ⟨l 0 (by decide), fun v13 e13 => ⟨l _ (by omega), fun S14 e14 => ?_⟩⟩⟩⟩⟩⟩⟩
    rw [e7, sF_same, sF_sF, enc_u (by omega)] at e8
    rw [e8, sF_same, litC 2 (by decide), enc_at (by omega), uN_n _ _ _ _ (by omega)] at e9
    rw [e9, e8, sF_same, sF_sF, enc_u (by omega)] at e10
    rw [e10, sF_same, litC 9 (by decide), enc_at (by omega), uN_n _ _ _ _ (by omega), uN_n _ _ _ _ (by omega)] at e11
    rw [e11, e10, sF_same, sF_sF, enc_u (by omega)] at e12
    rw [e12, sF_same, litC 0 (by decide), enc_at (by omega), uN_n _ _ _ _ (by omega), uN_n _ _ _ _ (by omega), uN_n _ _ _ _ (by omega)] at e13
    rw [e13, e12, sF_same, sF_sF, enc_u (by omega)] at e14
    rw [e14]
    -- rows of those who blow
    have k3 : ∀ k i : Nat, ∀ E : Nat → Nat, i + k = 6 → (∀ n, (n < 410 + 116 * D 6 ∨ 410 + 116 * D 6 + 116 ≤ n) → E n = D n) → (∀ c, c < 16 → (c < 4 + i ∨ (10 ≤ c ∧ c < 10 + i)) → E (410 + 116 * D 6 + c) = live D c) → K (.inr (.inr (.inl (nI (410 + 116 * D 6), nI i)))) (sF S 0 (enc E)) := by
      intro k
      induction k with
      | zero =>
        intro i E hi hE hc
        have ei : i = 6 := (by omega)
        subst ei
        refine hK _ _ ⟨fun _ => ?_, fun z => absurd (Int32.le_refl _) z⟩
        -- the pieces
        have k4 : ∀ k i : Nat, ∀ E : Nat → Nat, i + k = 100 → (∀ n, (n < 410 + 116 * D 6 ∨ 410 + 116 * D 6 + 116 ≤ n) → E n = D n) → (∀ c, c < 16 + i → E (410 + 116 * D 6 + c) = live D c) → K (.inr (.inr (.inr (nI (410 + 116 * D 6), nI i)))) (sF S 0 (enc E)) := by
          intro k
          induction k with
          | zero =>
            intro i E hi hE hc
            have ei : i = 100 := (by omega)
            subst ei
            have eE : (sF S 0 (enc E)).2.2.1 0 = enc E := sF_same _ _ _
            have E6 := hE 6 (by omega)
            refine hK _ _ ⟨fun _ => ?_, fun z => absurd (Int32.le_refl _) z⟩
            show vp_in (nI 6) 3890 ∧ ∀ v22 : Int32, v22 = ((sF S 0 (enc E)).2.2.1 0) (nI 6).toNatClampNeg + 1 → vp_in (nI 6) 3890 ∧ ∀ S23 : MS, S23 = sF (sF S 0 (enc E)) 0 (upd ((sF S 0 (enc E)).2.2.1 0) (nI 6).toNatClampNeg v22) → Post S23
            refine ⟨l 6 (by decide), fun v22 e22 => ⟨l 6 (by decide), fun S23 e23 => ?_⟩⟩
            rw [enc_cell eE (by decide) (by decide), L1, nadd] at e22
            rw [e22, sF_same, sF_sF, ncl (by decide), enc_u (by omega)] at e23
            rw [e23]
            refine h _ o ⟨ho.1, by rw [uN_s]; omega, fun k hk1 hk2 => by rw [uN_n _ _ _ _ hk2, hE k (by omega), hk k hk1 hk2], fun j hj1 c hc1 => ?_, fun k hk1 => by rw [uN_s, E6] at hk1; rw [uN_n _ _ _ _ (by omega), hE k (by omega), hre k (by omega)]⟩
            rw [uN_s] at hj1
            rw [uN_n _ _ _ _ (by omega)]
            by_cases z : j < D 6
            · rw [hE _ (by omega)]; exact hj j z c hc1
            · have ej : j = D 6 := (by omega)
              rw [ej, hc c (by omega), show D 6 + o = A 6 by omega, core_now]
              exact live_of (fun k hk' => hk k (by omega) (by omega)) hc1
          | succ k ih =>
            intro i E hi hE hc
            have eE : (sF S 0 (enc E)).2.2.1 0 = enc E := sF_same _ _ _
            have a1 : 150 + nI i = nI (150 + i) := by rw [L150, nadd]
            have a2 : (nI (410 + 116 * D 6) + 16) + nI i = nI (410 + 116 * D 6 + (16 + i)) := by rw [L16, nadd, nadd]; congr 1; omega
            refine hK _ _ ⟨fun z => absurd z (nI_ge (b := 100) (by omega) (by decide)), fun _ => ?_⟩
            rw [a1, a2]
            refine ⟨l _ (by omega), fun v24 e24 => ⟨l _ (by omega), fun S25 e25 v26 e26 => ?_⟩⟩
            rw [enc_cell eE (by omega) (by omega), hE _ (by omega)] at e24
            rw [e24, sF_same, sF_sF, ncl (by omega), enc_u (by omega)] at e25
            rw [e25, e26, nI_1]
            refine ih (i + 1) _ (by omega) (fun n hn => by rw [uN_n _ _ _ _ (by omega), hE n hn]) (fun c hc' => ?_)
            by_cases z : c = 16 + i
            · rw [z, uN_s, live_p]
            · rw [uN_n _ _ _ _ (by omega)]; exact hc c (by omega)
        exact k4 100 0 E (by omega) hE (fun c hc' => hc c (by omega) (by omega))
      | succ k ih =>
        intro i E hi hE hc
        have eE : (sF S 0 (enc E)).2.2.1 0 = enc E := sF_same _ _ _
        have a1 : (nI (410 + 116 * D 6) + 4) + nI i = nI (410 + 116 * D 6 + (4 + i)) := by rw [L4, nadd, nadd]; congr 1; omega
        have a2 : (nI (410 + 116 * D 6) + 10) + nI i = nI (410 + 116 * D 6 + (10 + i)) := by rw [L10, nadd, nadd]; congr 1; omega
        refine hK _ _ ⟨fun z => absurd z (nI_ge (b := 6) (by omega) (by decide)), fun _ => mget eE rfl L2 (by omega) (by omega) ?_⟩
        rw [a1]
        refine ⟨l _ (by omega), fun S17 e17 => ?_⟩
        rw [sF_same, sF_sF, ncl (by omega), enc_u (by omega)] at e17
        rw [e17]
        refine mget (sF_same _ _ _) rfl L3 (by omega) (by omega) ?_
        rw [a2]
        refine ⟨l _ (by omega), fun S20 e20 v21 e21 => ?_⟩
        rw [sF_same, sF_sF, ncl (by omega), enc_u (by omega)] at e20
        rw [e20, e21, nI_1]
        refine ih (i + 1) _ (by omega) (fun n hn => by rw [uN_n _ _ _ _ (by omega), uN_n _ _ _ _ (by omega), hE n hn]) (fun c hc1 hc2 => ?_)
        by_cases z : c = 10 + i
        · rw [z, uN_s, uN_n _ _ _ _ (by omega), hE _ (by omega), live_g _ (by omega)]; congr 1; omega
        · rw [uN_n _ _ _ _ (by omega)]
          by_cases z2 : c = 4 + i
          · rw [z2, uN_s, hE _ (by omega), live_b _ (by omega)]; congr 1; omega
          · rw [uN_n _ _ _ _ (by omega)]; exact hc c hc1 (by omega)
    refine k3 6 0 _ (by omega) (fun n hn => by rw [uN_n _ _ _ _ (by omega), uN_n _ _ _ _ (by omega), uN_n _ _ _ _ (by omega), uN_n _ _ _ _ (by omega)]) (fun c hc1 hc2 => ?_)
    have : c = 0 ∨ c = 1 ∨ c = 2 ∨ c = 3 := (by omega)
    rcases this with z | z | z | z <;> subst z
    · rw [uN_n _ _ _ _ (by omega), uN_n _ _ _ _ (by omega), uN_n _ _ _ _ (by omega), Nat.add_zero, uN_s]; rfl
    · rw [uN_n _ _ _ _ (by omega), uN_n _ _ _ _ (by omega), uN_s]; rfl
    · rw [uN_n _ _ _ _ (by omega), uN_s]; rfl
    · rw [uN_s]; rfl
  have i6 : vp_in (6 : Int32) 3890 := l 6 (by decide)
  have c6 : S.2.2.1 0 (6 : Int32).toNatClampNeg = nI (A 6) := enc_cell (k := 6) e (by decide) (by decide)
  have sS : ∀ f, f = S.2.2.1 0 → S = sF S 0 f := fun f hf => by
    rw [hf]
    unfold sF
    have : (fun j => if j = 0 then S.2.2.1 0 else S.2.2.1 j) = S.2.2.1 := by
      funext j
      by_cases z : j = 0
      · rw [if_pos z, z]
      · rw [if_neg z]
    rw [this]
  refine ⟨i6, ?_⟩
  rw [c6, L30, neq (by omega) (by omega)]
  refine ⟨fun ne => ?_, fun e30 => ?_⟩
  · have := main A 0 (by omega) ⟨Or.inl ⟨(by omega), rfl⟩, rfl⟩ (fun _ _ _ => rfl) (fun j hj c hc => by unfold core; rw [if_pos (by omega)]; rfl) (fun _ _ => rfl)
    rw [← sS (enc A) e.symm] at this
    exact this
  · have k1 : ∀ k i : Nat, ∀ E : Nat → Nat, i + k = 3364 → (∀ n, (n < 410 ∨ 410 + i ≤ n) → E n = A n) → (∀ n, n < i → E (410 + n) = A (526 + n)) → K (.inl (nI i)) (sF S 0 (enc E)) := by
      intro k
      induction k with
      | zero =>
        intro i E hi hE hs
        have ei : i = 3364 := (by omega)
        subst ei
        have eE : (sF S 0 (enc E)).2.2.1 0 = enc E := sF_same _ _ _
        refine hK _ _ ⟨fun _ => ?_, fun z => absurd (Int32.le_refl _) z⟩
        show vp_in (nI 6) 3890 ∧ ∀ v1 : Int32, v1 = ((sF S 0 (enc E)).2.2.1 0) (nI 6).toNatClampNeg - 1 → vp_in (nI 6) 3890 ∧ ∀ S2 : MS, S2 = sF (sF S 0 (enc E)) 0 (upd ((sF S 0 (enc E)).2.2.1 0) (nI 6).toNatClampNeg v1) → K (.inr (.inl ())) S2
        refine ⟨l 6 (by decide), fun v1 e1 => ⟨l 6 (by decide), fun S2 e2 => ?_⟩⟩
        rw [enc_cell eE (by decide) (by decide), hE 6 (by omega), e30, L1, nsub (by omega)] at e1
        rw [e1, sF_same, sF_sF, ncl (by decide), enc_u (by omega)] at e2
        rw [e2]
        refine main _ 1 (by rw [uN_s]; omega) ⟨Or.inr ⟨e30, rfl⟩, by rw [uN_s]; omega⟩ (fun k hk1 hk2 => by rw [uN_n _ _ _ _ hk2, hE k (by omega)]) (fun j hj c hc => ?_) (fun k hk1 => by rw [uN_s] at hk1; rw [uN_n _ _ _ _ (by omega), hE k (by omega)])
        rw [uN_s] at hj
        rw [uN_n _ _ _ _ (by omega), show 410 + 116 * j + c = 410 + (116 * j + c) by omega, hs _ (by omega)]
        unfold core
        rw [if_pos (by omega)]
        congr 1; omega
      | succ k ih =>
        intro i E hi hE hs
        have eE : (sF S 0 (enc E)).2.2.1 0 = enc E := sF_same _ _ _
        have a1 : 526 + nI i = nI (526 + i) := by rw [L526, nadd]
        have a2 : 410 + nI i = nI (410 + i) := by rw [L410, nadd]
        refine hK _ _ ⟨fun z => absurd z (nI_ge (b := 3364) (by omega) (by decide)), fun _ => ?_⟩
        rw [a1, a2]
        refine ⟨l _ (by omega), fun v3 e3 => ⟨l _ (by omega), fun S4 e4 v5 e5 => ?_⟩⟩
        rw [enc_cell eE (by omega) (by omega), hE _ (by omega)] at e3
        rw [e3, sF_same, sF_sF, ncl (by omega), enc_u (by omega)] at e4
        rw [e4, e5, nI_1]
        refine ih (i + 1) _ (by omega) (fun n hn => by rw [uN_n _ _ _ _ (by omega), hE n (by omega)]) (fun n hn => ?_)
        by_cases z : n = i
        · rw [z, uN_s]
        · rw [uN_n _ _ _ _ (by omega)]; exact hs n (by omega)
    have := k1 3364 0 A (by omega) (fun _ _ => rfl) (fun n hn => absurd hn (by omega))
    rw [← sS (enc A) e.symm] at this
    exact this
/-- the class keeps a step -/
theorem c_push {Post : Int32 → XS → Prop} {S : XS} {s f : Nat} {w p : Int32} (hs : s ≤ 30) (hf : f < 30) (e1 : S.1 481 = nI s) (e0 : S.1 480 = nI f)
    (h : ∀ S' o s1 r, ((s < 30 ∧ o = 0) ∨ (s = 30 ∧ o = 1)) → s1 + o = s → r = 8 * (((f + o) % 30 + s1) % 30) → (∀ k, k ≠ 480 → k ≠ 481 → S'.1 k = S.1 k) → (∀ k, k ≠ 16 → S'.2.1 k = S.2.1 k) → S'.2.2 = S.2.2 → S'.1 481 = nI (s1 + 1) → S'.1 480 = nI ((f + o) % 30) → (∀ i, (i < r ∨ r + 8 ≤ i) → S'.2.1 16 i = S.2.1 16 i) → S'.2.1 16 r = w → S'.2.1 16 (r + 1) = p → (∀ b, b < 6 → S'.2.1 16 (r + 2 + b) = 0) → Post (nI r) S') : VC_X6_push_15 Post w p S := by
  intro K hK
  have main : ∀ (T : XS) (o s1 : Nat), ((s < 30 ∧ o = 0) ∨ (s = 30 ∧ o = 1)) → s1 + o = s → (∀ k, k ≠ 480 → k ≠ 481 → T.1 k = S.1 k) → T.2 = S.2 → T.1 481 = nI s1 → T.1 480 = nI ((f + o) % 30) → K (w, p) T := by
    intro T o s1 ho hs1 hI hF t1 t0
    refine hK _ _ ⟨by decide, fun v5 e5 => ?_⟩
    have q5 : v5 = nI (8 * (((f + o) % 30 + s1) % 30)) := by rw [e5, t1, t0, nadd, L30, pk_rem (by omega) (by decide) (by decide), L8, nmul]
    generalize hr : 8 * (((f + o) % 30 + s1) % 30) = r at *
    have hr2 : r ≤ 232 := (by omega)
    have q8 : nI r + 8 = nI (r + 8) := by rw [L8, nadd]
    have q1 : nI r + 1 = nI (r + 1) := nI_1 r
    rw [q5, q8]
    intro K2 hK2
    have k2 : ∀ k i : Nat, ∀ U : XS, i + k = 8 → U.1 = T.1 → (∀ k, k ≠ 16 → U.2.1 k = T.2.1 k) → U.2.2 = T.2.2 → (∀ j, (j < r ∨ r + 8 ≤ j) → U.2.1 16 j = T.2.1 16 j) → (∀ j, j < i → U.2.1 16 (r + j) = 0) → K2 (nI r, nI (r + 8), 0, nI (r + i)) U := by
      intro k
      induction k with
      | zero =>
        intro i U hi u1 u2 u3 u4 u5
        have ei : i = 8 := (by omega)
        subst ei
        refine hK2 _ _ ⟨fun _ => ⟨vp_in_nI (by omega) (by decide), fun S7 e7 => ⟨by rw [q1]; exact vp_in_nI (by omega) (by decide), fun S8 e8 v9 e9 S10 e10 => ?_⟩⟩, fun z => absurd (Int32.le_refl _) z⟩
        rw [ncl (by omega)] at e7
        rw [q1, ncl (by omega)] at e8
        have f7 : S7.2.1 16 = upd (U.2.1 16) r w := by rw [e7, xF_s]
        have f8 : S8.2.1 16 = upd (upd (U.2.1 16) r w) (r + 1) p := by rw [e8, xF_s, f7]
        have i8 : S8.1 = T.1 := by rw [e8, xF_i, e7, xF_i, u1]
        rw [i8, t1, L1, nadd] at e9
        have f10 : S10.2.1 16 = upd (upd (U.2.1 16) r w) (r + 1) p := by rw [e10, xI_f, f8]
        refine h S10 o s1 r ho hs1 hr.symm (fun k k0 k1 => by rw [e10, xI_n _ _ k1, i8, hI k k0 k1]) (fun k hk => by rw [e10, xI_f, e8, xF_o _ _ _ _ hk, e7, xF_o _ _ _ _ hk, u2 k hk, hF]) (by rw [e10, xI_f, e8, xF_22, e7, xF_22, u3, hF]) (by rw [e10, e9, xI_s]) (by rw [e10, xI_n _ _ (by omega), i8, t0]) (fun i hi => by rw [f10, upd_n _ _ (by omega), upd_n _ _ (by omega), u4 i hi, hF]) (by rw [f10, upd_n _ _ (by omega), upd_s]) (by rw [f10, upd_s]) (fun b hb => by rw [f10, upd_n _ _ (by omega), upd_n _ _ (by omega), show r + 2 + b = r + (2 + b) by omega, u5 _ (by omega)])
      | succ k ih =>
        intro i U hi u1 u2 u3 u4 u5
        refine hK2 _ _ ⟨fun z => absurd z (nI_ge (by omega) (by omega)), fun _ => ⟨vp_in_nI (by omega) (by decide), fun S2 e2 v3 e3 => ?_⟩⟩
        rw [ncl (by omega)] at e2
        rw [e3, nI_1, e2]
        refine ih (i + 1) _ (by omega) (by rw [xF_i, u1]) (fun k hk => by rw [xF_o _ _ _ _ hk, u2 k hk]) (by rw [xF_22, u3]) (fun j hj => by rw [xF_s, upd_n _ _ (by omega), u4 j hj]) (fun j hj => ?_)
        rw [xF_s]
        by_cases z : j = i
        · rw [z, upd_s]
        · rw [upd_n _ _ (by omega), u5 j (by omega)]
    have kk := k2 8 0 T (by omega) rfl (fun _ _ => rfl) rfl (fun _ _ => rfl) (fun j hj => absurd hj (by omega))
    exact ⟨fun _ => ⟨fun _ => ⟨fun _ => kk, fun z => absurd (by rw [L240, nle (by omega) (by omega)]; omega) z⟩, fun z => absurd (nI_pos' (by omega)) z⟩, fun z => absurd (nI_le (by omega) (by omega)) z⟩
  rw [e1, L30, neq (by omega) (by omega)]
  refine ⟨fun ne => main S 0 s (Or.inl ⟨(by omega), rfl⟩) rfl (fun _ _ _ => rfl) rfl e1 (by rw [e0, Nat.add_zero, Nat.mod_eq_of_lt hf]), fun e30 => ⟨by decide, fun v1 d1 S2 d2 v3 d3 S4 d4 => ?_⟩⟩
  rw [e0, L1, nadd, pk_rem (by omega) (by decide) (by decide)] at d1
  have i2 : S2.1 481 = nI s := by rw [d2, xI_n _ _ (by omega), e1]
  rw [i2, e30, L1, nsub (by omega)] at d3
  refine main S4 1 29 (Or.inr ⟨e30, rfl⟩) (by omega) (fun k k0 k1 => by rw [d4, xI_n _ _ k1, d2, xI_n _ _ k0]) (by rw [d4, xI_f, d2, xI_f]) (by rw [d4, xI_s, d3]) (by rw [d4, xI_n _ _ (by omega), d2, xI_s, d1])
/-- what is told of a step -/
theorem Inv_step {A A1 A2 : Nat → Nat} {o : Nat} (h : Inv A) (hk : Kept A A1 o) (e6 : A2 6 = A1 6) (eh : ∀ k, 410 ≤ k → A2 k = A1 k) (eA : ∀ k, k = 0 ∨ k = 1 ∨ k = 4 ∨ k = 5 ∨ k = 7 ∨ k = 8 ∨ (10 ≤ k ∧ k < 150 ∧ (40 ≤ k ∨ k % 5 = 0 ∨ k % 5 = 1 ∨ k % 5 = 4)) → A2 k = A k) (hl : ∀ i, i < 4 * A 9 → A2 (250 + i) = A (250 + i)) (h9 : A 9 ≤ A2 9) (hb : ∀ b, b < A 0 → A2 (12 + 5 * b) ≤ 999) (hn : Cons A2 (live A2)) : Inv A2 := by
  obtain ⟨b0, b1, b2, b3, b4, b5, b6, b7, b8, b9⟩ := h.b
  obtain ⟨k1, k2, k3, k4, -⟩ := hk
  obtain ⟨g1, g2, g3, g4, g5, g6⟩ := h
  have e0 := eA 0 (by omega)
  have e1 := eA 1 (by omega)
  have hc : ∀ j, j < A2 6 → ∀ c, c < 116 → core A2 j c = core A (j + o) c := fun j hj c hc => by
    have : core A2 j c = A2 (410 + 116 * j + c) := if_pos hj
    rw [this, eh _ (by omega), k4 j (by omega) c hc]
  have ck : ∀ k, k < A 1 → A (40 + 3 * k) = A2 (40 + 3 * k) ∧ A (41 + 3 * k) = A2 (41 + 3 * k) := fun k hk => ⟨(eA _ (by omega)).symm, (eA _ (by omega)).symm⟩
  refine ⟨⟨(by omega), (by omega), by rw [eA 4 (by omega)]; omega, by rw [eA 4 (by omega), eA 5 (by omega)]; omega, (by omega), by rw [eA 7 (by omega)]; omega, by rw [eA 8 (by omega)]; omega⟩, fun i hi => ?_, fun i j hi hj => ?_, fun k hk => ?_, ⟨fun i hi => ?_, fun i hi => ?_⟩, fun j hj => ?_, fun j hj => ?_⟩
  · rw [e0] at hi ⊢
    have := g2 i hi
    rw [eA (10 + 5 * i) (by omega), eA (11 + 5 * i) (by omega), eA (14 + 5 * i) (by omega)]
    exact ⟨this.1, this.2.1, this.2.2.1, hb i hi, this.2.2.2.2⟩
  · rw [e0] at hi hj
    rw [eA _ (by omega), eA _ (by omega)]; exact g3 i j hi hj
  · rw [e1] at hk
    rw [eA _ (by omega), eA _ (by omega), eA _ (by omega)]; exact g4 k hk
  · rw [eA 7 (by omega)] at hi
    rw [eA _ (by omega)]; exact g5.1 i hi
  · rw [eA 8 (by omega)] at hi
    rw [eA (70 + 4 * i) (by omega), eA (71 + 4 * i) (by omega), eA (72 + 4 * i) (by omega), eA (73 + 4 * i) (by omega), e0]; exact g5.2 i hi
  · by_cases z : j < A2 6
    · have c := g6.1 (j + o) (by omega)
      have c3 := c.2.2.2.1
      have c9 := hist_le g6 (A 6 - (j + o)) (j + o) (by omega)
      exact Cons_v (Cons_mono c (by omega) (by omega) ck (fun b hb => (eA _ (by omega)).symm) (fun i hi => (hl i (by omega)).symm)) (fun k hk => hc j z k hk) (by omega)
    · rw [show j = A2 6 by omega, core_now]; exact hn
  · rw [hc j hj 2 (by omega)]
    by_cases z : j + 1 < A2 6
    · rw [hc (j + 1) z 2 (by omega)]
      have := g6.2 (j + o) (by omega)
      rwa [show j + o + 1 = j + 1 + o by omega] at this
    · rw [show j + 1 = A2 6 by omega, core_now, show j + o = A 6 by omega, core_now, live_2, live_2]; exact h9
theorem rxSteps_push {I J : Nat → Int32} {F G : Nat → Nat → Int32} {A A1 A2 : Nat → Nat} {o f s1 r : Nat} (h : Inv A) (hk : Kept A A1 o) (e6 : A2 6 = A1 6) (eh : ∀ k, 410 ≤ k → A2 k = A1 k) (hs : ∀ j, j < A 6 → stepOK (F 16) (8 * ((f + j) % 30)) (core A j) (core A (j + 1))) (hs1 : s1 + o = A 6) (hr : r = 8 * (((f + o) % 30 + s1) % 30)) (j1 : J 481 = nI (s1 + 1)) (j0 : J 480 = nI ((f + o) % 30)) (hG : ∀ i, (i < r ∨ r + 8 ≤ i) → G 16 i = F 16 i) (hn : stepOK (G 16) r (live A) (live A2)) : rxSteps J G A2 := by
  obtain ⟨k1, k2, k3, k4, -⟩ := hk
  have hc : ∀ j, j < A2 6 → ∀ c, c < 116 → core A2 j c = core A (j + o) c := fun j hj c hc => by
    have : core A2 j c = A2 (410 + 116 * j + c) := if_pos hj
    rw [this, eh _ (by omega), k4 j (by omega) c hc]
  have b6 := h.b.2.2.2.2.2.2.1
  have s2 : A2 6 = s1 + 1 := (by omega)
  refine ⟨by rw [j1, s2], (f + o) % 30, Nat.mod_lt _ (by decide), j0, fun j hj => ?_⟩
  by_cases z : j = s1
  · subst z
    have cc : ∀ c, c < 116 → core A2 j c = live A c := fun c hc' => by rw [hc j hj c hc', hs1, core_now]
    have cd : core A2 (j + 1) = live A2 := by rw [← s2, core_now]
    rw [cd, ← hr]
    have hb := h.c (A 6) (by omega)
    rw [core_now] at hb
    exact step_of hn (fun _ _ => rfl) cc (fun _ _ => rfl) hb.1 hb.2
  · have hj2 : j + 1 < A2 6 := (by omega)
    have hb := h.c (j + o) (by omega)
    have := hs (j + o) (by omega)
    rw [show (f + (j + o)) % 30 = ((f + o) % 30 + j) % 30 by omega, show j + o + 1 = j + 1 + o by omega] at this
    refine step_of this (fun i hi => hG _ (by omega)) (fun k hk => hc j (by omega) k hk) (fun k hk => hc (j + 1) hj2 k hk) hb.1 hb.2
