/-! plan: both sides -/
def PMr (y y' : MS) : Prop := (∀ k, k ≠ 28 → k ≠ 29 → y'.1 k = y.1 k) ∧ ∀ k, k ≠ 22 → k ≠ 24 → k ≠ 26 → k ≠ 27 → k ≠ 30 → k ≠ 31 → y'.2.2.1 k = y.2.2.1 k
theorem PMr.refl (y : MS) : PMr y y := ⟨fun _ _ _ => rfl, fun _ _ _ _ _ _ _ => rfl⟩
theorem PMr.trans {x y z : MS} (h : PMr x y) (g : PMr y z) : PMr x z := ⟨fun k h1 h2 => (g.1 k h1 h2).trans (h.1 k h1 h2), fun k a b c d e f => (g.2 k a b c d e f).trans (h.2 k a b c d e f)⟩
theorem PMr.F {y y' : MS} (h : PMr y y') (k : Nat) (f : Nat → Int32) (hk : k = 30 ∨ k = 31) : PMr y (sF y' k f) := ⟨h.1, fun j a b c d e f' => by rw [sF_o _ _ _ _ (by omega), h.2 j a b c d e f']⟩
theorem KFr.P {y y' : MS} (h : KFr y y') : PMr y y' := ⟨fun k _ _ => by rw [h.1], fun k a b _ _ _ _ => h.2 k a b⟩
theorem QFr.P {y y' : MS} (h : QFr y y') : PMr y y' := ⟨h.1, fun k _ _ _ _ _ _ => by rw [h.2]⟩
theorem PMr.e {y y' : MS} {A : Nat → Nat} (h : PMr y y') (e : y.2.2.1 0 = enc A) : y'.2.2.1 0 = enc A := (h.2 0 (by decide) (by decide) (by decide) (by decide) (by decide) (by decide)).trans e
theorem PMr.Y {y y' : MS} (h : PMr y y') : YFr y y' := ⟨h.2 1 (by decide) (by decide) (by decide) (by decide) (by decide) (by decide), h.2 2 (by decide) (by decide) (by decide) (by decide) (by decide) (by decide), h.2 3 (by decide) (by decide) (by decide) (by decide) (by decide) (by decide), h.1 4 (by decide) (by decide), h.1 5 (by decide) (by decide), h.1 6 (by decide) (by decide)⟩
theorem sub_le {D s : Nat} (h : ∀ t, D.testBit t = true → s.testBit t = true) : D ≤ s := by
  have : vOK D s = true := vOK_iff.mpr h
  unfold vOK at this
  have e := of_decide_eq_true this
  rw [← e]
  exact Nat.and_le_right
section PLANOP
variable {A B : Nat → Nat} {x : XS} {y : MS}
theorem r_plan {Post : Int32 → MS → Prop} {o0 o1 : LAW} {s a1 H : Nat} {a2 : Int32} (hI : Inv A) (hy : y.2.2.1 0 = enc A) (j0 : JTr (y.2.2.1 2) (A 5) 0 o0) (j1 : JTr (y.2.2.1 2) (A 5) 1 o1) (l0 : ∀ p, o0 = some p → ∀ v, p v ≤ topL 0) (l1 : ∀ p, o1 = some p → ∀ v, p v ≤ topL 1) (hsm : s < 2 ^ A 1) (hb4 : bitsN s ≤ 4) (ha : 1 ≤ a1) (ha2 : a1 ≤ 24) (hH : H = if 1000 - A 3 < a1 then 1000 - A 3 else a1)
    (hP : ∀ r y', ansF A (fun h => smV o0 (A 3 + h)) (fun h b => coV o1 A b (A 3 + h)) H s a2 r → PMr y y' → Post r y') : VC_plan Post (nI s) (nI a1) a2 y := by
  obtain ⟨b0, b1, b2, b3, b4, b5, b6, b7, b8, b9⟩ := hI.b
  have p6 : 2 ^ A 1 ≤ 64 := pow6 b1
  have p0 : 0 < 2 ^ A 1 := Nat.two_pow_pos _
  have hH2 : H ≤ 24 ∧ A 3 + H ≤ 1000 ∧ 0 < H := by rw [hH]; split <;> omega
  have hs : ∀ h, smV o0 (A 3 + h) ≤ 40 := fun h => smV_le l0 _
  have hc : ∀ h b, coV o1 A b (A 3 + h) ≤ 99 := fun h b => coV_le l1 _ _ _
  have hk : kbOK A := ⟨b1, fun k hk => ⟨(hI.2.2.2.1 k hk).2.2.2, (hI.2.2.2.1 k hk).2.1⟩⟩
  have c6 : (beF A (fun h => smV o0 (A 3 + h)) (fun h b => coV o1 A b (A 3 + h)) H s 0).2.1 ≤ 6 := (bsF_b (sm := fun h => smV o0 (A 3 + h)) (H := H) hc hk 6 s 0 hsm).2.2
  intro K hK
  have c1 : y.2.2.1 0 (1 : Int32).toNatClampNeg = nI (A 1) := enc_cell (k := 1) hy (by decide) (by decide)
  have c3 : ∀ {S : MS}, S.2.2.1 0 = enc A → S.2.2.1 0 (3 : Int32).toNatClampNeg = nI (A 3) := fun e => enc_cell (k := 3) e (by decide) (by decide)
  have c0 : ∀ {S : MS}, S.2.2.1 0 = enc A → S.2.2.1 0 (0 : Int32).toNatClampNeg = nI (A 0) := fun e => enc_cell (k := 0) e (by decide) (by decide)
  have sh : (1 : Int32) <<< (nI (A 1) &&& 31) - 1 = nI (2 ^ A 1 - 1) := by rw [L1, L31, nshl1 (by omega), nsub (by omega)]
  have s64 : s < 64 := (by omega)
  have neg : ¬ -2 ≤ a2 → Post (-1000000) y := fun hn => by
    refine hP _ y ⟨fun z => ?_, fun z => ?_, fun i ei hi => ?_, fun _ _ _ => rfl⟩ (PMr.refl y)
    · rw [z] at hn; exact absurd (by decide) hn
    · rw [z] at hn; exact absurd (by decide) hn
    · rw [ei, L2, nmle (by omega) (by decide)] at hn
      exact absurd trivial hn
  -- what is answered
  have ans : ∀ U : MS, PMr y U → laM U A (fun h => smV o0 (A 3 + h)) (fun h b => coV o1 A b (A 3 + h)) H → -2 ≤ a2 → (∀ D', D' < 64 → (∀ t, D'.testBit t = true → s.testBit t = true) → TabM A (fun h => smV o0 (A 3 + h)) (fun h b => coV o1 A b (A 3 + h)) H s U D' 0) → K (.inr (.inr (.inl (nI s, nI a1, a2, nI H, -1)))) U := by
    intro U pU lU hm tU
    have t0 := tU 0 (by decide) (fun t ht => by rw [Nat.zero_testBit] at ht; exact absurd ht (by decide)) 0 (Nat.le_refl _) (Nat.zero_le _)
    rw [dif_0, Nat.mul_zero, Nat.zero_add] at t0
    refine hK _ _ ⟨fun _ => ⟨fun n1 => ⟨fun n2 => ⟨litIn 0 (by decide) (by decide), ?_⟩, fun e2 => ⟨litIn 0 (by decide) (by decide), ?_⟩⟩, fun e1 => ⟨litIn 0 (by decide) (by decide), ?_⟩⟩, fun z => absurd (by decide) z⟩
    · have hge : ¬ a2 < 0 := fun z => by
        rw [Int32.lt_iff_toInt_lt] at z
        rw [Int32.le_iff_toInt_le] at hm
        have q0 : (0 : Int32).toInt = 0 := (by decide)
        have q2 : (-2 : Int32).toInt = -2 := (by decide)
        have q1 : (-1 : Int32).toInt = -1 := (by decide)
        have w1 : ¬ a2.toInt = -1 := fun w => n1 (Int32.toInt_inj.mp (w.trans q1.symm))
        have w2 : ¬ a2.toInt = -2 := fun w => n2 (Int32.toInt_inj.mp (w.trans q2.symm))
        omega
      obtain ⟨j, hj, ej⟩ := nI_of hge
      rw [litC 0 (by decide), t0.2, ej, nle (by omega) (by omega)]
      refine ⟨fun hle => hP _ U ⟨fun z => absurd z n1, fun z => absurd z n2, fun i ei hi => ?_, fun _ _ _ => rfl⟩ pU, fun hgt => ?_⟩
      · rw [ej] at ei
        have := (nI_eq (by omega) (by omega)).mp ei
        omega
      · refine r_workOf hI (pU.e hy) lU hH2.1 hs hc hk hsm tU (by omega) (fun U' f' => hP _ U' ⟨fun z => absurd z n1, fun z => absurd z n2, fun i ei hi => ?_, fun _ _ z => absurd ⟨j, (by omega), ej⟩ z⟩ (pU.trans f'.P))
        rw [ej] at ei
        rw [(nI_eq (by omega) (by omega)).mp ei]
    · rw [litC 0 (by decide), t0.2]
      exact hP _ U ⟨fun z => absurd (e2.symm.trans z) (by decide), fun _ => rfl, fun i ei _ => by rw [e2, L2] at ei; exact absurd ei.symm (by rw [nm2 (by omega)]; exact id), fun _ z => absurd e2 z⟩ pU
    · rw [litC 0 (by decide), t0.1]
      exact hP _ U ⟨fun _ => rfl, fun z => absurd (e1.symm.trans z) (by decide), fun i ei _ => by rw [e1, L1] at ei; exact absurd ei.symm (by rw [nm1 (by omega)]; exact id), fun z => absurd e1 z⟩ pU
  -- sets, from the highest down
  have sets : ∀ n : Nat, ∀ U : MS, n ≤ s + 1 → PMr y U → laM U A (fun h => smV o0 (A 3 + h)) (fun h b => coV o1 A b (A 3 + h)) H → -2 ≤ a2 → (∀ D', n ≤ D' → D' < 64 → (∀ t, D'.testBit t = true → s.testBit t = true) → TabM A (fun h => smV o0 (A 3 + h)) (fun h b => coV o1 A b (A 3 + h)) H s U D' 0) → K (.inr (.inr (.inl (nI s, nI a1, a2, nI H, nI n - 1)))) U := by
    intro n
    induction n with
    | zero =>
      intro U hn pU lU hm tU
      exact ans U pU lU hm (fun D' d1 d2 => tU D' (Nat.zero_le _) d1 d2)
    | succ n ih =>
      intro U hn pU lU hm tU
      rw [nI_pred]
      have lower : ∀ (V : MS) (v : Int32), PMr y V → laM V A (fun h => smV o0 (A 3 + h)) (fun h b => coV o1 A b (A 3 + h)) H → (∀ D', n ≤ D' → D' < 64 → (∀ t, D'.testBit t = true → s.testBit t = true) → TabM A (fun h => smV o0 (A 3 + h)) (fun h b => coV o1 A b (A 3 + h)) H s V D' 0) → v = nI n + -1 → K (.inr (.inr (.inl (nI s, nI a1, a2, nI H, v)))) V := fun V v pV lV tV ev => by
        rw [ev, ← Int32.sub_eq_add_neg]
        exact ih V (by omega) pV lV hm tV
      refine hK _ _ ⟨fun z => absurd z (nI_pos (by omega)), fun _ => ?_⟩
      rw [show (nI n &&& (nI s ^^^ -1) = (0 : Int32)) = (∀ t, n.testBit t = true → s.testBit t = true) by rw [L1, L0, nsubset (by omega)]]
      refine ⟨fun hns v15 e15 => lower U v15 pU lU (fun D' d1 d2 d3 => ?_) e15, fun hsub => ?_⟩
      · by_cases z : D' = n
        · rw [z] at d3; exact absurd d3 hns
        · exact tU D' (by omega) d2 d3
      · have hours : ∀ m : Nat, ∀ V : MS, m ≤ H + 1 → PMr y V → laM V A (fun h => smV o0 (A 3 + h)) (fun h b => coV o1 A b (A 3 + h)) H → (∀ D', n < D' → D' < 64 → (∀ t, D'.testBit t = true → s.testBit t = true) → TabM A (fun h => smV o0 (A 3 + h)) (fun h b => coV o1 A b (A 3 + h)) H s V D' 0) → TabM A (fun h => smV o0 (A 3 + h)) (fun h b => coV o1 A b (A 3 + h)) H s V n m → K (.inr (.inr (.inr (nI s, nI a1, a2, nI H, nI n, nI m - 1)))) V := by
          intro m
          induction m with
          | zero =>
            intro V hm' pV lV tV tn
            refine hK _ _ ⟨fun _ v16 e16 => lower V v16 pV lV (fun D' d1 d2 d3 => ?_) e16, fun z => absurd (by decide) z⟩
            by_cases z : D' = n
            · rw [z]; exact tn
            · exact tV D' (by omega) d2 d3
          | succ m ihm =>
            intro V hm' pV lV tV tn
            rw [nI_pred]
            refine hK _ _ ⟨fun z => absurd z (nI_pos (by omega)), fun _ => ?_⟩
            refine r_reckon hI (pV.e hy) lV hH2.1 hs hc hk hsm (by omega) (by omega) (fun D' d1 d2 d3 => tV D' d1 d2 (fun t ht => (d3 t ht).elim (fun z => hsub t z) (fun z => z))) (fun V' u1 u2 u3 u4 u5 v18 e18 => ?_)
            rw [e18, ← Int32.sub_eq_add_neg]
            refine ihm V' (by omega) (pV.trans ⟨u1, fun k _ _ k26 k27 _ _ => u2 k k26 k27⟩) ⟨fun t ht => by rw [u2 30 (by decide) (by decide)]; exact lV.1 t ht, fun t b ht hb => by rw [u2 31 (by decide) (by decide)]; exact lV.2 t b ht hb⟩ (fun D' d1 d2 d3 h' a1' a2' => ?_) (fun h' a1' a2' => ?_)
            · have := u3 (26 * D' + h') (by omega)
              rw [this.1, this.2]; exact tV D' d1 d2 d3 h' a1' a2'
            · by_cases z : h' = m
              · rw [z]; exact ⟨u4, u5⟩
              · have := u3 (26 * n + h') (by omega)
                rw [this.1, this.2]; exact tn h' (by omega) a2'
        have := hours (H + 1) U (Nat.le_refl _) pU lU (fun D' d1 d2 d3 => tU D' d1 d2 d3) (fun h' a1' a2' => absurd a2' (by omega))
        rw [nI_pred] at this
        exact this
  -- looking ahead
  have look : ∀ n h : Nat, ∀ U : MS, h + n = H → PMr y U → -2 ≤ a2 → (∀ t, t < h → U.2.2.1 30 t = nI (smV o0 (A 3 + t))) → (∀ t b, t < h → b < A 0 → U.2.2.1 31 (6 * t + b) = nI (coV o1 A b (A 3 + t))) → K (.inl (nI s, nI a1, a2, nI H, nI h)) U := by
    intro n
    induction n with
    | zero =>
      intro h U hn pU hm q1 q2
      have eh : h = H := (by omega)
      refine hK _ _ ⟨fun _ => ?_, fun z => absurd (by rw [eh]; exact Int32.le_refl _) z⟩
      have := sets (s + 1) U (Nat.le_refl _) pU ⟨fun t ht => q1 t (by omega), fun t b ht hb => q2 t b (by omega) hb⟩ hm (fun D' d1 d2 d3 => absurd (sub_le d3) (by omega))
      rw [nI_pred] at this
      exact this
    | succ n ih =>
      intro h U hn pU hm q1 q2
      refine hK _ _ ⟨fun z => absurd z (nI_ge (by omega) (by omega)), fun _ => ⟨litIn 3 (by decide) (by decide), ?_⟩⟩
      rw [c3 (pU.e hy), nadd]
      refine r_smoke (A := A) (by rw [pU.2 2 (by decide) (by decide) (by decide) (by decide) (by decide) (by decide)]; exact j0) (pU.e hy) (by omega) (fun U1 f1 => ⟨vp_in_nI (by omega) (by decide), fun U2 e2 => ?_⟩)
      rw [ncl (by omega)] at e2
      have p2 : PMr y U2 := by rw [e2]; exact (pU.trans f1.P).F _ _ (Or.inl rfl)
      have inner : ∀ m b : Nat, ∀ V : MS, b + m = A 0 → PMr y V → (∀ t, t < h + 1 → V.2.2.1 30 t = nI (smV o0 (A 3 + t))) → (∀ t c, t < h → c < A 0 → V.2.2.1 31 (6 * t + c) = nI (coV o1 A c (A 3 + t))) → (∀ c, c < b → V.2.2.1 31 (6 * h + c) = nI (coV o1 A c (A 3 + h))) → K (.inr (.inl (nI s, nI a1, a2, nI H, nI h, nI b))) V := by
        intro m
        induction m with
        | zero =>
          intro b V hb pV w1 w2 w3
          have eb : b = A 0 := (by omega)
          refine hK _ _ ⟨litIn 0 (by decide) (by decide), fun _ v8 e8 => ?_, fun z => absurd (by rw [c0 (pV.e hy), eb]; exact Int32.le_refl _) z⟩
          rw [e8, nI_1]
          refine ih (h + 1) V (by omega) pV hm w1 (fun t c ht hc' => ?_)
          by_cases z : t = h
          · rw [z]; exact w3 c (by omega)
          · exact w2 t c (by omega) hc'
        | succ m ihm =>
          intro b V hb pV w1 w2 w3
          refine hK _ _ ⟨litIn 0 (by decide) (by decide), fun z => absurd z (by rw [c0 (pV.e hy)]; exact nI_ge (by omega) (by omega)), fun _ => ⟨litIn 3 (by decide) (by decide), ?_⟩⟩
          rw [c3 (pV.e hy), nadd]
          have ai : 6 * nI h + nI b = nI (6 * h + b) := by rw [L6, nmul, nadd]
          refine r_cost (A := A) (by rw [pV.2 2 (by decide) (by decide) (by decide) (by decide) (by decide) (by decide)]; exact j1) hI (pV.e hy) (by omega) (by omega) (fun V1 f1' => ?_)
          rw [ai]
          refine ⟨vp_in_nI (by omega) (by decide), fun V2 e2' v12 e12 => ?_⟩
          rw [ncl (by omega)] at e2'
          rw [e12, nI_1]
          refine ihm (b + 1) V2 (by omega) (by rw [e2']; exact (pV.trans f1'.P).F _ _ (Or.inr rfl)) (fun t ht => by rw [e2', sF_o _ _ _ _ (by decide), f1'.2 30 (by decide) (by decide)]; exact w1 t ht) (fun t c ht hc' => by rw [e2', sF_same, upd_n _ _ (by omega), f1'.2 31 (by decide) (by decide)]; exact w2 t c ht hc') (fun c hc' => ?_)
          rw [e2', sF_same]
          by_cases z : c = b
          · rw [z, upd_s]
          · rw [upd_n _ _ (by omega), f1'.2 31 (by decide) (by decide)]; exact w3 c (by omega)
      refine inner (A 0) 0 U2 (by omega) p2 (fun t ht => ?_) (fun t c ht hc' => by rw [e2, sF_o _ _ _ _ (by decide), f1.2 31 (by decide) (by decide)]; exact q2 t c ht hc') (fun c hc' => absurd hc' (by omega))
      rw [e2, sF_same]
      by_cases z : t = h
      · rw [z, upd_s]
      · rw [upd_n _ _ z, f1.2 30 (by decide) (by decide)]; exact q1 t (by omega)
  refine ⟨litIn 1 (by decide) (by decide), ?_⟩
  rw [c1, sh]
  refine mFrom (l := 0) (h := 2 ^ A 1 - 1) (h1 := fun _ => ⟨fun z => absurd z (by decide), fun _ => mbits rfl s64 ?_⟩) (h0 := fun z => absurd ⟨s, (by omega), (by omega), rfl⟩ z)
  have bl := bitsN_le (s := s)
  rw [show ((4 : Int32) < nI (bitsN s)) = (4 < bitsN s) by rw [show (4 : Int32) = nI 4 from rfl, nlt (by omega) (by omega)]]
  refine ⟨fun z => absurd z (by omega), fun _ => mFrom (l := 1) (h := 24) (h1 := fun _ => ⟨fun z => absurd z (by decide), fun _ => ⟨fun hm => ⟨litIn 3 (by decide) (by decide), ?_⟩, neg⟩⟩) (h0 := fun z => absurd ⟨a1, ha, ha2, rfl⟩ z)⟩
  rw [c3 hy, nadd, L1000, nle (by omega) (by omega)]
  have st := look H 0 y (by omega) (PMr.refl y) hm (fun t ht => absurd ht (by omega)) (fun t b ht => absurd ht (by omega))
  refine ⟨fun hle => ?_, fun hgt => ⟨litIn 3 (by decide) (by decide), fun v4 e4 => ?_⟩⟩
  · have : H = a1 := by rw [hH]; split <;> omega
    rw [this] at st; exact st
  · rw [nsub (by omega)] at e4
    have : H = 1000 - A 3 := by rw [hH]; split <;> omega
    rw [this] at st
    rw [e4]; exact st
theorem op_plan {a0 a1 a2 : Int32} (h : RelA TXd A B x y) : VC_X11_plan_0 (fun r x' => VC_plan (fun r' y' => r = r' ∧ RelT TXd x' y') a0 a1 a2 y) a0 a1 a2 x := by
  obtain ⟨g1, -, g3, -, g5, -⟩ := id h
  obtain ⟨b0, b1, b2, b3, b4, b5, b6, b7, b8, b9⟩ := g1.b
  obtain ⟨o0, l0, jc0, jr0⟩ := judge_ex h (l := 0) (by decide)
  obtain ⟨o1, l1, jc1, jr1⟩ := judge_ex h (l := 1) (by decide)
  have p6 : 2 ^ A 1 ≤ 64 := pow6 b1
  have p0 : 0 < 2 ^ A 1 := Nat.two_pow_pos _
  have c1 : y.2.2.1 0 (1 : Int32).toNatClampNeg = nI (A 1) := enc_cell (k := 1) g5 (by decide) (by decide)
  have sh0 : (1 : Int32) <<< (nI (A 1) &&& 31) = nI (2 ^ A 1) := by rw [L1, L31, nshl1 (by omega)]
  have sh : (1 : Int32) <<< (nI (A 1) &&& 31) - 1 = nI (2 ^ A 1 - 1) := by rw [sh0, L1, nsub (by omega)]
  have bad : ¬ (∃ s, s < 2 ^ A 1 ∧ a0 = nI s ∧ bitsN s ≤ 4 ∧ isFrom a1 1 24) → VC_plan (fun r' y' => (-1000000 : Int32) = r' ∧ RelT TXd x y') a0 a1 a2 y := fun hn K hK => by
    refine ⟨litIn 1 (by decide) (by decide), ?_⟩
    rw [c1, sh]
    refine mFrom (l := 0) (h := 2 ^ A 1 - 1) (h1 := fun i1 => ⟨fun z => absurd z (by decide), fun _ => ?_⟩) (h0 := fun _ => ⟨fun _ => ⟨rfl, A, B, h⟩, fun z => absurd rfl z⟩)
    obtain ⟨s, -, s2, rfl⟩ := i1
    have bl := bitsN_le (s := s)
    refine mbits rfl (by omega) ?_
    rw [show ((4 : Int32) < nI (bitsN s)) = (4 < bitsN s) by rw [show (4 : Int32) = nI 4 from rfl, nlt (by omega) (by omega)]]
    refine ⟨fun _ => ⟨rfl, A, B, h⟩, fun hb => ?_⟩
    exact mFrom (l := 1) (h := 24) (h1 := fun i2 => absurd ⟨s, (by omega), rfl, (by omega), i2⟩ hn) (h0 := fun _ => ⟨fun _ => ⟨rfl, A, B, h⟩, fun z => absurd rfl z⟩)
  unfold VC_X11_plan_0
  rw [g3.2.1.1, sh0]
  refine ⟨fun hlt => bad (fun ⟨s, s1, s2, _⟩ => absurd hlt (by rw [s2]; exact nI_pos (by omega))), fun hge => ⟨fun hle => bad (fun ⟨s, s1, s2, _⟩ => absurd hle (by rw [s2]; exact nI_ge s1 (by omega))), fun hl => ?_⟩⟩
  obtain ⟨s, hs, rfl⟩ := (isOne_iff (n := 2 ^ A 1) (by omega)).mpr ⟨hge, hl⟩
  have bl := bitsN_le (s := s)
  have us : ∀ s', s' < 2 ^ A 1 → nI s = nI s' → s' = s := fun s' h1 e => ((nI_eq (by omega) (by omega)).mp e).symm
  refine bc rfl (by omega) ?_
  rw [show ((4 : Int32) < nI (bitsN s)) = (4 < bitsN s) by rw [show (4 : Int32) = nI 4 from rfl, nlt (by omega) (by omega)]]
  refine ⟨fun hb => bad (fun ⟨s', s1, s2, s3, _⟩ => by rw [us s' s1 s2] at s3; omega), fun hb => ?_⟩
  refine wFrom (l := 1) (h := 24) (h1 := fun i2 => ⟨fun _ => ?_, fun z => absurd z (by decide)⟩) (h0 := fun n => ⟨fun z => absurd rfl z, fun _ => bad (fun ⟨_, _, _, _, z⟩ => n z)⟩)
  obtain ⟨a, ha, ha2, rfl⟩ := i2
  have hsm : ∀ h, smV o0 (A 3 + h) ≤ 40 := fun h => smV_le l0 _
  have hc : ∀ h b, coV o1 A b (A 3 + h) ≤ 99 := fun h b => coV_le l1 _ _ _
  have hk : kbOK A := ⟨b1, fun k hk => ⟨(g1.2.2.2.1 k hk).2.2.2, (g1.2.2.2.1 k hk).2.1⟩⟩
  have hH2 : (if 1000 - A 3 < a then 1000 - A 3 else a) ≤ 24 := by split <;> omega
  refine c_look g1 g3 jc0 jc1 ha ha2 rfl (fun x1 p1 la1 => ?_)
  refine c_choose g1 (p1.R g1 g3) hsm hc hk la1 hH2 hs (by omega) (fun x2 kO W p2 hW i2 full tab => ?_)
  have p12 := p1.trans p2
  refine c_answer g1 hc hk hH2 hW i2 full tab (fun r ar => ?_)
  refine r_plan g1 g5 jr0 jr1 l0 l1 hs (by omega) ha ha2 rfl (fun r' y' ar' py => ⟨?_, h.step p12.X py.Y g1 (p12.R g1 g3) (py.e g5) rfl⟩)
  obtain ⟨u1, u2, u3, u4⟩ := ar
  obtain ⟨v1, v2, v3, v4⟩ := ar'
  by_cases z1 : a2 = -1
  · rw [u1 z1, v1 z1]
  by_cases z2 : a2 = -2
  · rw [u2 z2, v2 z2]
  by_cases z3 : isOne a2 (beF A (fun h => smV o0 (A 3 + h)) (fun h b => coV o1 A b (A 3 + h)) (if 1000 - A 3 < a then 1000 - A 3 else a) s 0).2.1
  · obtain ⟨i, hi, ei⟩ := z3
    rw [u3 i ei hi, v3 i ei hi]
  · rw [u4 z1 z2 z3, v4 z1 z2 z3]
end PLANOP
