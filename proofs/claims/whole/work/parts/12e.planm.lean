/-! plan: the reference's side -/
def dif (f s : Nat) : Nat := f ^^^ (f &&& s)
theorem dif_bit (f s t : Nat) : (dif f s).testBit t = (f.testBit t && !s.testBit t) := by
  unfold dif
  rw [Nat.testBit_xor, Nat.testBit_and]
  cases f.testBit t <;> simp
theorem ndif {f s : Nat} (hf : f < 2147483648) : nI f &&& (nI s ^^^ -nI 1) = nI (dif f s) := by
  apply Int32.toBitVec_inj.mp
  rw [Int32.toBitVec_and, nxm, nbv, nbv]
  apply BitVec.eq_of_getLsbD_eq
  intro t ht
  simp only [BitVec.getLsbD_and, BitVec.getLsbD_not, BitVec.getLsbD_ofNat, ht, decide_true, Bool.true_and, dif_bit]
theorem dif_lt {f s n : Nat} (h : f < 2 ^ n) : dif f s < 2 ^ n := by
  apply Nat.lt_pow_two_of_testBit
  intro i hi
  rw [dif_bit, Nat.testBit_lt_two_pow (Nat.lt_of_lt_of_le h (Nat.pow_le_pow_right (by decide) hi))]
  rfl
theorem dif_or (f s k : Nat) : dif f (s ||| 2 ^ k) = clr (dif f s) k := by
  apply Nat.eq_of_testBit_eq
  intro t
  rw [dif_bit, clr_bit, dif_bit, Nat.testBit_or, Nat.testBit_two_pow]
  cases f.testBit t <;> cases s.testBit t <;> simp
theorem dif_0 (f : Nat) : dif f 0 = f := by
  apply Nat.eq_of_testBit_eq
  intro t
  rw [dif_bit, Nat.zero_testBit]
  simp
theorem or_gt {D k : Nat} (h : D.testBit k = false) : D < D ||| 2 ^ k := by
  have h1 : D ≤ D ||| 2 ^ k := Nat.left_le_or
  by_cases z : D = D ||| 2 ^ k
  · have := congrArg (fun v => v.testBit k) z
    simp only [h, Nat.testBit_or, Nat.testBit_two_pow] at this
    simp at this
  · omega
def QFr (y y' : MS) : Prop := (∀ k, k ≠ 28 → k ≠ 29 → y'.1 k = y.1 k) ∧ y'.2 = y.2
theorem QFr.refl (y : MS) : QFr y y := ⟨fun _ _ _ => rfl, rfl⟩
theorem QFr.trans {x y z : MS} (h : QFr x y) (g : QFr y z) : QFr x z := ⟨fun k h1 h2 => (g.1 k h1 h2).trans (h.1 k h1 h2), g.2.trans h.2⟩
theorem QFr.I {y y' : MS} (h : QFr y y') (k : Nat) (v : Int32) (hk : k = 28 ∨ k = 29) : QFr y (sI y' k v) := ⟨fun j h1 h2 => by rw [sI_o _ _ _ _ (by omega), h.1 j h1 h2], h.2⟩
theorem QFr.e {y y' : MS} {A : Nat → Nat} (h : QFr y y') (e : y.2.2.1 0 = enc A) : y'.2.2.1 0 = enc A := by rw [h.2]; exact e
def laM (S : MS) (A : Nat → Nat) (sm : Nat → Nat) (co : Nat → Nat → Nat) (H : Nat) : Prop := (∀ h, h < H → S.2.2.1 30 h = nI (sm h)) ∧ ∀ h b, h < H → b < A 0 → S.2.2.1 31 (6 * h + b) = nI (co h b)
theorem QFr.la {y y' : MS} {A : Nat → Nat} {sm : Nat → Nat} {co : Nat → Nat → Nat} {H : Nat} (h : QFr y y') (l : laM y A sm co H) : laM y' A sm co H := by
  unfold laM; rw [h.2]; exact l
section REF
variable {A : Nat → Nat} {sm : Nat → Nat} {co : Nat → Nat → Nat} {H : Nat}
theorem r_done {Post : Int32 → MS → Prop} {S : MS} {k lo hi h0 : Nat} (hI : Inv A) (hy : S.2.2.1 0 = enc A) (hla : laM S A sm co H) (hH : H ≤ 24) (hs : ∀ h, sm h ≤ 40) (hc : ∀ h b, co h b ≤ 99) (hk : k < A 1) (hlo : lo < A 0) (hhi : hi < A 0) (hh : h0 ≤ H)
    (h1 : ∀ d S', doF A sm co H k lo hi h0 = some d → QFr S S' → S'.1 29 = nI (d.1 + 1) → S'.1 28 = iI d.2 → Post 1 S') (h0' : ∀ S', doF A sm co H k lo hi h0 = none → QFr S S' → Post 0 S') : VC_isDone Post (nI k) (nI (10 * lo + hi)) (nI h0) (nI H) S := by
  obtain ⟨b0, b1, b2, b3, b4, b5, b6, b7, b8, b9⟩ := hI.b
  have cl := hI.2.1 lo hlo
  have ch := hI.2.1 hi hhi
  have kk := hI.2.2.2.1 k hk
  have lb18 : lbF A lo hi ≤ 18 := by unfold lbF; split <;> omega
  have q0 : 40 + 3 * nI k = nI (40 + 3 * k) := by rw [L40, L3, nmul, nadd]
  have q1 : nI (40 + 3 * k) + 1 = nI (41 + 3 * k) := by rw [L1, nadd]; congr 1; omega
  have q2 : nI (40 + 3 * k) + 2 = nI (42 + 3 * k) := by rw [L2, nadd]; congr 1; omega
  have get0 : ∀ {P : Int32 → MS → Prop} {T : MS} {b : Nat}, QFr S T → b < 6 → P (nI (A (10 + 5 * b))) T → VC_get P (nI b) 0 T := fun fT hb hp => mget (fT.e hy) rfl (k := 0) rfl hb (by decide) (by rw [Nat.add_zero]; exact hp)
  have get1 : ∀ {P : Int32 → MS → Prop} {T : MS} {b : Nat}, QFr S T → b < 6 → P (nI (A (11 + 5 * b))) T → VC_get P (nI b) 1 T := fun {P T b} fT hb hp => mget (fT.e hy) rfl (k := 1) rfl hb (by decide) (by rw [show 10 + 5 * b + 1 = 11 + 5 * b by omega]; exact hp)
  intro K hK
  have loop : ∀ n h due : Nat, ∀ (g : Int) (p q : Bool) (T : MS), h + n = H → due ≤ 30 → QFr S T → T.1 28 = iI g → doF A sm co H k lo hi h0 = (runF A sm co lo hi n h due g p q).elim none (fun d => if vOK (A (41 + 3 * k)) (vmF A lo hi d.2.2.1 d.2.2.2) then some (d.1, d.2.1) else none) → K (.inl (nI k, nI (10 * lo + hi), nI h0, nI H, nI lo, nI hi, nI due, nI (vmF A lo hi p q), nI h)) T := by
    intro n
    induction n with
    | zero =>
      intro h due g p q T hn hd f' hg he
      have eh : h = H := (by omega)
      refine hK _ _ ⟨fun _ => h0' T he f', fun z => absurd (by rw [eh]; exact Int32.le_refl _) z⟩
    | succ n ih =>
      intro h due g p q T hn hd f' hg he
      have cb := cbF_le (A := A) (sm := sm) (lo := lo) (hi := hi) (due := due) (h := h)
      have fb := fbF_le (A := A) (lo := lo) (c := cbF A sm lo hi due h)
      have sh := hs h
      refine hK _ _ ⟨fun z => absurd z (nI_ge (by omega) (by omega)), fun _ => get0 f' (by omega) ?_⟩
      -- the last step of an hour
      have s6 : ∀ (T' : MS) (u v : Bool), QFr S T' → T'.1 28 = iI (g - spF A co lo hi h (cbF A sm lo hi due h)) → u = decide (0 < fbF A lo (cbF A sm lo hi due h)) → v = decide (0 < cbF A sm lo hi due h - fbF A lo (cbF A sm lo hi due h)) → ∀ w t : Nat, w = (vmF A lo hi p q ||| (if u = true then 2 ^ A (11 + 5 * lo) else 0)) → t = (if v = true then 2 ^ A (11 + 5 * hi) else 0) → K (.inr (.inr (.inr (.inr (.inr (nI k, nI (10 * lo + hi), nI h0, nI H, nI lo, nI hi, nI due, nI w, nI h, nI (cbF A sm lo hi due h), nI (fbF A lo (cbF A sm lo hi due h)), nI w, nI t)))))) T' := by
        intro T' u v fT gT eu ev w t ew et
        refine hK _ _ (fun v23 e23 v24 e24 v25 e25 S26 e26 => ?_)
        have e23' : v23 = nI (vmF A lo hi (p || u) (q || v)) := by
          rw [e23, nor, ew, et]
          unfold vmF
          rw [or_upd, Nat.or_assoc]
        rw [nsub cb] at e24
        rw [nI_1] at e25
        have f26 : QFr S S26 := by rw [e26]; exact fT.I _ _ (Or.inr rfl)
        have g26 : S26.1 28 = iI (g - spF A co lo hi h (cbF A sm lo hi due h)) := by rw [e26, sI_o _ _ _ _ (by decide), gT]
        have i26 : S26.1 29 = nI (h + 1) := by rw [e26, sI_s, e25]
        rw [e24, e23', show (nI (due - cbF A sm lo hi due h) = (0 : Int32)) = (due - cbF A sm lo hi due h = 0) by rw [show (0 : Int32) = nI 0 from rfl, neq (by omega) (by omega)]]
        refine ⟨fun ne v27 e27 => ?_, fun e0 => ?_⟩
        · rw [e27, nI_1]
          refine ih (h + 1) _ _ _ _ S26 (by omega) (by omega) f26 g26 ?_
          rw [he, eu, ev]
          conv => lhs; unfold runF
          rw [if_neg ne]
        · rw [q0, q1, enc_cell (f26.e hy) (by omega) (by omega)]
          refine ⟨vp_in_nI (by omega) (by decide), ?_⟩
          have hr : runF A sm co lo hi (n + 1) h due g p q = some (h, g - spF A co lo hi h (cbF A sm lo hi due h), p || u, q || v) := by
            unfold runF
            rw [if_pos e0, eu, ev]
          rw [hr] at he
          simp only [Option.elim_some] at he
          have hsub : (nI (A (41 + 3 * k)) &&& (nI (vmF A lo hi (p || u) (q || v)) ^^^ -1) = 0) = (vOK (A (41 + 3 * k)) (vmF A lo hi (p || u) (q || v)) = true) := by
            rw [L1, L0, nsubset (by omega), eq_iff_iff, vOK_iff]
          rw [hsub]
          exact ⟨fun hn' => h0' S26 (by rw [he, if_neg hn']) f26, fun hy' => h1 (h, g - spF A co lo hi h (cbF A sm lo hi due h)) S26 (by rw [he, if_pos hy']) f26 i26 g26⟩
      have s5 : ∀ (T' : MS) (u : Bool) (t : Nat), QFr S T' → T'.1 28 = iI (g - spF A co lo hi h (cbF A sm lo hi due h)) → u = decide (0 < fbF A lo (cbF A sm lo hi due h)) → t = (if u = true then 2 ^ A (11 + 5 * lo) else 0) → K (.inr (.inr (.inr (.inr (.inl (nI k, nI (10 * lo + hi), nI h0, nI H, nI lo, nI hi, nI due, nI (vmF A lo hi p q), nI h, nI (cbF A sm lo hi due h), nI (fbF A lo (cbF A sm lo hi due h)), nI (vmF A lo hi p q), nI t)))))) T' := by
        intro T' u t fT gT eu et
        refine hK _ _ (fun v20 e20 => ?_)
        rw [nor] at e20
        rw [e20, nle (by omega) (by omega)]
        refine ⟨fun hle => s6 T' u false fT gT eu ?_ _ 0 (by rw [et]) rfl, fun hgt => get1 fT (by omega) ?_⟩
        · symm; simp; omega
        · have se : (1 : Int32) <<< (nI (A (11 + 5 * hi)) &&& 31) = nI (2 ^ A (11 + 5 * hi)) := by rw [L1, L31, nshl1 (by omega)]
          rw [se]
          exact s6 T' u true fT gT eu (by symm; simp; omega) _ _ (by rw [et]) rfl
      have s4 : K (.inr (.inr (.inr (.inl (nI k, nI (10 * lo + hi), nI h0, nI H, nI lo, nI hi, nI due, nI (vmF A lo hi p q), nI h, nI (cbF A sm lo hi due h), nI (fbF A lo (cbF A sm lo hi due h))))))) T := by
        have a1 : 6 * nI h + nI lo = nI (6 * h + lo) := by rw [L6, nmul, nadd]
        have a2 : 6 * nI h + nI hi = nI (6 * h + hi) := by rw [L6, nmul, nadd]
        have lT := f'.la hla
        refine hK _ _ ?_
        show vp_in (6 * nI h + nI lo) 144 ∧ _
        rw [a1, a2]
        refine ⟨vp_in_nI (by omega) (by decide), vp_in_nI (by omega) (by decide), fun v16 e16 S17 e17 => ?_⟩
        rw [ncl (by omega), ncl (by omega), hg, lT.2 h lo (by omega) hlo, lT.2 h hi (by omega) hhi, nsub fb, nmul, nmul, nadd, ← iI_n, iI_sub] at e16
        have e16' : v16 = iI (g - spF A co lo hi h (cbF A sm lo hi due h)) := e16
        have f17 : QFr S S17 := by rw [e17]; exact f'.I _ _ (Or.inl rfl)
        have g17 : S17.1 28 = iI (g - spF A co lo hi h (cbF A sm lo hi due h)) := by rw [e17, sI_s, e16']
        rw [show (nI (fbF A lo (cbF A sm lo hi due h)) ≤ (0 : Int32)) = (fbF A lo (cbF A sm lo hi due h) ≤ 0) by rw [show (0 : Int32) = nI 0 from rfl, nle (by omega) (by omega)]]
        refine ⟨fun hle => s5 S17 false 0 f17 g17 ?_ rfl, fun hgt => get1 f17 (by omega) ?_⟩
        · symm; simp; omega
        · have se : (1 : Int32) <<< (nI (A (11 + 5 * lo)) &&& 31) = nI (2 ^ A (11 + 5 * lo)) := by rw [L1, L31, nshl1 (by omega)]
          rw [se]
          exact s5 S17 true _ f17 g17 (by symm; simp; omega) rfl
      have s3 : K (.inr (.inr (.inl (nI k, nI (10 * lo + hi), nI h0, nI H, nI lo, nI hi, nI due, nI (vmF A lo hi p q), nI h, nI (cbF A sm lo hi due h))))) T := by
        refine hK _ _ ?_
        unfold B_isDone
        refine get0 f' (by omega) ?_
        rw [nle (by omega) (by omega)]
        refine ⟨fun hle => ?_, fun hgt => get0 f' (by omega) ?_⟩
        · have : fbF A lo (cbF A sm lo hi due h) = cbF A sm lo hi due h := if_neg (by omega)
          rw [this] at s4; exact s4
        · have : fbF A lo (cbF A sm lo hi due h) = A (10 + 5 * lo) := if_pos (by omega)
          rw [this] at s4; exact s4
      have s2 : ∀ t : Nat, A (10 + 5 * lo) + t = lbF A lo hi → K (.inr (.inl (nI k, nI (10 * lo + hi), nI h0, nI H, nI lo, nI hi, nI due, nI (vmF A lo hi p q), nI h, nI (A (10 + 5 * lo)), nI t))) T := fun t et => by
        refine hK _ _ (fun v10 e10 => ?_)
        rw [nadd, et] at e10
        rw [e10, ncl (by omega), (f'.la hla).1 h (by omega), nle (by omega) (by omega), nle (by omega) (by omega)]
        have cv : cbF A sm lo hi due h = if (if sm h < lbF A lo hi then sm h else lbF A lo hi) < due then (if sm h < lbF A lo hi then sm h else lbF A lo hi) else due := rfl
        refine ⟨vp_in_nI (by omega) (by decide), fun z1 => ?_, fun z1 => ⟨vp_in_nI (by omega) (by decide), fun v11 e11 => ?_⟩⟩
        · rw [if_neg (show ¬ sm h < lbF A lo hi by omega)] at cv
          refine ⟨fun z2 => ?_, fun z2 => ?_⟩
          · have : cbF A sm lo hi due h = lbF A lo hi := by rw [cv]; split <;> omega
            rw [this] at s3; exact s3
          · have : cbF A sm lo hi due h = due := by rw [cv]; split <;> omega
            rw [this] at s3; exact s3
        · rw [if_pos (show sm h < lbF A lo hi by omega)] at cv
          rw [e11, nle (by omega) (by omega)]
          refine ⟨fun z2 => ?_, fun z2 => ?_⟩
          · have : cbF A sm lo hi due h = sm h := by rw [cv]; split <;> omega
            rw [this] at s3; exact s3
          · have : cbF A sm lo hi due h = due := by rw [cv]; split <;> omega
            rw [this] at s3; exact s3
      rw [neq (by omega) (by omega)]
      refine ⟨fun ne => get0 f' (by omega) (s2 _ (if_neg ne).symm), fun e => s2 0 (if_pos e).symm⟩
  refine ⟨by decide, fun v1 e1 => ⟨by decide, fun v2 e2 => ?_⟩⟩
  rw [L10, pk_div (by omega) (by decide) (by decide), show (10 * lo + hi) / 10 = lo by omega] at e1
  rw [L10, pk_rem (by omega) (by decide) (by decide), show (10 * lo + hi) % 10 = hi by omega] at e2
  rw [q0, q2, e1, e2]
  refine ⟨vp_in_nI (by omega) (by decide), fun v3 e3 => ⟨vp_in_nI (by omega) (by decide), fun v4 e4 S5 e5 => ?_⟩⟩
  rw [enc_cell hy (by omega) (by omega)] at e3 e4
  rw [e3]
  have v0 : vmF A lo hi false false = 0 := by simp [vmF]
  have st := loop (H - h0) h0 (A (40 + 3 * k)) (A (42 + 3 * k)) false false S5 (by omega) (by omega) (by rw [e5]; exact (QFr.refl S).I _ _ (Or.inl rfl)) (by rw [e5, sI_s, e4]; rfl) rfl
  rw [v0] at st
  exact st
end REF
