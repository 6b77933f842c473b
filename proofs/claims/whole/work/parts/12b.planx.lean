/-! plan: the class's side, one run -/
theorem nmin {a b : Nat} (ha : a < 2147483648) (hb : b < 2147483648) : (if nI a < nI b then nI a else nI b) = nI (if a < b then a else b) := by
  rw [nite ha hb]; split <;> rfl
theorem or_upd (a b : Nat) (p q u v : Bool) : ((if (p || u) = true then a else 0) ||| (if (q || v) = true then b else 0) : Nat) = ((if p = true then a else 0) ||| (if q = true then b else 0)) ||| ((if u = true then a else 0) ||| (if v = true then b else 0)) := by
  apply Nat.eq_of_testBit_eq
  intro t
  simp only [Nat.testBit_or]
  cases p <;> cases q <;> cases u <;> cases v <;> simp <;> cases a.testBit t <;> cases b.testBit t <;> first | rfl | decide | simp
theorem or_lt {a b n : Nat} {p q : Bool} (ha : a < n) (hb : b < n) : ((if p = true then 2 ^ a else 0) ||| (if q = true then 2 ^ b else 0) : Nat) < 2 ^ n := by
  refine Nat.or_lt_two_pow ?_ ?_
  · split
    · exact Nat.pow_lt_pow_right (by decide) ha
    · exact Nat.two_pow_pos n
  · split
    · exact Nat.pow_lt_pow_right (by decide) hb
    · exact Nat.two_pow_pos n
theorem or_bit {a b t : Nat} {p q : Bool} : (((if p = true then 2 ^ a else 0) ||| (if q = true then 2 ^ b else 0) : Nat).testBit t = true) ↔ (p = true ∧ a = t) ∨ (q = true ∧ b = t) := by
  rw [Nat.testBit_or]
  cases p <;> cases q <;> simp [Nat.testBit_two_pow]
/-- only the run's end and what is left change -/
def DFr (x x' : XS) : Prop := (∀ k, k ≠ 1634 → k ≠ 1635 → x'.1 k = x.1 k) ∧ x'.2 = x.2
theorem DFr.refl (x : XS) : DFr x x := ⟨fun _ _ _ => rfl, rfl⟩
theorem DFr.I {x x' : XS} (h : DFr x x') (k : Nat) (v : Int32) (hk : k = 1634 ∨ k = 1635) : DFr x (xI x' k v) := ⟨fun j h1 h2 => by rw [xI_n _ _ (by omega), h.1 j h1 h2], h.2⟩
def PFr (x x' : XS) : Prop := (∀ k, k ≠ 1538 → k < 1632 ∨ 1636 ≤ k → x'.1 k = x.1 k) ∧ (∀ k, k < 49 ∨ 59 ≤ k → x'.2.1 k = x.2.1 k) ∧ x'.2.2 = x.2.2
theorem PFr.refl (x : XS) : PFr x x := ⟨fun _ _ _ => rfl, fun _ _ => rfl, rfl⟩
theorem PFr.trans {x y z : XS} (h : PFr x y) (g : PFr y z) : PFr x z := ⟨fun k h1 h2 => (g.1 k h1 h2).trans (h.1 k h1 h2), fun k hk => (g.2.1 k hk).trans (h.2.1 k hk), g.2.2.trans h.2.2⟩
theorem PFr.I {x x' : XS} (h : PFr x x') (k : Nat) (v : Int32) (hk : 1632 ≤ k ∧ k < 1636) : PFr x (xI x' k v) := ⟨fun j h1 h2 => by rw [xI_n _ _ (by omega), h.1 j h1 h2], h.2.1, h.2.2⟩
theorem PFr.F {x x' : XS} (h : PFr x x') (k : Nat) (f : Nat → Int32) (hk : 49 ≤ k ∧ k < 59) : PFr x (xF x' k f) := ⟨h.1, fun j hj => by rw [xF_o _ _ _ _ (by omega), h.2.1 j hj], h.2.2⟩
theorem JFr.P {x x' : XS} (h : JFr x x') : PFr x x' := ⟨fun k h1 _ => h.1 k h1, fun k hk => h.2.1 k (by omega) (by omega), h.2.2⟩
theorem DFr.P {x x' : XS} (h : DFr x x') : PFr x x' := ⟨fun k _ h2 => h.1 k (by omega) (by omega), fun k _ => by rw [h.2], by rw [h.2]⟩
theorem PFr.X {x x' : XS} (h : PFr x x') : XFr x x' := by
  refine ⟨?_, ?_, h.2.2, h.2.1 _ (by decide), h.1 _ (by decide) (by decide), h.1 _ (by decide) (by decide), h.1 _ (by decide) (by decide), h.1 _ (by decide) (by decide)⟩
  · funext k; unfold kI; split
    · rw [h.1 _ (by omega) (by omega)]
    · rfl
  · funext k; unfold kF; split
    · rw [h.2.1 _ (by omega)]
    · rfl
theorem PFr.R {x x' : XS} {A : Nat → Nat} (h : PFr x x') (hI : Inv A) (hx : RX x.1 x.2.1 A) : RX x'.1 x'.2.1 A := RX_frame hI hx ⟨fun k hk => h.1 k (by omega) (by omega), fun k hk => h.2.1 k (by omega)⟩
section RUN
variable {A : Nat → Nat} {sm : Nat → Nat} {co : Nat → Nat → Nat} {H : Nat}
/-- what is looked ahead: arrays of smokes and prices -/
def laX (S : XS) (A : Nat → Nat) (sm : Nat → Nat) (co : Nat → Nat → Nat) (H : Nat) : Prop := S.1 1632 = nI H ∧ (∀ h, h < H → S.2.1 52 h = nI (sm h)) ∧ ∀ h b, h < H → b < A 0 → S.2.1 53 (h * 6 + b) = nI (co h b)
theorem c_doneBy {Post : Int32 → XS → Prop} {S : XS} {k lo hi h0 : Nat} (hI : Inv A) (hx : RX S.1 S.2.1 A) (hla : laX S A sm co H) (hH : H ≤ 24) (hs : ∀ h, sm h ≤ 40) (hc : ∀ h b, co h b ≤ 99) (hk : k < A 1) (hlo : lo < A 0) (hhi : hi < A 0) (hh : h0 ≤ H)
    (h1 : ∀ d S', doF A sm co H k lo hi h0 = some d → DFr S S' → S'.1 1634 = nI d.1 → S'.1 1635 = iI d.2 → Post 1 S') (h0' : ∀ S', doF A sm co H k lo hi h0 = none → DFr S S' → Post 0 S') : VC_X4_isDoneBy_51_1 Post (nI k) (nI lo) (nI hi) (nI h0) S := by
  obtain ⟨b0, b1, b2, b3, b4, b5, b6, b7, b8, b9⟩ := hI.b
  have cl := hI.2.1 lo hlo
  have ch := hI.2.1 hi hhi
  have kk := hI.2.2.2.1 k hk
  obtain ⟨w1, w2, w3⟩ := hx.2.1.2 k hk
  have fl := (hx.1.2 lo hlo).1
  have fh := (hx.1.2 hi hhi).1
  have inlo : vp_in (nI lo) 6 := vp_in_nI (by omega) (by decide)
  have ink : vp_in (nI k) 6 := vp_in_nI (by omega) (by decide)
  have lb18 : lbF A lo hi ≤ 18 := by unfold lbF; split <;> omega
  intro K hK
  -- the hours
  have loop : ∀ n h due : Nat, ∀ (g : Int) (p q : Bool) (S' : XS), h + n = H → due ≤ 30 → DFr S S' → S'.1 1635 = iI g → doF A sm co H k lo hi h0 = (runF A sm co lo hi n h due g p q).elim none (fun d => if vOK (A (41 + 3 * k)) (vmF A lo hi d.2.2.1 d.2.2.2) then some (d.1, d.2.1) else none) → K (.inr (.inl (nI k, nI lo, nI hi, nI h0, nI (A (10 + 5 * lo)), nI (lbF A lo hi), nI due, nI (gmF lo hi p q), nI h))) S' := by
    intro n
    induction n with
    | zero =>
      intro h due g p q S' hn hd f' hg he
      have eh : h = H := (by omega)
      refine hK _ _ ⟨fun _ => h0' S' he f', fun z => absurd (by rw [f'.1 1632 (by decide) (by decide), hla.1, eh]; exact Int32.le_refl _) z⟩
    | succ n ih =>
      intro h due g p q S' hn hd f' hg he
      have cb := cbF_le (A := A) (sm := sm) (lo := lo) (hi := hi) (due := due) (h := h)
      have fb := fbF_le (A := A) (lo := lo) (c := cbF A sm lo hi due h)
      have sh := hs h
      refine hK _ _ ⟨fun z => absurd z (by rw [f'.1 1632 (by decide) (by decide), hla.1]; exact nI_ge (by omega) (by omega)), fun _ => ⟨vp_in_nI (by omega) (by decide), fun v5 e5 v6 e6 v7 e7 => ?_⟩⟩
      rw [ncl (by omega), f'.2, hla.2.1 h (by omega), nmin (by omega) (by omega)] at e5
      have m1 : (if sm h < lbF A lo hi then sm h else lbF A lo hi) ≤ 40 := by split <;> omega
      rw [nmin (by omega) (by omega)] at e5
      have e5' : v5 = nI (cbF A sm lo hi due h) := e5
      rw [e5', nmin (by omega) (by omega)] at e6
      have e6' : v6 = nI (fbF A lo (cbF A sm lo hi due h)) := e6
      rw [e5', e6', nsub fb] at e7
      have a1 : nI h * 6 + nI lo = nI (h * 6 + lo) := by rw [L6, nmul, nadd]
      have a2 : nI h * 6 + nI hi = nI (h * 6 + hi) := by rw [L6, nmul, nadd]
      rw [a1, a2]
      refine ⟨vp_in_nI (by omega) (by decide), vp_in_nI (by omega) (by decide), fun v8 e8 S9 e9 => ?_⟩
      rw [ncl (by omega), ncl (by omega), hg, e6', e7, f'.2, hla.2.2 h lo (by omega) hlo, hla.2.2 h hi (by omega) hhi, nmul, nmul, nadd, ← iI_n, iI_sub] at e8
      have e8' : v8 = iI (g - spF A co lo hi h (cbF A sm lo hi due h)) := e8
      have f9 : DFr S S9 := by rw [e9]; exact f'.I _ _ (Or.inr rfl)
      have g9 : S9.1 1635 = iI (g - spF A co lo hi h (cbF A sm lo hi due h)) := by rw [e9, xI_s, e8']
      -- behind the bits
      have nx : ∀ t1 t2 : Nat, t1 = (if decide (0 < fbF A lo (cbF A sm lo hi due h)) = true then 2 ^ lo else 0) → t2 = (if decide (0 < cbF A sm lo hi due h - fbF A lo (cbF A sm lo hi due h)) = true then 2 ^ hi else 0) → K (.inr (.inr (nI k, nI lo, nI hi, nI h0, nI (A (10 + 5 * lo)), nI (lbF A lo hi), nI due, nI (gmF lo hi p q), nI h, v5, v6, v7, nI (gmF lo hi p q), nI t1, nI t2))) S9 := by
        intro t1 t2 et1 et2
        refine hK _ _ (fun v10 e10 v11 e11 => ?_)
        have e10' : v10 = nI (gmF lo hi (p || decide (0 < fbF A lo (cbF A sm lo hi due h))) (q || decide (0 < cbF A sm lo hi due h - fbF A lo (cbF A sm lo hi due h)))) := by
          rw [e10, nor, nor, et1, et2]
          unfold gmF
          rw [or_upd]
        rw [e5', nsub cb] at e11
        rw [e11, L0, neq (by omega) (by omega), e10']
        refine ⟨fun ne v12 e12 => ?_, fun e0 S13 e13 => ⟨ink, ?_⟩⟩
        · rw [e12, nI_1]
          refine ih (h + 1) _ _ _ _ S9 (by omega) (by omega) f9 g9 ?_
          rw [he]
          conv => lhs; unfold runF
          rw [if_neg ne]
        · have hr : runF A sm co lo hi (n + 1) h due g p q = some (h, g - spF A co lo hi h (cbF A sm lo hi due h), p || decide (0 < fbF A lo (cbF A sm lo hi due h)), q || decide (0 < cbF A sm lo hi due h - fbF A lo (cbF A sm lo hi due h))) := by
            unfold runF
            rw [if_pos e0]
          rw [hr] at he
          simp only [Option.elim_some] at he
          generalize hp1 : (p || decide (0 < fbF A lo (cbF A sm lo hi due h))) = p1 at *
          generalize hq1 : (q || decide (0 < cbF A sm lo hi due h - fbF A lo (cbF A sm lo hi due h))) = q1 at *
          have f13 : DFr S S13 := by rw [e13]; exact f9.I _ _ (Or.inl rfl)
          have g64 : gmF lo hi p1 q1 < 64 := or_lt (n := 6) (by omega) (by omega)
          have i64 : S13.1 64 = nI (A 0) := by rw [f13.1 64 (by decide) (by decide)]; exact hx.1.1
          refine c_voices (V := fun i => A (11 + 5 * i)) i64 b0 g64 (fun i hi' => by rw [f13.2]; exact (hx.1.2 i hi').2.1) (fun i hi' => (hI.2.1 i hi').2.2.1) ?_
          rw [ncl (by omega), f13.2, w2]
          have hsub : (nI (A (41 + 3 * k)) &&& (nI (setR (fun i => (gmF lo hi p1 q1).testBit i) (fun i => A (11 + 5 * i)) (A 0)) ^^^ -nI 1) = nI 0) = (vOK (A (41 + 3 * k)) (vmF A lo hi p1 q1) = true) := by
            rw [nsubset (by omega), eq_iff_iff, vOK_iff]
            refine forall_congr' (fun t => imp_congr Iff.rfl ?_)
            rw [setR_bit]
            unfold vmF
            rw [or_bit]
            constructor
            · rintro ⟨b, hb, u1, u2⟩
              have := (or_bit (a := lo) (b := hi) (p := p1) (q := q1)).mp u1
              rcases this with ⟨z1, z2⟩ | ⟨z1, z2⟩
              · left; exact ⟨z1, by rw [z2]; exact u2⟩
              · right; exact ⟨z1, by rw [z2]; exact u2⟩
            · rintro (⟨z1, z2⟩ | ⟨z1, z2⟩)
              · exact ⟨lo, hlo, or_bit.mpr (Or.inl ⟨z1, rfl⟩), z2⟩
              · exact ⟨hi, hhi, or_bit.mpr (Or.inr ⟨z1, rfl⟩), z2⟩
          rw [L1, hsub]
          have g13 : S13.1 1635 = iI (g - spF A co lo hi h (cbF A sm lo hi due h)) := by rw [e13, xI_n _ _ (by decide), g9]
          refine ⟨fun hn' => h0' S13 (by rw [he, if_neg hn']) f13, fun hy => h1 (h, g - spF A co lo hi h (cbF A sm lo hi due h)) S13 (by rw [he, if_pos hy]) f13 (by rw [e13, xI_s]) g13⟩
      have t0 : (0 : Int32) = nI 0 := rfl
      have s1 : (1 : Int32) <<< (nI lo &&& 31) = nI (2 ^ lo) := by rw [L1, L31, nshl1 (by omega)]
      have s2 : (1 : Int32) <<< (nI hi &&& 31) = nI (2 ^ hi) := by rw [L1, L31, nshl1 (by omega)]
      rw [s1, s2, e6', e7, t0, nle (by omega) (by omega), nle (by omega) (by omega)]
      rw [e6', e7] at nx
      refine ⟨fun z1 => ⟨fun z2 => nx 0 0 ?_ ?_, fun z2 => nx 0 (2 ^ hi) ?_ ?_⟩, fun z1 => ⟨fun z2 => nx (2 ^ lo) 0 ?_ ?_, fun z2 => nx (2 ^ lo) (2 ^ hi) ?_ ?_⟩⟩
      · rw [if_neg (by simp; omega)]
      · rw [if_neg (by simp; omega)]
      · rw [if_neg (by simp; omega)]
      · rw [if_pos (by simp; omega)]
      · rw [if_pos (by simp; omega)]
      · rw [if_neg (by simp; omega)]
      · rw [if_pos (by simp; omega)]
      · rw [if_pos (by simp; omega)]
  have start : K (.inl (nI k, nI lo, nI hi, nI h0, nI (A (10 + 5 * lo)), nI (lbF A lo hi))) S := by
    refine hK _ _ ⟨ink, fun v2 e2 => ⟨ink, fun v3 e3 S4 e4 => ?_⟩⟩
    rw [ncl (by omega), w1] at e2
    rw [ncl (by omega), w3] at e3
    rw [e2]
    have st := loop (H - h0) h0 (A (40 + 3 * k)) (A (42 + 3 * k)) false false S4 (by omega) (by omega) (by rw [e4]; exact (DFr.refl S).I _ _ (Or.inr rfl)) (by rw [e4, xI_s, e3]; rfl) rfl
    have g0 : gmF lo hi false false = 0 := by simp [gmF]
    rw [g0] at st
    exact st
  refine ⟨inlo, fun v1 e1 => ?_⟩
  rw [ncl (by omega), fl] at e1
  rw [e1, neq (by omega) (by omega)]
  refine ⟨fun ne => ⟨vp_in_nI (by omega) (by decide), ?_⟩, fun e => ?_⟩
  · rw [ncl (by omega), fh, nadd]
    have : lbF A lo hi = A (10 + 5 * lo) + A (10 + 5 * hi) := if_neg ne
    rw [this] at start; exact start
  · have : lbF A lo hi = A (10 + 5 * lo) := if_pos e
    rw [this] at start; exact start
theorem c_look {Post : XS → Prop} {x : XS} {o0 o1 : LAW} {a1 : Nat} (hI : Inv A) (hx : RX x.1 x.2.1 A) (j0 : JTc x.2.2 (x.1 38) (x.1 39) 0 o0) (j1 : JTc x.2.2 (x.1 38) (x.1 39) 1 o1) (ha : 1 ≤ a1) (ha2 : a1 ≤ 24) (hH : H = if 1000 - A 3 < a1 then 1000 - A 3 else a1)
    (h : ∀ x', PFr x x' → laX x' A (fun h => smV o0 (A 3 + h)) (fun h b => coV o1 A b (A 3 + h)) H → Post x') : VC_X4_lookAhead_51_1_48 Post (nI a1) x := by
  obtain ⟨b0, b1, b2, b3, b4, b5, b6, b7, b8, b9⟩ := hI.b
  have hH2 : H ≤ 24 ∧ A 3 + H ≤ 1000 ∧ 0 < H := by rw [hH]; split <;> omega
  intro K hK v1 e1 S2 e2
  have ev : v1 = nI H := by
    rw [e1, hx.2.2.1.1, L1000, nsub (by omega)]
    have m1 : (if (24 : Int32) < nI a1 then 24 else nI a1) = nI a1 := if_neg (by
      rw [show (24 : Int32) = nI 24 from rfl, nlt (by omega) (by omega)]; omega)
    rw [m1, nmin (by omega) (by omega), ← hH]
    exact if_pos (by rw [show (0 : Int32) = nI 0 from rfl, nlt (by omega) (by omega)]; omega)
  have p2 : PFr x S2 := by rw [e2]; exact (PFr.refl x).I _ _ (by omega)
  have tr : ∀ {S : XS}, PFr x S → JTc S.2.2 (S.1 38) (S.1 39) 0 o0 ∧ JTc S.2.2 (S.1 38) (S.1 39) 1 o1 := fun {S} p => by
    rw [p.2.2, p.1 38 (by decide) (by decide), p.1 39 (by decide) (by decide)]; exact ⟨j0, j1⟩
  have loop : ∀ n h : Nat, ∀ S : XS, h + n = H → PFr x S → S.1 1632 = nI H → (∀ t, t < h → S.2.1 52 t = nI (smV o0 (A 3 + t))) → (∀ t b, t < h → b < A 0 → S.2.1 53 (t * 6 + b) = nI (coV o1 A b (A 3 + t))) → K (.inl (nI a1, nI h)) S := by
    intro n
    induction n with
    | zero =>
      intro t S ht p i1 s1 s2
      have et : t = H := (by omega)
      refine hK _ _ ⟨fun _ => h S p ⟨i1, fun u hu => s1 u (by omega), fun u b hu hb => s2 u b (by omega) hb⟩, fun z => absurd (by rw [i1, et]; exact Int32.le_refl _) z⟩
    | succ n ih =>
      intro t S ht p i1 s1 s2
      have hS := p.R hI hx
      refine hK _ _ ⟨fun z => absurd z (by rw [i1]; exact nI_ge (by omega) (by omega)), fun _ => ?_⟩
      rw [hS.2.2.1.1, nadd]
      refine c_smoke (tr p).1 (by omega) (fun S3 f3 => ⟨vp_in_nI (by omega) (by decide), fun S5 e5 => ?_⟩)
      rw [ncl (by omega)] at e5
      have p5 : PFr x S5 := by rw [e5]; exact (p.trans f3.P).F _ _ (by omega)
      have i5 : S5.1 1632 = nI H := by rw [e5, xF_i, f3.1 _ (by decide), i1]
      have inner : ∀ m b : Nat, ∀ S' : XS, b + m = A 0 → PFr x S' → S'.1 1632 = nI H → (∀ u, u < t + 1 → S'.2.1 52 u = nI (smV o0 (A 3 + u))) → (∀ u c, u < t → c < A 0 → S'.2.1 53 (u * 6 + c) = nI (coV o1 A c (A 3 + u))) → (∀ c, c < b → S'.2.1 53 (t * 6 + c) = nI (coV o1 A c (A 3 + t))) → K (.inr (nI a1, nI t, nI b)) S' := by
        intro m
        induction m with
        | zero =>
          intro b S' hb p' i' q1 q2 q3
          have eb : b = A 0 := (by omega)
          refine hK _ _ ⟨fun _ v6 e6 => ?_, fun z => absurd (by rw [(p'.R hI hx).1.1, eb]; exact Int32.le_refl _) z⟩
          rw [e6, nI_1]
          refine ih (t + 1) S' (by omega) p' i' q1 (fun u c hu hc => ?_)
          by_cases z : u = t
          · rw [z]; exact q3 c (by omega)
          · exact q2 u c (by omega) hc
        | succ m ihm =>
          intro b S' hb p' i' q1 q2 q3
          have hS' := p'.R hI hx
          refine hK _ _ ⟨fun z => absurd z (by rw [hS'.1.1]; exact nI_ge (by omega) (by omega)), fun _ => ?_⟩
          rw [hS'.2.2.1.1, nadd]
          have a1' : nI t * 6 + nI b = nI (t * 6 + b) := by rw [L6, nmul, nadd]
          refine c_cost (tr p').2 hI hS'.1 (by omega) (by omega) (fun S7 f7 => ?_)
          rw [a1']
          refine ⟨vp_in_nI (by omega) (by decide), fun S9 e9 v10 e10 => ?_⟩
          rw [ncl (by omega)] at e9
          rw [e10, nI_1]
          refine ihm (b + 1) S9 (by omega) (by rw [e9]; exact (p'.trans f7.P).F _ _ (by omega)) (by rw [e9, xF_i, f7.1 _ (by decide), i']) (fun u hu => by rw [e9, xF_o _ _ _ _ (by decide), f7.2.1 52 (by decide) (by decide)]; exact q1 u hu) (fun u c hu hc => ?_) (fun c hc => ?_)
          · rw [e9, xF_s, upd_n _ _ (by omega), f7.2.1 53 (by decide) (by decide)]; exact q2 u c hu hc
          · rw [e9, xF_s]
            by_cases z : c = b
            · rw [z, upd_s]
            · rw [upd_n _ _ (by omega), f7.2.1 53 (by decide) (by decide)]; exact q3 c (by omega)
      refine inner (A 0) 0 S5 (by omega) p5 i5 (fun u hu => ?_) (fun u c hu hc => by rw [e5, xF_o _ _ _ _ (by decide), f3.2.1 53 (by decide) (by decide)]; exact s2 u c hu hc) (fun c hc => absurd hc (by omega))
      rw [e5, xF_s]
      by_cases z : u = t
      · rw [z, upd_s]
      · rw [upd_n _ _ z, f3.2.1 52 (by decide) (by decide)]; exact s1 u (by omega)
  exact loop H 0 S2 (by omega) p2 (by rw [e2, xI_s, ev]) (fun t ht => absurd ht (by omega)) (fun t b ht => absurd ht (by omega))
end RUN
