/-! names and compares of the reference -/
theorem nm_of : ∀ a : Fin 4, ∀ i : Fin 11, nmB a.1 i.1 = decide (i.1 = 0 ∨ (1 ≤ i.1 ∧ i.1 < 5 ∧ (a.1 = 1 ∨ a.1 = 3)) ∨ (5 ≤ i.1 ∧ i.1 < 8 ∧ (a.1 = 2 ∨ a.1 = 3)) ∨ (i.1 = 8 ∧ a.1 = 3) ∨ (9 ≤ i.1 ∧ a.1 = 2)) := by decide +kernel
section RNAME
variable {T : Nat → Nat} {m q : Nat}
theorem r_isOf {Post : Int32 → MS → Prop} {y : MS} {l i : Nat} (hl : y.1 20 = nI l) (h4 : l < 4) (hi : i < 11) (k1 : nmB l i = true → Post 1 y) (k0 : nmB l i = false → Post 0 y) : VC_isOf Post (nI i) y := by
  have tab := nm_of ⟨l, h4⟩ ⟨i, hi⟩
  simp only at tab
  rw [tab] at k1 k0
  have t1 := fun z => k1 (decide_eq_true z)
  have t0 := fun z => k0 (decide_eq_false z)
  unfold VC_isOf
  rw [hl, show ((nI i) = (0 : Int32)) = (i = 0) by rw [show (0 : Int32) = nI 0 from rfl, neq (by omega) (by decide)], show (((5 : Int32)) ≤ nI i) = (5 ≤ i) by rw [show (5 : Int32) = nI 5 from rfl, nle (by decide) (by omega)], show (((8 : Int32)) ≤ nI i) = (8 ≤ i) by rw [show (8 : Int32) = nI 8 from rfl, nle (by decide) (by omega)], show ((nI i) = (8 : Int32)) = (i = 8) by rw [show (8 : Int32) = nI 8 from rfl, neq (by omega) (by decide)], show ((nI l) = (1 : Int32)) = (l = 1) by rw [show (1 : Int32) = nI 1 from rfl, neq (by omega) (by decide)], show ((nI l) = (2 : Int32)) = (l = 2) by rw [show (2 : Int32) = nI 2 from rfl, neq (by omega) (by decide)], show ((nI l) = (3 : Int32)) = (l = 3) by rw [show (3 : Int32) = nI 3 from rfl, neq (by omega) (by decide)]]
  refine ⟨fun a => ⟨fun b => ⟨fun c => ⟨fun d => ⟨fun e => t0 (by omega), fun e => t1 (by omega)⟩, fun d => ⟨fun e => t0 (by omega), fun e => t1 (by omega)⟩⟩, fun c => ⟨fun e => t1 (by omega), fun e => ⟨fun g => t0 (by omega), fun g => t1 (by omega)⟩⟩⟩, fun b => ⟨fun e => t1 (by omega), fun e => ⟨fun g => t0 (by omega), fun g => t1 (by omega)⟩⟩⟩, fun a => t1 (by omega)⟩
theorem nstep {y : MS} {i : Nat} {a0 : Int64} {A B : Prop} (hT : ∀ i, i < m → T i ≤ 255) (h : rTk y T m q) (h2 : rkC T m q = 2) (hi : i < 25) (h23 : i ≠ 23) (ea : a0 = Int64.ofNat (cW i)) (k0 : ¬ tkC T m q = 32 + i → A) (k1 : tkC T m q = 32 + i → B) : (¬ lg_cmp (y.2.1) a0 = 0 → A) ∧ (lg_cmp (y.2.1) a0 = 0 → B) := by
  rw [rw_cmp hT h h2 hi h23 ea]
  exact ⟨k0, k1⟩
theorem r_nameOf {Post : Int32 → MS → Prop} {y : MS} (ht : tpM y T m) (h : rTk y T m q) (hq : q ≤ m) (k1 : ∀ n, tkC T m q = 46 + n → n < 11 → Post (nI n) y) (k0 : tkC T m q < 46 → Post (-1) y) : VC_nameOf Post y := by
  have hT : ∀ i, i < m → T i ≤ 255 := fun i hi => (ht.2.2 i hi).2
  have tl := tkC_lt (q := q) hT
  unfold VC_nameOf
  rw [show (2 : Int32) = nI 2 from rfl, tok2 hT h 2 (by decide)]
  refine ⟨fun z => ?_, fun z => k0 ?_⟩
  · refine nstep (i := 14) hT h z (by decide) (by decide) (by decide +kernel) (fun n14 => ?_) (fun e => k1 0 e (by decide))
    refine nstep (i := 15) hT h z (by decide) (by decide) (by decide +kernel) (fun n15 => ?_) (fun e => k1 1 e (by decide))
    refine nstep (i := 16) hT h z (by decide) (by decide) (by decide +kernel) (fun n16 => ?_) (fun e => k1 2 e (by decide))
    refine nstep (i := 17) hT h z (by decide) (by decide) (by decide +kernel) (fun n17 => ?_) (fun e => k1 3 e (by decide))
    refine nstep (i := 18) hT h z (by decide) (by decide) (by decide +kernel) (fun n18 => ?_) (fun e => k1 4 e (by decide))
    refine nstep (i := 19) hT h z (by decide) (by decide) (by decide +kernel) (fun n19 => ?_) (fun e => k1 5 e (by decide))
    refine nstep (i := 20) hT h z (by decide) (by decide) (by decide +kernel) (fun n20 => ?_) (fun e => k1 6 e (by decide))
    refine nstep (i := 21) hT h z (by decide) (by decide) (by decide +kernel) (fun n21 => ?_) (fun e => k1 7 e (by decide))
    refine nstep (i := 22) hT h z (by decide) (by decide) (by decide +kernel) (fun n22 => ?_) (fun e => k1 8 e (by decide))
    refine r_quar ht h z hq (fun e => ⟨fun x => absurd x (by decide), fun _ => k1 9 e (by decide)⟩) (fun n23 => ⟨fun _ => ?_, fun x => absurd rfl x⟩)
    exact nstep (i := 24) hT h z (by decide) (by decide) (by decide +kernel) (fun n24 => k0 (by omega)) (fun e => k1 10 e (by decide))
  · rcases tk_rk (q := q) hT with ⟨a, _⟩ | ⟨a, _⟩ | ⟨a, _⟩
    · omega
    · omega
    · exact absurd a z
/-- the order of a compare, or none -/
def cmF (t : Nat) : Int32 := if isCmp t = true then nI (roF t) else -1
theorem r_cmp {Post : Int32 → MS → Prop} {y : MS} (hT : ∀ i, i < m → T i ≤ 255) (h : rTk y T m q) (k : Post (cmF (tkC T m q)) y) : VC_compareOf Post y := by
  have e0 := tk_iff (q := q) hT (k := 0) (by decide)
  have e13 := tk_iff (q := q) hT (k := 13) (by decide)
  have e1 := tk_iff (q := q) hT (k := 1) (by decide)
  have e14 := tk_iff (q := q) hT (k := 14) (by decide)
  have e2 := tk_iff (q := q) hT (k := 2) (by decide)
  have e3 := tk_iff (q := q) hT (k := 3) (by decide)
  unfold VC_compareOf
  rw [show (60 : Int32) = nI 60 from rfl, show (4 : Int32) = nI 4 from rfl, show (62 : Int32) = nI 62 from rfl, show (5 : Int32) = nI 5 from rfl, show (61 : Int32) = nI 61 from rfl, show (35 : Int32) = nI 35 from rfl]
  rw [tok2 hT h 60 (by decide), tok2 hT h 4 (by decide), tok2 hT h 62 (by decide), tok2 hT h 5 (by decide), tok2 hT h 61 (by decide), tok2 hT h 35 (by decide)]
  refine ⟨fun n0 => ⟨fun n13 => ⟨fun n1 => ⟨fun n14 => ⟨fun n2 => ⟨fun n3 => ?_, fun g => ?_⟩, fun g => ?_⟩, fun g => ?_⟩, fun g => ?_⟩, fun g => ?_⟩, fun g => ?_⟩
  · have : cmF (tkC T m q) = -1 := by
      refine if_neg (fun c => ?_)
      have c := of_decide_eq_true c
      have x0 : ¬ tkC T m q = 0 := fun z => n0 (e0.mp z)
      have x1 : ¬ tkC T m q = 1 := fun z => n1 (e1.mp z)
      have x2 : ¬ tkC T m q = 2 := fun z => n2 (e2.mp z)
      have x3 : ¬ tkC T m q = 3 := fun z => n3 (e3.mp z)
      have x13 : ¬ tkC T m q = 13 := fun z => n13 (e13.mp z)
      have x14 : ¬ tkC T m q = 14 := fun z => n14 (e14.mp z)
      omega
    rw [← this]; exact k
  · have := e3.mpr g
    rw [this] at k; exact k
  · have := e2.mpr g
    rw [this] at k; exact k
  · have := e14.mpr g
    rw [this] at k; exact k
  · have := e1.mpr g
    rw [this] at k; exact k
  · have := e13.mpr g
    rw [this] at k; exact k
  · have := e0.mpr g
    rw [this] at k; exact k
end RNAME
