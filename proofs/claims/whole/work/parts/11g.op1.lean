/-! the relation, and the first calls -/
def tapeOK (x : XS) (y : MS) : Prop := ∃ m : Nat, m ≤ 300 ∧ x.1 1313 = nI m ∧ y.1 4 = nI m ∧ ∀ i, i < m → ∃ c : Nat, c ≤ 255 ∧ x.2.1 42 i = nI c ∧ y.2.2.1 3 i = nI c
def faultOK (x : XS) (y : MS) : Prop := (x.1 1376 = nI 0 ∧ y.1 5 = -nI 1 ∧ y.1 6 = -nI 1) ∨ (x.1 1376 = nI 1 ∧ x.1 1377 = y.1 5 ∧ x.1 1378 = y.1 6)
abbrev TXT : Type := ((Nat → Nat → Option Nat) × List TR) → (Nat → Int32) → Nat → Nat → Prop
def RelA (TX : TXT) (A B : Nat → Nat) (x : XS) (y : MS) : Prop := Inv A ∧ Inv B ∧ RX x.1 x.2.1 A ∧ RX (kI x) (kF x) B ∧ y.2.2.1 0 = enc A ∧ y.2.2.1 1 = enc B ∧ B 4 ≤ A 4 ∧ TX x.2.2 (y.2.2.1 2) (A 4) (B 4) ∧ tapeOK x y ∧ faultOK x y
def RelT (TX : TXT) (x : XS) (y : MS) : Prop := ∃ A B : Nat → Nat, RelA TX A B x y
section RELA
variable {TX : TXT} {A A' B : Nat → Nat} {x x' : XS} {y y' : MS}
theorem RelA.step (h : RelA TX A B x y) (fx : XFr x x') (fy : YFr y y') (hI : Inv A') (hx : RX x'.1 x'.2.1 A') (hy : y'.2.2.1 0 = enc A') (h4 : A' 4 = A 4) : RelT TX x' y' := by
  obtain ⟨g1, g2, g3, g4, g5, g6, g7, g8, g9, g10⟩ := h
  obtain ⟨f1, f2, f3, f4, f5, f6, f7, f8⟩ := fx
  obtain ⟨k1, k2, k3, k4, k5, k6⟩ := fy
  refine ⟨A', B, hI, g2, hx, by rw [f1, f2]; exact g4, hy, by rw [k1]; exact g6, by omega, by rw [f3, k2, h4]; exact g8, ?_, ?_⟩
  · obtain ⟨m, m1, m2, m3, m4⟩ := g9
    exact ⟨m, m1, by rw [f5]; exact m2, by rw [k4]; exact m3, fun i hi => by rw [f4, k3]; exact m4 i hi⟩
  · unfold faultOK at g10 ⊢
    rw [f6, f7, f8, k5, k6]
    exact g10
theorem RelA.same (h : RelA TX A B x y) : RelT TX x y := ⟨A, B, h⟩
end RELA
section OP1
variable {TX : TXT} {A B : Nat → Nat} {x : XS} {y : MS}
theorem op_of {a0 a1 : Int32} (h : RelA TX A B x y) : VC_X11_of_0 (fun r x' => VC_of (fun r' y' => r = r' ∧ RelT TX x' y') a0 a1 y) a0 a1 x := by
  obtain ⟨hI, -, hx, -, hy, -⟩ := id h
  refine c_of hI hx (fun b k v hb hk e0 e1 ev => ?_) (fun hn => ?_)
  · exact r_of hI hy (fun b' k' hb' hk' e0' e1' => ⟨by
      have q1 := (nI_eq (by have := hI.b; omega) (by have := hI.b; omega)).mp (e0.symm.trans e0')
      have q2 := (nI_eq (by omega) (by omega)).mp (e1.symm.trans e1')
      rw [ev, q1, q2], A, B, h⟩) (fun hn => absurd ⟨⟨b, hb, e0⟩, ⟨k, hk, e1⟩⟩ hn)
  · exact r_of hI hy (fun b' k' hb' hk' e0' e1' => absurd ⟨⟨b', hb', e0'⟩, ⟨k', hk', e1'⟩⟩ hn) (fun _ => ⟨rfl, A, B, h⟩)
theorem op_fault {a0 : Int32} (h : RelA TX A B x y) : VC_X11_fault_0 (fun r x' => VC_fault (fun r' y' => r = r' ∧ RelT TX x' y') a0 y) a0 x := by
  obtain ⟨-, -, -, -, -, -, -, -, -, hf⟩ := id h
  unfold VC_X11_fault_0 VC_fault
  rcases hf with ⟨f1, f2, f3⟩ | ⟨f1, f2, f3⟩
  · refine ⟨fun z => absurd f1 z, fun _ => ?_⟩
    rw [f2, f3]
    by_cases e0 : a0 = 0
    · exact ⟨fun z => absurd e0 z, fun _ => ⟨rfl, A, B, h⟩⟩
    · refine ⟨fun _ => ⟨fun _ => ⟨rfl, A, B, h⟩, fun _ => ⟨rfl, A, B, h⟩⟩, fun z => absurd z e0⟩
  · refine ⟨fun _ => ?_, fun z => absurd (f1.symm.trans z) (by decide)⟩
    rw [f2, f3]
    refine ⟨fun e0 => ⟨fun z => absurd e0 z, fun _ => ⟨rfl, A, B, h⟩⟩, fun e1 => ⟨fun z => ⟨fun z => absurd e1 z, fun _ => ⟨rfl, A, B, h⟩⟩, fun e0 => absurd (e0.symm.trans e1) (by decide)⟩, fun n0 n1 => ⟨fun _ => ⟨fun _ => ⟨rfl, A, B, h⟩, fun z => absurd z n1⟩, fun z => absurd z n0⟩⟩
theorem op_end {a0 : Int32} (h : RelA TX A B x y) : VC_X11_end_0 (fun r x' => VC_end (fun r' y' => r = r' ∧ RelT TX x' y') a0 y) a0 x := by
  obtain ⟨g1, g2, g3, g4, g5, g6, g7, g8, ⟨m, m1, m2, m3, m4⟩, g10⟩ := id h
  refine t_end x y a0 (m2.trans m3.symm) _ ⟨rfl, A, B, h⟩ (fun c d => ⟨rfl, A, B, g1, g2, RX_frame g1 g3 ((NFr.refl x).I 1313 a0 (by omega)), ?_, g5, g6, g7, g8, ?_, ?_⟩)
  · rw [kI_xI _ _ _ (by omega), kF_xI]; exact g4
  · rw [m2] at d
    obtain ⟨k, k1, k2, k3⟩ := (isFrom_iff (a := a0) (l := 0) (h := m) (by omega) (by omega)).mpr ⟨c, d⟩
    subst k3
    exact ⟨k, by omega, xI_s _ _ _, sI_s _ _ _, fun i hi => m4 i (by omega)⟩
  · unfold faultOK
    rw [xI_n _ _ (by omega), xI_n _ _ (by omega), xI_n _ _ (by omega), sI_o _ _ _ _ (by omega), sI_o _ _ _ _ (by omega)]
    exact g10
theorem op_bubble {a0 a1 : Int32} (h : RelA TX A B x y) : VC_X11_bubble_0 (fun r x' => VC_bubble (fun r' y' => r = r' ∧ RelT TX x' y') a0 a1 y) a0 a1 x := by
  obtain ⟨g1, -, g3, -, g5, -⟩ := id h
  obtain ⟨b0, b1, b2, b3, b4, b5, b6, b7, b8, b9⟩ := g1.b
  refine t_bubble x y a0 a1 (A 9) b9 g3.2.2.1.2.2.1 (by rw [g5, enc_at (by omega)]) (fun i hi => ?_) _ (fun r => ⟨rfl, A, B, h⟩)
  rw [g5, enc_at (by omega)]
  exact g3.2.2.1.2.2.2.2 i hi
theorem op_seen {a0 : Int32} (h : RelA TX A B x y) : VC_X11_seen_0 (fun r x' => VC_seen (fun r' y' => r = r' ∧ RelT TX x' y') a0 y) a0 x := by
  obtain ⟨g1, -, g3, -, g5, -⟩ := id h
  obtain ⟨b0, b1, b2, b3, b4, b5, b6, b7, b8, b9⟩ := g1.b
  obtain ⟨h1, h2, h3, h4, h5, h6⟩ := g3
  have core' : ∀ (x' : XS) (y' : MS) (A' : Nat → Nat), XFr x x' → YFr y y' → y'.2.2.1 0 = enc A' → (∀ k, k ≠ 7 → (k < 60 ∨ 68 ≤ k) → A' k = A k) → A' 7 ≤ 8 → (∀ i, i < A' 7 → A' (60 + i) ≤ 40) → (∀ k, k < 640 → k ≠ 544 → x'.1 k = x.1 k) → (∀ k, k < 20 → k ≠ 18 → x'.2.1 k = x.2.1 k) → x'.1 544 = nI (A' 7) → (∀ i, i < A' 7 → x'.2.1 18 i = nI (A' (60 + i))) → RelT TX x' y' := by
    intro x' y' A' fx fy ey eA e7 e8 eI eF n1 n2
    refine h.step fx fy (Inv_talk g1 (fun k _ _ k7 _ k60 => eA k k7 (by omega)) (by rw [eA 4 (by omega) (by omega)]; omega) (by rw [eA 4 (by omega) (by omega), eA 5 (by omega) (by omega)]; omega) e7 (by rw [eA 8 (by omega) (by omega)]; omega) ⟨e8, fun i hi => ?_⟩) ?_ ey (eA 4 (by omega) (by omega))
    · rw [eA 8 (by omega) (by omega)] at hi
      rw [eA 0 (by omega) (by omega), eA _ (by omega) (by omega), eA _ (by omega) (by omega), eA _ (by omega) (by omega), eA _ (by omega) (by omega)]
      exact g1.2.2.2.2.1.2 i hi
    · have eA2 : ∀ k, k = 0 ∨ k = 2 ∨ k = 3 ∨ k = 9 ∨ (10 ≤ k ∧ k < 40) ∨ (150 ≤ k ∧ k < 250) ∨ 410 ≤ k → A' k = A k := fun k hk => eA k (by omega) (by omega)
      refine ⟨rxCrew_of h1 b0 (eI 64 (by omega) (by omega)) (fun k hk _ _ => eF k hk (by omega)) (fun k hk => eA k (by omega) (by omega)), rxWares_of h2 b1 (eI 224 (by omega) (by omega)) (fun k hk _ _ => eF k hk (by omega)) (fun k hk => eA k (by omega) (by omega)), rxBench_of h3 b2 b9 ⟨eI 352 (by omega) (by omega), eI 353 (by omega) (by omega), eI 356 (by omega) (by omega)⟩ (fun k hk _ _ => eF k hk (by omega)) (fun k hk => eA k (by omega) (by omega)), rxSteps_of h4 g1.c ⟨eI 481 (by omega) (by omega), eI 480 (by omega) (by omega)⟩ (fun k hk _ => eF k hk (by omega)) (eA 6 (by omega) (by omega)) (fun j _ k hk => core_of (eA 6 (by omega) (by omega)) eA2 j hk), ⟨n1, ?_, n2, ?_⟩, rxText_of h6 ⟨eI 38 (by omega) (by omega), eI 39 (by omega) (by omega)⟩ ⟨eA 4 (by omega) (by omega), eA 5 (by omega) (by omega)⟩⟩
      · rw [eI 546 (by omega) (by omega), eA 8 (by omega) (by omega)]; exact h5.2.1
      · intro i hi
        rw [eA 8 (by omega) (by omega)] at hi
        rw [eF 19 (by omega) (by omega), eA _ (by omega) (by omega), eA _ (by omega) (by omega), eA _ (by omega) (by omega), eA _ (by omega) (by omega)]
        exact h5.2.2.2 i hi
  refine t_seen x y a0 (A 7) b7 h5.1 (by rw [g5, enc_at (by omega)]) _ (fun _ => ⟨rfl, ?_⟩) ⟨rfl, A, B, h⟩ (fun n1 n2 n3 n4 => ⟨rfl, ?_⟩)
  · refine core' _ _ (uN A 7 0) ((XFr.refl x).I _ _ (by omega)) ((YFr.refl y).F _ _ (by omega)) ?_ (fun k k1 k2 => uN_n _ _ _ _ k1) (by rw [uN_s]; omega) (fun i hi => by rw [uN_s] at hi; omega) (fun k _ k2 => xI_n _ _ k2) (fun k _ _ => rfl) (by rw [uN_s]; exact xI_s _ _ _) (fun i hi => by rw [uN_s] at hi; omega)
    rw [sF_same, g5, L0, enc_u (by omega)]
  · obtain ⟨v, v1, v2, v3⟩ := (isFrom_iff (a := a0) (l := 0) (h := 40) (by omega) (by omega)).mpr ⟨n2, n3⟩
    subst v3
    refine core' _ _ (uN (uN A (60 + A 7) v) 7 (A 7 + 1)) (((XFr.refl x).F _ _ (by omega)).I _ _ (by omega)) ((YFr.refl y).F _ _ (by omega)) ?_ (fun k k1 k2 => by rw [uN_n _ _ _ _ k1, uN_n _ _ _ _ (by omega)]) (by rw [uN_s]; omega) (fun i hi => ?_) (fun k _ k2 => by rw [xI_n _ _ k2, xF_i]) (fun k _ k2 => by rw [xI_f]; exact xF_o _ _ _ _ k2) (by rw [uN_s]; exact xI_s _ _ _) (fun i hi => ?_)
    · rw [sF_same, g5, enc_u (by omega), enc_u (by omega)]
    · rw [uN_s] at hi
      rw [uN_n _ _ _ _ (by omega)]
      by_cases hi2 : i = A 7
      · subst hi2; rw [uN_s]; omega
      · rw [uN_n _ _ _ _ (by omega)]; exact g1.2.2.2.2.1.1 i (by omega)
    · rw [uN_s] at hi
      rw [xI_f, xF_s, uN_n _ _ _ _ (by omega)]
      by_cases hi2 : i = A 7
      · subst hi2; rw [upd_s, uN_s]
      · rw [upd_n _ _ (by omega), uN_n _ _ _ _ (by omega)]; exact h5.2.2.1 i (by omega)
end OP1
