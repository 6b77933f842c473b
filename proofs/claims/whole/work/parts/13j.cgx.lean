/-! choice, ask, and all of the class's descent -/
section CGX
variable {T : Nat → Nat} {m l : Nat}
def st7 (Post : XS → Prop) (S : XS) : Prop := VC_X3_expect_43 (fun S13 => ∀ v14 : Int32, v14 = (S13.1 1384) - 1 → ∀ S15 : XS, S15 = xI S13 1384 v14 → Post S15) (nI 42) S
def st6 (Post : XS → Prop) (r9 : Int32) (S : XS) : Prop := VC_X3_aim_43 (fun S12 => st7 Post S12) r9 S
def st5 (d : Nat) (Post : XS → Prop) (r9 : Int32) (S : XS) : Prop := VG d 0 (fun S11 => st6 Post r9 S11) S
def st4 (d : Nat) (Post : XS → Prop) (r5 r9 : Int32) (S : XS) : Prop := VC_X3_aim_43 (fun S10 => st5 d Post r9 S10) r5 S
def st3 (d : Nat) (Post : XS → Prop) (r5 : Int32) (S : XS) : Prop := VC_X3_emit_43 (fun r9 S8 => st4 d Post r5 r9 S8) (nI 62) (nI 0) S
def st2 (d : Nat) (Post : XS → Prop) (r5 : Int32) (S : XS) : Prop := VC_X3_expect_43 (fun S7 => st3 d Post r5 S7) (nI 12) S
def st1 (d : Nat) (Post : XS → Prop) (r5 : Int32) (S : XS) : Prop := VG d 0 (fun S6 => st2 d Post r5 S6) S
def st0 (d : Nat) (Post : XS → Prop) (S : XS) : Prop := VC_X3_emit_43 (fun r5 S4 => st1 d Post r5 S4) (nI 63) (nI 0) S
def stm (d : Nat) (Post : XS → Prop) (S : XS) : Prop := VC_X3_expect_43 (fun S3 => st0 d Post S3) (nI 11) S
section STF
variable {f p : Int32} {S0 : XS} {Post : XS → Prop} {d : Nat}
theorem st7_f (hf : f ≠ 0) (hp : ∀ S', FX f p S0 S' → Post S') {S : XS} (h : FX f p S0 S) : st7 Post S := f_expect (by decide) hf h (fun S3 f3 v e S6 e6 => hp S6 (by rw [e6]; exact f3.opn _))
theorem st6_f (hf : f ≠ 0) (hp : ∀ S', FX f p S0 S' → Post S') {S : XS} {r9 : Int32} (h : FX f p S0 S) : st6 Post r9 S := f_aim h (fun S' f' => st7_f hf hp f')
theorem st5_f (hf : f ≠ 0) (hp : ∀ S', FX f p S0 S' → Post S') (hd : 6 ≤ d) {S : XS} {r9 : Int32} (h : FX f p S0 S) : st5 d Post r9 S := fall hf d 0 _ S (by show 3 ≤ d; omega) (by decide) (by decide) h (fun S' f' => st6_f hf hp f')
theorem st4_f (hf : f ≠ 0) (hp : ∀ S', FX f p S0 S' → Post S') (hd : 6 ≤ d) {S : XS} {r5 r9 : Int32} (h : FX f p S0 S) : st4 d Post r5 r9 S := f_aim h (fun S' f' => st5_f hf hp hd f')
theorem st3_f (hf : f ≠ 0) (hp : ∀ S', FX f p S0 S' → Post S') (hd : 6 ≤ d) {S : XS} {r5 : Int32} (h : FX f p S0 S) : st3 d Post r5 S := f_emit h (fun r S' f' => st4_f hf hp hd f')
theorem st2_f (hf : f ≠ 0) (hp : ∀ S', FX f p S0 S' → Post S') (hd : 6 ≤ d) {S : XS} {r5 : Int32} (h : FX f p S0 S) : st2 d Post r5 S := f_expect (by decide) hf h (fun S' f' => st3_f hf hp hd f')
theorem st1_f (hf : f ≠ 0) (hp : ∀ S', FX f p S0 S' → Post S') (hd : 6 ≤ d) {S : XS} {r5 : Int32} (h : FX f p S0 S) : st1 d Post r5 S := fall hf d 0 _ S (by show 3 ≤ d; omega) (by decide) (by decide) h (fun S' f' => st2_f hf hp hd f')
theorem st0_f (hf : f ≠ 0) (hp : ∀ S', FX f p S0 S' → Post S') (hd : 6 ≤ d) {S : XS} (h : FX f p S0 S) : st0 d Post S := f_emit h (fun r S' f' => st1_f hf hp hd f')
theorem stm_f (hf : f ≠ 0) (hp : ∀ S', FX f p S0 S' → Post S') (hd : 6 ≤ d) {S : XS} (h : FX f p S0 S) : stm d Post S := f_expect (by decide) hf h (fun S' f' => st0_f hf hp hd f')
end STF
theorem PF_3 {d q o : Nat} : PF T m l (d + 1) 3 q o = if o < 8 then bnd (PF T m l d 4 (nx T m q) (o + 1)) (fun q c => due T m 11 q (fun q => bnd (PF T m l d 0 q (o + 1)) (fun q a => due T m 12 q (fun q => bnd (PF T m l d 0 q (o + 1)) (fun q b => due T m 42 q (fun q => .inr (q, (eCond c a b)))))))) else .inl (3, q) := rfl
theorem OKL.sz {S0 S : XS} {q o s : Nat} {L : List (Nat × Nat)} (h : OKL T m l S0 S q o s L) : S.1 1387 = nI (s + L.length) ∧ s + L.length ≤ q ∧ q ≤ m ∧ m ≤ 300 := ⟨h.1.2.2.2.2.2.2.1, h.1.2.2.2.2.2.2.2, h.1.2.1, h.1.1.2.1⟩
theorem c_choice {d : Nat} (ih : CGd T m l d) {Post : XS → Prop} {S : XS} {q o s : Nat} (h : cst S T m l q o s) (hd : 8 * (9 - o) ≤ d + 1) (hp : ∀ S', res T m l S o s S' (PF T m l (d + 1) 3 q o) → Post S') : VC_X3_parseChoice_43 (VG d) Post S := by
  have o8 := h.2.2.2.2.1.2
  have m3 := h.1.2.1
  have lt := nx_le (T := T) h.2.1
  have K0 : hK 0 = 3 := rfl
  have K4 : hK 4 = 6 := rfl
  rw [PF_3] at hp
  show VC_X3_enter_43 (fun S1 => VG d 4 (fun S2 => stm d Post S2) S1) S
  refine c_enter h (fun ho S1 k1 => ?_) (fun ho S1 f1 => ?_)
  rotate_left
  · rw [if_neg ho] at hp
    have hf : nI 3 ≠ 0 := nI_n0 (f := 3) (by decide)
    exact fall hf d 4 _ S1 (by omega) (by decide) (by decide) f1 (fun S2 f2 => stm_f hf (fun S' f' => hp S' ⟨(by decide), f'⟩) (by omega) f2)
  have d6 : 6 ≤ d := (by omega)
  have bad : ∀ {f q' : Nat}, (1 ≤ f ∧ f ≤ 5) → (∀ S', res T m l S o s S' (.inl (f, q')) → Post S') → ∀ S', FX (nI f) (nI q') S S' → Post S' := fun hf hp S' f' => hp S' ⟨hf, f'⟩
  rw [if_pos ho] at hp
  refine ih 4 _ S1 (nx T m q) (o + 1) s (by decide) k1.1 (by omega) (fun S2 r2 => ?_)
  have gr1 := PF_gr (T := T) (m := m) (l := l) d 4 (nx T m q) (o + 1) k1.1.2.1
  cases hh : PF T m l d 4 (nx T m q) (o + 1) with
  | inl v =>
    obtain ⟨f, q'⟩ := v
    rw [hh] at r2 hp
    exact stm_f (nI_n0 r2.1) (bad r2.1 hp) d6 (r2.2.up k1.2.1)
  | inr v =>
  obtain ⟨q1, c⟩ := v
  rw [hh, bnd_r] at hp
  rw [hh] at r2 gr1
  have g1 : nx T m q + cl c ≤ q1 := gr1.1
  have lc := r2.2
  have k2 := k1.app (M := cC s c) r2.1
  rw [List.nil_append] at k2
  dsimp only [due] at hp
  refine c_expect (a := 11) (by decide) k2 (fun t S3 k3 => ?_) (fun t S3 f3 => ?_)
  rotate_left
  · rw [if_neg t] at hp
    exact st0_f (nI_n0 (f := 1) (by decide)) (bad (by decide) hp) d6 f3
  rw [if_pos t] at hp
  have z3 := k3.sz
  have lt3 := nx_lt (T := T) k2.1.2.1 (by omega)
  have ks := h.2.2.2.2.2.2.2
  rw [lc] at z3
  refine c_emit (a := 63) (by decide) (by decide) z3.1 (by omega) ?_
  have k4 := k3.emit (w := (63, 0)) (by rw [lc]; omega)
  have l4 : (cC s c ++ [(63, 0)]).length = cl c + 1 := by rw [List.length_append, lc]; rfl
  rw [lc] at k4
  have c4 := k4.1
  rw [l4] at c4
  refine ih 0 _ _ _ (o + 1) _ (by decide) c4 (by omega) (fun S6 r6 => ?_)
  have gr2 := PF_gr (T := T) (m := m) (l := l) d 0 (nx T m q1) (o + 1) k4.1.2.1
  cases h6 : PF T m l d 0 (nx T m q1) (o + 1) with
  | inl v =>
    obtain ⟨f, q'⟩ := v
    rw [h6] at r6 hp
    exact st2_f (nI_n0 r6.1) (bad r6.1 hp) d6 (r6.2.up k4.2.1)
  | inr v =>
  obtain ⟨q2, a⟩ := v
  rw [h6, bnd_r] at hp
  rw [h6] at r6 gr2
  have g2 : nx T m q1 + cl a ≤ q2 := gr2.1
  have la := r6.2
  have r61 := r6.1
  rw [← l4] at r61
  have k6 := k4.app r61
  rw [l4, ← Nat.add_assoc] at k6
  have l6 : (cC s c ++ [(63, 0)] ++ cC (s + cl c + 1) a).length = cl c + 1 + cl a := by rw [List.length_append, l4, la]
  refine c_expect (a := 12) (by decide) k6 (fun t S7 k7 => ?_) (fun t S7 f7 => ?_)
  rotate_left
  · rw [if_neg t] at hp
    exact st3_f (nI_n0 (f := 1) (by decide)) (bad (by decide) hp) d6 f7
  rw [if_pos t] at hp
  have z7 := k7.sz
  have lt7 := nx_lt (T := T) k6.1.2.1 (by omega)
  rw [l6] at z7
  refine c_emit (a := 62) (by decide) (by decide) z7.1 (by omega) ?_
  have k8 := k7.emit (w := (62, 0)) (by rw [l6]; omega)
  rw [l6] at k8
  have l8 : (cC s c ++ [(63, 0)] ++ cC (s + cl c + 1) a ++ [(62, 0)]).length = cl c + 1 + cl a + 1 := by rw [List.length_append, l6]; rfl
  have z8 := k8.sz
  have f8 := k8.2.2.2.2 (cl c) (by rw [l8]; omega)
  rw [l8] at z8
  have cd : (cC s c ++ [(63, 0)] ++ cC (s + cl c + 1) a ++ [(62, 0)]).getD (cl c) (0, 0) = (63, 0) := by
    rw [List.append_assoc, List.append_assoc, List.getD_eq_getElem?_getD, List.getElem?_append_right (by rw [lc]; omega), lc, Nat.sub_self]; rfl
  rw [cd] at f8
  have e8 : s + (cl c + 1 + cl a + 1) = s + cl c + 1 + cl a + 1 := (by omega)
  refine c_aim (t := 63) z8.1 (by omega) (by omega) (by decide) f8 ?_
  have k10 := OKL.aim (t := 63) (v := s + (cl c + 1 + cl a + 1)) (L := cC s c) (M := cC (s + cl c + 1) a ++ [(62, 0)]) (by rw [← List.append_assoc]; exact k8)
  rw [lc, ← List.append_assoc] at k10
  have l10 : (cC s c ++ [(63, s + (cl c + 1 + cl a + 1))] ++ cC (s + cl c + 1) a ++ [(62, 0)]).length = cl c + 1 + cl a + 1 := by
    rw [List.length_append, List.length_append, List.length_append, lc, la]; rfl
  have c10 := k10.1
  rw [l10] at c10
  refine ih 0 _ _ _ (o + 1) _ (by decide) c10 (by omega) (fun S11 r11 => ?_)
  have gr3 := PF_gr (T := T) (m := m) (l := l) d 0 (nx T m q2) (o + 1) k10.1.2.1
  cases h11 : PF T m l d 0 (nx T m q2) (o + 1) with
  | inl v =>
    obtain ⟨f, q'⟩ := v
    rw [h11] at r11 hp
    exact st6_f (nI_n0 r11.1) (bad r11.1 hp) (r11.2.up k10.2.1)
  | inr v =>
  obtain ⟨q3, b⟩ := v
  rw [h11, bnd_r] at hp
  rw [h11] at r11 gr3
  have g3 : nx T m q2 + cl b ≤ q3 := gr3.1
  have lb := r11.2
  have k11 := k10.app (M := cC (s + (cl c + 1 + cl a + 1)) b) (by rw [l10]; exact r11.1)
  have l11 : (cC s c ++ [(63, s + (cl c + 1 + cl a + 1))] ++ cC (s + cl c + 1) a ++ [(62, 0)] ++ cC (s + (cl c + 1 + cl a + 1)) b).length = cl c + 1 + cl a + 1 + cl b := by rw [List.length_append, l10, lb]
  have z11 := k11.sz
  have f11 := k11.2.2.2.2 (cl c + 1 + cl a) (by rw [l11]; omega)
  rw [l11] at z11
  have l9 : (cC s c ++ [(63, s + (cl c + 1 + cl a + 1))] ++ cC (s + cl c + 1) a).length = cl c + 1 + cl a := by
    rw [List.length_append, List.length_append, lc, la]; rfl
  have cd2 : (cC s c ++ [(63, s + (cl c + 1 + cl a + 1))] ++ cC (s + cl c + 1) a ++ [(62, 0)] ++ cC (s + (cl c + 1 + cl a + 1)) b).getD (cl c + 1 + cl a) (0, 0) = (62, 0) := by
    rw [List.append_assoc (_ ++ _ ++ _), List.getD_eq_getElem?_getD, List.getElem?_append_right (by rw [l9]; omega), l9, Nat.sub_self]; rfl
  rw [cd2] at f11
  refine c_aim (t := 62) z11.1 (by omega) (by omega) (by decide) f11 ?_
  have k12 := OKL.aim (t := 62) (v := s + (cl c + 1 + cl a + 1 + cl b)) k11
  rw [l9] at k12
  refine c_expect (a := 42) (by decide) k12 (fun t S13 k13 v14 e14 S15 e15 => ?_) (fun t S13 f13 v14 e14 S15 e15 => ?_)
  · rw [if_pos t] at hp
    refine hp S15 ⟨?_, fun s => ?_⟩
    · rw [k13.1.2.2.2.2.1.1, sub1] at e14
      have k14 := k13.opn o o8
      rw [e15, e14]
      show OKL T m l S (xI S13 1384 (nI o)) _ o s (cC s c ++ [(63, s + cl c + 1 + cl a + 1)] ++ cC (s + cl c + 1) a ++ [(62, s + cl c + 1 + cl a + 1 + cl b)] ++ cC (s + cl c + 1 + cl a + 1) b)
      rw [show s + (cl c + 1 + cl a + 1 + cl b) = s + cl c + 1 + cl a + 1 + cl b by omega, e8] at k14
      exact k14
    · show (cC s c ++ [(63, s + cl c + 1 + cl a + 1)] ++ cC (s + cl c + 1) a ++ [(62, s + cl c + 1 + cl a + 1 + cl b)] ++ cC (s + cl c + 1 + cl a + 1) b).length = cl c + 1 + cl a + 1 + cl b
      rw [List.length_append, List.length_append, List.length_append, List.length_append, lc, la, lb]; rfl
  · rw [if_neg t] at hp
    refine hp S15 ⟨(by decide), ?_⟩
    rw [e15]; exact f13.opn _
end CGX
