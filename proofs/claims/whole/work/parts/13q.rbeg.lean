/-! where one begins, in the reference -/
section RBEG
variable {T : Nat → Nat} {m b l : Nat}
def rs (T : Nat → Nat) (m b l : Nat) (y : MS) (P : List Nat) (W : List (Nat × Nat)) (w q : Nat) : Prop := tpM y T m ∧ q ≤ m ∧ rTk y T m q ∧ rcf y b l P W (cnt P) w ∧ W.length + P.length ≤ q ∧ P.length ≤ 100
theorem rTk.rt {y y' : MS} {q : Nat} (h : rTk y T m q) (g : RT b y y') : rTk y' T m q := by
  unfold rTk
  rw [g.2.1, g.2.2.1, g.2.2.2.1, g.2.2.2.2.1, g.2.2.2.2.2]; exact h
theorem RF.tp {y y' : MS} (h : RF b y y') (t : tpM y T m) : tpM y' T m := by
  unfold tpM
  rw [h.1 4 (by omega), h.2.1 3 (by decide) (by decide)]; exact t
theorem rcf.fr {y y' : MS} {P : List Nat} {W : List (Nat × Nat)} {o w : Nat} (h : rcf y b l P W o w) (g : RFr y y') : rcf y' b l P W o w := by
  unfold rcf
  rw [g.1 12 (by decide) (by decide) (by decide) (by decide), g.1 14 (by decide) (by decide) (by decide) (by decide), g.1 17 (by decide) (by decide) (by decide) (by decide), g.1 18 (by decide) (by decide) (by decide) (by decide), g.1 19 (by decide) (by decide) (by decide) (by decide), g.1 20 (by decide) (by decide) (by decide) (by decide), g.2]; exact h
theorem r_nexts {Post : MS → Prop} {y : MS} {q : Nat} (ht : tpM y T m) (hq : q ≤ m) (h : rTk y T m q) (k : ∀ y', rTk y' T m (nx T m q) → RFr y y' → Post y') : VC_nextToken Post y := r_next ht h.1 (tkE_le hq).2 (fun y' f a b c d e => k y' ⟨a, b, c, d, e⟩ f)
theorem stl_len {r : Nat} : ∀ {P : List Nat} {W : List (Nat × Nat)}, (stl r P W).1.length ≤ P.length ∧ (stl r P W).2.length + (stl r P W).1.length = W.length + P.length
  | [], W => ⟨Nat.le_refl _, rfl⟩
  | a :: P, W => by
    unfold stl
    split
    · exact ⟨Nat.le_refl _, rfl⟩
    · have := stl_len (r := r) (P := P) (W := W ++ [(a, 0)])
      rw [List.length_append] at this
      have e : [(a, 0)].length = 1 := rfl
      rw [e] at this
      show _ ≤ P.length + 1 ∧ _ = W.length + (P.length + 1)
      omega
theorem r_opens {Post : Int32 → MS → Prop} {y : MS} {P : List Nat} {W : List (Nat × Nat)} {q a : Nat} (ha : a = 2 ∨ a = 20 ∨ a = 40 ∨ a = 41) (h : rs T m b l y P W 0 q) (hP : P.length < 100) (ht : tkC T m q ≠ 16) (k1 : cnt P < 8 → ∀ y', rs T m b l y' (a :: P) W 0 (nx T m q) → RF b y y' → Post 0 y') (k0 : ¬ cnt P < 8 → Post 3 y) : VC_opensBy Post (nI a) y := by
  obtain ⟨h1, h2, h3, h4, h5, h6⟩ := h
  obtain ⟨g12, g14, g17, g18, g19, g20⟩ := id h4
  have lt := nx_lt (T := T) h2 ht
  have le := nx_le (T := T) h2
  have m3 := h1.2.1
  unfold VC_opensBy
  rw [g18.1, show (8 : Int32) = nI 8 from rfl, neq (by have := g18.2; omega) (by decide), nI_1]
  refine ⟨fun z v1 e1 S2 e2 => ?_, fun z => k0 (by omega)⟩
  have c8 : cnt P < 8 := by have := g18.2; omega
  have ec : cnt (a :: P) = cnt P + 1 := by
    show (if a = 2 ∨ a = 20 ∨ 40 ≤ a then 1 else 0) + cnt P = _
    rw [if_pos (by omega)]; omega
  have c2 : rcf S2 b l P W (cnt P + 1) 0 := by
    rw [e2]
    refine ⟨⟨?_, g12.2⟩, ⟨?_, g14.2⟩, ⟨?_, g17.2⟩, ⟨?_, by omega⟩, ?_, ⟨?_, g20.2⟩⟩
    · rw [sI_o _ _ _ _ (by decide)]; exact g12.1
    · rw [sI_o _ _ _ _ (by decide)]; exact g14.1
    · rw [sI_o _ _ _ _ (by decide)]; exact g17.1
    · rw [sI_s, e1]
    · rw [sI_o _ _ _ _ (by decide)]; exact g19
    · rw [sI_o _ _ _ _ (by decide)]; exact g20.1
  have q2 : RT b y S2 := by rw [e2]; exact (RT.refl y).I _ _ (by omega)
  refine r_push (a := a) (by omega) c2 (by omega) (fun S3 c3 q3 => ?_)
  have q3' := q2.trans q3
  refine r_nexts (q3'.1.tp h1) h2 (h3.rt q3') (fun S4 t4 f4 => k1 c8 S4 ⟨(q3'.1.trans f4.rf).tp h1, le.2, t4, ?_, ?_, ?_⟩ (q3'.1.trans f4.rf))
  · rw [ec]; exact c3.fr f4
  · show W.length + (P.length + 1) ≤ _
    omega
  · show P.length + 1 ≤ 100
    omega
/-- a value is written, and one is whole -/
theorem r_put {Post : Int32 → MS → Prop} {y : MS} {P : List Nat} {W : List (Nat × Nat)} {q a c : Nat} (h : rs T m b l y P W 0 q) (ht : tkC T m q ≠ 16) (k : ∀ y', rs T m b l y' (stl 7 P (W ++ [(a, c)])).1 (stl 7 P (W ++ [(a, c)])).2 1 (nx T m q) → RF b y y' → Post 0 y') : VC_emit (fun S11 => VC_nextToken (fun S12 => VC_whole (fun S13 => Post 0 S13) S12) S11) (nI a) (nI c) y := by
  obtain ⟨h1, h2, h3, h4, h5, h6⟩ := h
  have lt := nx_lt (T := T) h2 ht
  have le := nx_le (T := T) h2
  have m3 := h1.2.1
  have sl := stl_len (r := 7) (P := P) (W := W ++ [(a, c)])
  have len : (W ++ [(a, c)]).length = W.length + 1 := by rw [List.length_append]; rfl
  rw [len] at sl
  refine r_emit h4 (by omega) (fun S1 c1 f1 t7 t8 t9 t10 t21 t16 => ?_)
  have q1 : RT b y S1 := ⟨f1, t7, t8, t9, t10, t21⟩
  refine r_nexts (f1.tp h1) h2 (h3.rt q1) (fun S2 t2 f2 => ?_)
  refine r_whole (c1.fr f2) (by rw [len]; omega) (by omega) (fun S3 c3 q3 => k S3 ⟨((f1.trans f2.rf).trans q3.1).tp h1, le.2, t2.rt q3, c3, (by omega), (by omega)⟩ ((f1.trans f2.rf).trans q3.1))
end RBEG
