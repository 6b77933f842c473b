/-! settling -/
def RT (b : Nat) (y y' : MS) : Prop := RF b y y' ∧ y'.1 7 = y.1 7 ∧ y'.1 8 = y.1 8 ∧ y'.1 9 = y.1 9 ∧ y'.1 10 = y.1 10 ∧ y'.2.1 = y.2.1
section RSET
variable {b l : Nat}
theorem RT.refl (y : MS) : RT b y y := ⟨RF.refl y, rfl, rfl, rfl, rfl, rfl⟩
theorem RT.trans {x y z : MS} (h : RT b x y) (g : RT b y z) : RT b x z := ⟨h.1.trans g.1, g.2.1.trans h.2.1, g.2.2.1.trans h.2.2.1, g.2.2.2.1.trans h.2.2.2.1, g.2.2.2.2.1.trans h.2.2.2.2.1, g.2.2.2.2.2.trans h.2.2.2.2.2⟩
theorem RT.I {x x' : MS} (h : RT b x x') (k : Nat) (v : Int32) (hk : k = 14 ∨ k = 17 ∨ k = 18 ∨ k = 19) : RT b x (sI x' k v) :=
  ⟨h.1.I k v (by omega), by rw [sI_o _ _ _ _ (by omega), h.2.1], by rw [sI_o _ _ _ _ (by omega), h.2.2.1], by rw [sI_o _ _ _ _ (by omega), h.2.2.2.1], by rw [sI_o _ _ _ _ (by omega), h.2.2.2.2.1], h.2.2.2.2.2⟩
theorem rkF_40 {a r : Nat} (hr : 1 ≤ r) (h : ¬ rkF a < r) : a < 40 := by
  rcases Nat.lt_or_ge a 40 with z | z
  · exact z
  · have : rkF a = 0 := if_neg (by omega)
    omega
theorem rkF_7 {a : Nat} : rkF a ≤ 7 := by
  unfold rkF
  repeat (first | omega | split)
theorem r_settle {Post : MS → Prop} {r w : Nat} (hr : 1 ≤ r ∧ r ≤ 7) : ∀ {P : List Nat} {W : List (Nat × Nat)} {y : MS}, rcf y b l P W (cnt P) w → W.length + P.length ≤ 300 → P.length ≤ 160 → (∀ y', rcf y' b l (stl r P W).1 (stl r P W).2 (cnt (stl r P W).1) w → RT b y y' → Post y') → VC_settle Post (nI r) y := by
  intro P W y h hW hP k K hK
  induction P generalizing W y with
  | nil =>
    refine hK _ _ ⟨fun _ => k y h (RT.refl y), fun z => absurd ?_ z⟩
    rw [h.2.2.1.1]; exact Int32.le_refl _
  | cons a P ih =>
    obtain ⟨h12, h14, ⟨p1, p2⟩, h18, h19, h20⟩ := id h
    have hW' : W.length + (P.length + 1) ≤ 300 := hW
    have hP' : P.length + 1 ≤ 160 := hP
    have p1' : y.1 17 = nI (P.length + 1) := p1
    have pa : y.2.2.1 16 P.length = nI a := p2.1
    have a64 : a < 64 := p2.2.1
    refine hK _ _ ?_
    dsimp only [B_settle]
    rw [p1', sub1, ncl (by omega), pa]
    refine ⟨fun z => absurd z (nI_ge (a := 0) (by omega) (by omega)), fun _ => ⟨vp_in_nI (by omega) (by decide), r_rank a64 ?_⟩⟩
    have r7 := rkF_7 (a := a)
    rw [nlt (by omega) (by omega)]
    refine ⟨fun z => ?_, fun z v2 e2 S3 e3 => ?_⟩
    · have e : stl r (a :: P) W = (a :: P, W) := if_pos z
      rw [e] at k
      exact k y h (RT.refl y)
    · have e : stl r (a :: P) W = stl r P (W ++ [(a, 0)]) := if_neg z
      rw [e] at k
      have a40 := rkF_40 hr.1 z
      have s17 : S3.1 17 = nI P.length := by rw [e3, sI_s, e2]
      have c3 : rcf S3 b l P W (cnt (a :: P)) w := by
        rw [e3] at s17 ⊢
        refine ⟨⟨?_, h12.2⟩, ⟨?_, h14.2⟩, ⟨s17, p2.2.2⟩, ⟨?_, h18.2⟩, ?_, ⟨?_, h20.2⟩⟩
        · rw [sI_o _ _ _ _ (by decide)]; exact h12.1
        · rw [sI_o _ _ _ _ (by decide)]; exact h14.1
        · rw [sI_o _ _ _ _ (by decide)]; exact h18.1
        · rw [sI_o _ _ _ _ (by decide)]; exact h19
        · rw [sI_o _ _ _ _ (by decide)]; exact h20.1
      have q3 : RT b y S3 := by rw [e3]; exact (RT.refl y).I _ _ (by omega)
      have pa3 : S3.2.2.1 16 P.length = nI a := by rw [e3]; exact pa
      rw [s17, ncl (by omega), pa3]
      refine ⟨vp_in_nI (by omega) (by decide), r_emit (c := 0) c3 (by omega) (fun S4 c4 f4 t7 t8 t9 t10 t21 t16 => ?_)⟩
      have q4 : RT b y S4 := q3.trans ⟨f4, t7, t8, t9, t10, t21⟩
      have s4 := c4.2.2.1.1
      rw [s4, ncl (by omega), t16, pa3, show ((nI a) = (2 : Int32)) = (a = 2) by rw [show (2 : Int32) = nI 2 from rfl, neq (by omega) (by decide)], show ((nI a) = (20 : Int32)) = (a = 20) by rw [show (20 : Int32) = nI 20 from rfl, neq (by omega) (by decide)]]
      have len : (W ++ [(a, 0)]).length = W.length + 1 := by rw [List.length_append]; rfl
      have go : ∀ V : MS, RT b y V → rcf V b l P (W ++ [(a, 0)]) (cnt P) w → K (nI r) V := fun V qV cV =>
        ih cV (by rw [len]; omega) (by omega) (fun y' c' q' => k y' c' (qV.trans q'))
      have dec : (a = 2 ∨ a = 20) → ∀ v : Int32, v = S4.1 18 - 1 → ∀ V : MS, V = sI S4 18 v → K (nI r) V := fun ha v ev V eV => by
        have ec : cnt (a :: P) = cnt P + 1 := by
          show (if a = 2 ∨ a = 20 ∨ 40 ≤ a then 1 else 0) + cnt P = _
          rw [if_pos (by omega)]; omega
        have c8 := c4.2.2.2.1
        rw [ec] at c8
        rw [c8.1, sub1] at ev
        obtain ⟨g12, g14, g17, g18, g19, g20⟩ := c4
        refine go V (by rw [eV]; exact q4.I _ _ (by omega)) ?_
        rw [eV]
        refine ⟨⟨?_, g12.2⟩, ⟨?_, g14.2⟩, ⟨?_, g17.2⟩, ⟨?_, by omega⟩, ?_, ⟨?_, g20.2⟩⟩
        · rw [sI_o _ _ _ _ (by decide)]; exact g12.1
        · rw [sI_o _ _ _ _ (by decide)]; exact g14.1
        · rw [sI_o _ _ _ _ (by decide)]; exact g17.1
        · rw [sI_s, ev]
        · rw [sI_o _ _ _ _ (by decide)]; exact g19
        · rw [sI_o _ _ _ _ (by decide)]; exact g20.1
      refine ⟨vp_in_nI (by omega) (by decide), fun z => dec (Or.inl z), fun z2 => ⟨vp_in_nI (by omega) (by decide), fun z20 => ?_, fun z => dec (Or.inr z)⟩⟩
      have ec : cnt (a :: P) = cnt P := by
        show (if a = 2 ∨ a = 20 ∨ 40 ≤ a then 1 else 0) + cnt P = _
        rw [if_neg (by omega)]; omega
      rw [ec] at c4
      exact go S4 q4 c4
theorem r_push {Post : MS → Prop} {y : MS} {P : List Nat} {W : List (Nat × Nat)} {o w a : Nat} (ha : a < 64) (h : rcf y b l P W o w) (hP : P.length < 160) (k : ∀ y', rcf y' b l (a :: P) W o w → RT b y y' → Post y') : VC_push Post (nI a) y := by
  obtain ⟨h12, h14, ⟨p1, p2⟩, h18, h19, h20⟩ := id h
  unfold VC_push
  rw [p1, ncl (by omega)]
  refine ⟨vp_in_nI hP (by decide), fun S1 e1 v2 e2 S3 e3 => ?_⟩
  have i1 : S1.1 = y.1 := by rw [e1]; rfl
  rw [i1, p1, nI_1] at e2
  have io : ∀ x, x ≠ 17 → S3.1 x = y.1 x := fun x hx => by rw [e3, sI_o _ _ _ _ hx, i1]
  have a16 : S3.2.2.1 16 = upd (y.2.2.1 16) P.length (nI a) := by rw [e3, sI_2, e1, sF_same]
  have ao : ∀ x, x ≠ 16 → S3.2.2.1 x = y.2.2.1 x := fun x hx => by rw [e3, sI_2, e1, sF_other _ _ hx]
  refine k S3 ⟨⟨by rw [io 12 (by decide)]; exact h12.1, h12.2⟩, ⟨by rw [io 14 (by decide)]; exact h14.1, by rw [ao 2 (by decide)]; exact h14.2⟩, ⟨by rw [e3, sI_s, e2]; rfl, ?_⟩, ⟨by rw [io 18 (by decide)]; exact h18.1, h18.2⟩, by rw [io 19 (by decide)]; exact h19, ⟨by rw [io 20 (by decide)]; exact h20.1, h20.2⟩⟩ ⟨⟨fun x hx => io x (by omega), fun x _ h2 => ao x h2, fun j _ => by rw [ao 2 (by decide)], ?_⟩, io 7 (by decide), io 8 (by decide), io 9 (by decide), io 10 (by decide), ?_⟩
  · rw [a16]
    exact ⟨by rw [upd_s], ha, p2.ext (fun j hj => by rw [upd_n _ _ (by omega)])⟩
  · rw [e3, sI_2, e1]; rfl
  · rw [e3, sI_2, e1]; rfl
end RSET
