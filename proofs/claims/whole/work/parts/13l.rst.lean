/-! states of the reference's parser -/
def rkF (a : Nat) : Nat := if a < 40 then (if a = 22 then 1 else if a = 21 then 2 else if a = 20 then 3 else if a < 10 then (if a = 2 then 7 else if a < 5 then 5 else 6) else 4) else 0
def pl (f : Nat → Int32) : List Nat → Prop
  | [] => True
  | a :: P => f P.length = nI a ∧ a < 64 ∧ pl f P
theorem pl.ext {f g : Nat → Int32} : ∀ {P : List Nat}, pl f P → (∀ j, j < P.length → g j = f j) → pl g P
  | [], _, _ => trivial
  | a :: P, h, e => ⟨by rw [e _ (Nat.lt_succ_self _)]; exact h.1, h.2.1, pl.ext h.2.2 (fun j hj => e j (Nat.lt_succ_of_lt hj))⟩
def hasR (f : Nat → Int32) (b : Nat) (W : List (Nat × Nat)) : Prop := ∀ j, j < W.length → f (b + 75 + 2 * j) = nI (W.getD j (0, 0)).1 ∧ f (b + 76 + 2 * j) = nI (W.getD j (0, 0)).2
/-- popping what binds as strongly as r -/
def stl (r : Nat) : List Nat → List (Nat × Nat) → List Nat × List (Nat × Nat)
  | [], W => ([], W)
  | a :: P, W => if rkF a < r then (a :: P, W) else stl r P (W ++ [(a, 0)])
/-- how many stand open -/
def cnt : List Nat → Nat
  | [] => 0
  | a :: P => (if a = 2 ∨ a = 20 ∨ 40 ≤ a then 1 else 0) + cnt P
def rTk (y : MS) (T : Nat → Nat) (m q : Nat) : Prop := y.1 7 = nI (tkE T m q) ∧ y.1 8 = nI q ∧ y.1 9 = nI (rkC T m q) ∧ (rkC T m q = 1 → y.1 10 = nI (rkV T m q)) ∧ (rkC T m q = 2 → y.2.1 = Int64.ofNat (rkW T m q))
/-- the parser's own part of a state -/
def rcf (y : MS) (b l : Nat) (P : List Nat) (W : List (Nat × Nat)) (o w : Nat) : Prop := (y.1 12 = nI b ∧ b ≤ 2040) ∧ (y.1 14 = nI W.length ∧ hasR (y.2.2.1 2) b W) ∧ (y.1 17 = nI P.length ∧ pl (y.2.2.1 16) P) ∧ (y.1 18 = nI o ∧ o ≤ 8) ∧ y.1 19 = nI w ∧ (y.1 20 = nI l ∧ l < 4)
def RF (b : Nat) (y y' : MS) : Prop := (∀ k, (k < 7 ∨ k = 11 ∨ k = 12 ∨ k = 13 ∨ k = 15 ∨ k = 16 ∨ 20 ≤ k) → y'.1 k = y.1 k) ∧ (∀ a, a ≠ 2 → a ≠ 16 → y'.2.2.1 a = y.2.2.1 a) ∧ (∀ j, j < b + 75 ∨ b + 680 ≤ j → y'.2.2.1 2 j = y.2.2.1 2 j) ∧ y'.2.2.2 = y.2.2.2
section RST
variable {b : Nat}
theorem RF.refl (y : MS) : RF b y y := ⟨fun _ _ => rfl, fun _ _ _ => rfl, fun _ _ => rfl, rfl⟩
theorem RF.trans {x y z : MS} (h : RF b x y) (g : RF b y z) : RF b x z := ⟨fun k hk => (g.1 k hk).trans (h.1 k hk), fun a h1 h2 => (g.2.1 a h1 h2).trans (h.2.1 a h1 h2), fun j hj => (g.2.2.1 j hj).trans (h.2.2.1 j hj), g.2.2.2.trans h.2.2.2⟩
theorem RF.I {x x' : MS} (h : RF b x x') (k : Nat) (v : Int32) (hk : ¬ (k < 7 ∨ k = 11 ∨ k = 12 ∨ k = 13 ∨ k = 15 ∨ k = 16 ∨ 20 ≤ k)) : RF b x (sI x' k v) := ⟨fun j hj => by rw [sI_o _ _ _ _ (show j ≠ k by omega), h.1 j hj], h.2⟩
theorem RFr.rf {x y : MS} (h : RFr x y) : RF b x y := ⟨fun k hk => h.1 k (by omega) (by omega) (by omega) (by omega), fun a _ _ => by rw [h.2], fun j _ => by rw [h.2], by rw [h.2]⟩
theorem r_rank {Post : Int32 → Prop} {a : Nat} (ha : a < 64) (h : Post (nI (rkF a))) : VC_rank Post (nI a) := by
  unfold VC_rank
  rw [show (40 : Int32) = nI 40 from rfl, show (22 : Int32) = nI 22 from rfl, show (21 : Int32) = nI 21 from rfl, show (20 : Int32) = nI 20 from rfl, show (10 : Int32) = nI 10 from rfl, show ((nI a) = (2 : Int32)) = (a = 2) by rw [show (2 : Int32) = nI 2 from rfl, neq (by omega) (by decide)], show ((nI a) < (5 : Int32)) = (a < 5) from propext (nI_ltI (b := 5) (by omega) (by decide))]
  rw [neq (by omega) (by decide), neq (by omega) (by decide), neq (by omega) (by decide), propext (nI_ltI (a := a) (b := 40) (by omega) (by decide)), propext (nI_ltI (a := a) (b := 10) (by omega) (by decide))]
  unfold rkF at h
  refine ⟨fun z => ?_, fun z => by rw [if_neg z] at h; exact h⟩
  rw [if_pos z] at h
  refine ⟨fun z => ?_, fun z => by rw [if_pos z] at h; exact h⟩
  rw [if_neg z] at h
  refine ⟨fun z => ?_, fun z => by rw [if_pos z] at h; exact h⟩
  rw [if_neg z] at h
  refine ⟨fun z => ?_, fun z => by rw [if_pos z] at h; exact h⟩
  rw [if_neg z] at h
  refine ⟨fun z => ?_, fun z => by rw [if_neg z] at h; exact h⟩
  rw [if_pos z] at h
  refine ⟨fun z => ?_, fun z => by rw [if_pos z] at h; exact h⟩
  rw [if_neg z] at h
  exact ⟨fun z => by rw [if_pos z] at h; exact h, fun z => by rw [if_neg z] at h; exact h⟩
theorem r_emit {Post : MS → Prop} {y : MS} {l P W o w a c} (h : rcf y b l P W o w) (hW : W.length ≤ 300) (k : ∀ y', rcf y' b l P (W ++ [(a, c)]) o w → RF b y y' → y'.1 7 = y.1 7 → y'.1 8 = y.1 8 → y'.1 9 = y.1 9 → y'.1 10 = y.1 10 → y'.2.1 = y.2.1 → y'.2.2.1 16 = y.2.2.1 16 → Post y') : VC_emit Post (nI a) (nI c) y := by
  obtain ⟨⟨b1, b2⟩, ⟨w1, w2⟩, p, o1, w3, l1⟩ := h
  have e1 : (y.1 12) + 75 + 2 * (y.1 14) = nI (b + 75 + 2 * W.length) := by
    rw [b1, w1, show (75 : Int32) = nI 75 from rfl, show (2 : Int32) = nI 2 from rfl, nmul, nadd, nadd]
  unfold VC_emit
  rw [e1, ncl (by omega)]
  refine ⟨vp_in_nI (by omega) (by decide), fun S1 f1 => ?_⟩
  have i1 : S1.1 = y.1 := by rw [f1]; rfl
  rw [i1, e1, nI_1, ncl (by omega)]
  refine ⟨vp_in_nI (by omega) (by decide), fun S2 f2 v3 e3 S4 e4 => ?_⟩
  have i2 : S2.1 = y.1 := by rw [f2, ← i1]; rfl
  rw [i2, w1, nI_1] at e3
  have a2 : S4.2.2.1 2 = upd (upd (y.2.2.1 2) (b + 75 + 2 * W.length) (nI a)) (b + 75 + 2 * W.length + 1) (nI c) := by
    rw [e4, sI_2, f2, f1]
    simp [sF]
  have ao : ∀ x, x ≠ 2 → S4.2.2.1 x = y.2.2.1 x := fun x hx => by
    rw [e4, sI_2, f2, f1]
    simp [sF, hx]
  have io : ∀ x, x ≠ 14 → S4.1 x = y.1 x := fun x hx => by rw [e4, sI_o _ _ _ _ hx, i2]
  refine k S4 ⟨⟨by rw [io 12 (by decide), b1], b2⟩, ⟨?_, ?_⟩, ⟨by rw [io 17 (by decide)]; exact p.1, by rw [ao 16 (by decide)]; exact p.2⟩, ⟨by rw [io 18 (by decide)]; exact o1.1, o1.2⟩, by rw [io 19 (by decide)]; exact w3, ⟨by rw [io 20 (by decide)]; exact l1.1, l1.2⟩⟩ ⟨fun x hx => io x (by omega), fun x h1 _ => ao x h1, fun j hj => ?_, ?_⟩ (io 7 (by decide)) (io 8 (by decide)) (io 9 (by decide)) (io 10 (by decide)) ?_ (ao 16 (by decide))
  · rw [e4, sI_s, e3, List.length_append]; rfl
  · intro j hj
    rw [List.length_append] at hj
    have hj2 : j < W.length + 1 := hj
    rw [a2]
    by_cases z : j = W.length
    · rw [z, List.getD_eq_getElem?_getD, List.getElem?_append_right (Nat.le_refl _), Nat.sub_self]
      rw [upd_n _ _ (by omega), upd_s, show b + 76 + 2 * W.length = b + 75 + 2 * W.length + 1 by omega, upd_s]
      exact ⟨rfl, rfl⟩
    · have hl : j < W.length := (by omega)
      rw [List.getD_eq_getElem?_getD, List.getElem?_append_left hl, ← List.getD_eq_getElem?_getD]
      rw [upd_n _ _ (by omega), upd_n _ _ (by omega), upd_n _ _ (by omega), upd_n _ _ (by omega)]
      exact w2 j hl
  · rw [a2, upd_n _ _ (by omega), upd_n _ _ (by omega)]
  · rw [e4, sI_2, f2, f1]; rfl
  · rw [e4, sI_2, f2, f1]; rfl
end RST
