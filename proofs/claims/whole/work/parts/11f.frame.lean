/-! what stays where A stays -/
theorem live_of {A B : Nat → Nat} (h : ∀ k, k = 0 ∨ k = 2 ∨ k = 3 ∨ k = 9 ∨ (10 ≤ k ∧ k < 40) ∨ (150 ≤ k ∧ k < 250) → B k = A k) {c : Nat} (hc : c < 116) : live B c = live A c := by
  unfold live
  rw [h 0 (by omega), h 2 (by omega), h 3 (by omega), h 9 (by omega)]
  split
  · rfl
  split
  · rfl
  split
  · rfl
  split
  · rfl
  split
  · rw [h _ (by omega)]
  split
  · rw [h _ (by omega)]
  · rw [h _ (by omega)]
theorem core_of {A B : Nat → Nat} (h6 : B 6 = A 6) (h : ∀ k, k = 0 ∨ k = 2 ∨ k = 3 ∨ k = 9 ∨ (10 ≤ k ∧ k < 40) ∨ (150 ≤ k ∧ k < 250) ∨ 410 ≤ k → B k = A k) (j : Nat) {c : Nat} (hc : c < 116) : core B j c = core A j c := by
  unfold core
  rw [h6]
  split
  · exact h _ (by omega)
  · exact live_of (fun k hk => h k (by omega)) hc
/-- a row of steps, where the cores are alike -/
theorem step_of {f f' : Nat → Int32} {r : Nat} {c d c' d' : Nat → Nat} (h : stepOK f r c d) (hr : ∀ i, i < 8 → f' (r + i) = f (r + i)) (hc : ∀ k, k < 116 → c' k = c k) (hd : ∀ k, k < 116 → d' k = d k) (h1 : c 1 ≤ 10) (h3 : c 3 ≤ 6) : stepOK f' r c' d' := by
  obtain ⟨t, t1, t2, t3, t4, t5, t6, t7, t8, t9, t10, t11⟩ := h
  have r0 := hr 0 (by omega)
  have r1 := hr 1 (by omega)
  rw [Nat.add_zero] at r0
  refine ⟨t, by rw [r0, t1], t2, ?_, ?_, ?_, ?_, ?_, ?_, ?_, ?_, ?_⟩
  · rw [hc 0 (by omega), hc 1 (by omega), hc 2 (by omega), hd 0 (by omega), hd 1 (by omega), hd 2 (by omega)]; exact t3
  · rw [hc 0 (by omega), hc 1 (by omega), hc 2 (by omega), hd 0 (by omega), hd 1 (by omega), hd 2 (by omega)]; exact t4
  · rw [hc 0 (by omega), hc 1 (by omega), hc 2 (by omega), hd 0 (by omega), hd 1 (by omega), hd 2 (by omega)]; exact t5
  · rw [hc 0 (by omega), hc 1 (by omega), hc 2 (by omega), hd 0 (by omega), hd 1 (by omega), hd 2 (by omega), r1]
    intro z
    obtain ⟨z1, z2, z3, p, z4, z5, z6, z7⟩ := t6 z
    exact ⟨z1, z2, z3, p, z4, z5, by rw [hc _ (by omega)]; exact z6, fun p' hp hn => by rw [hc _ (by omega), hd _ (by omega)]; exact z7 p' hp hn⟩
  · rw [hc 1 (by omega)]
    intro z p hp
    rw [hc _ (by omega), hd _ (by omega)]; exact t7 z p hp
  · rw [hc 1 (by omega)]
    intro p hp
    rw [hc _ (by omega), hd _ (by omega)]; exact t8 p hp
  · rw [hc 3 (by omega), hd 3 (by omega)]; exact t9
  · rw [hc 3 (by omega)]
    intro b hb
    rw [hc _ (by omega), hd _ (by omega), show r + 2 + b = r + (2 + b) by omega, hr _ (by omega), ← t10 b hb]
    congr 1; omega
  · rw [hc 3 (by omega)]
    intro b hb hb2
    rw [show r + 2 + b = r + (2 + b) by omega, hr _ (by omega), ← t11 b hb hb2]
    congr 1; omega
section RXOF
variable {I J : Nat → Int32} {F G : Nat → Nat → Int32} {A B : Nat → Nat}
theorem rxCrew_of (h : rxCrew I F A) (h0 : A 0 ≤ 6) (hI : J 64 = I 64) (hF : ∀ k, k < 20 → 3 ≤ k → k ≤ 6 → G k = F k) (hA : ∀ k, k = 0 ∨ (10 ≤ k ∧ k < 40) → B k = A k) : rxCrew J G B := by
  refine ⟨by rw [hI, hA 0 (by omega)]; exact h.1, fun i hi => ?_⟩
  rw [hA 0 (by omega)] at hi
  rw [hF 3 (by omega) (by omega) (by omega), hF 4 (by omega) (by omega) (by omega), hF 5 (by omega) (by omega) (by omega), hF 6 (by omega) (by omega) (by omega), hA (10 + 5 * i) (by omega), hA (11 + 5 * i) (by omega), hA (12 + 5 * i) (by omega), hA (14 + 5 * i) (by omega)]
  exact h.2 i hi
theorem rxWares_of (h : rxWares I F A) (h0 : A 1 ≤ 6) (hI : J 224 = I 224) (hF : ∀ k, k < 20 → 8 ≤ k → k ≤ 10 → G k = F k) (hA : ∀ k, k = 1 ∨ (40 ≤ k ∧ k < 60) → B k = A k) : rxWares J G B := by
  refine ⟨by rw [hI, hA 1 (by omega)]; exact h.1, fun i hi => ?_⟩
  rw [hA 1 (by omega)] at hi
  rw [hF 8 (by omega) (by omega) (by omega), hF 9 (by omega) (by omega) (by omega), hF 10 (by omega) (by omega) (by omega), hA (40 + 3 * i) (by omega), hA (41 + 3 * i) (by omega), hA (42 + 3 * i) (by omega)]
  exact h.2 i hi
theorem rxBench_of (h : rxBench I F A) (h2 : A 2 ≤ 10) (h9 : A 9 ≤ 40) (hI : J 352 = I 352 ∧ J 353 = I 353 ∧ J 356 = I 356) (hF : ∀ k, k < 20 → 12 ≤ k → k ≤ 14 → G k = F k) (hA : ∀ k, k = 2 ∨ k = 3 ∨ k = 9 ∨ (150 ≤ k ∧ k < 410) → B k = A k) : rxBench J G B := by
  obtain ⟨b1, b2, b3, b4, b5⟩ := h
  refine ⟨by rw [hI.1, hA 3 (by omega)]; exact b1, by rw [hI.2.1, hA 2 (by omega)]; exact b2, by rw [hI.2.2, hA 9 (by omega)]; exact b3, fun p hp => ?_, fun i hi => ?_⟩
  · rw [hA 2 (by omega)] at hp
    rw [hF 12 (by omega) (by omega) (by omega), hF 13 (by omega) (by omega) (by omega), hA (150 + 10 * p) (by omega), hA (153 + 10 * p) (by omega)]
    exact b4 p hp
  · rw [hA 9 (by omega)] at hi
    rw [hF 14 (by omega) (by omega) (by omega), hA (250 + i) (by omega)]
    exact b5 i hi
theorem rxSteps_of (h : rxSteps I F A) (hc : ∀ j, j ≤ A 6 → core A j 1 ≤ 10 ∧ core A j 3 ≤ 6) (hI : J 481 = I 481 ∧ J 480 = I 480) (hF : ∀ k, k < 20 → k = 16 → G k = F k) (h6 : B 6 = A 6) (hA : ∀ j, j ≤ A 6 → ∀ k, k < 116 → core B j k = core A j k) : rxSteps J G B := by
  obtain ⟨s1, f, s2, s3, s4⟩ := h
  refine ⟨by rw [hI.1, h6]; exact s1, f, s2, by rw [hI.2]; exact s3, fun j hj => ?_⟩
  rw [h6] at hj
  exact step_of (s4 j hj) (fun i _ => by rw [hF 16 (by omega) rfl]) (hA j (by omega)) (hA (j + 1) (by omega)) (hc j (by omega)).1 (hc j (by omega)).2
theorem rxTalk_of (h : rxTalk I F A) (h7 : A 7 ≤ 8) (h8 : A 8 ≤ 20) (hI : J 544 = I 544 ∧ J 546 = I 546) (hF : ∀ k, k < 20 → 18 ≤ k → G k = F k) (hA : ∀ k, k = 7 ∨ k = 8 ∨ (60 ≤ k ∧ k < 150) → B k = A k) : rxTalk J G B := by
  obtain ⟨t1, t2, t3, t4⟩ := h
  refine ⟨by rw [hI.1, hA 7 (by omega)]; exact t1, by rw [hI.2, hA 8 (by omega)]; exact t2, fun i hi => ?_, fun i hi => ?_⟩
  · rw [hA 7 (by omega)] at hi
    rw [hF 18 (by omega) (by omega), hA (60 + i) (by omega)]
    exact t3 i hi
  · rw [hA 8 (by omega)] at hi
    rw [hF 19 (by omega) (by omega), hA (71 + 4 * i) (by omega), hA (70 + 4 * i) (by omega), hA (72 + 4 * i) (by omega), hA (73 + 4 * i) (by omega)]
    exact t4 i hi
theorem rxText_of (h : rxText I A) (hI : J 38 = I 38 ∧ J 39 = I 39) (hA : B 4 = A 4 ∧ B 5 = A 5) : rxText J B := ⟨by rw [hI.1, hA.1]; exact h.1, by rw [hI.2, hA.2]; exact h.2⟩
end RXOF
theorem Inv.c {A : Nat → Nat} (h : Inv A) : ∀ j, j ≤ A 6 → core A j 1 ≤ 10 ∧ core A j 3 ≤ 6 := fun j hj => by
  have h1 := h.2.2.2.2.2.1 j hj
  have h2 := h.b
  exact ⟨h1.2.1, by have := h1.2.2.2.1; omega⟩
/-- the class's state stays as it is -/
theorem RX_frame {x x' : XS} {A : Nat → Nat} (hI : Inv A) (h : RX x.1 x.2.1 A) (n : NFr x x') : RX x'.1 x'.2.1 A := by
  obtain ⟨b0, b1, b2, b3, b4, b5, b6, b7, b8, b9⟩ := hI.b
  obtain ⟨h1, h2, h3, h4, h5, h6⟩ := h
  exact ⟨rxCrew_of h1 (by omega) (n.1 64 (by omega)) (fun k hk _ _ => n.2 k hk) (fun _ _ => rfl), rxWares_of h2 (by omega) (n.1 224 (by omega)) (fun k hk _ _ => n.2 k hk) (fun _ _ => rfl), rxBench_of h3 (by omega) (by omega) ⟨n.1 352 (by omega), n.1 353 (by omega), n.1 356 (by omega)⟩ (fun k hk _ _ => n.2 k hk) (fun _ _ => rfl), rxSteps_of h4 hI.c ⟨n.1 481 (by omega), n.1 480 (by omega)⟩ (fun k hk _ => n.2 k hk) rfl (fun _ _ _ _ => rfl), rxTalk_of h5 (by omega) (by omega) ⟨n.1 544 (by omega), n.1 546 (by omega)⟩ (fun k hk _ => n.2 k hk) (fun _ _ => rfl), rxText_of h6 ⟨n.1 38 (by omega), n.1 39 (by omega)⟩ ⟨rfl, rfl⟩⟩
theorem Cons_v {A v w : Nat → Nat} (h : Cons A v) (e : ∀ k, k < 116 → w k = v k) (h6 : A 0 ≤ 6) : Cons A w := by
  obtain ⟨c0, c1, c2, c3, c4, c5, c6, c7⟩ := h
  have e0 := e 0 (by omega)
  have e1 := e 1 (by omega)
  have e2 := e 2 (by omega)
  have e3 := e 3 (by omega)
  refine ⟨by omega, by omega, by omega, by omega, ?_, ?_, ?_, ?_⟩
  · intro i hi
    rw [e0, e1, e3]
    exact c4 i (by omega)
  · intro b hb
    rw [e (4 + b) (by omega)]
    exact c5 b (by omega)
  · intro b hb
    rw [e (10 + b) (by omega), e2, e0]
    exact c6 b (by omega)
  · intro p hp
    have hp2 : p < v 1 := by omega
    obtain ⟨d1, d2, d3, d4, d5⟩ := c7 p hp2
    unfold pieceOK
    rw [e (16 + 10 * p) (by omega), e (17 + 10 * p) (by omega), e (18 + 10 * p) (by omega), e (19 + 10 * p) (by omega), e2]
    exact ⟨d1, d2, d3, d4, fun b hb => by rw [e (20 + 10 * p + b) (by omega)]; exact d5 b hb⟩
/-- the numbers that Cons looks at stay -/
theorem Cons_A {A B v : Nat → Nat} (hc : Cons A v) (h6 : A 0 ≤ 6) (h1 : A 1 ≤ 6) (h : ∀ k, k = 0 ∨ k = 1 ∨ (10 ≤ k ∧ k < 60) ∨ (250 ≤ k ∧ k < 410) → B k = A k) : Cons B v := by
  have := hc.2.2.1
  have := hc.2.2.2.1
  exact Cons_mono hc (by rw [h 0 (by omega)]; exact Nat.le_refl _) (by rw [h 1 (by omega)]; exact Nat.le_refl _) (fun k hk => ⟨(h _ (by omega)).symm, (h _ (by omega)).symm⟩) (fun b hb => (h _ (by omega)).symm) (fun i hi => (h _ (by omega)).symm)
/-- only talk and text change -/
theorem Inv_talk {A B : Nat → Nat} (h : Inv A) (hA : ∀ k, k ≠ 4 → k ≠ 5 → k ≠ 7 → k ≠ 8 → (k < 60 ∨ 150 ≤ k) → B k = A k) (h4 : B 4 ≤ 4) (h5 : B 5 ≤ B 4) (h7 : B 7 ≤ 8) (h8 : B 8 ≤ 20) (ht : talkOK B) : Inv B := by
  obtain ⟨b0, b1, b2, b3, b4, b5, b6, b7, b8, b9⟩ := h.b
  obtain ⟨g1, g2, g3, g4, g5, g6⟩ := h
  have e0 := hA 0 (by omega) (by omega) (by omega) (by omega) (by omega)
  have e1 := hA 1 (by omega) (by omega) (by omega) (by omega) (by omega)
  have e6 := hA 6 (by omega) (by omega) (by omega) (by omega) (by omega)
  have hA2 : ∀ k, 9 ≤ k → (k < 60 ∨ 150 ≤ k) → B k = A k := fun k hk hk2 => hA k (by omega) (by omega) (by omega) (by omega) hk2
  refine ⟨⟨by omega, by omega, h4, h5, by omega, h7, h8⟩, fun i hi => ?_, fun i j hi hj => ?_, fun k hk => ?_, ht, fun j hj => ?_, fun j hj => ?_⟩
  · rw [hA2 _ (by omega) (by omega), hA2 _ (by omega) (by omega), hA2 _ (by omega) (by omega), hA2 _ (by omega) (by omega), e0]
    exact g2 i (by omega)
  · rw [hA2 _ (by omega) (by omega), hA2 _ (by omega) (by omega)]
    exact g3 i j (by omega) (by omega)
  · rw [hA2 _ (by omega) (by omega), hA2 _ (by omega) (by omega), hA2 _ (by omega) (by omega)]
    exact g4 k (by omega)
  · have hc := g6.1 j (by omega)
    refine Cons_v (v := core A j) (Cons_A hc b0 b1 (fun k hk => hA k (by omega) (by omega) (by omega) (by omega) (by omega))) (fun k hk => core_of e6 (fun k hk => hA k (by omega) (by omega) (by omega) (by omega) (by omega)) j hk) (by omega)
  · rw [core_of e6 (fun k hk => hA k (by omega) (by omega) (by omega) (by omega) (by omega)) j (by omega), core_of e6 (fun k hk => hA k (by omega) (by omega) (by omega) (by omega) (by omega)) (j + 1) (by omega)]
    exact g6.2 j (by omega)
