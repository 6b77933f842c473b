/-! behind one, whole -/
section RBEH2
variable {T : Nat → Nat} {m b l : Nat}
theorem rcf.w {y : MS} {P : List Nat} {W : List (Nat × Nat)} {o w : Nat} (h : rcf y b l P W o w) (w' : Nat) : rcf (sI y 19 (nI w')) b l P W o w' := by
  obtain ⟨g12, g14, g17, g18, g19, g20⟩ := h
  refine ⟨⟨?_, g12.2⟩, ⟨?_, g14.2⟩, ⟨?_, g17.2⟩, ⟨?_, g18.2⟩, sI_s _ _ _, ⟨?_, g20.2⟩⟩
  · rw [sI_o _ _ _ _ (by decide)]; exact g12.1
  · rw [sI_o _ _ _ _ (by decide)]; exact g14.1
  · rw [sI_o _ _ _ _ (by decide)]; exact g17.1
  · rw [sI_o _ _ _ _ (by decide)]; exact g18.1
  · rw [sI_o _ _ _ _ (by decide)]; exact g20.1
theorem rcf.pop {y : MS} {a : Nat} {P : List Nat} {W : List (Nat × Nat)} {o w : Nat} (h : rcf y b l (a :: P) W o w) (o' : Nat) (ho : o' ≤ 8) : rcf (sI (sI y 17 (nI P.length)) 18 (nI o')) b l P W o' w := by
  obtain ⟨g12, g14, g17, g18, g19, g20⟩ := h
  refine ⟨⟨?_, g12.2⟩, ⟨?_, g14.2⟩, ⟨?_, g17.2.2.2⟩, ⟨sI_s _ _ _, ho⟩, ?_, ⟨?_, g20.2⟩⟩
  · rw [sI_o _ _ _ _ (by decide), sI_o _ _ _ _ (by decide)]; exact g12.1
  · rw [sI_o _ _ _ _ (by decide), sI_o _ _ _ _ (by decide)]; exact g14.1
  · rw [sI_o _ _ _ _ (by decide), sI_s]
  · rw [sI_o _ _ _ _ (by decide), sI_o _ _ _ _ (by decide)]; exact g19
  · rw [sI_o _ _ _ _ (by decide), sI_o _ _ _ _ (by decide)]; exact g20.1
theorem rcf.mark {y : MS} {a c : Nat} {P : List Nat} {W : List (Nat × Nat)} {o w : Nat} (h : rcf y b l (a :: P) W o w) (hc : c < 64) : rcf (sF y 16 (upd (y.2.2.1 16) P.length (nI c))) b l (c :: P) W o w := by
  obtain ⟨g12, g14, g17, g18, g19, g20⟩ := h
  refine ⟨g12, ⟨g14.1, ?_⟩, ⟨g17.1, ?_⟩, g18, g19, g20⟩
  · rw [sF_other _ _ (by decide)]; exact g14.2
  · rw [sF_same]
    exact ⟨by rw [upd_s], hc, g17.2.2.2.ext (fun j hj => by rw [upd_n _ _ (by omega)])⟩
theorem RT.F {x x' : MS} (h : RT b x x') (f : Nat → Int32) : RT b x (sF x' 16 f) := ⟨⟨fun k hk => h.1.1 k hk, fun a h1 h2 => by rw [sF_other _ _ h2, h.1.2.1 a h1 h2], fun j hj => by rw [sF_other _ _ (by decide), h.1.2.2.1 j hj], h.1.2.2.2⟩, h.2⟩
theorem cnt_le : ∀ {P : List Nat}, cnt (mkS P) ≤ cnt P
  | [] => Nat.le_refl _
  | a :: P => by
    have := cnt_le (P := P)
    unfold mkS
    split
    · exact Nat.le_refl _
    · show _ ≤ (if a = 2 ∨ a = 20 ∨ 40 ≤ a then 1 else 0) + cnt P
      omega
theorem bw_2 {P : List Nat} {t : Nat} (ht : t < 57) : bwN P t ≠ 2 := by
  unfold bwN
  by_cases c : isCmp t = true
  · have := roF_b ht c
    repeat (first | omega | split)
  · rw [if_neg c]
    repeat (first | omega | split)
theorem bw_20 {P : List Nat} {t : Nat} (ht : t < 57) : bwN P t ≠ 20 := by
  unfold bwN
  by_cases c : isCmp t = true
  · have := roF_b ht c
    repeat (first | omega | split)
  · rw [if_neg c]
    repeat (first | omega | split)
theorem cnt_bw {P Q : List Nat} {t : Nat} (ht : t < 57) : cnt (bwN P t :: Q) = cnt Q := by
  have e1 := bw_2 (P := P) ht
  have e2 := bw_20 (P := P) ht
  have e3 := bw_lt (P := P) ht
  show (if bwN P t = 2 ∨ bwN P t = 20 ∨ 40 ≤ bwN P t then 1 else 0) + cnt Q = _
  rw [if_neg (by omega), Nat.zero_add]
theorem neg1F : ∀ c : Fin 64, ¬ ((-1 : Int32) = nI c.1) := by decide +kernel
theorem neg1 {c : Nat} (h : c < 64) : ¬ ((-1 : Int32) = nI c) := neg1F ⟨c, h⟩
theorem ko_t {P : List Nat} {t0 r4 : Int32} {c : Nat} (hc : c < 64) (tE : ∀ c : Nat, c < 64 → ((t0 = nI c → ∃ Q, mkS P = c :: Q ∧ r4 = nI Q.length) ∧ (∀ Q, mkS P = c :: Q → t0 = nI c))) (h : koF P = c) (g : c ≠ 40 ∨ mkS P ≠ []) : t0 = nI c := by
  unfold koF at h
  cases hh : mkS P with
  | nil =>
    rw [hh] at h g
    have h' : 40 = c := h
    exact absurd g (by rw [← h']; simp)
  | cons a Q =>
    rw [hh] at h
    have h' : a = c := h
    exact (tE c hc).2 Q (by rw [hh, h'])
theorem r_beh {Post : Int32 → MS → Prop} {y : MS} {P : List Nat} {W : List (Nat × Nat)} {q : Nat} (h : rs T m b l y P W 1 q) (hP : P.length < 100)
    (kA : bwN P (tkC T m q) ≠ 0 → ∀ y', rs T m b l y' (bwN P (tkC T m q) :: (stl (rkF (bwN P (tkC T m q))) P W).1) (stl (rkF (bwN P (tkC T m q))) P W).2 0 (nx T m q) → RF b y y' → Post 1 y')
    (kB : bwN P (tkC T m q) = 0 → ∀ Q, tkC T m q = 9 → mkS P = 40 :: Q → ∀ y', rs T m b l y' (stl 7 Q (stl 1 P W).2).1 (stl 7 Q (stl 1 P W).2).2 1 (nx T m q) → RF b y y' → Post 1 y')
    (kC : bwN P (tkC T m q) = 0 → ∀ Q, tkC T m q = 42 → mkS P = 43 :: Q → ∀ y', rs T m b l y' (stl 7 Q ((stl 1 P W).2 ++ [(23, 0)])).1 (stl 7 Q ((stl 1 P W).2 ++ [(23, 0)])).2 1 (nx T m q) → RF b y y' → Post 1 y')
    (kD : bwN P (tkC T m q) = 0 → ∀ Q a, (tkC T m q = 11 ∧ a = 41 ∧ icF P = true) ∨ (tkC T m q = 12 ∧ a = 42) → mkS P = a :: Q → ∀ y', rs T m b l y' ((a + 1) :: Q) (stl 1 P W).2 0 (nx T m q) → RF b y y' → Post 1 y')
    (k0 : bwN P (tkC T m q) = 0 → ¬ (tkC T m q = 9 ∧ koF P = 40 ∧ mkS P ≠ []) → ¬ (tkC T m q = 42 ∧ koF P = 43) → ¬ (tkC T m q = 11 ∧ koF P = 41 ∧ icF P = true) → ¬ (tkC T m q = 12 ∧ koF P = 42) → Post 0 y) : VC_behindOne Post 0 y := by
  obtain ⟨h1, h2, h3, h4, h5, h6⟩ := id h
  have hT : ∀ i, i < m → T i ≤ 255 := fun i hi => (h1.2.2 i hi).2
  have tl := tkC_lt (q := q) hT
  have m3 := h1.2.1
  have p160 : P.length ≤ 160 := (by omega)
  have le := nx_le (T := T) h2
  have pm := pl_mk h4.2.2.1.2
  have ml := mkS_le (P := P)
  have s1 := stl_len (r := 1) (P := P) (W := W)
  have o8 := h4.2.2.2.1.2
  have cl8 := cnt_le (P := P)
  intro K hK
  refine r_between h (r_marker h4 p160 ?_)
  -- the last step
  have fin : ∀ (x : Int32 × Int32 × Int32 × Int32) (V : MS) (P' : List Nat) (W' : List (Nat × Nat)) (w' : Nat), tkC T m q ≠ 16 → RT b y V → rcf V b l P' W' (cnt P') w' → W'.length + P'.length ≤ q + 1 → P'.length ≤ 100 → (∀ y', rs T m b l y' P' W' w' (nx T m q) → RF b y y' → Post 1 y') → K (.inr (.inr (.inr (.inr (.inr (.inr x)))))) V := fun x V P' W' w' t16 qV cV lV pV kk => by
    have lt := nx_lt (T := T) h2 t16
    refine hK _ _ ?_
    obtain ⟨x1, x2, x3, x4⟩ := x
    dsimp only [B_behindOne]
    exact r_nexts (qV.1.tp h1) h2 (h3.rt qV) (fun y' t' f' => kk y' ⟨(qV.1.trans f'.rf).tp h1, le.2, t', cV.fr f', (by omega), pV⟩ (qV.1.trans f'.rf))
  -- an order between
  have ordr : ∀ r4 t0 : Int32, bwN P (tkC T m q) ≠ 0 → K (.inl (0, bwI P (tkC T m q), r4, t0)) y := fun r4 t0 nz => by
    have t16 : tkC T m q ≠ 16 := fun z => nz (by rw [z]; exact bw16)
    have b40 := bw_lt (P := P) tl
    have r1 := rkF_1 ⟨bwN P (tkC T m q), b40⟩
    simp only at r1
    have r7 := rkF_7 (a := bwN P (tkC T m q))
    have eI : bwI P (tkC T m q) = nI (bwN P (tkC T m q)) := if_neg nz
    rw [eI]
    refine hK _ _ ?_
    dsimp only [B_behindOne]
    refine ⟨fun z => absurd z (nI_pos (by omega)), fun _ => r_rank (by omega) ?_⟩
    have sl := stl_len (r := rkF (bwN P (tkC T m q))) (P := P) (W := W)
    refine r_settle ⟨r1, r7⟩ h4 (by omega) p160 (fun S6 c6 q6 => r_push (by omega) c6 (by omega) (fun S7 c7 q7 S8 e8 => ?_))
    have ec : cnt (bwN P (tkC T m q) :: (stl (rkF (bwN P (tkC T m q))) P W).1) = cnt (stl (rkF (bwN P (tkC T m q))) P W).1 := cnt_bw tl
    refine fin _ S8 _ _ 0 t16 ?_ ?_ ?_ ?_ (kA nz)
    · rw [e8]; exact (q6.trans q7).I _ _ (by omega)
    · rw [ec, e8]; exact c7.w 0
    · show _ + (_ + 1) ≤ _
      omega
    · show _ + 1 ≤ 100
      omega
  -- no order between
  have e9 : tkC T m q = 9 ↔ rkC T m q = 41 := tk_iff (q := q) hT (k := 9) (by decide)
  have e11 : tkC T m q = 11 ↔ rkC T m q = 63 := tk_iff (q := q) hT (k := 11) (by decide)
  have e12 : tkC T m q = 12 ↔ rkC T m q = 58 := tk_iff (q := q) hT (k := 12) (by decide)
  have q41 : (y.1 9 = (41 : Int32)) = (tkC T m q = 9) := by rw [show (41 : Int32) = nI 41 from rfl, tok2 hT h3 41 (by decide), eq_iff_iff]; exact e9.symm
  have q63 : (y.1 9 = (63 : Int32)) = (tkC T m q = 11) := by rw [show (63 : Int32) = nI 63 from rfl, tok2 hT h3 63 (by decide), eq_iff_iff]; exact e11.symm
  have q58 : (y.1 9 = (58 : Int32)) = (tkC T m q = 12) := by rw [show (58 : Int32) = nI 58 from rfl, tok2 hT h3 58 (by decide), eq_iff_iff]; exact e12.symm
  -- closing
  have clos : ∀ (x2 x3 : Int32) (a : Nat) (Q : List Nat), mkS P = a :: Q → bwN P (tkC T m q) = 0 → (tkC T m q = 9 ∧ a = 40) ∨ (tkC T m q = 42 ∧ a = 43) → K (.inr (.inr (.inl (0, x2, x3, nI a)))) y := fun x2 x3 a Q em z0 ha => by
    have t16 : tkC T m q ≠ 16 := (by omega)
    rw [em] at ml cl8
    have ml' : Q.length + 1 ≤ P.length := ml
    have ec : cnt (a :: Q) = cnt Q + 1 := by
      show (if a = 2 ∨ a = 20 ∨ 40 ≤ a then 1 else 0) + cnt Q = _
      rw [if_pos (by omega)]; omega
    have e1 : (stl 1 P W).1 = a :: Q := stl_1.trans em
    rw [e1] at s1
    have s1' : (stl 1 P W).2.length + (Q.length + 1) = W.length + P.length := s1.2
    refine hK _ _ ?_
    dsimp only [B_behindOne]
    refine r_settle (r := 1) (by decide) h4 (by omega) p160 (fun S12 c12 q12 v13 e13 S14 e14 v15 e15 S16 e16 => ?_)
    rw [e1] at c12
    have f13 : v13 = nI Q.length := by rw [e13, c12.2.2.1.1]; exact sub1
    have f15 : v15 = nI (cnt Q) := by rw [e15, e14, sI_o _ _ _ _ (by decide), c12.2.2.2.1.1, ec]; exact sub1
    have c16 : rcf S16 b l Q (stl 1 P W).2 (cnt Q) 1 := by rw [e16, e14, f13, f15]; exact c12.pop (cnt Q) (by omega)
    have q16 : RT b y S16 := by rw [e16, e14]; exact (q12.I _ _ (by omega)).I _ _ (by omega)
    rw [show ((nI a) = (43 : Int32)) = (a = 43) by rw [show (43 : Int32) = nI 43 from rfl, neq (by omega) (by decide)]]
    refine ⟨fun n43 => ?_, fun y43 => ?_⟩
    · have hh : tkC T m q = 9 ∧ a = 40 := ha.resolve_right (fun z => n43 z.2)
      have sl := stl_len (r := 7) (P := Q) (W := (stl 1 P W).2)
      refine r_whole c16 (by omega) (by omega) (fun S17 c17 q17 => fin _ S17 _ _ 1 t16 (q16.trans q17) c17 (by omega) (by omega) (kB z0 Q hh.1 (by rw [em, hh.2])))
    · have hh : tkC T m q = 42 := (ha.resolve_left (fun z => by omega)).1
      have len : ((stl 1 P W).2 ++ [(23, 0)]).length = (stl 1 P W).2.length + 1 := by rw [List.length_append]; rfl
      have sl := stl_len (r := 7) (P := Q) (W := (stl 1 P W).2 ++ [(23, 0)])
      rw [len] at sl
      refine r_emit (a := 23) (c := 0) c16 (by omega) (fun S18 c18 f18 t7 t8 t9 t10 t21 t16' => ?_)
      have q18 : RT b y S18 := q16.trans ⟨f18, t7, t8, t9, t10, t21⟩
      refine r_whole c18 (by rw [len]; omega) (by omega) (fun S19 c19 q19 => fin _ S19 _ _ 1 t16 (q18.trans q19) c19 (by omega) (by omega) (kC z0 Q hh (by rw [em, y43])))
  -- the next part of a choice
  have part : ∀ (x2 : Int32) (a : Nat) (Q : List Nat), mkS P = a :: Q → bwN P (tkC T m q) = 0 → (tkC T m q = 11 ∧ a = 41 ∧ icF P = true) ∨ (tkC T m q = 12 ∧ a = 42) → K (.inr (.inr (.inr (.inr (.inr (.inl (0, x2, nI Q.length, nI a))))))) y := fun x2 a Q em z0 ha => by
    have t16 : tkC T m q ≠ 16 := (by omega)
    rw [em] at ml
    have ml' : Q.length + 1 ≤ P.length := ml
    have e1 : (stl 1 P W).1 = a :: Q := stl_1.trans em
    rw [e1] at s1
    have s1' : (stl 1 P W).2.length + (Q.length + 1) = W.length + P.length := s1.2
    have ec : cnt ((a + 1) :: Q) = cnt (a :: Q) := by
      show (if a + 1 = 2 ∨ a + 1 = 20 ∨ 40 ≤ a + 1 then 1 else 0) + cnt Q = (if a = 2 ∨ a = 20 ∨ 40 ≤ a then 1 else 0) + cnt Q
      rw [if_pos (by omega), if_pos (by omega)]
    refine hK _ _ ?_
    dsimp only [B_behindOne]
    refine r_settle (r := 1) (by decide) h4 (by omega) p160 (fun S22 c22 q22 v23 e23 => ⟨vp_in_nI (by omega) (by decide), fun S24 e24 S25 e25 => ?_⟩)
    rw [e1] at c22
    rw [nI_1] at e23
    rw [ncl (by omega), e23] at e24
    refine fin _ S25 ((a + 1) :: Q) _ 0 t16 ?_ ?_ ?_ ?_ (kD z0 Q a ha em)
    · rw [e25, e24]; exact (q22.F _).I _ _ (by omega)
    · rw [ec, e25, e24]; exact (c22.mark (by omega)).w 0
    · show _ + (Q.length + 1) ≤ _
      omega
    · show Q.length + 1 ≤ 100
      omega
  have disp : ∀ r4 t0 : Int32, (∀ c : Nat, c < 64 → ((t0 = nI c → ∃ Q, mkS P = c :: Q ∧ r4 = nI Q.length) ∧ (∀ Q, mkS P = c :: Q → t0 = nI c))) → bwN P (tkC T m q) = 0 → K (.inl (0, -1, r4, t0)) y := fun r4 t0 tE z0 => by
    have t40 : (t0 = (40 : Int32)) = (t0 = nI 40) := rfl
    have hh5 : ¬ (tkC T m q = 9 ∧ t0 = nI 40) → ¬ (tkC T m q = 42 ∧ t0 = nI 43) → ¬ (tkC T m q = 11 ∧ t0 = nI 41 ∧ icF P = true) → K (.inr (.inr (.inr (.inr (.inl (0, -1, r4, t0)))))) y := fun x1 x2 x3 => by
      refine hK _ _ ?_
      dsimp only [B_behindOne]
      rw [q58]
      have out : ¬ (tkC T m q = 12 ∧ t0 = nI 42) → Post 0 y := fun x4 => by
        refine k0 z0 (fun z => x1 ⟨z.1, ?_⟩) (fun z => x2 ⟨z.1, ?_⟩) (fun z => x3 ⟨z.1, ?_, z.2.2⟩) (fun z => x4 ⟨z.1, ?_⟩)
        · exact ko_t (by decide) tE z.2.1 (Or.inr z.2.2)
        · exact ko_t (by decide) tE z.2 (Or.inl (by decide))
        · exact ko_t (by decide) tE z.2.1 (Or.inl (by decide))
        · exact ko_t (by decide) tE z.2 (Or.inl (by decide))
      refine ⟨fun n => out (fun z => n z.1), fun t => ⟨fun n => out (fun z => n z.2), fun e => ?_⟩⟩
      obtain ⟨Q, em, er⟩ := (tE 42 (by decide)).1 e
      rw [er, show t0 = nI 42 from e]
      exact part _ 42 Q em z0 (Or.inr ⟨t, rfl⟩)
    have hh4 : ¬ (tkC T m q = 9 ∧ t0 = nI 40) → ¬ (tkC T m q = 42 ∧ t0 = nI 43) → K (.inr (.inr (.inr (.inl (0, -1, r4, t0))))) y := fun x1 x2 => by
      refine hK _ _ ?_
      dsimp only [B_behindOne]
      rw [q63]
      refine ⟨fun n => hh5 x1 x2 (fun z => n z.1), fun t => ⟨fun n => hh5 x1 x2 (fun z => n z.2.1), fun e => ?_⟩⟩
      refine r_isC h4 p160 (fun c => ⟨fun _ => ?_, fun z => absurd z (by decide)⟩) (fun c => ⟨fun z => absurd rfl z, fun _ => hh5 x1 x2 (fun z => by rw [c] at z; exact absurd z.2.2 (by decide))⟩)
      obtain ⟨Q, em, er⟩ := (tE 41 (by decide)).1 e
      rw [er, show t0 = nI 41 from e]
      exact part _ 41 Q em z0 (Or.inl ⟨t, rfl, c⟩)
    have h2' : ¬ (tkC T m q = 9 ∧ t0 = nI 40) → K (.inr (.inl (0, -1, r4, t0))) y := fun x1 => by
      refine hK _ _ ?_
      dsimp only [B_behindOne, VC_w3]
      refine r_isWord (i := 10) hT h3 (by decide) (by decide) (by decide +kernel) (fun t => ⟨fun z => absurd z (by decide), fun _ => ⟨fun n => hh4 x1 (fun z => n z.2), fun e => ?_⟩⟩) (fun n => ⟨fun _ => hh4 x1 (fun z => n z.1), fun z => absurd rfl z⟩)
      obtain ⟨Q, em, er⟩ := (tE 43 (by decide)).1 e
      rw [show t0 = nI 43 from e]
      exact clos _ _ 43 Q em z0 (Or.inr ⟨t, rfl⟩)
    refine hK _ _ ?_
    dsimp only [B_behindOne]
    rw [q41]
    refine ⟨fun _ => ⟨fun n => h2' (fun z => n z.1), fun t => ⟨fun e => ?_, fun n => h2' (fun z => n z.2)⟩⟩, fun z => absurd (by decide) z⟩
    obtain ⟨Q, em, er⟩ := (tE 40 (by decide)).1 e
    rw [show t0 = nI 40 from e]
    exact clos _ _ 40 Q em z0 (Or.inl ⟨t, rfl⟩)
  have both : ∀ r4 t0 : Int32, (∀ c : Nat, c < 64 → ((t0 = nI c → ∃ Q, mkS P = c :: Q ∧ r4 = nI Q.length) ∧ (∀ Q, mkS P = c :: Q → t0 = nI c))) → K (.inl (0, bwI P (tkC T m q), r4, t0)) y := fun r4 t0 tE => by
    by_cases z : bwN P (tkC T m q) = 0
    · have eI : bwI P (tkC T m q) = -1 := if_pos z
      rw [eI]; exact disp r4 t0 tE z
    · exact ordr r4 t0 z
  cases hh : mkS P with
  | nil =>
    refine ⟨fun z => absurd z (by decide), fun _ => both _ _ (fun c hc => ⟨fun z => ?_, fun Q e => by rw [hh] at e; exact absurd e (List.cons_ne_nil _ _).symm⟩)⟩
    exact absurd z (neg1 hc)
  | cons a Q =>
    rw [hh] at pm ml
    have ml' : Q.length + 1 ≤ P.length := ml
    have a64 := pm.2.1
    have ex : nI (a :: Q).length - 1 = nI Q.length := sub1
    rw [ex]
    refine ⟨fun _ => ⟨vp_in_nI (by omega) (by decide), ?_⟩, fun z => absurd (nI_le (a := 0) (Nat.zero_le _) (by omega)) z⟩
    rw [ncl (by omega), pm.1]
    refine both _ _ (fun c hc => ?_)
    rw [neq (by omega) (by omega), hh]
    exact ⟨fun z => ⟨Q, by rw [z], rfl⟩, fun Q' e => (List.cons.inj e).1⟩
end RBEH2
