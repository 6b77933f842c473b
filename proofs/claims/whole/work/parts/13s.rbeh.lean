/-! behind one, in the reference -/
def bwN (P : List Nat) (t : Nat) : Nat := if t = 4 then 3 else if t = 5 then 4 else if t = 6 then 5 else if t = 7 then 6 else if koF P = 41 then (if icF P = true then (if t = 44 then 21 else if t = 43 then 22 else 0) else if isCmp t = true then roF t else 0) else 0
def bwI (P : List Nat) (t : Nat) : Int32 := if bwN P t = 0 then -1 else nI (bwN P t)
theorem bw16 {P : List Nat} : bwN P 16 = 0 := by simp [bwN, isCmp]
theorem roF_c : ∀ t : Fin 57, isCmp t.1 = true → 10 ≤ roF t.1 ∧ roF t.1 ≤ 15 := by decide +kernel
theorem roF_b {t : Nat} (ht : t < 57) (h : isCmp t = true) : 10 ≤ roF t ∧ roF t ≤ 15 := roF_c ⟨t, ht⟩ h
theorem bw_lt {P : List Nat} {t : Nat} (ht : t < 57) : bwN P t < 40 := by
  unfold bwN
  by_cases c : isCmp t = true
  · have := roF_b ht c
    repeat (first | omega | split)
  · rw [if_neg c]
    repeat (first | omega | split)
theorem rkF_1 : ∀ a : Fin 40, 1 ≤ rkF a.1 := by decide +kernel
theorem stl_1 : ∀ {P : List Nat} {W : List (Nat × Nat)}, (stl 1 P W).1 = mkS P
  | [], W => rfl
  | a :: P, W => by
    unfold stl mkS
    by_cases z : 40 ≤ a
    · rw [if_pos (show rkF a < 1 by unfold rkF; rw [if_neg (by omega)]; omega), if_pos z]
    · rw [if_neg (by have := rkF_1 ⟨a, (by omega)⟩; simp only at this; omega), if_neg z]
      exact stl_1
section RBEH
variable {T : Nat → Nat} {m b l : Nat}
theorem r_between {Post : Int32 → MS → Prop} {y : MS} {P : List Nat} {W : List (Nat × Nat)} {w q : Nat} (h : rs T m b l y P W w q) (k : Post (bwI P (tkC T m q)) y) : VC_betweenOf Post 0 y := by
  obtain ⟨h1, h2, h3, h4, h5, h6⟩ := id h
  have hT : ∀ i, i < m → T i ≤ 255 := fun i hi => (h1.2.2 i hi).2
  have tl := tkC_lt (q := q) hT
  have p160 : P.length ≤ 160 := (by omega)
  have k64 := koF_64 h4.2.2.1.2
  have e4 : tkC T m q = 4 ↔ rkC T m q = 43 := tk_iff (q := q) hT (k := 4) (by decide)
  have e5 : tkC T m q = 5 ↔ rkC T m q = 45 := tk_iff (q := q) hT (k := 5) (by decide)
  have e6 : tkC T m q = 6 ↔ rkC T m q = 42 := tk_iff (q := q) hT (k := 6) (by decide)
  have e7 : tkC T m q = 7 ↔ rkC T m q = 47 := tk_iff (q := q) hT (k := 7) (by decide)
  unfold VC_betweenOf
  rw [show (43 : Int32) = nI 43 from rfl, show (45 : Int32) = nI 45 from rfl, show (42 : Int32) = nI 42 from rfl, show (47 : Int32) = nI 47 from rfl, tok2 hT h3 43 (by decide), tok2 hT h3 45 (by decide), tok2 hT h3 42 (by decide), tok2 hT h3 47 (by decide), ← propext e4, ← propext e5, ← propext e6, ← propext e7]
  refine ⟨fun n4 => ⟨fun n5 => ⟨fun n6 => ⟨fun n7 => r_kind h4 p160 ?_, fun t => by rw [t] at k; exact k⟩, fun t => by rw [t] at k; exact k⟩, fun t => by rw [t] at k; exact k⟩, fun t => by rw [t] at k; exact k⟩
  have eb : bwN P (tkC T m q) = if koF P = 41 then (if icF P = true then (if tkC T m q = 44 then 21 else if tkC T m q = 43 then 22 else 0) else if isCmp (tkC T m q) = true then roF (tkC T m q) else 0) else 0 := by
    unfold bwN
    rw [if_neg n4, if_neg n5, if_neg n6, if_neg n7]
  unfold bwI at k
  rw [eb] at k
  rw [show (41 : Int32) = nI 41 from rfl, neq (by omega) (by decide)]
  refine ⟨fun k41 => ?_, fun n41 => ?_⟩
  · rw [if_pos k41] at k
    refine r_isC h4 p160 (fun c => ⟨fun _ => ?_, fun z => absurd z (by decide)⟩) (fun c => ⟨fun z => absurd rfl z, fun _ => ?_⟩)
    · rw [if_pos c] at k
      dsimp only [VC_w3]
      refine r_isWord (i := 12) hT h3 (by decide) (by decide) (by decide +kernel) (fun t => ⟨fun z => absurd z (by decide), fun _ => ?_⟩) (fun n44 => ⟨fun _ => ?_, fun z => absurd rfl z⟩)
      · rw [t] at k; exact k
      · have n44' : ¬ tkC T m q = 44 := n44
        rw [if_neg n44'] at k
        rw [show (2 : Int32) = nI 2 from rfl, tok2 hT h3 2 (by decide)]
        refine ⟨fun z => ?_, fun z => nstep (i := 11) hT h3 z (by decide) (by decide) (by decide +kernel) (fun n43 => ?_) (fun t => ?_)⟩
        · have n43 : ¬ tkC T m q = 43 := fun t => z ((tk_word hT (i := 11) (by decide) (by decide)).mp t).1
          rw [if_neg n43] at k; exact k
        · have n43' : ¬ tkC T m q = 43 := n43
          rw [if_neg n43'] at k; exact k
        · have t' : tkC T m q = 43 := t
          rw [if_pos t'] at k; exact k
    · rw [if_neg (show ¬ icF P = true by rw [c]; decide)] at k
      refine r_cmp hT h3 ?_
      unfold cmF
      by_cases z : isCmp (tkC T m q) = true
      · have := roF_b tl z
        rw [if_pos z, if_neg (by omega)] at k
        rw [if_pos z]; exact k
      · rw [if_neg z] at k ⊢; exact k
  · rw [if_neg n41] at k; exact k
end RBEH
