/-! one recursive descent, for both sides -/
abbrev EX : Type := Nat × (Nat → List (Nat × Nat)) × List (Nat × Nat)
/-- the class's orders, how many and which -/
def cl (e : EX) : Nat := e.1
def cC (s : Nat) (e : EX) : List (Nat × Nat) := e.2.1 s
def rC (e : EX) : List (Nat × Nat) := e.2.2
/-- the reference's orders -/
def roF (s : Nat) : Nat := if s = 4 then 3 else if s = 5 then 4 else if s = 6 then 5 else if s = 7 then 6 else if s = 0 then 10 else if s = 13 then 11 else if s = 1 then 12 else if s = 14 then 13 else if s = 2 then 14 else if s = 3 then 15 else if s = 44 then 21 else 22
def eNum (v : Nat) : EX := (1, fun _ => [(60, v)], [(0, v)])
def eNam (i : Nat) : EX := (1, fun _ => [(61, i)], [(1, i)])
def eNeg (a : EX) : EX := (cl a + 1, fun s => cC s a ++ [(64, 0)], rC a ++ [(2, 0)])
def eInv (a : EX) : EX := (cl a + 1, fun s => cC s a ++ [(45, 0)], rC a ++ [(20, 0)])
def eTwo (t : Nat) (a b : EX) : EX := (cl a + cl b + 1, fun s => cC s a ++ cC (s + cl a) b ++ [(t, 0)], rC a ++ rC b ++ [(roF t, 0)])
def eCond (c a b : EX) : EX := (cl c + 1 + cl a + 1 + cl b, fun s => cC s c ++ [(63, s + cl c + 1 + cl a + 1)] ++ cC (s + cl c + 1) a ++ [(62, s + cl c + 1 + cl a + 1 + cl b)] ++ cC (s + cl c + 1 + cl a + 1) b, rC c ++ rC a ++ rC b ++ [(23, 0)])
abbrev PR : Type := (Nat × Nat) ⊕ (Nat × EX)
def bnd : PR → (Nat → EX → PR) → PR
  | .inl (f, q), _ => .inl (f, q)
  | .inr (q, e), g => g q e
theorem bnd_r (q : Nat) (e : EX) (g : Nat → EX → PR) : bnd (.inr (q, e)) g = g q e := rfl
theorem bnd_l (f q : Nat) (g : Nat → EX → PR) : bnd (.inl (f, q)) g = .inl (f, q) := rfl
section PFS
variable (T : Nat → Nat) (m l : Nat)
def nx (q : Nat) : Nat := eF bB T m (tkE T m q)
def nmB (l i : Nat) : Bool := (([1, 31, 1761, 511] : List Nat).getD l 0).testBit i
def loopF (g : Nat → PR) (c1 c2 : Nat) : Nat → Nat → EX → PR
  | 0, q, e => .inr (q, e)
  | n + 1, q, e => if tkC T m q = c1 ∨ tkC T m q = c2 then bnd (g (nx T m q)) (fun q' e' => loopF g c1 c2 n q' (eTwo (tkC T m q) e e')) else .inr (q, e)
/-- what is due -/
def due (k q : Nat) (g : Nat → PR) : PR := if tkC T m q = k then g (nx T m q) else .inl (1, q)
def isCmp (t : Nat) : Bool := decide (t ≤ 3 ∨ t = 13 ∨ t = 14)
def PF : Nat → Nat → Nat → Nat → PR
  | 0, _, q, _ => .inl (99, q)
  | d + 1, k, q, o => match k with
    | 0 => bnd (PF d 1 q o) (fun q e => loopF T m (fun q => PF d 1 q o) 4 5 300 q e)
    | 1 => bnd (PF d 2 q o) (fun q e => loopF T m (fun q => PF d 2 q o) 6 7 300 q e)
    | 2 =>
      if tkC T m q = 5 then (if o < 8 then bnd (PF d 2 (nx T m q) (o + 1)) (fun q e => .inr (q, (eNeg e))) else .inl (3, q))
      else if tkC T m q = 8 then (if o < 8 then bnd (PF d 0 (nx T m q) (o + 1)) (fun q e => due T m 9 q (fun q => .inr (q, e))) else .inl (3, q))
      else if tkC T m q = 15 then (if rkV T m q ≤ 9999 then .inr ((nx T m q), (eNum (rkV T m q))) else .inl (2, q))
      else if tkC T m q = 41 then PF d 3 q o
      else if 46 ≤ tkC T m q then (if nmB l (tkC T m q - 46) = true then .inr ((nx T m q), (eNam (tkC T m q - 46))) else .inl (5, q))
      else .inl (1, q)
    | 3 => if o < 8 then bnd (PF d 4 (nx T m q) (o + 1)) (fun q c => due T m 11 q (fun q => bnd (PF d 0 q (o + 1)) (fun q a => due T m 12 q (fun q => bnd (PF d 0 q (o + 1)) (fun q b => due T m 42 q (fun q => .inr (q, (eCond c a b)))))))) else .inl (3, q)
    | 4 => bnd (PF d 5 q o) (fun q e => loopF T m (fun q => PF d 5 q o) 43 43 300 q e)
    | 5 => bnd (PF d 6 q o) (fun q e => loopF T m (fun q => PF d 6 q o) 44 44 300 q e)
    | _ =>
      if tkC T m q = 45 then (if o < 8 then bnd (PF d 6 (nx T m q) (o + 1)) (fun q e => .inr (q, (eInv e))) else .inl (3, q))
      else bnd (PF d 0 q o) (fun q a => if isCmp (tkC T m q) = true then bnd (PF d 0 (nx T m q) o) (fun q' b => .inr (q', (eTwo (tkC T m q) a b))) else .inl (1, q))
end PFS
section PFB
variable {T : Nat → Nat} {m l : Nat}
theorem tkE_le {q : Nat} (h : q ≤ m) : q ≤ tkE T m q ∧ tkE T m q ≤ m := by
  have a := eF_le (q := bL) (T := T) h
  have b := eF_le (q := bD) (T := T) h
  unfold tkE
  by_cases z : m ≤ q
  · rw [if_pos z]; omega
  · rw [if_neg z]
    split
    · exact a
    · split
      · exact b
      · unfold sgE
        by_cases w : twF T m q = true
        · have := (of_decide_eq_true w).2.1
          rw [if_pos w]; omega
        · rw [if_neg w]; omega
theorem tkE_lt {q : Nat} (h : q < m) : q < tkE T m q := by
  unfold tkE
  rw [if_neg (by omega)]
  by_cases l : bL (T q) = true
  · rw [if_pos l, eF_y h l]
    have := eF_le (q := bL) (T := T) (m := m) (p := q + 1) (by omega)
    omega
  · rw [if_neg l]
    by_cases d : bD (T q) = true
    · rw [if_pos d, eF_y h d]
      have := eF_le (q := bD) (T := T) (m := m) (p := q + 1) (by omega)
      omega
    · rw [if_neg d]
      unfold sgE
      split <;> omega
theorem nx_le {q : Nat} (h : q ≤ m) : q ≤ nx T m q ∧ nx T m q ≤ m := by
  have a := tkE_le (T := T) h
  have b := eF_le (q := bB) (T := T) a.2
  unfold nx; omega
theorem nx_lt {q : Nat} (h : q ≤ m) (t : tkC T m q ≠ 16) : q < nx T m q ∧ q < m := by
  have z : q < m := by
    rcases Nat.lt_or_ge q m with y | y
    · exact y
    · exact absurd (if_pos y) t
  have a := tkE_lt (T := T) z
  have b := eF_le (q := bB) (T := T) (tkE_le (T := T) h).2
  unfold nx; omega
/-- what is read grows, and what is written does not outgrow it -/
def grows (m q : Nat) : PR → Prop
  | .inl (_, q') => q ≤ q' ∧ q' ≤ m
  | .inr (q', e) => q + cl e ≤ q' ∧ q' ≤ m
theorem loopF_gr {g : Nat → PR} {c1 c2 : Nat} (h1 : c1 ≠ 16) (h2 : c2 ≠ 16) (hg : ∀ q, q ≤ m → grows m q (g q)) : ∀ (n q0 q : Nat) (e : EX), q0 + cl e ≤ q → q ≤ m → grows m q0 (loopF T m g c1 c2 n q e)
  | 0, q0, q, e, a, b => ⟨a, b⟩
  | n + 1, q0, q, e, a, b => by
    unfold loopF
    by_cases z : tkC T m q = c1 ∨ tkC T m q = c2
    · rw [if_pos z]
      have lt := nx_lt (T := T) b (by omega)
      have le := nx_le (T := T) b
      have := hg (nx T m q) le.2
      cases hh : g (nx T m q) with
      | inl v => obtain ⟨f, q'⟩ := v; rw [hh] at this; exact ⟨by have := this.1; omega, this.2⟩
      | inr v =>
        obtain ⟨q', e'⟩ := v
        rw [hh] at this
        have t1 : nx T m q + cl e' ≤ q' := this.1
        have t2 : q' ≤ m := this.2
        exact loopF_gr h1 h2 hg n q0 q' (eTwo (tkC T m q) e e') (by show q0 + (cl e + cl e' + 1) ≤ q'; omega) t2
    · rw [if_neg z]; exact ⟨a, b⟩
theorem bnd_gr {r : PR} {q0 : Nat} {g : Nat → EX → PR} (h : grows m q0 r) (hg : ∀ q e, q0 + cl e ≤ q → q ≤ m → grows m q0 (g q e)) : grows m q0 (bnd r g) := by
  cases r with
  | inl v => exact h
  | inr v => obtain ⟨q, e⟩ := v; exact hg q e h.1 h.2
theorem grows.up {r : PR} {q0 q1 : Nat} (h : grows m q1 r) (hq : q0 ≤ q1) : grows m q0 r := by
  cases r with
  | inl v => exact ⟨Nat.le_trans hq h.1, h.2⟩
  | inr v => obtain ⟨q, e⟩ := v; exact ⟨by have := h.1; omega, h.2⟩
theorem due_gr {k q0 q : Nat} {g : Nat → PR} (hk : k ≠ 16) (h0 : q0 ≤ q) (hm : q ≤ m) (hg : ∀ q', q + 1 ≤ q' → q' ≤ m → grows m q0 (g q')) : grows m q0 (due T m k q g) := by
  unfold due
  by_cases z : tkC T m q = k
  · rw [if_pos z]
    have lt := nx_lt (T := T) hm (by omega)
    have le := nx_le (T := T) hm
    exact hg _ (by omega) le.2
  · rw [if_neg z]; exact ⟨h0, hm⟩
theorem choice_gr {d q o : Nat} (ih : ∀ k q o : Nat, q ≤ m → grows m q (PF T m l d k q o)) (h : q ≤ m) : grows m q (bnd (PF T m l d 4 (nx T m q) (o + 1)) (fun q c => due T m 11 q (fun q => bnd (PF T m l d 0 q (o + 1)) (fun q a => due T m 12 q (fun q => bnd (PF T m l d 0 q (o + 1)) (fun q b => due T m 42 q (fun q => .inr (q, (eCond c a b))))))))) := by
  have le := nx_le (T := T) h
  refine bnd_gr ((ih 4 (nx T m q) (o + 1) le.2).up le.1) (fun q1 c a1 b1 => due_gr (by decide) (by omega) b1 (fun q2 a2 b2 => ?_))
  have g2 := ih 0 q2 (o + 1) b2
  cases h2 : PF T m l d 0 q2 (o + 1) with
  | inl v => obtain ⟨f, q3⟩ := v; rw [h2] at g2; exact g2.up (by omega)
  | inr v =>
    obtain ⟨q3, a⟩ := v
    rw [h2] at g2
    have a3 : q2 + cl a ≤ q3 := g2.1
    have b3 : q3 ≤ m := g2.2
    rw [bnd_r]
    refine due_gr (q0 := q) (by decide) (by omega) b3 (fun q4 a4 b4 => ?_)
    have g4 := ih 0 q4 (o + 1) b4
    cases h4 : PF T m l d 0 q4 (o + 1) with
    | inl v => obtain ⟨f, q5⟩ := v; rw [h4] at g4; exact g4.up (by omega)
    | inr v =>
      obtain ⟨q5, b⟩ := v
      rw [h4] at g4
      have a5 : q4 + cl b ≤ q5 := g4.1
      have b5 : q5 ≤ m := g4.2
      rw [bnd_r]
      refine due_gr (q0 := q) (by decide) (by omega) b5 (fun q6 a6 b6 => ⟨?_, b6⟩)
      show q + (cl c + 1 + cl a + 1 + cl b) ≤ q6
      omega
theorem PF_gr : ∀ (d k q o : Nat), q ≤ m → grows m q (PF T m l d k q o)
  | 0, k, q, o, h => ⟨Nat.le_refl _, h⟩
  | d + 1, k, q, o, h => by
    have ih := PF_gr d
    have bad : ∀ f, grows m q (.inl (f, q)) := fun f => ⟨Nat.le_refl _, h⟩
    have le := nx_le (T := T) h
    unfold PF
    split
    · exact bnd_gr (ih 1 q o h) (fun q' e a b => loopF_gr (by decide) (by decide) (fun q h => ih 1 q o h) 300 q q' e a b)
    · exact bnd_gr (ih 2 q o h) (fun q' e a b => loopF_gr (by decide) (by decide) (fun q h => ih 2 q o h) 300 q q' e a b)
    · split
      · rename_i z
        have lt := nx_lt (T := T) h (by omega)
        split
        · have := ih 2 (nx T m q) (o + 1) le.2
          cases hh : PF T m l d 2 (nx T m q) (o + 1) with
          | inl v => obtain ⟨f, q'⟩ := v; rw [hh] at this; exact this.up le.1
          | inr v => obtain ⟨q', e⟩ := v; rw [hh] at this; exact ⟨by have := this.1; show q + (cl e + 1) ≤ q'; omega, this.2⟩
        · exact bad 3
      · split
        · rename_i z
          have lt := nx_lt (T := T) h (by omega)
          split
          · exact bnd_gr ((ih 0 (nx T m q) (o + 1) le.2).up le.1) (fun q' e a b => due_gr (by decide) (by omega) b (fun q'' a' b' => ⟨by omega, b'⟩))
          · exact bad 3
        · split
          · rename_i z
            have lt := nx_lt (T := T) h (by omega)
            split
            · exact ⟨by show q + 1 ≤ _; omega, le.2⟩
            · exact bad 2
          · split
            · exact ih 3 q o h
            · split
              · rename_i z
                have lt := nx_lt (T := T) h (by omega)
                split
                · exact ⟨by show q + 1 ≤ _; omega, le.2⟩
                · exact bad 5
              · exact bad 1
    · split
      · exact choice_gr ih h
      · exact bad 3
    · exact bnd_gr (ih 5 q o h) (fun q' e a b => loopF_gr (by decide) (by decide) (fun q h => ih 5 q o h) 300 q q' e a b)
    · exact bnd_gr (ih 6 q o h) (fun q' e a b => loopF_gr (by decide) (by decide) (fun q h => ih 6 q o h) 300 q q' e a b)
    · split
      · rename_i z
        have lt := nx_lt (T := T) h (by omega)
        split
        · have := ih 6 (nx T m q) (o + 1) le.2
          cases hh : PF T m l d 6 (nx T m q) (o + 1) with
          | inl v => obtain ⟨f, q'⟩ := v; rw [hh] at this; exact this.up le.1
          | inr v => obtain ⟨q', e⟩ := v; rw [hh] at this; exact ⟨by have := this.1; show q + (cl e + 1) ≤ q'; omega, this.2⟩
        · exact bad 3
      · refine bnd_gr (ih 0 q o h) (fun q' e a b => ?_)
        by_cases z : isCmp (tkC T m q') = true
        · rw [if_pos z]
          have z2 := of_decide_eq_true z
          have lt := nx_lt (T := T) b (by omega)
          have le' := nx_le (T := T) b
          have := ih 0 (nx T m q') o le'.2
          cases hh : PF T m l d 0 (nx T m q') o with
          | inl v => obtain ⟨f, q2⟩ := v; rw [hh] at this; exact this.up (by omega)
          | inr v => obtain ⟨q2, e2⟩ := v; rw [hh] at this; exact ⟨by have := this.1; show q + (cl e + cl e2 + 1) ≤ q2; omega, this.2⟩
        · rw [if_neg z]; exact ⟨by omega, b⟩
end PFB
