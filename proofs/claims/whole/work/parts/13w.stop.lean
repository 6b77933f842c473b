/-! where the descent stops -/
section STOP
variable {T : Nat → Nat} {m l : Nat}
def stp (T : Nat → Nat) (m : Nat) (St : Nat → Prop) : PR → Prop
  | .inl _ => True
  | .inr (q, _) => St (tkC T m q)
theorem loop_stop {St : Nat → Prop} {g : Nat → PR} {c1 c2 : Nat} (h1 : c1 ≠ 16) (h2 : c2 ≠ 16) (gr : ∀ q, q ≤ m → grows m q (g q)) (gs : ∀ q, q ≤ m → stp T m St (g q)) : ∀ (n q : Nat) (e : EX), q ≤ m → m ≤ q + n → St (tkC T m q) → stp T m (fun t => St t ∧ t ≠ c1 ∧ t ≠ c2) (loopF T m g c1 c2 n q e)
  | 0, q, e, hq, hn, hs => by
    have : tkC T m q = 16 := if_pos (by omega)
    show St (tkC T m q) ∧ tkC T m q ≠ c1 ∧ tkC T m q ≠ c2
    exact ⟨hs, by omega, by omega⟩
  | n + 1, q, e, hq, hn, hs => by
    unfold loopF
    by_cases z : tkC T m q = c1 ∨ tkC T m q = c2
    · rw [if_pos z]
      have lt := nx_lt (T := T) hq (by omega)
      have le := nx_le (T := T) hq
      have a := gr (nx T m q) le.2
      have b := gs (nx T m q) le.2
      cases hh : g (nx T m q) with
      | inl v => obtain ⟨f, q'⟩ := v; trivial
      | inr v =>
        obtain ⟨q', e'⟩ := v
        rw [hh] at a b
        have a1 : nx T m q + cl e' ≤ q' := a.1
        have a2 : q' ≤ m := a.2
        exact loop_stop h1 h2 gr gs n q' (eTwo (tkC T m q) e e') a2 (by omega) b
    · rw [if_neg z]
      show St (tkC T m q) ∧ tkC T m q ≠ c1 ∧ tkC T m q ≠ c2
      exact ⟨hs, by omega, by omega⟩
theorem head_stop {St : Nat → Prop} {d k1 q o c1 c2 : Nat} (m3 : m ≤ 300) (h1 : c1 ≠ 16) (h2 : c2 ≠ 16) (gs : ∀ q, q ≤ m → stp T m St (PF T m l d k1 q o)) (hq : q ≤ m) : stp T m (fun t => St t ∧ t ≠ c1 ∧ t ≠ c2) (bnd (PF T m l d k1 q o) (fun q e => loopF T m (fun q => PF T m l d k1 q o) c1 c2 300 q e)) := by
  have a := PF_gr (T := T) (m := m) (l := l) d k1 q o hq
  have b := gs q hq
  cases hh : PF T m l d k1 q o with
  | inl v => obtain ⟨f, q'⟩ := v; trivial
  | inr v =>
    obtain ⟨q', e'⟩ := v
    rw [hh] at a b
    rw [bnd_r]
    have a2 : q' ≤ m := a.2
    exact loop_stop h1 h2 (fun q hq => PF_gr d k1 q o hq) gs 300 q' e' a2 (by omega) b
theorem stop_1 {d q o : Nat} (m3 : m ≤ 300) (hq : q ≤ m) : stp T m (fun t => True ∧ t ≠ 6 ∧ t ≠ 7) (PF T m l d 1 q o) := by
  cases d with
  | zero => trivial
  | succ d =>
    rw [PF_1]
    exact head_stop (St := fun _ => True) m3 (by decide) (by decide) (fun q hq => by cases PF T m l d 2 q o <;> trivial) hq
theorem stop_0 {d q o : Nat} (m3 : m ≤ 300) (hq : q ≤ m) : stp T m (fun t => (True ∧ t ≠ 6 ∧ t ≠ 7) ∧ t ≠ 4 ∧ t ≠ 5) (PF T m l d 0 q o) := by
  cases d with
  | zero => trivial
  | succ d =>
    rw [PF_0]
    exact head_stop m3 (by decide) (by decide) (fun q hq => stop_1 m3 hq) hq
def stS (t : Nat) : Prop := (True ∧ t ≠ 6 ∧ t ≠ 7) ∧ t ≠ 4 ∧ t ≠ 5
theorem stop_6 (m3 : m ≤ 300) : ∀ {d q o : Nat}, q ≤ m → stp T m stS (PF T m l d 6 q o)
  | 0, _, _, _ => trivial
  | d + 1, q, o, hq => by
    rw [PF_6]
    have le := nx_le (T := T) hq
    by_cases z : tkC T m q = 45
    · rw [if_pos z]
      by_cases y : o < 8
      · rw [if_pos y]
        have b := stop_6 m3 (d := d) (q := nx T m q) (o := o + 1) le.2
        cases hh : PF T m l d 6 (nx T m q) (o + 1) with
        | inl v => obtain ⟨f, q'⟩ := v; trivial
        | inr v => obtain ⟨q', e'⟩ := v; rw [hh] at b; exact b
      · rw [if_neg y]; trivial
    · rw [if_neg z]
      have a := PF_gr (T := T) (m := m) (l := l) d 0 q o hq
      cases hh : PF T m l d 0 q o with
      | inl v => obtain ⟨f, q'⟩ := v; trivial
      | inr v =>
        obtain ⟨q', e'⟩ := v
        rw [hh] at a
        rw [bnd_r]
        have a2 : q' ≤ m := a.2
        by_cases c : isCmp (tkC T m q') = true
        · rw [if_pos c]
          have b := stop_0 (T := T) (l := l) (d := d) (o := o) m3 (nx_le (T := T) a2).2
          cases h2 : PF T m l d 0 (nx T m q') o with
          | inl v => obtain ⟨f, q2⟩ := v; trivial
          | inr v => obtain ⟨q2, e2⟩ := v; rw [h2] at b; exact b
        · rw [if_neg c]; trivial
theorem stop_5 {d q o : Nat} (m3 : m ≤ 300) (hq : q ≤ m) : stp T m (fun t => stS t ∧ t ≠ 44 ∧ t ≠ 44) (PF T m l d 5 q o) := by
  cases d with
  | zero => trivial
  | succ d =>
    rw [PF_5]
    exact head_stop m3 (by decide) (by decide) (fun q hq => stop_6 m3 hq) hq
theorem stop_4 {d q o : Nat} (m3 : m ≤ 300) (hq : q ≤ m) : stp T m (fun t => (stS t ∧ t ≠ 44 ∧ t ≠ 44) ∧ t ≠ 43 ∧ t ≠ 43) (PF T m l d 4 q o) := by
  cases d with
  | zero => trivial
  | succ d =>
    rw [PF_4]
    exact head_stop m3 (by decide) (by decide) (fun q hq => stop_5 m3 hq) hq
end STOP
