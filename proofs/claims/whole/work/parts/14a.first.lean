/-! the first states go together -/
def X0 : XS := (fun k => if k = 39 ∨ k = 679 ∨ k = 1378 then -1 else 0, fun _ _ => 0, fun _ _ => none, [])
def A0 : Nat → Nat := fun _ => 0
theorem core0 (j c : Nat) : core A0 j c = 0 := by
  unfold core live A0
  repeat (first | rfl | split)
theorem no0 {P : Nat → Prop} : ∀ i, i < 0 → P i := fun i hi => absurd hi (Nat.not_lt_zero i)
theorem Inv0 : Inv A0 := by
  refine ⟨⟨(by decide), (by decide), (by decide), (by decide), (by decide), (by decide), (by decide)⟩, no0, fun i j hi => absurd hi (Nat.not_lt_zero i), no0, ⟨no0, no0⟩, fun j _ => ?_, no0⟩
  refine ⟨by rw [core0]; omega, by rw [core0]; omega, by rw [core0]; omega, by rw [core0]; omega, fun i hi => ?_, fun b hb => ?_, fun b hb => ?_, fun p hp => ?_⟩
  · rw [core0] at hi; omega
  · rw [core0] at hb; omega
  · rw [core0] at hb; omega
  · rw [core0] at hp; omega
theorem RX0' : RX X0.1 X0.2.1 A0 := ⟨⟨(by decide), no0⟩, ⟨(by decide), no0⟩, ⟨(by decide), (by decide), (by decide), no0, no0⟩, ⟨(by decide), 0, (by decide), (by decide), no0⟩, ⟨(by decide), (by decide), no0, no0⟩, ⟨(by decide), (by decide)⟩⟩
theorem RXk0 : RX (kI X0) (kF X0) A0 := ⟨⟨(by decide), no0⟩, ⟨(by decide), no0⟩, ⟨(by decide), (by decide), (by decide), no0, no0⟩, ⟨(by decide), 0, (by decide), (by decide), no0⟩, ⟨(by decide), (by decide), no0, no0⟩, ⟨(by decide), (by decide)⟩⟩
theorem enc0 (k : Nat) (hk : k = 0 ∨ k = 1) : M0.2.2.1 k = enc A0 := by
  funext j
  show (if (k = 0 ∨ k = 1) ∧ j = 5 then (-1 : Int32) else 0) = (if j = 5 then nI 0 - 1 else nI 0)
  by_cases z : j = 5
  · rw [if_pos ⟨hk, z⟩, if_pos z]; rfl
  · rw [if_neg (fun y => z y.2), if_neg z]; rfl
theorem rel0 : RelT TXd X0 M0 := by
  refine ⟨A0, A0, Inv0, Inv0, RX0', RXk0, enc0 0 (Or.inl rfl), enc0 1 (Or.inr rfl), Nat.le_refl _, ⟨no0, no0, fun i a h => ?_⟩, ⟨0, (by decide), (by decide), (by decide), no0⟩, Or.inl ⟨(by decide), (by decide), (by decide)⟩⟩
  rcases h with h | h <;> exact absurd h (by simp [X0])
