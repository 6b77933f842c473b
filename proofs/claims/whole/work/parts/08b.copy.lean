/-! pure rows: states of the reference, and its copy -/
theorem sF_sF (S : MS) (k : Nat) (f g : Nat → Int32) : sF (sF S k f) k g = sF S k g := by
  unfold sF
  simp only [Prod.mk.injEq, true_and, and_true]
  funext j
  by_cases h : j = k <;> simp [h]
theorem sF_same (S : MS) (k : Nat) (f : Nat → Int32) : (sF S k f).2.2.1 k = f := by simp [sF]
theorem sF_other (S : MS) {k j : Nat} (f : Nat → Int32) (h : j ≠ k) : (sF S k f).2.2.1 j = S.2.2.1 j := by simp [sF, h]
theorem sF_id (S : MS) (k : Nat) : sF S k (S.2.2.1 k) = S := by
  unfold sF
  obtain ⟨a, b, c, d⟩ := S
  simp only [Prod.mk.injEq, true_and, and_true]
  funext j
  by_cases h : j = k <;> simp [h]
def cpF (f g : Nat → Int32) (i : Nat) : Nat → Int32 := fun j => if j < i then f j else g j
theorem cpF_0 (f g : Nat → Int32) : cpF f g 0 = g := by funext j; simp [cpF]
theorem cpF_s (f g : Nat → Int32) (i : Nat) : upd (cpF f g i) i (f i) = cpF f g (i + 1) := by
  funext j
  unfold upd cpF
  by_cases h : j = i
  · subst h; simp
  · by_cases h2 : j < i
    · simp [h, h2, Nat.lt_succ_of_lt h2]
    · have h3 : ¬ j < i + 1 := by omega
      simp [h, h2, h3]
theorem lit3890 : (3890 : Int32) = nI 3890 := rfl
theorem wp_copy_1_2 {Post : MS → Prop} {S : MS} (h : Post (sF S 1 (cpF (S.2.2.1 0) (S.2.2.1 1) 3890))) : VC_copy_1_2 Post S := by
  intro K hK
  have key : ∀ n i : Nat, i ≤ 3890 → 3890 - i = n → K (nI i) (sF S 1 (cpF (S.2.2.1 0) (S.2.2.1 1) i)) := by
    intro n
    induction n with
    | zero =>
      intro i hi hn
      have e : i = 3890 := by omega
      subst e
      refine hK _ _ ⟨fun _ => h, fun hc => absurd (Int32.le_refl _) hc⟩
    | succ n ih =>
      intro i hi hn
      have hlt : i < 3890 := by omega
      refine hK _ _ ⟨fun hc => absurd hc (nI_ge hlt (by decide)), fun _ => ⟨vp_in_nI hlt (by decide), fun v1 e1 => ⟨vp_in_nI hlt (by decide), fun S2 e2 v3 e3 => ?_⟩⟩⟩
      rw [sF_other _ _ (by decide : (0 : Nat) ≠ 1), nI_clamp (by omega)] at e1
      rw [sF_same, nI_clamp (by omega), e1, cpF_s, sF_sF] at e2
      rw [e2, e3, nI_1]
      exact ih (i + 1) (by omega) (by omega)
  have h0 := key 3890 0 (by decide) rfl
  rw [cpF_0, sF_id] at h0
  exact h0
theorem wp_copy_2_1 {Post : MS → Prop} {S : MS} (h : Post (sF S 0 (cpF (S.2.2.1 1) (S.2.2.1 0) 3890))) : VC_copy_2_1 Post S := by
  intro K hK
  have key : ∀ n i : Nat, i ≤ 3890 → 3890 - i = n → K (nI i) (sF S 0 (cpF (S.2.2.1 1) (S.2.2.1 0) i)) := by
    intro n
    induction n with
    | zero =>
      intro i hi hn
      have e : i = 3890 := by omega
      subst e
      refine hK _ _ ⟨fun _ => h, fun hc => absurd (Int32.le_refl _) hc⟩
    | succ n ih =>
      intro i hi hn
      have hlt : i < 3890 := by omega
      refine hK _ _ ⟨fun hc => absurd hc (nI_ge hlt (by decide)), fun _ => ⟨vp_in_nI hlt (by decide), fun v1 e1 => ⟨vp_in_nI hlt (by decide), fun S2 e2 v3 e3 => ?_⟩⟩⟩
      rw [sF_other _ _ (by decide : (1 : Nat) ≠ 0), nI_clamp (by omega)] at e1
      rw [sF_same, nI_clamp (by omega), e1, cpF_s, sF_sF] at e2
      rw [e2, e3, nI_1]
      exact ih (i + 1) (by omega) (by omega)
  have h0 := key 3890 0 (by decide) rfl
  rw [cpF_0, sF_id] at h0
  exact h0
/-- the reference's first state -/
def M0 : MS := (fun k => if k = 5 ∨ k = 6 then -1 else 0, 0, fun k j => if (k = 0 ∨ k = 1) ∧ j = 5 then -1 else 0, fun _ => 0)
