/-! the reference's text -/
def pfR : PR → Prop
  | .inl (f, _) => 1 ≤ f ∧ f ≤ 5
  | .inr _ => True
section PFF
variable {T : Nat → Nat} {m l : Nat}
theorem bnd_ff {r : PR} {g : Nat → EX → PR} (h : pfR r) (hg : ∀ q e, pfR (g q e)) : pfR (bnd r g) := by
  cases r with
  | inl v => exact h
  | inr v => obtain ⟨q, e⟩ := v; exact hg q e
theorem due_ff {k q : Nat} {g : Nat → PR} (hg : ∀ q, pfR (g q)) : pfR (due T m k q g) := by
  unfold due
  split
  · exact hg _
  · exact ⟨(by decide), (by decide)⟩
theorem loop_ff {g : Nat → PR} {c1 c2 : Nat} (hg : ∀ q, pfR (g q)) : ∀ (n q : Nat) (e : EX), pfR (loopF T m g c1 c2 n q e)
  | 0, _, _ => trivial
  | n + 1, q, e => by
    unfold loopF
    split
    · exact bnd_ff (hg _) (fun q' e' => loop_ff hg n q' _)
    · trivial
theorem PF_ff : ∀ (d k q o : Nat), k ≤ 6 → o ≤ 8 → 8 * (9 - o) + hK k ≤ d → pfR (PF T m l d k q o)
  | 0, k, q, o, _, ho, hd => by omega
  | d + 1, k, q, o, hk, ho, hd => by
    have ih := PF_ff d
    have K0 : hK 0 = 3 := rfl
    have K1 : hK 1 = 2 := rfl
    have K2 : hK 2 = 1 := rfl
    have K3 : hK 3 = 0 := rfl
    have K4 : hK 4 = 6 := rfl
    have K5 : hK 5 = 5 := rfl
    have K6 : hK 6 = 4 := rfl
    have cs : k = 0 ∨ k = 1 ∨ k = 2 ∨ k = 3 ∨ k = 4 ∨ k = 5 ∨ k = 6 := (by omega)
    rcases cs with e | e | e | e | e | e | e <;> subst e
    · rw [PF_0]; exact bnd_ff (ih 1 q o (by decide) ho (by omega)) (fun q' e' => loop_ff (fun q => ih 1 q o (by decide) ho (by omega)) _ _ _)
    · rw [PF_1]; exact bnd_ff (ih 2 q o (by decide) ho (by omega)) (fun q' e' => loop_ff (fun q => ih 2 q o (by decide) ho (by omega)) _ _ _)
    · rw [PF_2]
      split
      · split
        · exact bnd_ff (ih 2 _ (o + 1) (by decide) (by omega) (by omega)) (fun _ _ => trivial)
        · exact ⟨(by decide), (by decide)⟩
      · split
        · split
          · exact bnd_ff (ih 0 _ (o + 1) (by decide) (by omega) (by omega)) (fun _ _ => due_ff (fun _ => trivial))
          · exact ⟨(by decide), (by decide)⟩
        · split
          · split
            · trivial
            · exact ⟨(by decide), (by decide)⟩
          · split
            · exact ih 3 q o (by decide) ho (by omega)
            · split
              · split
                · trivial
                · exact ⟨(by decide), (by decide)⟩
              · exact ⟨(by decide), (by decide)⟩
    · rw [PF_3]
      split
      · exact bnd_ff (ih 4 _ (o + 1) (by decide) (by omega) (by omega)) (fun _ _ => due_ff (fun _ => bnd_ff (ih 0 _ (o + 1) (by decide) (by omega) (by omega)) (fun _ _ => due_ff (fun _ => bnd_ff (ih 0 _ (o + 1) (by decide) (by omega) (by omega)) (fun _ _ => due_ff (fun _ => trivial))))))
      · exact ⟨(by decide), (by decide)⟩
    · rw [PF_4]; exact bnd_ff (ih 5 q o (by decide) ho (by omega)) (fun q' e' => loop_ff (fun q => ih 5 q o (by decide) ho (by omega)) _ _ _)
    · rw [PF_5]; exact bnd_ff (ih 6 q o (by decide) ho (by omega)) (fun q' e' => loop_ff (fun q => ih 6 q o (by decide) ho (by omega)) _ _ _)
    · rw [PF_6]
      split
      · split
        · exact bnd_ff (ih 6 _ (o + 1) (by decide) (by omega) (by omega)) (fun _ _ => trivial)
        · exact ⟨(by decide), (by decide)⟩
      · refine bnd_ff (ih 0 q o (by decide) ho (by omega)) (fun q' e' => ?_)
        split
        · exact bnd_ff (ih 0 _ o (by decide) ho (by omega)) (fun _ _ => trivial)
        · exact ⟨(by decide), (by decide)⟩
end PFF
section RTEXT
variable {T : Nat → Nat} {m : Nat} {A : Nat → Nat}
theorem g_read {Post : Int32 → MS → Prop} {y : MS} (ht : tpM y T m) (hA : y.2.2.1 0 = enc A) (h4 : A 4 < 4)
    (k0 : ∀ f q', textF T m 25 (eF bB T m 0) ([], 0, 0) = .inl (f, q') → (1 ≤ f ∧ f ≤ 6) → ∀ y', QF (680 * A 4) y y' → y'.1 8 = nI q' → Post (nI f) y')
    (k1 : ∀ S q, textF T m 25 (eF bB T m 0) ([], 0, 0) = .inr S → ∀ y', QF (680 * A 4) y y' → rSt y' T m (680 * A 4) q S → Post 0 y') : VC_readText Post y := by
  intro K hK
  have c4 : y.2.2.1 0 (4 : Int32).toNatClampNeg = nI (A 4) := enc_cell (k := 4) hA (by decide) (by decide)
  refine ⟨litIn 4 (by decide) (by decide), fun v1 e1 S2 e2 => ?_⟩
  rw [c4, L680, nmul] at e1
  have i12 : S2.1 12 = nI (680 * A 4) := by rw [e2, sI_s, e1]
  rw [i12, ncl (by omega)]
  refine ⟨vp_in_nI (by omega) (by decide), fun S3 e3 S4 e4 S5 e5 S6 e6 S7 e7 => ?_⟩
  generalize eb : 680 * A 4 = b at *
  have I7 : ∀ k, k ≠ 7 → k ≠ 12 → k ≠ 14 → k ≠ 18 → k ≠ 21 → S7.1 k = y.1 k := fun k a1 a2 a3 a4 a5 => by rw [e7, sI_o _ _ _ _ a1, e6, sI_o _ _ _ _ a5, e5, sI_o _ _ _ _ a4, e4, sI_o _ _ _ _ a3, e3]; show S2.1 k = _; rw [e2, sI_o _ _ _ _ a2]
  have j7 : S7.1 7 = nI 0 := by rw [e7, sI_s]; rfl
  have j12 : S7.1 12 = nI b := by rw [e7, sI_o _ _ _ _ (by decide), e6, sI_o _ _ _ _ (by decide), e5, sI_o _ _ _ _ (by decide), e4, sI_o _ _ _ _ (by decide), e3]; exact i12
  have j14 : S7.1 14 = nI 0 := by rw [e7, sI_o _ _ _ _ (by decide), e6, sI_o _ _ _ _ (by decide), e5, sI_o _ _ _ _ (by decide), e4, sI_s]; rfl
  have j18 : S7.1 18 = nI 0 := by rw [e7, sI_o _ _ _ _ (by decide), e6, sI_o _ _ _ _ (by decide), e5, sI_s]; rfl
  have j21 : S7.1 21 = nI 0 := by rw [e7, sI_o _ _ _ _ (by decide), e6, sI_s]; rfl
  have A7 : S7.2 = S3.2 := by rw [e7, sI_2, e6, sI_2, e5, sI_2, e4, sI_2]
  have R7 : S7.2.2.1 2 = upd (y.2.2.1 2) b 0 := by rw [A7, e3, sF_same, e2, sI_2]
  have q7 : QF b y S7 := by
    rw [e7, e6, e5, e4, e3, e2]
    exact (((((((QF.refl b y).I _ _ (by decide)).W _ _ (by omega)).I _ _ (by decide)).I _ _ (by decide)).I _ _ (by decide)).I _ _ (by decide))
  have t7 := q7.tp ht
  refine r_next t7 j7 (Nat.zero_le _) (fun S8 f8 n7 n8 n9 n10 nw => ?_)
  have le := eF_le (q := bB) (T := T) (m := m) (Nat.zero_le m)
  have q8 : QF b y S8 := q7.trans f8.qf
  have st8 : rSt S8 T m b (eF bB T m 0) ([], 0, 0) := by
    refine ⟨⟨q8.tp ht, le.2, n7, n8, n9, n10, nw⟩, ⟨by rw [f8.1 12 (by decide) (by decide) (by decide) (by decide), j12], (by omega)⟩, ⟨?_, Nat.zero_le _⟩, by rw [f8.1 18 (by decide) (by decide) (by decide) (by decide), j18], ⟨0, by rw [f8.1 21 (by decide) (by decide) (by decide) (by decide), j21], (by decide), fun l hl => Nat.zero_testBit l⟩, [], by rw [f8.1 14 (by decide) (by decide) (by decide) (by decide), j14]; rfl, rfl, Nat.zero_le _, fun j hj => absurd hj (Nat.not_lt_zero j), fun k c hc => absurd hc (by simp)⟩
    rw [f8.2, R7, upd_s]; rfl
  have loop : ∀ n i q : Nat, ∀ (U : MS) (S : TS), i + n = 25 → S.1.length = i → QF b y U → rSt U T m b q S → (∀ f q', textF T m n q S = .inl (f, q') → (1 ≤ f ∧ f ≤ 6) → ∀ y', QF b y y' → y'.1 8 = nI q' → Post (nI f) y') → (∀ S' q', textF T m n q S = .inr S' → ∀ y', QF b y y' → rSt y' T m b q' S' → Post 0 y') → K () U := by
    intro n
    induction n with
    | zero =>
      intro i q U S hi hl qU sU
      have := sU.2.2.1.2
      omega
    | succ n ih =>
      intro i q U S hi hl qU sU h0 h1
      have gU := sU.1
      have e16 : tkC T m q = 16 ↔ rkC T m q = 0 := tk_iff (q := q) gU.hT (k := 16) (by decide)
      unfold textF at h0 h1
      refine hK _ _ ?_
      dsimp only [B_readText]
      rw [show (0 : Int32) = nI 0 from rfl, tok2 gU.hT gU.2.2 0 (by decide), ← propext e16]
      refine ⟨fun z => ?_, fun z => ?_⟩
      · rw [if_pos z] at h1
        exact h1 S q rfl U qU sU
      · rw [if_neg z] at h0 h1
        refine g_clause sU (fun l q f q' e _ _ => ?_) ?_
        · have := PF_ff (T := T) (m := m) (l := l) 100 0 q 0 (by decide) (by decide) (by decide)
          rw [e] at this; exact this
        · cases hh : clauseF T m q S with
          | inl v =>
            obtain ⟨f, q'⟩ := v
            rw [hh, sb_l] at h0
            intro ff y' q' p'
            exact ⟨fun w => absurd w (nI_n6 ff), fun _ => h0 f _ rfl ff y' (qU.trans q') p'⟩
          | inr v =>
            obtain ⟨q', c⟩ := v
            rw [hh, sb_r] at h0 h1
            intro y' s' qy
            refine ⟨fun _ => ih (i + 1) q' y' (addC S c) (by omega) ?_ (qU.trans qy) s' h0 h1, fun w => absurd rfl w⟩
            show (S.1 ++ [c]).length = i + 1
            rw [List.length_append, hl]; rfl
  exact loop 25 0 (eF bB T m 0) S8 ([], 0, 0) (by decide) rfl q8 st8 k0 k1
theorem g_text {Post : Int32 → MS → Prop} {y : MS} (ht : tpM y T m) (hA : y.2.2.1 0 = enc A) (hn : A 4 ≤ 4) (kf : A 4 = 4 → Post (-1) y)
    (k0 : A 4 < 4 → ∀ f q', textF T m 25 (eF bB T m 0) ([], 0, 0) = .inl (f, q') → (1 ≤ f ∧ f ≤ 6) → ∀ y', QF (680 * A 4) y y' → Post (-1) (sI (sI (sI y' 5 (nI f)) 6 (nI q')) 4 0))
    (k1 : A 4 < 4 → ∀ S q, textF T m 25 (eF bB T m 0) ([], 0, 0) = .inr S → ∀ y', QF (680 * A 4) y y' → rSt y' T m (680 * A 4) q S → Post (nI (A 4)) (sF (sI (sI (sI y' 5 0) 6 (-1)) 4 0) 0 (enc (uN A 4 (A 4 + 1))))) : VC_text Post y := by
  have c4 : y.2.2.1 0 (4 : Int32).toNatClampNeg = nI (A 4) := enc_cell (k := 4) hA (by decide) (by decide)
  have i4 : vp_in (4 : Int32) 3890 := litIn 4 (by decide) (by decide)
  intro K hK
  rw [c4, show (nI (A 4) = (4 : Int32)) = (A 4 = 4) by rw [show (4 : Int32) = nI 4 from rfl, neq (by omega) (by decide)]]
  refine ⟨i4, fun n4 => g_read ht hA (by omega) (fun f q' e ff y' qy p' S3 e3 => ?_) (fun S q e y' qy sy S3 e3 => ?_), kf⟩
  · have f5 : S3.1 5 = nI f := by rw [e3, sI_s]
    have nz : ¬ S3.1 5 = 0 := by rw [f5]; exact nI_n6 ff
    refine ⟨fun _ => hK _ _ (fun S4 e4 S5 e5 => ⟨fun z => ?_, fun _ => ?_⟩), fun z => absurd z nz⟩
    · rw [e5, sI_o _ _ _ _ (by decide), e4, sI_o _ _ _ _ (by decide)] at z; exact absurd z nz
    · rw [e3, sI_o _ _ _ _ (by decide), p'] at e4
      rw [e5, e4]
      exact k0 (by omega) f q' e ff y' qy
  · have f5 : S3.1 5 = 0 := by rw [e3, sI_s]
    refine ⟨fun z => absurd f5 z, fun _ => hK _ _ (fun S4 e4 S5 e5 => ⟨fun _ => ?_, fun z => absurd ?_ z⟩)⟩
    · have A5 : S5.2.2.1 0 = enc A := by rw [e5, sI_2, e4, sI_2, e3, sI_2, qy.2.1 0 (by decide) (by decide), hA]
      rw [A5, litC 4 (by decide), enc_at (by decide), nI_1]
      refine ⟨i4, fun v6 e6 => ⟨i4, fun S7 e7 => ⟨i4, ?_⟩⟩⟩
      rw [e6, enc_u (by decide)] at e7
      have A7 : S7.2.2.1 0 4 = nI (A 4 + 1) := by rw [e7, sF_same, enc_at (by decide), uN_s]
      rw [A7, sub1, e7, e5, e4, e3]
      exact k1 (by omega) S q e y' qy sy
    · rw [e5, sI_o _ _ _ _ (by decide), e4, sI_o _ _ _ _ (by decide)]; exact f5
end RTEXT
