/-! tokens -/
def bL (c : Nat) : Bool := decide ((97 ≤ c ∧ c ≤ 122) ∨ (65 ≤ c ∧ c ≤ 90))
def bD (c : Nat) : Bool := decide (48 ≤ c ∧ c ≤ 57)
def bB (c : Nat) : Bool := decide (c = 32 ∨ c = 10)
def enF (q : Nat → Bool) (T : Nat → Nat) (m : Nat) : Nat → Nat → Nat
  | 0, p => p
  | n + 1, p => if p < m ∧ q (T p) = true then enF q T m n (p + 1) else p
def eF (q : Nat → Bool) (T : Nat → Nat) (m p : Nat) : Nat := enF q T m (m - p) p
section TOK
variable {q : Nat → Bool} {T : Nat → Nat} {m : Nat}
theorem eF_y {p : Nat} (h : p < m) (hq : q (T p) = true) : eF q T m p = eF q T m (p + 1) := by
  unfold eF
  rw [show m - p = (m - (p + 1)) + 1 by omega]
  conv => lhs; unfold enF
  rw [if_pos ⟨h, hq⟩]
theorem eF_n {p : Nat} (h : ¬ (p < m ∧ q (T p) = true)) : eF q T m p = p := by
  unfold eF
  cases m - p with
  | zero => rfl
  | succ n => unfold enF; rw [if_neg h]
theorem enF_le : ∀ {n p : Nat}, p ≤ m → p ≤ enF q T m n p ∧ enF q T m n p ≤ m
  | 0, p, h => ⟨Nat.le_refl _, h⟩
  | n + 1, p, h => by
    unfold enF
    by_cases z : p < m ∧ q (T p) = true
    · rw [if_pos z]
      have := enF_le (n := n) (p := p + 1) (by omega)
      omega
    · rw [if_neg z]; omega
theorem eF_le {p : Nat} (h : p ≤ m) : p ≤ eF q T m p ∧ eF q T m p ≤ m := enF_le h
theorem enF_in : ∀ {n p j : Nat}, p ≤ j → j < enF q T m n p → j < m ∧ q (T j) = true
  | 0, p, j, h1, h2 => by exact absurd h2 (by show ¬ j < p; omega)
  | n + 1, p, j, h1, h2 => by
    unfold enF at h2
    by_cases z : p < m ∧ q (T p) = true
    · rw [if_pos z] at h2
      by_cases e : j = p
      · rw [e]; exact z
      · exact enF_in (n := n) (p := p + 1) (by omega) h2
    · rw [if_neg z] at h2; omega
theorem enF_end : ∀ {n p : Nat}, m ≤ p + n → ¬ (enF q T m n p < m ∧ q (T (enF q T m n p)) = true)
  | 0, p, h => fun z => by have := z.1; simp only [enF] at this; omega
  | n + 1, p, h => by
    unfold enF
    by_cases z : p < m ∧ q (T p) = true
    · rw [if_pos z]; exact enF_end (n := n) (p := p + 1) (by omega)
    · rw [if_neg z]; exact z
theorem eF_end {p : Nat} : ¬ (eF q T m p < m ∧ q (T (eF q T m p)) = true) := enF_end (by omega)
end TOK
/-! words: the class's row of words -/
def eWn (x : Nat) : Nat := (eW.getD x 0).toNatClampNeg
def wN : Nat → Nat
  | 0 => 0
  | x + 1 => if eWn x = 32 then wN x + 1 else wN x
def wS : Nat → Nat
  | 0 => 0
  | x + 1 => if eWn x = 32 then x + 1 else wS x
def mtF (T : Nat → Nat) (p e a b : Nat) : Bool := decide (b - a = e - p) && (List.range (b - a)).all (fun j => eWn (a + j) == T (p + j))
def wcF (T : Nat → Nat) (p e : Nat) : Nat → Nat
  | 0 => 17
  | x + 1 => if (x = 134 ∨ eWn x = 32) ∧ mtF T p e (wS x) x = true then 32 + wN x else wcF T p e x
theorem mtF_iff {T : Nat → Nat} {p e a b : Nat} : mtF T p e a b = true ↔ b - a = e - p ∧ ∀ j, j < b - a → eWn (a + j) = T (p + j) := by
  unfold mtF
  rw [Bool.and_eq_true, decide_eq_true_eq, List.all_eq_true]
  simp only [List.mem_range, beq_iff_eq]
theorem wS_le : ∀ x, wS x ≤ x
  | 0 => Nat.le_refl _
  | x + 1 => by
    have := wS_le x
    unfold wS
    split <;> omega
theorem wN_le : ∀ x, wN x ≤ x
  | 0 => Nat.le_refl _
  | x + 1 => by
    have := wN_le x
    unfold wN
    split <;> omega
theorem eW_ok : ∀ x : Fin 134, eW.getD x.1 0 = nI (eWn x.1) ∧ eWn x.1 < 256 ∧ (((eW.getD x.1 0 &&& 255).toUInt32 % 65536).toInt32) = nI (eWn x.1) := by decide +kernel
theorem c_len101 {Post : Int32 → XS → Prop} {S : XS} (h : Post (nI 134) S) : VC_J0_length_8abf5_101 Post S := ⟨fun z => absurd z (by decide), fun _ => h⟩
theorem c_chk {Post : XS → Prop} {S : XS} {x : Nat} (hx : x < 134) (h : Post S) : VC_J0_checkIndex_df160 Post (nI x) (134) S := by
  have h1 : ¬ nI x < 0 := nI_pos (by omega)
  have h2 : nI x < (134 : Int32) := nI_lt (b := 134) hx (by decide)
  refine ⟨fun K hK => ⟨fun z => absurd z h1, fun _ => ⟨fun _ => h, fun z => absurd h2 z⟩⟩, fun t1 => ?_⟩
  intro K hK
  exact ⟨fun z => absurd z h1, fun _ => ⟨fun _ => h, fun z => absurd h2 z⟩⟩
theorem c_char {Post : Int32 → XS → Prop} {S : XS} {x : Nat} (hx : x < 134) (h : Post (nI (eWn x)) S) : VC_J0_charAt_5068e_101 Post (nI x) S := by
  obtain ⟨e1, e2, e3⟩ := eW_ok ⟨x, hx⟩
  simp only at e1 e2 e3
  have nc : narrow .char (.int (nI (eWn x))) = .int (nI (eWn x)) := (pk_charN (by omega)).1
  refine ⟨fun z => absurd z (by decide), fun _ => ⟨fun z => absurd rfl z, fun _ => ⟨fun z => absurd z (by decide), fun _ => c_chk hx ⟨vp_in_nI hx (by decide), ?_⟩⟩⟩⟩
  rw [ncl (by omega), e3]
  exact ⟨nc, nc, h⟩
/-- the parser's own reading state changes alone -/
def AFr (S S' : XS) : Prop := (∀ k, k ≠ 1380 → k ≠ 1381 → k ≠ 1382 → k ≠ 1383 → S'.1 k = S.1 k) ∧ S'.2 = S.2
theorem AFr.refl (S : XS) : AFr S S := ⟨fun _ _ _ _ _ => rfl, rfl⟩
theorem AFr.trans {x y z : XS} (h : AFr x y) (g : AFr y z) : AFr x z := ⟨fun k a b c d => (g.1 k a b c d).trans (h.1 k a b c d), g.2.trans h.2⟩
theorem AFr.I {x x' : XS} (h : AFr x x') (k : Nat) (v : Int32) (hk : 1380 ≤ k ∧ k ≤ 1383) : AFr x (xI x' k v) := ⟨fun j a b c d => by rw [xI_n _ _ (by omega), h.1 j a b c d], h.2⟩
/-- the tape, as the class has it -/
def tpX (S : XS) (T : Nat → Nat) (m : Nat) : Prop := S.1 1313 = nI m ∧ m ≤ 300 ∧ ∀ i, i < m → S.2.1 42 i = nI (T i) ∧ T i ≤ 255
theorem AFr.tp {S S' : XS} {T : Nat → Nat} {m : Nat} (h : AFr S S') (t : tpX S T m) : tpX S' T m := by
  unfold tpX
  rw [h.1 1313 (by decide) (by decide) (by decide) (by decide), h.2]; exact t
section CTOK
variable {T : Nat → Nat} {m : Nat}
theorem c_isL {Post : Int32 → XS → Prop} {S : XS} {c : Nat} (hc : c ≤ 255) (h1 : bL c = true → Post 1 S) (h0 : bL c = false → Post 0 S) : VC_X3_isLetter Post (nI c) S := by
  intro K hK
  have k : ¬ (97 ≤ c ∧ c ≤ 122) → K (nI c) S := by
    intro z
    refine hK _ _ ?_
    dsimp only [B_X3_isLetter]
    rw [L65, L90, nlt (by omega) (by omega), nlt (by omega) (by omega)]
    refine ⟨fun h => h0 ?_, fun h => ⟨fun g => h0 ?_, fun g => h1 ?_⟩⟩
    · unfold bL; exact decide_eq_false (by omega)
    · unfold bL; exact decide_eq_false (by omega)
    · unfold bL; exact decide_eq_true (by omega)
  rw [L97, L122, nlt (by omega) (by omega), nle (by omega) (by omega)]
  refine ⟨fun h => k (by omega), fun h => ⟨fun g => h1 ?_, fun g => k (by omega)⟩⟩
  unfold bL; exact decide_eq_true (by omega)
theorem c_isD {Post : Int32 → XS → Prop} {S : XS} {c : Nat} (hc : c ≤ 255) (h1 : bD c = true → Post 1 S) (h0 : bD c = false → Post 0 S) : VC_X3_isDigit Post (nI c) S := by
  unfold VC_X3_isDigit
  rw [L48, L57, nlt (by omega) (by omega), nlt (by omega) (by omega)]
  refine ⟨fun h => h0 ?_, fun h => ⟨fun g => h0 ?_, fun g => h1 ?_⟩⟩
  · unfold bD; exact decide_eq_false (by omega)
  · unfold bD; exact decide_eq_false (by omega)
  · unfold bD; exact decide_eq_true (by omega)
theorem c_isWd {Post : Int32 → XS → Prop} {S : XS} {p e a b : Nat} (ht : tpX S T m) (i0 : S.1 1380 = nI e) (i2 : S.1 1382 = nI p) (hpe : p ≤ e) (hem : e ≤ m) (hab : a ≤ b) (hb : b ≤ 134) (h1 : mtF T p e a b = true → Post 1 S) (h0 : mtF T p e a b = false → Post 0 S) : VC_X3_isWord_43 Post (nI a) (nI b) S := by
  obtain ⟨t1, t2, t3⟩ := ht
  intro K hK
  rw [i0, i2, nsub hab, nsub hpe, neq (by omega) (by omega)]
  refine ⟨fun hl => ?_, fun hl => h0 ?_⟩
  · have loop : ∀ n x : Nat, x + n = b → a ≤ x → (∀ j, j < x - a → eWn (a + j) = T (p + j)) → K (nI a, nI b, nI x) S := by
      intro n
      induction n with
      | zero =>
        intro x hx hax hm
        have ex : x = b := (by omega)
        subst ex
        exact hK _ _ ⟨fun _ => h1 (mtF_iff.mpr ⟨hl, hm⟩), fun z => absurd (Int32.le_refl _) z⟩
      | succ n ih =>
        intro x hx hax hm
        have tx := t3 (p + (x - a)) (by omega)
        have ei : S.1 1382 + nI x - nI a = nI (p + (x - a)) := by rw [i2, nadd, nsub (by omega)]; congr 1; omega
        have ec := eW_ok ⟨x, (by omega)⟩
        simp only at ec
        refine hK _ _ ⟨fun z => absurd z (nI_ge (by omega) (by omega)), fun _ => c_char (by omega) ⟨by rw [ei]; exact vp_in_nI (by omega) (by decide), ?_⟩⟩
        rw [ei, ncl (by omega), tx.1, neq (by omega) (by omega)]
        refine ⟨fun e v3 e3 => ?_, fun ne => h0 ?_⟩
        · rw [e3, nI_1]
          refine ih (x + 1) (by omega) (by omega) (fun j hj => ?_)
          by_cases z : j = x - a
          · rw [z, show a + (x - a) = x by omega]; exact e
          · exact hm j (by omega)
        · cases z : mtF T p e a b
          · rfl
          · have := (mtF_iff.mp z).2 (x - a) (by omega)
            rw [show a + (x - a) = x by omega] at this
            exact absurd this ne
    exact loop (b - a) a (by omega) (Nat.le_refl _) (fun j hj => absurd hj (by omega))
  · cases z : mtF T p e a b
    · rfl
    · exact absurd (mtF_iff.mp z).1 hl
theorem c_word {Post : XS → Prop} {S : XS} {p : Nat} (ht : tpX S T m) (i0 : S.1 1380 = nI p) (i2 : S.1 1382 = nI p) (hp : p ≤ m) (h : ∀ S', AFr S S' → S'.1 1380 = nI (eF bL T m p) → S'.1 1382 = nI p → S'.1 1381 = nI (wcF T p (eF bL T m p) 135) → Post S') : VC_X3_readWord_43 Post S := by
  obtain ⟨t1, t2, t3⟩ := id ht
  intro K hK
  have le := eF_le (q := bL) (T := T) (m := m) hp
  -- behind the run
  have words : ∀ U : XS, AFr S U → U.1 1380 = nI (eF bL T m p) → U.1 1382 = nI p → K (.inr (.inl ())) U := by
    intro U fU u0 u2
    refine hK _ _ (fun S5 e5 => ?_)
    have f5 : AFr S S5 := by rw [e5]; exact fU.I _ _ (by omega)
    have loop : ∀ n x : Nat, ∀ V : XS, x + n = 135 → AFr S V → V.1 1380 = nI (eF bL T m p) → V.1 1382 = nI p → V.1 1381 = nI (wcF T p (eF bL T m p) x) → K (.inr (.inr (.inl (nI (wN x), nI (wS x), nI x)))) V := by
      intro n
      induction n with
      | zero =>
        intro x V hx fV v0 v2 v1
        have ex : x = 135 := (by omega)
        subst ex
        refine hK _ _ ?_
        unfold B_X3_readWord_43
        refine c_len101 ⟨fun _ => h V fV v0 v2 v1, fun z => absurd (nI_lt (a := 134) (b := 135) (by decide) (by decide)) z⟩
      | succ n ih =>
        intro x V hx fV v0 v2 v1
        have ws := wS_le x
        have wn := wN_le x
        -- a word's end
        have wend : (x = 134 ∨ eWn x = 32) → K (.inr (.inr (.inr (nI (wN x), nI (wS x), nI x)))) V := fun hw => by
          refine hK _ _ ?_
          refine c_isWd (fV.tp ht) v0 v2 le.1 le.2 ws (by omega) (fun hm => ⟨fun z => absurd z (by decide), fun _ v18 e18 S19 e19 v20 e20 v21 e21 v22 e22 => ?_⟩) (fun hm => ⟨fun _ v15 e15 v16 e16 v17 e17 => ?_, fun z => absurd rfl z⟩)
          · have en : wN (x + 1) = wN x + 1 ∨ x = 134 := by
              rcases hw with z | z
              · exact Or.inr z
              · left; show (if eWn x = 32 then wN x + 1 else wN x) = _; rw [if_pos z]
            have e1 : wcF T p (eF bL T m p) (x + 1) = 32 + wN x := if_pos ⟨hw, hm⟩
            rw [e20, e21, e22, nI_1, nI_1]
            rw [show (32 : Int32) = nI 32 from rfl, nadd] at e18
            by_cases z : x = 134
            · subst z
              refine hK _ _ ?_
              unfold B_X3_readWord_43
              refine c_len101 ⟨fun _ => h S19 (by rw [e19]; exact fV.I _ _ (by omega)) (by rw [e19, xI_n _ _ (by decide)]; exact v0) (by rw [e19, xI_n _ _ (by decide)]; exact v2) (by rw [e19, xI_s, e18, e1]), fun z => absurd (nI_lt (a := 134) (b := 135) (by decide) (by decide)) z⟩
            · have z32 : eWn x = 32 := hw.resolve_left z
              have es : wS (x + 1) = x + 1 := by show (if eWn x = 32 then x + 1 else wS x) = _; rw [if_pos z32]
              have := ih (x + 1) S19 (by omega) (by rw [e19]; exact fV.I _ _ (by omega)) (by rw [e19, xI_n _ _ (by decide)]; exact v0) (by rw [e19, xI_n _ _ (by decide)]; exact v2) (by rw [e19, xI_s, e18, e1])
              rw [es, en.resolve_right z] at this
              exact this
          · have e1 : wcF T p (eF bL T m p) (x + 1) = wcF T p (eF bL T m p) x := if_neg (fun z => by rw [hm] at z; exact absurd z.2 (by decide))
            rw [e15, e16, e17, nI_1, nI_1]
            by_cases z : x = 134
            · subst z
              refine hK _ _ ?_
              unfold B_X3_readWord_43
              refine c_len101 ⟨fun _ => h V fV v0 v2 (by rw [e1]; exact v1), fun z => absurd (nI_lt (a := 134) (b := 135) (by decide) (by decide)) z⟩
            · have z32 : eWn x = 32 := hw.resolve_left z
              have es : wS (x + 1) = x + 1 := by show (if eWn x = 32 then x + 1 else wS x) = _; rw [if_pos z32]
              have en : wN (x + 1) = wN x + 1 := by show (if eWn x = 32 then wN x + 1 else wN x) = _; rw [if_pos z32]
              have := ih (x + 1) V (by omega) fV v0 v2 (by rw [e1]; exact v1)
              rw [es, en] at this
              exact this
        refine hK _ _ ?_
        unfold B_X3_readWord_43
        refine c_len101 ⟨fun z => absurd z (nI_nlt (b := x) (a := 134) (by omega) (by decide)), fun _ => c_len101 ?_⟩
        rw [neq (by omega) (by decide)]
        refine ⟨fun ex => wend (Or.inl ex), fun nx => c_char (by omega) ?_⟩
        have ec := eW_ok ⟨x, (by omega)⟩
        simp only at ec
        rw [show (nI (eWn x) = (32 : Int32)) = (eWn x = 32) by rw [show (32 : Int32) = nI 32 from rfl, neq (by omega) (by decide)]]
        refine ⟨fun n32 v12 e12 => ?_, fun y32 => wend (Or.inr y32)⟩
        have e1 : wcF T p (eF bL T m p) (x + 1) = wcF T p (eF bL T m p) x := if_neg (fun z => z.1.elim nx n32)
        have es : wS (x + 1) = wS x := by show (if eWn x = 32 then x + 1 else wS x) = _; rw [if_neg n32]
        have en : wN (x + 1) = wN x := by show (if eWn x = 32 then wN x + 1 else wN x) = _; rw [if_neg n32]
        have := ih (x + 1) V (by omega) fV v0 v2 (by rw [e1]; exact v1)
        rw [es, en] at this
        rw [e12, nI_1]; exact this
    exact loop 135 0 S5 (by omega) f5 (by rw [e5, xI_n _ _ (by decide)]; exact u0) (by rw [e5, xI_n _ _ (by decide)]; exact u2) (by rw [e5, xI_s]; rfl)
  have run : ∀ n x : Nat, ∀ U : XS, x + n = m → AFr S U → U.1 1380 = nI x → U.1 1382 = nI p → eF bL T m x = eF bL T m p → K (.inl ()) U := by
    intro n
    induction n with
    | zero =>
      intro x U hx fU u0 u2 he
      have ex : x = m := (by omega)
      have e1 : eF bL T m x = x := eF_n (by omega)
      refine hK _ _ ⟨fun _ => words U fU (by rw [← he, e1]; exact u0) u2, fun z => absurd ?_ z⟩
      rw [(fU.tp ht).1, u0, ex]; exact Int32.le_refl _
    | succ n ih =>
      intro x U hx fU u0 u2 he
      have tx := (fU.tp ht).2.2 x (by omega)
      refine hK _ _ ⟨fun z => absurd z (by rw [(fU.tp ht).1, u0]; exact nI_ge (by omega) (by omega)), fun _ => ?_⟩
      rw [u0, ncl (by omega), tx.1]
      refine ⟨vp_in_nI (by omega) (by decide), c_isL tx.2 (fun hl => ⟨fun z => absurd z (by decide), fun _ v3 e3 S4 e4 => ?_⟩) (fun hl => ⟨fun _ => words U fU ?_ u2, fun z => absurd rfl z⟩)⟩
      · rw [u0, nI_1] at e3
        exact ih (x + 1) S4 (by omega) (by rw [e4]; exact fU.I _ _ (by omega)) (by rw [e4, xI_s, e3]) (by rw [e4, xI_n _ _ (by decide)]; exact u2) (by rw [← he, eF_y (by omega) hl])
      · rw [← he, eF_n (fun z => by rw [hl] at z; exact absurd z.2 (by decide))]; exact u0
  exact run (m - p) p S (by omega) (AFr.refl S) i0 i2 rfl
/-- the class's value of digits, from p on -/
def vcF (T : Nat → Nat) (m : Nat) : Nat → Nat → Nat → Nat
  | 0, _, v => v
  | n + 1, p, v => if p < m ∧ bD (T p) = true then vcF T m n (p + 1) (if 10 * v + T p - 48 < 10000 then 10 * v + T p - 48 else 10000) else v
theorem c_num {Post : XS → Prop} {S : XS} {p : Nat} (ht : tpX S T m) (i0 : S.1 1380 = nI p) (hp : p ≤ m) (h : ∀ S', AFr S S' → S'.1 1380 = nI (eF bD T m p) → S'.1 1382 = S.1 1382 → S'.1 1381 = nI 15 → S'.1 1383 = nI (vcF T m (m - p) p 0) → Post S') : VC_X3_readNumber_43 Post S := by
  obtain ⟨t1, t2, t3⟩ := id ht
  intro K hK S1 e1 S2 e2
  have run : ∀ n x v : Nat, ∀ U : XS, x + n = m → v ≤ 10000 → AFr S U → U.1 1380 = nI x → U.1 1381 = nI 15 → U.1 1382 = S.1 1382 → U.1 1383 = nI v → eF bD T m x = eF bD T m p → vcF T m n x v = vcF T m (m - p) p 0 → K () U := by
    intro n
    induction n with
    | zero =>
      intro x v U hx hv fU u0 u1 u2 u3 he hv2
      have ex : x = m := (by omega)
      refine hK _ _ ⟨fun _ => h U fU (by rw [← he, eF_n (by omega)]; exact u0) u2 u1 (by rw [← hv2]; exact u3), fun z => absurd ?_ z⟩
      rw [(fU.tp ht).1, u0, ex]; exact Int32.le_refl _
    | succ n ih =>
      intro x v U hx hv fU u0 u1 u2 u3 he hv2
      have tx := (fU.tp ht).2.2 x (by omega)
      refine hK _ _ ⟨fun z => absurd z (by rw [(fU.tp ht).1, u0]; exact nI_ge (by omega) (by omega)), fun _ => ?_⟩
      rw [u0, ncl (by omega), tx.1]
      refine ⟨vp_in_nI (by omega) (by decide), c_isD tx.2 (fun hd => ⟨fun z => absurd z (by decide), fun _ => ?_⟩) (fun hd => ⟨fun _ => h U fU ?_ u2 u1 ?_, fun z => absurd rfl z⟩)⟩
      · have hd2 : 48 ≤ T x ∧ T x ≤ 57 := of_decide_eq_true hd
        rw [u0, ncl (by omega), tx.1, u3]
        refine ⟨vp_in_nI (by omega) (by decide), fun v5 e5 S6 e6 v7 e7 S8 e8 => ?_⟩
        have ev : 10 * nI v + nI (T x) - 48 = nI (10 * v + T x - 48) := by rw [L10, nmul, nadd, show (48 : Int32) = nI 48 from rfl, nsub (by omega)]
        rw [ev, show (10000 : Int32) = nI 10000 from rfl, nmin (by omega) (by omega)] at e5
        rw [e6, xI_n _ _ (by decide), u0, nI_1] at e7
        refine ih (x + 1) (if 10 * v + T x - 48 < 10000 then 10 * v + T x - 48 else 10000) S8 (by omega) (by split <;> omega) (by rw [e8, e6]; exact (fU.I _ _ (by omega)).I _ _ (by omega)) (by rw [e8, xI_s, e7]) (by rw [e8, xI_n _ _ (by decide), e6, xI_n _ _ (by decide)]; exact u1) (by rw [e8, xI_n _ _ (by decide), e6, xI_n _ _ (by decide)]; exact u2) (by rw [e8, xI_n _ _ (by decide), e6, xI_s, e5]) (by rw [← he, eF_y (by omega) hd]) ?_
        rw [← hv2]
        conv => rhs; unfold vcF
        rw [if_pos (show x < m ∧ bD (T x) = true from ⟨(by omega), hd⟩)]
      · rw [← he, eF_n (fun z => by rw [hd] at z; exact absurd z.2 (by decide))]; exact u0
      · rw [← hv2]
        unfold vcF
        rw [if_neg (fun z => by rw [hd] at z; exact absurd z.2 (by decide))]; exact u3
  refine run (m - p) p 0 S2 (by omega) (by decide) (by rw [e2, e1]; exact ((AFr.refl S).I _ _ (by omega)).I _ _ (by omega)) (by rw [e2, xI_n _ _ (by decide), e1, xI_n _ _ (by decide)]; exact i0) (by rw [e2, xI_n _ _ (by decide), e1, xI_s]; rfl) (by rw [e2, xI_n _ _ (by decide), e1, xI_n _ _ (by decide)]) (by rw [e2, xI_s]; rfl) rfl rfl
end CTOK
