/-! bits -/
theorem nbv (a : Nat) : (nI a).toBitVec = BitVec.ofNat 32 a := rfl
theorem nor (a b : Nat) : nI a ||| nI b = nI (a ||| b) := by
  apply Int32.toBitVec_inj.mp
  rw [Int32.toBitVec_or, nbv, nbv, nbv]
  apply BitVec.eq_of_toNat_eq
  simp only [BitVec.toNat_or, BitVec.toNat_ofNat, Nat.or_mod_two_pow]
theorem nand (a b : Nat) : nI a &&& nI b = nI (a &&& b) := by
  apply Int32.toBitVec_inj.mp
  rw [Int32.toBitVec_and, nbv, nbv, nbv]
  apply BitVec.eq_of_toNat_eq
  simp only [BitVec.toNat_and, BitVec.toNat_ofNat, Nat.and_mod_two_pow]
theorem nshl1F : ∀ b : Fin 31, (nI 1) <<< (nI b.1 &&& nI 31) = nI (2 ^ b.1) := by decide +kernel
theorem nshl1 {b : Nat} (h : b < 31) : (nI 1) <<< (nI b &&& nI 31) = nI (2 ^ b) := nshl1F ⟨b, h⟩
theorem nsmF : ∀ b : Fin 31, ((nI b.1 &&& nI 31).toBitVec.smod 32).toNat = b.1 := by decide +kernel
theorem nshr {s b : Nat} (hs : s < 2147483648) (hb : b < 31) : nI s >>> (nI b &&& nI 31) = nI (s / 2 ^ b) := pk_shrN hs _ b (nsmF ⟨b, hb⟩)
theorem nbit {s b : Nat} (hs : s < 2147483648) (hb : b < 31) : (nI s >>> (nI b &&& nI 31)) &&& nI 1 = nI (s.testBit b).toNat := by
  rw [nshr hs hb, nand, Nat.toNat_testBit, Nat.and_one_is_mod]
theorem nbit0 {s b : Nat} (hs : s < 2147483648) (hb : b < 31) : ((nI s >>> (nI b &&& nI 31)) &&& nI 1 = nI 0) = (s.testBit b = false) := by
  rw [nbit hs hb]
  cases h : s.testBit b
  · simp
  · simp only [Bool.toNat_true, Bool.true_eq_false, eq_iff_iff, iff_false]
    decide
theorem nbit1 {s b : Nat} (hs : s < 2147483648) (hb : b < 31) : ((nI s >>> (nI b &&& nI 31)) &&& nI 1 = nI 1) = (s.testBit b = true) := by
  rw [nbit hs hb]
  cases h : s.testBit b
  · simp only [Bool.toNat_false, Bool.false_eq_true, eq_iff_iff, iff_false]
    decide
  · simp
theorem nxm (s : Nat) : (nI s ^^^ -nI 1).toBitVec = ~~~ (BitVec.ofNat 32 s) := by
  have : (-nI 1).toBitVec = BitVec.allOnes 32 := by decide
  rw [Int32.toBitVec_xor, this, nbv, BitVec.xor_allOnes]
/-- all of v are in s -/
theorem nsubset {v s : Nat} (hv : v < 2147483648) : (nI v &&& (nI s ^^^ -nI 1) = nI 0) = (∀ t : Nat, v.testBit t = true → s.testBit t = true) := by
  rw [eq_iff_iff]
  have e : (nI v &&& (nI s ^^^ -nI 1)).toBitVec = BitVec.ofNat 32 v &&& ~~~ (BitVec.ofNat 32 s) := by rw [Int32.toBitVec_and, nxm, nbv]
  constructor
  · intro h t ht
    have h1 : t < 32 := by
      by_cases h2 : t < 32
      · exact h2
      · have : v < 2 ^ t := Nat.lt_of_lt_of_le hv (Nat.le_trans (by decide : 2147483648 ≤ 2 ^ 32) (Nat.pow_le_pow_right (by decide) (by omega)))
        rw [Nat.testBit_lt_two_pow this] at ht
        exact absurd ht (by decide)
    have h2 := congrArg (fun z : Int32 => z.toBitVec.getLsbD t) h
    simp only [e, nbv, BitVec.getLsbD_and, BitVec.getLsbD_not, BitVec.getLsbD_ofNat, h1, decide_true, Bool.true_and, ht, Nat.zero_testBit] at h2
    simpa using h2
  · intro h
    apply Int32.toBitVec_inj.mp
    rw [e, nbv]
    apply BitVec.eq_of_getLsbD_eq
    intro t ht
    simp only [BitVec.getLsbD_and, BitVec.getLsbD_not, BitVec.getLsbD_ofNat, ht, decide_true, Bool.true_and, Nat.zero_testBit]
    cases h1 : v.testBit t
    · rfl
    · simp [h t h1]
/-- without bit b -/
def clr (f b : Nat) : Nat := f ^^^ (f &&& 2 ^ b)
theorem clr_bit (f b t : Nat) : (clr f b).testBit t = (f.testBit t && !decide (b = t)) := by
  unfold clr
  rw [Nat.testBit_xor, Nat.testBit_and, Nat.testBit_two_pow]
  cases f.testBit t <;> simp
theorem nclr {f b : Nat} (hf : f < 2147483648) : nI f &&& (nI (2 ^ b) ^^^ -nI 1) = nI (clr f b) := by
  apply Int32.toBitVec_inj.mp
  rw [Int32.toBitVec_and, nxm, nbv, nbv]
  apply BitVec.eq_of_getLsbD_eq
  intro t ht
  simp only [BitVec.getLsbD_and, BitVec.getLsbD_not, BitVec.getLsbD_ofNat, ht, decide_true, Bool.true_and, clr_bit, Nat.testBit_two_pow]
theorem clr_lt {f b n : Nat} (h : f < 2 ^ n) : clr f b < 2 ^ n := by
  apply Nat.lt_pow_two_of_testBit
  intro i hi
  rw [clr_bit, Nat.testBit_lt_two_pow (Nat.lt_of_lt_of_le h (Nat.pow_le_pow_right (by decide) hi))]
  rfl
/-! counting bits -/
def bitsN (s : Nat) : Nat := sumR (fun k => s.testBit k) (fun _ => 1) 10
def bcI (a0 : Int32) : Int32 :=
  let v1 := a0 - (((a0.toUInt32 >>> ((1 : Int32).toUInt32 &&& Int32.toUInt32 31)).toInt32) &&& (1431655765))
  let v2 := (v1 &&& (858993459)) + (((v1.toUInt32 >>> ((2 : Int32).toUInt32 &&& Int32.toUInt32 31)).toInt32) &&& (858993459))
  let v3 := (v2 + ((v2.toUInt32 >>> ((4 : Int32).toUInt32 &&& Int32.toUInt32 31)).toInt32)) &&& (252645135)
  let v4 := v3 + ((v3.toUInt32 >>> ((8 : Int32).toUInt32 &&& Int32.toUInt32 31)).toInt32)
  let v5 := v4 + ((v4.toUInt32 >>> ((16 : Int32).toUInt32 &&& Int32.toUInt32 31)).toInt32)
  v5 &&& 63
theorem bcF : ∀ s : Fin 64, bcI (nI s.1) = nI (bitsN s.1) := by decide +kernel
theorem bc {Post : Int32 → Prop} {a : Int32} {s : Nat} (e : a = nI s) (hs : s < 64) (h : Post (nI (bitsN s))) : VC_J6_bitCount_0f7a4 Post a := by
  intro v1 e1 v2 e2 v3 e3 v4 e4 v5 e5
  have : v5 &&& 63 = nI (bitsN s) := by
    rw [e5, e4, e3, e2, e1, e]
    exact bcF ⟨s, hs⟩
  rw [this]
  exact h
theorem mbits {Post : Int32 → Prop} {a : Int32} {s : Nat} (e : a = nI s) (hs : s < 64) (h : Post (nI (bitsN s))) : VC_bits Post a := by
  intro K hK
  have key : ∀ k i : Nat, i + k = 10 → K (nI s, nI (sumR (fun k => s.testBit k) (fun _ => 1) i), nI i) := by
    intro k
    induction k with
    | zero =>
      intro i hi
      have : i = 10 := by omega
      subst this
      exact hK _ ⟨fun _ => h, fun hc => absurd (Int32.le_refl _) hc⟩
    | succ k ih =>
      intro i hi
      refine hK _ ⟨fun hc => absurd hc (nI_ge (by omega : i < 10) (by decide)), fun _ v1 e1 v2 e2 => ?_⟩
      have h2 := ih (i + 1) (by omega)
      have e3 : v1 = nI (sumR (fun k => s.testBit k) (fun _ => 1) (i + 1)) := by
        rw [e1, L31, L1, nbit (by omega) (by omega), nadd]
        simp only [sumR]
        cases s.testBit i <;> rfl
      rw [e3, e2, nI_1]
      exact h2
  rw [e]
  exact key 10 0 rfl
theorem bitsN_le {s : Nat} : bitsN s ≤ 10 := by
  have := sumR_le (q := fun k => s.testBit k) (w := fun _ => 1) (B := 1) (m := 10) (fun _ _ => Nat.le_refl 1)
  unfold bitsN
  omega
/-- the set of those b below m of which q says so -/
def setR (q : Nat → Bool) (g : Nat → Nat) : Nat → Nat
  | 0 => 0
  | m + 1 => if q m then setR q g m ||| 2 ^ g m else setR q g m
theorem setR_bit {q : Nat → Bool} {g : Nat → Nat} (t : Nat) : ∀ {m : Nat}, (setR q g m).testBit t = true ↔ ∃ i, i < m ∧ q i = true ∧ g i = t
  | 0 => by simp [setR]
  | m + 1 => by
    have ih := setR_bit (q := q) (g := g) t (m := m)
    unfold setR
    constructor
    · intro h
      by_cases h1 : q m = true
      · rw [if_pos h1, Nat.testBit_or, Bool.or_eq_true, Nat.testBit_two_pow] at h
        rcases h with h | h
        · obtain ⟨i, hi, e⟩ := ih.mp h
          exact ⟨i, by omega, e⟩
        · exact ⟨m, by omega, h1, by simpa using h⟩
      · rw [if_neg h1] at h
        obtain ⟨i, hi, e⟩ := ih.mp h
        exact ⟨i, by omega, e⟩
    · rintro ⟨i, hi, e1, e2⟩
      by_cases h1 : i = m
      · subst h1
        rw [if_pos e1, Nat.testBit_or, Nat.testBit_two_pow, e2]
        simp
      · have := ih.mpr ⟨i, by omega, e1, e2⟩
        by_cases h2 : q m = true
        · rw [if_pos h2, Nat.testBit_or, this]; rfl
        · rw [if_neg h2]; exact this
theorem setR_lt {q : Nat → Bool} {g : Nat → Nat} {n : Nat} : ∀ {m : Nat}, (∀ i, i < m → g i < n) → setR q g m < 2 ^ n
  | 0, _ => Nat.two_pow_pos n
  | m + 1, h => by
    have h1 := setR_lt (q := q) (g := g) (n := n) (m := m) (fun i hi => h i (by omega))
    unfold setR
    split
    · exact Nat.or_lt_two_pow h1 (Nat.pow_lt_pow_right (by decide) (h m (by omega)))
    · exact h1
