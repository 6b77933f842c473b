/-! plan: what is to be found -/
def iI (z : Int) : Int32 := Int32.ofInt z
theorem iI_n (n : Nat) : iI (n : Int) = nI n := rfl
theorem iI_add (a b : Int) : iI a + iI b = iI (a + b) := (Int32.ofInt_add a b).symm
theorem iI_sub (a b : Int) : iI a - iI b = iI (a - b) := (Int32.ofInt_sub a b).symm
theorem iI_t {a : Int} (h1 : -2147483648 ≤ a) (h2 : a < 2147483648) : (iI a).toInt = a := Int32.toInt_ofInt_of_le h1 h2
theorem iI_lt {a b : Int} (h1 : -2147483648 ≤ a) (h2 : a < 2147483648) (h3 : -2147483648 ≤ b) (h4 : b < 2147483648) : (iI a < iI b) = (a < b) := by
  rw [Int32.lt_iff_toInt_lt, iI_t h1 h2, iI_t h3 h4]
theorem iI_le {a b : Int} (h1 : -2147483648 ≤ a) (h2 : a < 2147483648) (h3 : -2147483648 ≤ b) (h4 : b < 2147483648) : (iI a ≤ iI b) = (a ≤ b) := by
  rw [Int32.le_iff_toInt_le, iI_t h1 h2, iI_t h3 h4]
theorem iI_eq {a b : Int} (h1 : -2147483648 ≤ a) (h2 : a < 2147483648) (h3 : -2147483648 ≤ b) (h4 : b < 2147483648) : (iI a = iI b) = (a = b) := by
  rw [← Int32.toInt_inj, iI_t h1 h2, iI_t h3 h4]
def vOK (v s : Nat) : Bool := decide (v &&& s = v)
theorem vOK_iff {v s : Nat} : vOK v s = true ↔ ∀ t, v.testBit t = true → s.testBit t = true := by
  unfold vOK
  rw [decide_eq_true_eq]
  constructor
  · intro h t ht
    have := congrArg (fun z => z.testBit t) h
    simp only [Nat.testBit_and, ht, Bool.true_and] at this
    exact this
  · intro h
    apply Nat.eq_of_testBit_eq
    intro t
    rw [Nat.testBit_and]
    cases z : v.testBit t
    · rfl
    · rw [h t z]; rfl
section SPEC
variable (A : Nat → Nat) (sm : Nat → Nat) (co : Nat → Nat → Nat)
def lbF (lo hi : Nat) : Nat := if hi = lo then A (10 + 5 * lo) else A (10 + 5 * lo) + A (10 + 5 * hi)
def cbF (lo hi due h : Nat) : Nat := if (if sm h < lbF A lo hi then sm h else lbF A lo hi) < due then (if sm h < lbF A lo hi then sm h else lbF A lo hi) else due
def fbF (lo c : Nat) : Nat := if A (10 + 5 * lo) < c then A (10 + 5 * lo) else c
def spF (lo hi h c : Nat) : Nat := fbF A lo c * co h lo + (c - fbF A lo c) * co h hi
def runF (lo hi : Nat) : Nat → Nat → Nat → Int → Bool → Bool → Option (Nat × Int × Bool × Bool)
  | 0, _, _, _, _, _ => none
  | n + 1, h, due, g, p, q =>
    if due - cbF A sm lo hi due h = 0 then some (h, g - spF A co lo hi h (cbF A sm lo hi due h), p || decide (0 < fbF A lo (cbF A sm lo hi due h)), q || decide (0 < cbF A sm lo hi due h - fbF A lo (cbF A sm lo hi due h)))
    else runF lo hi n (h + 1) (due - cbF A sm lo hi due h) (g - spF A co lo hi h (cbF A sm lo hi due h)) (p || decide (0 < fbF A lo (cbF A sm lo hi due h))) (q || decide (0 < cbF A sm lo hi due h - fbF A lo (cbF A sm lo hi due h)))
def vmF (lo hi : Nat) (p q : Bool) : Nat := (if p then 2 ^ A (11 + 5 * lo) else 0) ||| (if q then 2 ^ A (11 + 5 * hi) else 0)
def gmF (lo hi : Nat) (p q : Bool) : Nat := (if p then 2 ^ lo else 0) ||| (if q then 2 ^ hi else 0)
def doF (H k lo hi h : Nat) : Option (Nat × Int) := (runF A sm co lo hi (H - h) h (A (40 + 3 * k)) (A (42 + 3 * k)) false false).elim none (fun d => if vOK (A (41 + 3 * k)) (vmF A lo hi d.2.2.1 d.2.2.2) then some (d.1, d.2.1) else none)
def cdF (H : Nat) (bs : Nat → Nat → Int × Nat × Nat) (R h c : Nat) : Option (Int × Nat) := if R.testBit (c / 100) = true ∧ c % 100 / 10 ≤ c % 10 ∧ c % 10 < A 0 then (doF A sm co H (c / 100) (c % 100 / 10) (c % 10) h).elim none (fun d => some (d.2 + (bs (clr R (c / 100)) (d.1 + 1)).1, (bs (clr R (c / 100)) (d.1 + 1)).2.1 + 1)) else none
def stF (acc : Int × Nat × Nat) (c : Nat) (d : Int × Nat) : Int × Nat × Nat := if d.1 < acc.1 ∨ (d.1 = acc.1 ∧ acc.2.1 ≤ d.2) then acc else (d.1, d.2, c)
def foF (cand : Nat → Option (Int × Nat)) : Nat → Int × Nat × Nat
  | 0 => (0, 0, 0)
  | c + 1 => (cand c).elim (foF cand c) (stF (foF cand c) c)
def bsF (H : Nat) : Nat → Nat → Nat → Int × Nat × Nat
  | 0, _, _ => (0, 0, 0)
  | m + 1, R, h => foF (cdF A sm co H (bsF H m) R h) 600
def beF (H R h : Nat) : Int × Nat × Nat := bsF A sm co H 6 R h
end SPEC
theorem foF_congr {f g : Nat → Option (Int × Nat)} : ∀ {n : Nat}, (∀ c, c < n → f c = g c) → foF f n = foF g n
  | 0, _ => rfl
  | n + 1, h => by
    unfold foF
    rw [h n (by omega), foF_congr (n := n) (fun c hc => h c (by omega))]
theorem foF_skip {f : Nat → Option (Int × Nat)} {a : Nat} : ∀ {n : Nat}, a ≤ n → (∀ c, a ≤ c → c < n → f c = none) → foF f n = foF f a
  | 0, h, _ => by rw [show a = 0 by omega]
  | n + 1, h, hn => by
    by_cases z : a = n + 1
    · rw [z]
    · conv => lhs; unfold foF
      rw [hn n (by omega) (by omega)]
      exact foF_skip (n := n) (by omega) (fun c h1 h2 => hn c h1 (by omega))
theorem clr_bits : ∀ s : Fin 64, ∀ k : Fin 6, s.1.testBit k.1 = true → bitsN (clr s.1 k.1) + 1 = bitsN s.1 := by decide +kernel
theorem bits_0 : ∀ s : Fin 64, bitsN s.1 = 0 → s.1 = 0 := by decide +kernel
section SPEC2
variable {A : Nat → Nat} {sm : Nat → Nat} {co : Nat → Nat → Nat} {H : Nat}
theorem cdF_congr {bs bs' : Nat → Nat → Int × Nat × Nat} {R h c : Nat} (e : R.testBit (c / 100) = true → ∀ h', bs (clr R (c / 100)) h' = bs' (clr R (c / 100)) h') : cdF A sm co H bs R h c = cdF A sm co H bs' R h c := by
  unfold cdF
  by_cases z : R.testBit (c / 100) = true ∧ c % 100 / 10 ≤ c % 10 ∧ c % 10 < A 0
  · rw [if_pos z, if_pos z]
    cases doF A sm co H (c / 100) (c % 100 / 10) (c % 10) h with
    | none => rfl
    | some d =>
      show some _ = some _
      rw [e z.1]
  · rw [if_neg z, if_neg z]
theorem bsF_fuel : ∀ {m R h : Nat}, R < 64 → bitsN R ≤ m → bsF A sm co H (m + 1) R h = bsF A sm co H m R h
  | 0, R, h, hR, hb => by
    have : R = 0 := bits_0 ⟨R, hR⟩ (Nat.le_zero.mp hb)
    subst this
    show foF _ 600 = (0, 0, 0)
    rw [foF_skip (a := 0) (by omega) (fun c _ _ => ?_)]
    · rfl
    · unfold cdF
      rw [if_neg (fun z => absurd z.1 (by rw [Nat.zero_testBit]; decide))]
  | m + 1, R, h, hR, hb => by
    show foF (cdF A sm co H (bsF A sm co H (m + 1)) R h) 600 = foF (cdF A sm co H (bsF A sm co H m) R h) 600
    refine foF_congr (fun c hc => cdF_congr (fun hk h' => ?_))
    have k6 : c / 100 < 6 := (by omega)
    have := clr_bits ⟨R, hR⟩ ⟨c / 100, k6⟩ hk
    refine bsF_fuel (clr_lt (n := 6) hR) ?_
    simp only at this
    omega
theorem beF_eq {R h : Nat} (hR : R < 64) : beF A sm co H R h = foF (cdF A sm co H (beF A sm co H) R h) 600 := by
  show foF (cdF A sm co H (bsF A sm co H 5) R h) 600 = _
  refine foF_congr (fun c hc => cdF_congr (fun hk h' => ?_))
  have k6 : c / 100 < 6 := (by omega)
  have h1 := clr_bits ⟨R, hR⟩ ⟨c / 100, k6⟩ hk
  have h2 : ∀ s : Fin 64, bitsN s.1 ≤ 6 := by decide +kernel
  have h3 := h2 ⟨R, hR⟩
  simp only at h1 h3
  exact (bsF_fuel (m := 5) (clr_lt (n := 6) hR) (by omega)).symm
/-! bounds -/
theorem cbF_le {lo hi due h : Nat} : cbF A sm lo hi due h ≤ due := by
  unfold cbF
  generalize (if sm h < lbF A lo hi then sm h else lbF A lo hi) = z
  split <;> omega
theorem fbF_le {lo c : Nat} : fbF A lo c ≤ c := by
  unfold fbF
  split <;> omega
theorem spF_le (hc : ∀ h b, co h b ≤ 99) {lo hi h c : Nat} : spF A co lo hi h c ≤ 99 * c := by
  unfold spF
  have h1 : fbF A lo c * co h lo ≤ fbF A lo c * 99 := Nat.mul_le_mul_left _ (hc _ _)
  have h2 : (c - fbF A lo c) * co h hi ≤ (c - fbF A lo c) * 99 := Nat.mul_le_mul_left _ (hc _ _)
  have h3 := fbF_le (A := A) (lo := lo) (c := c)
  omega
theorem runF_b (hc : ∀ h b, co h b ≤ 99) {lo hi : Nat} : ∀ {n h due : Nat} {g : Int} {p q : Bool} {d : Nat × Int × Bool × Bool}, runF A sm co lo hi n h due g p q = some d → h ≤ d.1 ∧ d.1 < h + n ∧ g - 99 * due ≤ d.2.1 ∧ d.2.1 ≤ g
  | 0, _, _, _, _, _, _, e => by exact absurd e (by simp [runF])
  | n + 1, h, due, g, p, q, d, e => by
    have h1 := spF_le (A := A) hc (lo := lo) (hi := hi) (h := h) (c := cbF A sm lo hi due h)
    have h2 := cbF_le (A := A) (sm := sm) (lo := lo) (hi := hi) (due := due) (h := h)
    unfold runF at e
    by_cases z : due - cbF A sm lo hi due h = 0
    · rw [if_pos z] at e
      have := Option.some.inj e
      subst this
      refine ⟨(by omega), (by omega), ?_, ?_⟩
      · show g - 99 * (due : Int) ≤ g - (spF A co lo hi h (cbF A sm lo hi due h) : Int); omega
      · show g - (spF A co lo hi h (cbF A sm lo hi due h) : Int) ≤ g; omega
    · rw [if_neg z] at e
      have := runF_b hc (n := n) e
      omega
theorem doF_b (hc : ∀ h b, co h b ≤ 99) {k lo hi h : Nat} {d : Nat × Int} (hw : A (40 + 3 * k) ≤ 30) (ho : A (42 + 3 * k) ≤ 999) (e : doF A sm co H k lo hi h = some d) : h ≤ d.1 ∧ d.1 < H ∧ -3000 ≤ d.2 ∧ d.2 ≤ 999 := by
  unfold doF at e
  cases er : runF A sm co lo hi (H - h) h (A (40 + 3 * k)) (A (42 + 3 * k)) false false with
  | none => rw [er] at e; exact absurd e (by simp)
  | some r =>
    rw [er] at e
    have b := runF_b hc er
    simp only [Option.elim_some] at e
    by_cases z : vOK (A (41 + 3 * k)) (vmF A lo hi r.2.2.1 r.2.2.2) = true
    · rw [if_pos z] at e
      have := Option.some.inj e
      subst this
      simp only
      omega
    · rw [if_neg z] at e; exact absurd e (by simp)
def okD (m : Nat) (a : Int × Nat × Nat) : Prop := 0 ≤ a.1 ∧ a.1 ≤ 999 * m ∧ a.2.1 ≤ m
theorem foF_b {f : Nat → Option (Int × Nat)} {m : Nat} (h : ∀ c d, f c = some d → d.1 ≤ 999 * m ∧ d.2 ≤ m) : ∀ n, okD m (foF f n)
  | 0 => ⟨Int.le_refl _, by show (0 : Int) ≤ 999 * m; omega, Nat.zero_le _⟩
  | n + 1 => by
    have ih := foF_b h n
    unfold foF
    cases e : f n with
    | none => exact ih
    | some d =>
      have := h n d e
      show okD m (stF (foF f n) n d)
      unfold stF
      by_cases z : d.1 < (foF f n).1 ∨ (d.1 = (foF f n).1 ∧ (foF f n).2.1 ≤ d.2)
      · rw [if_pos z]; exact ih
      · rw [if_neg z]
        have i1 := ih.1
        exact ⟨by show (0 : Int) ≤ d.1; omega, this.1, this.2⟩
def kbOK (A : Nat → Nat) : Prop := A 1 ≤ 6 ∧ ∀ k, k < A 1 → A (42 + 3 * k) ≤ 999 ∧ A (40 + 3 * k) ≤ 30
theorem bit_lt {R n k : Nat} (hR : R < 2 ^ n) (h : R.testBit k = true) : k < n := by
  by_cases z : k < n
  · exact z
  · rw [Nat.testBit_lt_two_pow (Nat.lt_of_lt_of_le hR (Nat.pow_le_pow_right (by decide) (by omega)))] at h
    exact absurd h (by decide)
theorem bsF_b (hc : ∀ h b, co h b ≤ 99) (hk : kbOK A) : ∀ m R h, R < 2 ^ A 1 → okD m (bsF A sm co H m R h)
  | 0, _, _, _ => ⟨Int.le_refl _, Int.le_refl _, Nat.le_refl _⟩
  | m + 1, R, h, hR => by
    show okD (m + 1) (foF (cdF A sm co H (bsF A sm co H m) R h) 600)
    refine foF_b (fun c d e => ?_) 600
    unfold cdF at e
    by_cases z2 : R.testBit (c / 100) = true ∧ c % 100 / 10 ≤ c % 10 ∧ c % 10 < A 0
    · rw [if_pos z2] at e
      cases ed : doF A sm co H (c / 100) (c % 100 / 10) (c % 10) h with
      | none => rw [ed] at e; exact absurd e (by simp)
      | some w =>
        rw [ed] at e
        have kk := hk.2 (c / 100) (bit_lt hR z2.1)
        have b := doF_b hc kk.2 kk.1 ed
        have ib := bsF_b hc hk m (clr R (c / 100)) (w.1 + 1) (clr_lt hR)
        have := Option.some.inj e
        subst this
        refine ⟨?_, ?_⟩
        · show w.2 + (bsF A sm co H m (clr R (c / 100)) (w.1 + 1)).1 ≤ 999 * ((m + 1 : Nat) : Int)
          have := ib.2.1
          omega
        · show (bsF A sm co H m (clr R (c / 100)) (w.1 + 1)).2.1 + 1 ≤ m + 1
          have := ib.2.2
          omega
    · rw [if_neg z2] at e; exact absurd e (by simp)
/-! the pick is the first of the best -/
def pkI (f : Nat → Option (Int × Nat)) (n : Nat) (a : Int × Nat × Nat) : Prop := (∀ c d, c < n → f c = some d → d.1 < a.1 ∨ (d.1 = a.1 ∧ a.2.1 ≤ d.2)) ∧ (a.2.1 = 0 → a = (0, 0, 0)) ∧ (0 < a.2.1 → a.2.2 < n ∧ f a.2.2 = some (a.1, a.2.1) ∧ ∀ c, c < a.2.2 → ¬ f c = some (a.1, a.2.1))
theorem foF_pk {f : Nat → Option (Int × Nat)} (h : ∀ c d, f c = some d → 0 < d.2) : ∀ n, pkI f n (foF f n)
  | 0 => ⟨fun c d hc => absurd hc (by omega), fun _ => rfl, fun z => absurd z (Nat.lt_irrefl 0)⟩
  | n + 1 => by
    obtain ⟨i1, i2, i3⟩ := foF_pk h n
    unfold foF
    cases e : f n with
    | none =>
      refine ⟨fun c d hc hd => ?_, i2, fun z => ?_⟩
      · by_cases zc : c = n
        · rw [zc, e] at hd; exact absurd hd (by simp)
        · exact i1 c d (by omega) hd
      · have := i3 z
        exact ⟨Nat.lt_succ_of_lt this.1, this.2⟩
    | some d =>
      have d0 := h n d e
      show pkI f (n + 1) (stF (foF f n) n d)
      unfold stF
      by_cases z : d.1 < (foF f n).1 ∨ (d.1 = (foF f n).1 ∧ (foF f n).2.1 ≤ d.2)
      · rw [if_pos z]
        refine ⟨fun c d' hc hd => ?_, i2, fun w => ?_⟩
        · by_cases zc : c = n
          · rw [zc, e] at hd
            rw [← Option.some.inj hd]; exact z
          · exact i1 c d' (by omega) hd
        · have := i3 w
          exact ⟨Nat.lt_succ_of_lt this.1, this.2⟩
      · rw [if_neg z]
        refine ⟨fun c d' hc hd => ?_, fun w => absurd w (by show ¬ d.2 = 0; omega), fun _ => ⟨Nat.lt_succ_self n, e, fun c hc hd => ?_⟩⟩
        · show d'.1 < d.1 ∨ (d'.1 = d.1 ∧ d.2 ≤ d'.2)
          by_cases zc : c = n
          · rw [zc, e] at hd
            rw [← Option.some.inj hd]; right; exact ⟨rfl, Nat.le_refl _⟩
          · have := i1 c d' (by omega) hd
            omega
        · have := i1 c _ hc hd
          exact z this
end SPEC2
