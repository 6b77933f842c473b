/-! the reference's next token -/
def rsF (c : Nat) : Nat := if sgF c = 17 ∧ c ≠ 44 then 3 else c
def rsC (T : Nat → Nat) (m q : Nat) : Nat := if twF T m q = true then (if T q = 60 then 4 else 5) else rsF (T q)
def rkC (T : Nat → Nat) (m q : Nat) : Nat := if m ≤ q then 0 else if bL (T q) = true then 2 else if bD (T q) = true then 1 else rsC T m q
def rvF (T : Nat → Nat) (m : Nat) : Nat → Nat → Nat → Nat
  | 0, _, v => v
  | n + 1, p, v => if p < m ∧ bD (T p) = true then rvF T m n (p + 1) (if 100000 ≤ v then v else 10 * v + T p - 48) else v
def rkV (T : Nat → Nat) (m q : Nat) : Nat := rvF T m (m - q) q 0
def wvN (T : Nat → Nat) (p : Nat) : Nat → Nat
  | 0 => 0
  | n + 1 => wvN T p n * 256 + T (p + n)
def rkW (T : Nat → Nat) (m q : Nat) : Nat := if eF bL T m q - q ≤ 7 then wvN T q (eF bL T m q - q) else 0
theorem wvN_lt {T : Nat → Nat} {p : Nat} : ∀ {n : Nat}, (∀ j, j < n → T (p + j) ≤ 255) → wvN T p n < 256 ^ n
  | 0, _ => show 0 < 1 from (by decide)
  | n + 1, h => by
    have h1 := wvN_lt (n := n) (fun j hj => h j (by omega))
    have h2 := h n (by omega)
    show wvN T p n * 256 + T (p + n) < _
    rw [Nat.pow_succ]; omega
theorem w_c : ∀ c : Fin 256, (nI c.1).toInt64 = Int64.ofNat c.1 := by decide +kernel
theorem w_step {v c : Nat} (hv : v < 281474976710656) (hc : c < 256) : (Int64.ofNat v <<< ((8 : Int32).toInt64 &&& 63)) ||| (nI c).toInt64 = Int64.ofNat (v * 256 + c) := by
  rw [w_c ⟨c, hc⟩]
  apply Int64.toBitVec_inj.mp
  rw [Int64.toBitVec_or, Int64.toBitVec_shiftLeft]
  rw [show ((8 : Int32).toInt64 &&& 63).toBitVec.smod 64 = 8#64 by decide]
  apply BitVec.eq_of_toNat_eq
  rw [show (Int64.ofNat v).toBitVec = BitVec.ofNat 64 v from rfl, show (Int64.ofNat c).toBitVec = BitVec.ofNat 64 c from rfl, show (Int64.ofNat (v * 256 + c)).toBitVec = BitVec.ofNat 64 (v * 256 + c) from rfl]
  simp only [BitVec.toNat_or, BitVec.toNat_ofNat]
  rw [show BitVec.ofNat 64 v <<< 8#64 = BitVec.ofNat 64 v <<< 8 from rfl, BitVec.toNat_shiftLeft, BitVec.toNat_ofNat]
  rw [Nat.mod_eq_of_lt (a := v) (by omega), Nat.mod_eq_of_lt (a := c) (by omega), Nat.mod_eq_of_lt (a := v * 256 + c) (by omega)]
  have := Nat.shiftLeft_add_eq_or_of_lt (i := 8) (b := c) (by omega) v
  rw [Nat.mod_eq_of_lt (by rw [Nat.shiftLeft_eq]; omega), ← this, Nat.shiftLeft_eq]
def RFr (y y' : MS) : Prop := (∀ k, k ≠ 7 → k ≠ 8 → k ≠ 9 → k ≠ 10 → y'.1 k = y.1 k) ∧ y'.2.2 = y.2.2
theorem RFr.refl (y : MS) : RFr y y := ⟨fun _ _ _ _ _ => rfl, rfl⟩
theorem RFr.trans {x y z : MS} (h : RFr x y) (g : RFr y z) : RFr x z := ⟨fun k a b c d => (g.1 k a b c d).trans (h.1 k a b c d), g.2.trans h.2⟩
theorem RFr.I {y y' : MS} (h : RFr y y') (k : Nat) (v : Int32) (hk : 7 ≤ k ∧ k ≤ 10) : RFr y (sI y' k v) := ⟨fun j a b c d => by rw [sI_o _ _ _ _ (by omega), h.1 j a b c d], h.2⟩
theorem RFr.W {y y' : MS} (h : RFr y y') (v : Int64) : RFr y (sW y' v) := ⟨fun j a b c d => h.1 j a b c d, h.2⟩
def tpM (y : MS) (T : Nat → Nat) (m : Nat) : Prop := y.1 4 = nI m ∧ m ≤ 300 ∧ ∀ i, i < m → y.2.2.1 3 i = nI (T i) ∧ T i ≤ 255
theorem RFr.tp {y y' : MS} {T : Nat → Nat} {m : Nat} (h : RFr y y') (t : tpM y T m) : tpM y' T m := by
  unfold tpM
  rw [h.1 4 (by decide) (by decide) (by decide) (by decide), h.2]; exact t
section RTOK
variable {T : Nat → Nat} {m : Nat}
theorem r_byte {Post : Int32 → MS → Prop} {y : MS} {x : Nat} (ht : tpM y T m) (hx : x ≤ 1000) (h1 : x < m → T x ≤ 255 → Post (nI (T x)) y) (h0 : m ≤ x → Post (-1) y) : VC_byteAt Post (nI x) y := by
  obtain ⟨t1, t2, t3⟩ := ht
  unfold VC_byteAt
  rw [t1]
  by_cases z : m ≤ x
  · exact ⟨fun _ => h0 z, fun w => absurd (nI_le z (by omega)) w⟩
  · refine ⟨fun w => absurd w (nI_ge (by omega) (by omega)), fun _ => ⟨vp_in_nI (by omega) (by decide), ?_⟩⟩
    have tx := t3 x (by omega)
    rw [ncl (by omega), tx.1]
    exact h1 (by omega) tx.2
theorem r_isL {Post : Int32 → Prop} {c : Nat} (hc : c ≤ 255) (h1 : bL c = true → Post 1) (h0 : bL c = false → Post 0) : VC_isLetter Post (nI c) := by
  refine mFrom (l := 97) (h := 122) (h1 := fun z => ⟨fun _ => h1 ?_, fun z => absurd z (by decide)⟩) (h0 := fun z => ⟨fun z => absurd rfl z, fun _ => mFrom (l := 65) (h := 90) (h1 := fun w => ⟨fun z => absurd z (by decide), fun _ => h1 ?_⟩) (h0 := fun w => ⟨fun _ => h0 ?_, fun z => absurd rfl z⟩)⟩)
  · obtain ⟨b, b1, b2, b3⟩ := z
    have := (nI_eq (by omega) (by omega)).mp b3
    unfold bL; exact decide_eq_true (by omega)
  · obtain ⟨b, b1, b2, b3⟩ := w
    have := (nI_eq (by omega) (by omega)).mp b3
    unfold bL; exact decide_eq_true (by omega)
  · unfold bL
    refine decide_eq_false (fun y => ?_)
    rcases y with y | y
    · exact z ⟨c, y.1, y.2, rfl⟩
    · exact w ⟨c, y.1, y.2, rfl⟩
theorem r_isL' {Post : Int32 → Prop} (h0 : Post 0) : VC_isLetter Post (-1) := isInL (by decide) ⟨fun z => absurd rfl z, fun _ => isInL (by decide) ⟨fun _ => h0, fun z => absurd rfl z⟩⟩
theorem r_isD {Post : Int32 → Prop} {c : Nat} (hc : c ≤ 255) (h1 : bD c = true → Post 1) (h0 : bD c = false → Post 0) : VC_isDigit Post (nI c) := by
  refine mFrom (l := 48) (h := 57) (h1 := fun z => ⟨Or.inr rfl, h1 ?_⟩) (h0 := fun z => ⟨Or.inl rfl, h0 ?_⟩)
  · obtain ⟨b, b1, b2, b3⟩ := z
    have := (nI_eq (by omega) (by omega)).mp b3
    unfold bD; exact decide_eq_true (by omega)
  · unfold bD
    exact decide_eq_false (fun y => z ⟨c, y.1, y.2, rfl⟩)
theorem r_isD' {Post : Int32 → Prop} (h0 : Post 0) : VC_isDigit Post (-1) := isInL (by decide) ⟨Or.inl rfl, h0⟩
theorem bLD {c : Nat} (h : bD c = true) : bL c = false := by
  have := of_decide_eq_true h
  exact decide_eq_false (by omega)
theorem gS_m : ∀ c : Fin 256, (c.1 = 60 ∨ c.1 = 62 ∨ c.1 = 61 ∨ c.1 = 35 ∨ c.1 = 43 ∨ c.1 = 45 ∨ c.1 = 42 ∨ c.1 = 47 ∨ c.1 = 40 ∨ c.1 = 41 ∨ c.1 = 59 ∨ c.1 = 44 ∨ c.1 = 63 ∨ c.1 = 58) ↔ ¬ (sgF c.1 = 17 ∧ c.1 ≠ 44) := by decide +kernel
theorem rsF_n12 : ∀ c : Fin 256, rsF c.1 ≠ 1 ∧ rsF c.1 ≠ 2 := by decide +kernel
theorem rsC_n12 {q : Nat} (h : T q ≤ 255) : rsC T m q ≠ 1 ∧ rsC T m q ≠ 2 := by
  unfold rsC
  split
  · split <;> decide
  · exact rsF_n12 ⟨T q, (by omega)⟩
theorem r_next {Post : MS → Prop} {y : MS} {p : Nat} (ht : tpM y T m) (i0 : y.1 7 = nI p) (hp : p ≤ m) (h : ∀ y', RFr y y' → y'.1 7 = nI (tkE T m (eF bB T m p)) → y'.1 8 = nI (eF bB T m p) → y'.1 9 = nI (rkC T m (eF bB T m p)) → (rkC T m (eF bB T m p) = 1 → y'.1 10 = nI (rkV T m (eF bB T m p))) → (rkC T m (eF bB T m p) = 2 → y'.2.1 = Int64.ofNat (rkW T m (eF bB T m p))) → Post y') : VC_nextToken Post y := by
  obtain ⟨t1, t2, t3⟩ := id ht
  have le := eF_le (q := bB) (T := T) (m := m) hp
  obtain ⟨q, eq⟩ : ∃ q, q = eF bB T m p := ⟨_, rfl⟩
  rw [← eq] at h le
  intro K hK
  -- numbers
  have num : ∀ a : Int32, m ≤ q ∨ bL (T q) = false → q < m → bD (T q) = true → ∀ n x v : Nat, ∀ U : MS, x + n = m → q ≤ x → v ≤ 1000000 → RFr y U → U.1 7 = nI x → U.1 8 = nI q → U.1 9 = nI 1 → U.1 10 = nI v → eF bD T m x = eF bD T m q → rvF T m n x v = rkV T m q → K (.inr (.inl a)) U := by
    intro a hl hq hd n
    have nq : ¬ m ≤ q := (by omega)
    have nl : ¬ bL (T q) = true := by rw [hl.resolve_left nq]; decide
    have w1 : rkC T m q = 1 := by unfold rkC; rw [if_neg nq, if_neg nl, if_pos hd]
    have w2 : tkE T m q = eF bD T m q := by unfold tkE; rw [if_neg nq, if_neg nl, if_pos hd]
    have out : ∀ U : MS, ∀ x v : Nat, RFr y U → U.1 7 = nI x → U.1 8 = nI q → U.1 9 = nI 1 → U.1 10 = nI v → x = eF bD T m q → v = rkV T m q → Post U := fun U x v fU u7 u8 u9 u10 ex ev =>
      h U fU (by rw [u7, w2, ex]) u8 (by rw [u9, w1]) (fun _ => by rw [u10, ev]) (fun z => by rw [w1] at z; exact absurd z (by decide))
    induction n with
    | zero =>
      intro x v U hx hqx hv fU u7 u8 u9 u10 he hv2
      have ex : x = m := (by omega)
      refine hK _ _ ?_
      dsimp only [B_nextToken]
      rw [u7]
      refine r_byte (fU.tp ht) (by omega) (fun z => absurd z (by omega)) (fun _ => r_isD' ⟨fun _ => ?_, fun z => absurd rfl z⟩)
      exact out U x v fU u7 u8 u9 u10 (by rw [← he, eF_n (by omega)]) hv2
    | succ n ih =>
      intro x v U hx hqx hv fU u7 u8 u9 u10 he hv2
      refine hK _ _ ?_
      dsimp only [B_nextToken]
      rw [u7]
      refine r_byte (fU.tp ht) (by omega) (fun _ tx => ?_) (fun z => absurd z (by omega))
      refine r_isD tx (fun hd => ⟨fun z => absurd z (by decide), fun _ => ?_⟩) (fun hd => ⟨fun _ => ?_, fun z => absurd rfl z⟩)
      · have hd2 : 48 ≤ T x ∧ T x ≤ 57 := of_decide_eq_true hd
        rw [u10, show (100000 : Int32) = nI 100000 from rfl]
        have step : rvF T m n (x + 1) (if 100000 ≤ v then v else 10 * v + T x - 48) = rkV T m q := by
          rw [← hv2]
          conv => rhs; unfold rvF
          rw [if_pos (show x < m ∧ bD (T x) = true from ⟨(by omega), hd⟩)]
        by_cases big : 100000 ≤ v
        · refine ⟨fun _ v25 e25 S26 e26 => ?_, fun z => absurd (nI_le big (by omega)) z⟩
          rw [u7, nI_1] at e25
          rw [if_pos big] at step
          exact ih (x + 1) v S26 (by omega) (by omega) hv (by rw [e26]; exact fU.I _ _ (by omega)) (by rw [e26, sI_s, e25]) (by rw [e26, sI_o _ _ _ _ (by decide), u8]) (by rw [e26, sI_o _ _ _ _ (by decide), u9]) (by rw [e26, sI_o _ _ _ _ (by decide), u10]) (by rw [← he, eF_y (by omega) hd]) step
        · refine ⟨fun z => absurd z (nI_ge (by omega) (by omega)), fun _ => ?_⟩
          rw [u7]
          refine r_byte (fU.tp ht) (by omega) (fun _ _ v29 e29 S30 e30 v31 e31 S32 e32 => ?_) (fun z => absurd z (by omega))
          have ev : 10 * nI v + nI (T x) - 48 = nI (10 * v + T x - 48) := by rw [L10, nmul, nadd, show (48 : Int32) = nI 48 from rfl, nsub (by omega)]
          rw [ev] at e29
          rw [e30, sI_o _ _ _ _ (by decide), u7, nI_1] at e31
          rw [if_neg big] at step
          exact ih (x + 1) (10 * v + T x - 48) S32 (by omega) (by omega) (by omega) (by rw [e32, e30]; exact (fU.I _ _ (by omega)).I _ _ (by omega)) (by rw [e32, sI_s, e31]) (by rw [e32, sI_o _ _ _ _ (by decide), e30, sI_o _ _ _ _ (by decide), u8]) (by rw [e32, sI_o _ _ _ _ (by decide), e30, sI_o _ _ _ _ (by decide), u9]) (by rw [e32, sI_o _ _ _ _ (by decide), e30, sI_s, e29]) (by rw [← he, eF_y (by omega) hd]) step
      · refine out U x v fU u7 u8 u9 u10 ?_ ?_
        · rw [← he, eF_n (fun z => by rw [hd] at z; exact absurd z.2 (by decide))]
        · rw [← hv2]
          unfold rvF
          rw [if_neg (fun z => by rw [hd] at z; exact absurd z.2 (by decide))]
  -- words
  have word : ∀ a : Int32, q < m → bL (T q) = true → ∀ n x : Nat, ∀ U : MS, x + n = m → q ≤ x → RFr y U → U.1 7 = nI x → U.1 8 = nI q → U.1 9 = nI 2 → (x - q ≤ 7 → U.2.1 = Int64.ofNat (wvN T q (x - q))) → (∀ j, j < x - q → T (q + j) ≤ 255) → eF bL T m x = eF bL T m q → K (.inr (.inr (.inl a))) U := by
    intro a hq hl n
    have nq : ¬ m ≤ q := (by omega)
    have w1 : rkC T m q = 2 := by unfold rkC; rw [if_neg nq, if_pos hl]
    have w2 : tkE T m q = eF bL T m q := by unfold tkE; rw [if_neg nq, if_pos hl]
    have out : ∀ U : MS, ∀ x : Nat, q ≤ x → x ≤ m → RFr y U → U.1 7 = nI x → U.1 8 = nI q → U.1 9 = nI 2 → (x - q ≤ 7 → U.2.1 = Int64.ofNat (wvN T q (x - q))) → x = eF bL T m q → (((U.1 7 - U.1 8 ≤ 7 → Post U) ∧ (¬ U.1 7 - U.1 8 ≤ 7 → ∀ S36 : MS, S36 = sW U 0 → Post S36))) := fun U x hqx hxm fU u7 u8 u9 uw ex => by
      rw [u7, u8, nsub hqx]
      by_cases s : x - q ≤ 7
      · refine ⟨fun _ => h U fU (by rw [u7, w2, ex]) u8 (by rw [u9, w1]) (fun z => by rw [w1] at z; exact absurd z (by decide)) (fun _ => ?_), fun z => absurd (nI_le (b := 7) s (by decide)) z⟩
        unfold rkW
        rw [← ex, if_pos s]; exact uw s
      · refine ⟨fun z => absurd z (nI_ge (a := 7) (by omega) (by omega)), fun _ S36 e36 => h S36 (by rw [e36]; exact fU.W _) (by rw [e36, sW_1, u7, w2, ex]) (by rw [e36, sW_1]; exact u8) (by rw [e36, sW_1, u9, w1]) (fun z => by rw [w1] at z; exact absurd z (by decide)) (fun _ => ?_)⟩
        unfold rkW
        rw [← ex, if_neg s, e36]; rfl
    induction n with
    | zero =>
      intro x U hx hqx fU u7 u8 u9 uw hT he
      have ex : x = m := (by omega)
      refine hK _ _ ?_
      dsimp only [B_nextToken]
      rw [u7]
      refine r_byte (fU.tp ht) (by omega) (fun z => absurd z (by omega)) (fun _ => r_isL' ⟨fun _ => ?_, fun z => absurd rfl z⟩)
      have := out U x hqx (by omega) fU u7 u8 u9 uw (by rw [← he, eF_n (by omega)])
      exact this
    | succ n ih =>
      intro x U hx hqx fU u7 u8 u9 uw hT he
      refine hK _ _ ?_
      dsimp only [B_nextToken]
      rw [u7]
      refine r_byte (fU.tp ht) (by omega) (fun _ tx => ?_) (fun z => absurd z (by omega))
      refine r_isL tx (fun hl => ⟨fun z => absurd z (by decide), fun _ => ?_⟩) (fun hl => ⟨fun _ => ?_, fun z => absurd rfl z⟩)
      · have hT' : ∀ j, j < x + 1 - q → T (q + j) ≤ 255 := fun j hj => by
          by_cases z : j = x - q
          · rw [z, show q + (x - q) = x by omega]; exact tx
          · exact hT j (by omega)
        have he' : eF bL T m (x + 1) = eF bL T m q := by rw [← he, eF_y (by omega) hl]
        rw [u8, u7, nsub hqx]
        by_cases s : 7 ≤ x - q
        · refine ⟨fun _ v37 e37 S38 e38 => ?_, fun z => absurd (nI_le (a := 7) s (by omega)) z⟩
          rw [nI_1] at e37
          exact ih (x + 1) S38 (by omega) (by omega) (by rw [e38]; exact fU.I _ _ (by omega)) (by rw [e38, sI_s, e37]) (by rw [e38, sI_o _ _ _ _ (by decide), u8]) (by rw [e38, sI_o _ _ _ _ (by decide), u9]) (fun z => absurd z (by omega)) hT' he'
        · refine ⟨fun z => absurd z (nI_ge (b := 7) (by omega) (by decide)), fun _ => ?_⟩
          refine r_byte (fU.tp ht) (by omega) (fun _ _ v41 e41 S42 e42 v43 e43 S44 e44 => ?_) (fun z => absurd z (by omega))
          have lt := wvN_lt hT
          have lt2 : 256 ^ (x - q) ≤ 256 ^ 6 := Nat.pow_le_pow_right (by decide) (by omega)
          rw [uw (by omega), w_step (by omega) (by omega)] at e41
          rw [e42, sW_1, u7, nI_1] at e43
          refine ih (x + 1) S44 (by omega) (by omega) (by rw [e44, e42]; exact (fU.W _).I _ _ (by omega)) (by rw [e44, sI_s, e43]) (by rw [e44, sI_o _ _ _ _ (by decide), e42, sW_1, u8]) (by rw [e44, sI_o _ _ _ _ (by decide), e42, sW_1, u9]) (fun _ => ?_) hT' he'
          rw [e44, sI_2, e42]
          show v41 = _
          rw [e41, show x + 1 - q = (x - q) + 1 by omega]
          show _ = Int64.ofNat (wvN T q (x - q) * 256 + T (q + (x - q)))
          rw [show q + (x - q) = x by omega]
      · have := out U x hqx (by omega) fU u7 u8 u9 uw (by rw [← he, eF_n (fun z => by rw [hl] at z; exact absurd z.2 (by decide))])
        exact this
  -- behind the blanks
  have read : ∀ U : MS, RFr y U → U.1 7 = nI q → ∀ v7 : Int32, v7 = U.1 7 → ∀ S8 : MS, S8 = sI U 8 v7 → RFr y S8 ∧ S8.1 7 = nI q ∧ S8.1 8 = nI q := fun U fU u7 v7 e7 S8 e8 =>
    ⟨by rw [e8]; exact fU.I _ _ (by omega), by rw [e8, sI_o _ _ _ _ (by decide), u7], by rw [e8, sI_s, e7, u7]⟩
  have run : ∀ n x : Nat, ∀ U : MS, x + n = m → RFr y U → U.1 7 = nI x → eF bB T m x = q → K (.inl ()) U := by
    intro n
    induction n with
    | zero =>
      intro x U hx fU u7 he
      have ex : x = m := (by omega)
      have e1 : eF bB T m x = x := eF_n (by omega)
      have eq2 : x = q := by rw [← he, e1]
      refine hK _ _ ?_
      dsimp only [B_nextToken]
      rw [u7]
      refine r_byte (fU.tp ht) (by omega) (fun z => absurd z (by omega)) (fun _ => ⟨fun z => absurd z (by decide), fun _ => ?_⟩)
      rw [u7]
      refine r_byte (fU.tp ht) (by omega) (fun z => absurd z (by omega)) (fun _ => ⟨fun _ v7 e7 S8 e8 => ?_, fun z => absurd z (by decide)⟩)
      obtain ⟨f8, s7, s8⟩ := read U fU (by rw [u7, eq2]) v7 (by rw [e7, u7]) S8 e8
      rw [s7]
      refine r_byte (f8.tp ht) (by omega) (fun z => absurd z (by omega)) (fun _ => ⟨fun z => absurd z (by decide), fun _ S19 e19 => ?_⟩)
      have w1 : rkC T m q = 0 := if_pos (by omega)
      have w2 : tkE T m q = q := if_pos (by omega)
      exact h S19 (by rw [e19]; exact f8.I _ _ (by omega)) (by rw [e19, sI_o _ _ _ _ (by decide), s7, w2]) (by rw [e19, sI_o _ _ _ _ (by decide), s8]) (by rw [e19, sI_s, w1]; rfl) (fun z => by rw [w1] at z; exact absurd z (by decide)) (fun z => by rw [w1] at z; exact absurd z (by decide))
    | succ n ih =>
      intro x U hx fU u7 he
      refine hK _ _ ?_
      dsimp only [B_nextToken]
      rw [u7]
      refine r_byte (fU.tp ht) (by omega) (fun _ tx => ?_) (fun z => absurd z (by omega))
      have go : bB (T x) = true → ∀ v : Int32, v = nI x + 1 → ∀ V : MS, V = sI U 7 v → K (.inl ()) V := fun hb v ev V eV =>
        ih (x + 1) V (by omega) (by rw [eV]; exact fU.I _ _ (by omega)) (by rw [eV, sI_s, ev, nI_1]) (by rw [← he, eF_y (by omega) hb])
      rw [show (nI (T x) = (32 : Int32)) = (T x = 32) by rw [show (32 : Int32) = nI 32 from rfl, neq (by omega) (by decide)]]
      refine ⟨fun z v ev V eV => go (decide_eq_true (Or.inl z)) v (by rw [ev, u7]) V eV, fun z => ?_⟩
      rw [u7]
      refine r_byte (fU.tp ht) (by omega) (fun _ _ => ?_) (fun z => absurd z (by omega))
      rw [show (nI (T x) = (10 : Int32)) = (T x = 10) by rw [show (10 : Int32) = nI 10 from rfl, neq (by omega) (by decide)]]
      refine ⟨fun w v7 e7 S8 e8 => ?_, fun w v ev V eV => go (decide_eq_true (Or.inr w)) v (by rw [ev, u7]) V eV⟩
      have nb : bB (T x) = false := decide_eq_false (fun y => y.elim z w)
      have eq2 : x = q := by rw [← he, eF_n (fun y => by rw [nb] at y; exact absurd y.2 (by decide))]
      obtain ⟨f8, s7, s8⟩ := read U fU (by rw [u7, eq2]) v7 (by rw [e7, u7]) S8 e8
      have hq : q < m := (by omega)
      have nq : ¬ m ≤ q := (by omega)
      rw [s7]
      refine r_byte (f8.tp ht) (by omega) (fun _ tq => ⟨fun _ => ?_, fun z => absurd (nI_le (a := 0) (Nat.zero_le _) (by omega)) z⟩) (fun z => absurd z (by omega))
      refine r_isD tq (fun hd => ⟨fun z => absurd z (by decide), fun _ S17 e17 S18 e18 => ?_⟩) (fun hd => ⟨fun _ => ?_, fun z => absurd rfl z⟩)
      · exact num _ (Or.inr (bLD hd)) hq hd (m - q) q 0 S18 (by omega) (Nat.le_refl _) (by decide) (by rw [e18, e17]; exact (f8.I _ _ (by omega)).I _ _ (by omega)) (by rw [e18, sI_o _ _ _ _ (by decide), e17, sI_o _ _ _ _ (by decide), s7]) (by rw [e18, sI_o _ _ _ _ (by decide), e17, sI_o _ _ _ _ (by decide), s8]) (by rw [e18, sI_o _ _ _ _ (by decide), e17, sI_s]; rfl) (by rw [e18, sI_s]; rfl) rfl rfl
      · have nd : ¬ bD (T q) = true := by rw [hd]; decide
        refine r_isL tq (fun hl => ⟨fun z => absurd z (by decide), fun _ S15 e15 S16 e16 => ?_⟩) (fun hl => ⟨fun _ v13 e13 S14 e14 => ?_, fun z => absurd rfl z⟩)
        · exact word _ hq hl (m - q) q S16 (by omega) (Nat.le_refl _) (by rw [e16, e15]; exact (f8.I _ _ (by omega)).W _) (by rw [e16, sW_1, e15, sI_o _ _ _ _ (by decide), s7]) (by rw [e16, sW_1, e15, sI_o _ _ _ _ (by decide), s8]) (by rw [e16, sW_1, e15, sI_s]; rfl) (fun _ => by rw [e16, Nat.sub_self]; rfl) (fun j hj => absurd hj (by omega)) rfl
        · have nl : ¬ bL (T q) = true := by rw [hl]; decide
          have w1 : rkC T m q = rsC T m q := by unfold rkC; rw [if_neg nq, if_neg nl, if_neg nd]
          have w2 : tkE T m q = sgE T m q := by unfold tkE; rw [if_neg nq, if_neg nl, if_neg nd]
          rw [s7, nI_1] at e13
          have a14 : RFr y S14 := by rw [e14]; exact f8.I _ _ (by omega)
          have z7 : S14.1 7 = nI (q + 1) := by rw [e14, sI_s, e13]
          have z8 : S14.1 8 = nI q := by rw [e14, sI_o _ _ _ _ (by decide), s8]
          have nd1 : rsC T m q ≠ 1 ∧ rsC T m q ≠ 2 := rsC_n12 tq
          have fin : ∀ V : MS, RFr y V → V.1 7 = nI (sgE T m q) → V.1 8 = nI q → V.1 9 = nI (rsC T m q) → Post V := fun V fV v7 v8 v9 =>
            h V fV (by rw [v7, w2]) v8 (by rw [v9, w1]) (fun z => by rw [w1] at z; exact absurd z nd1.1) (fun z => by rw [w1] at z; exact absurd z nd1.2)
          -- behind the sign's own token
          have wide : ∀ b : Int32, ∀ V : MS, RFr y V → V.1 7 = nI (q + 1) → V.1 8 = nI q → V.1 9 = nI (rsF (T q)) → (T q = 60 ∨ T q = 62) → K (.inr (.inr (.inr (.inr (.inr (nI (T q), b)))))) V := fun b V fV v7 v8 v9 hw => by
            refine hK _ _ ?_
            dsimp only [B_nextToken]
            rw [v7]
            have one : twF T m q = false → Post V := fun w => by
              have w3 : sgE T m q = q + 1 := if_neg (by rw [w]; decide)
              have w4 : rsC T m q = rsF (T q) := if_neg (by rw [w]; decide)
              exact fin V fV (by rw [v7, w3]) v8 (by rw [v9, w4])
            refine r_byte (fV.tp ht) (by omega) (fun hl tx => ?_) (fun z => ⟨fun _ => one (decide_eq_false (fun y => absurd y.2.1 (by omega))), fun z => absurd z (by decide)⟩)
            rw [show (nI (T (q + 1)) = (61 : Int32)) = (T (q + 1) = 61) by rw [show (61 : Int32) = nI 61 from rfl, neq (by omega) (by decide)], show (nI (T q) = (60 : Int32)) = (T q = 60) by rw [show (60 : Int32) = nI 60 from rfl, neq (by omega) (by decide)]]
            refine ⟨fun z => one (decide_eq_false (fun y => z y.2.2)), fun z v48 e48 S49 e49 => ?_⟩
            have tw : twF T m q = true := decide_eq_true ⟨hw, hl, z⟩
            have w3 : sgE T m q = q + 2 := if_pos tw
            have w4 : rsC T m q = (if T q = 60 then 4 else 5) := if_pos tw
            have f49 : RFr y S49 := by rw [e49]; exact fV.I _ _ (by omega)
            rw [v7, nI_1] at e48
            refine ⟨fun x S50 e50 => ?_, fun x S51 e51 => ?_⟩
            · exact fin S50 (by rw [e50]; exact f49.I _ _ (by omega)) (by rw [e50, sI_o _ _ _ _ (by decide), e49, sI_s, e48, w3]) (by rw [e50, sI_o _ _ _ _ (by decide), e49, sI_o _ _ _ _ (by decide), v8]) (by rw [e50, sI_s, w4, if_neg x]; rfl)
            · exact fin S51 (by rw [e51]; exact f49.I _ _ (by omega)) (by rw [e51, sI_o _ _ _ _ (by decide), e49, sI_s, e48, w3]) (by rw [e51, sI_o _ _ _ _ (by decide), e49, sI_o _ _ _ _ (by decide), v8]) (by rw [e51, sI_s, w4, if_pos x]; rfl)
          have five : ∀ b t : Int32, t = nI (rsF (T q)) → K (.inr (.inr (.inr (.inr (.inl (nI (T q), b, t)))))) S14 := fun b t et => by
            refine hK _ _ ?_
            dsimp only [B_nextToken]
            rw [show (nI (T q) = (60 : Int32)) = (T q = 60) by rw [show (60 : Int32) = nI 60 from rfl, neq (by omega) (by decide)], show (nI (T q) = (62 : Int32)) = (T q = 62) by rw [show (62 : Int32) = nI 62 from rfl, neq (by omega) (by decide)]]
            intro S45 e45
            have f45 : RFr y S45 := by rw [e45]; exact a14.I _ _ (by omega)
            have v7 : S45.1 7 = nI (q + 1) := by rw [e45, sI_o _ _ _ _ (by decide), z7]
            have v8 : S45.1 8 = nI q := by rw [e45, sI_o _ _ _ _ (by decide), z8]
            have v9 : S45.1 9 = nI (rsF (T q)) := by rw [e45, sI_s, et]
            refine ⟨fun w => wide b S45 f45 v7 v8 v9 (Or.inl w), fun w => ⟨fun w2 => ?_, fun w => wide b S45 f45 v7 v8 v9 (Or.inr w)⟩⟩
            have tw : twF T m q = false := decide_eq_false (fun y => y.1.elim w w2)
            have w3 : sgE T m q = q + 1 := if_neg (by rw [tw]; decide)
            have w4 : rsC T m q = rsF (T q) := if_neg (by rw [tw]; decide)
            exact fin S45 f45 (by rw [v7, w3]) v8 (by rw [v9, w4])
          have gm := gS_m ⟨T q, (by omega)⟩
          simp only at gm
          have four : (T q = 60 ∨ T q = 62 ∨ T q = 61 ∨ T q = 35 ∨ T q = 43 ∨ T q = 45 ∨ T q = 42 ∨ T q = 47 ∨ T q = 40 ∨ T q = 41 ∨ T q = 59 ∨ T q = 44 ∨ T q = 63 ∨ T q = 58) → K (.inr (.inr (.inr (.inl (nI (T q)))))) S14 := fun w => by
            refine hK _ _ ?_
            dsimp only [B_nextToken]
            refine ⟨fun z => absurd z (by decide), fun _ => five _ _ ?_⟩
            have : rsF (T q) = T q := if_neg (gm.mp w)
            rw [this]
          have nn : ∀ k : Nat, k < 256 → ((nI (T q) = nI k) = (T q = k)) := fun k hk => by rw [neq (by omega) (by omega)]
          rw [show (60 : Int32) = nI 60 from rfl, show (62 : Int32) = nI 62 from rfl, show (61 : Int32) = nI 61 from rfl, show (35 : Int32) = nI 35 from rfl, show (43 : Int32) = nI 43 from rfl, show (45 : Int32) = nI 45 from rfl, show (42 : Int32) = nI 42 from rfl, show (47 : Int32) = nI 47 from rfl, show (40 : Int32) = nI 40 from rfl, show (41 : Int32) = nI 41 from rfl, show (59 : Int32) = nI 59 from rfl, show (44 : Int32) = nI 44 from rfl, show (63 : Int32) = nI 63 from rfl, show (58 : Int32) = nI 58 from rfl]
          rw [nn 60 (by decide), nn 62 (by decide), nn 61 (by decide), nn 35 (by decide), nn 43 (by decide), nn 45 (by decide), nn 42 (by decide), nn 47 (by decide), nn 40 (by decide), nn 41 (by decide), nn 59 (by decide), nn 44 (by decide), nn 63 (by decide), nn 58 (by decide)]
          refine ⟨fun w => four (by omega), fun n1 => ⟨fun w => four (by omega), fun n2 => ⟨fun w => four (by omega), fun n3 => ⟨fun w => four (by omega), fun n4 => ⟨fun w => four (by omega), fun n5 => ⟨fun w => four (by omega), fun n6 => ⟨fun w => four (by omega), fun n7 => ⟨fun w => four (by omega), fun n8 => ⟨fun w => four (by omega), fun n9 => ⟨fun w => four (by omega), fun n10 => ⟨fun w => four (by omega), fun n11 => ⟨fun w => four (by omega), fun n12 => ⟨fun w => four (by omega), fun n13 => ⟨fun n14 => ⟨fun _ => five _ _ ?_, fun z => absurd rfl z⟩, fun w => four (by omega)⟩⟩⟩⟩⟩⟩⟩⟩⟩⟩⟩⟩⟩⟩
          have g : sgF (T q) = 17 ∧ T q ≠ 44 := by
            by_cases z : sgF (T q) = 17 ∧ T q ≠ 44
            · exact z
            · exact absurd (gm.mpr z) (by omega)
          have : rsF (T q) = 3 := if_pos g
          rw [this]; rfl
  exact run (m - p) p y (by omega) (RFr.refl y) i0 eq.symm
end RTOK
