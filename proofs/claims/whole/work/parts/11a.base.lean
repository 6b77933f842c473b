/-! numbers: every number that is not below 0 as nI -/
theorem L0 : (0 : Int32) = nI 0 := rfl
theorem L1 : (1 : Int32) = nI 1 := rfl
theorem L2 : (2 : Int32) = nI 2 := rfl
theorem L3 : (3 : Int32) = nI 3 := rfl
theorem L4 : (4 : Int32) = nI 4 := rfl
theorem L5 : (5 : Int32) = nI 5 := rfl
theorem L6 : (6 : Int32) = nI 6 := rfl
theorem L7 : (7 : Int32) = nI 7 := rfl
theorem L8 : (8 : Int32) = nI 8 := rfl
theorem L9 : (9 : Int32) = nI 9 := rfl
theorem L10 : (10 : Int32) = nI 10 := rfl
theorem L11 : (11 : Int32) = nI 11 := rfl
theorem L12 : (12 : Int32) = nI 12 := rfl
theorem L13 : (13 : Int32) = nI 13 := rfl
theorem L14 : (14 : Int32) = nI 14 := rfl
theorem L15 : (15 : Int32) = nI 15 := rfl
theorem L16 : (16 : Int32) = nI 16 := rfl
theorem L17 : (17 : Int32) = nI 17 := rfl
theorem L18 : (18 : Int32) = nI 18 := rfl
theorem L19 : (19 : Int32) = nI 19 := rfl
theorem L20 : (20 : Int32) = nI 20 := rfl
theorem L21 : (21 : Int32) = nI 21 := rfl
theorem L22 : (22 : Int32) = nI 22 := rfl
theorem L23 : (23 : Int32) = nI 23 := rfl
theorem L24 : (24 : Int32) = nI 24 := rfl
theorem L25 : (25 : Int32) = nI 25 := rfl
theorem L26 : (26 : Int32) = nI 26 := rfl
theorem L27 : (27 : Int32) = nI 27 := rfl
theorem L28 : (28 : Int32) = nI 28 := rfl
theorem L29 : (29 : Int32) = nI 29 := rfl
theorem L30 : (30 : Int32) = nI 30 := rfl
theorem L31 : (31 : Int32) = nI 31 := rfl
theorem L32 : (32 : Int32) = nI 32 := rfl
theorem L33 : (33 : Int32) = nI 33 := rfl
theorem L34 : (34 : Int32) = nI 34 := rfl
theorem L35 : (35 : Int32) = nI 35 := rfl
theorem L36 : (36 : Int32) = nI 36 := rfl
theorem L37 : (37 : Int32) = nI 37 := rfl
theorem L38 : (38 : Int32) = nI 38 := rfl
theorem L39 : (39 : Int32) = nI 39 := rfl
theorem L40 : (40 : Int32) = nI 40 := rfl
theorem L41 : (41 : Int32) = nI 41 := rfl
theorem L42 : (42 : Int32) = nI 42 := rfl
theorem L43 : (43 : Int32) = nI 43 := rfl
theorem L44 : (44 : Int32) = nI 44 := rfl
theorem L45 : (45 : Int32) = nI 45 := rfl
theorem L46 : (46 : Int32) = nI 46 := rfl
theorem L47 : (47 : Int32) = nI 47 := rfl
theorem L48 : (48 : Int32) = nI 48 := rfl
theorem L49 : (49 : Int32) = nI 49 := rfl
theorem L50 : (50 : Int32) = nI 50 := rfl
theorem L51 : (51 : Int32) = nI 51 := rfl
theorem L52 : (52 : Int32) = nI 52 := rfl
theorem L53 : (53 : Int32) = nI 53 := rfl
theorem L54 : (54 : Int32) = nI 54 := rfl
theorem L55 : (55 : Int32) = nI 55 := rfl
theorem L56 : (56 : Int32) = nI 56 := rfl
theorem L57 : (57 : Int32) = nI 57 := rfl
theorem L58 : (58 : Int32) = nI 58 := rfl
theorem L59 : (59 : Int32) = nI 59 := rfl
theorem L60 : (60 : Int32) = nI 60 := rfl
theorem L61 : (61 : Int32) = nI 61 := rfl
theorem L62 : (62 : Int32) = nI 62 := rfl
theorem L63 : (63 : Int32) = nI 63 := rfl
theorem L64 : (64 : Int32) = nI 64 := rfl
theorem L65 : (65 : Int32) = nI 65 := rfl
theorem L66 : (66 : Int32) = nI 66 := rfl
theorem L67 : (67 : Int32) = nI 67 := rfl
theorem L68 : (68 : Int32) = nI 68 := rfl
theorem L69 : (69 : Int32) = nI 69 := rfl
theorem L70 : (70 : Int32) = nI 70 := rfl
theorem L71 : (71 : Int32) = nI 71 := rfl
theorem L72 : (72 : Int32) = nI 72 := rfl
theorem L73 : (73 : Int32) = nI 73 := rfl
theorem L74 : (74 : Int32) = nI 74 := rfl
theorem L75 : (75 : Int32) = nI 75 := rfl
theorem L76 : (76 : Int32) = nI 76 := rfl
theorem L77 : (77 : Int32) = nI 77 := rfl
theorem L78 : (78 : Int32) = nI 78 := rfl
theorem L79 : (79 : Int32) = nI 79 := rfl
theorem L80 : (80 : Int32) = nI 80 := rfl
theorem L81 : (81 : Int32) = nI 81 := rfl
theorem L82 : (82 : Int32) = nI 82 := rfl
theorem L83 : (83 : Int32) = nI 83 := rfl
theorem L84 : (84 : Int32) = nI 84 := rfl
theorem L85 : (85 : Int32) = nI 85 := rfl
theorem L86 : (86 : Int32) = nI 86 := rfl
theorem L87 : (87 : Int32) = nI 87 := rfl
theorem L88 : (88 : Int32) = nI 88 := rfl
theorem L89 : (89 : Int32) = nI 89 := rfl
theorem L90 : (90 : Int32) = nI 90 := rfl
theorem L91 : (91 : Int32) = nI 91 := rfl
theorem L92 : (92 : Int32) = nI 92 := rfl
theorem L93 : (93 : Int32) = nI 93 := rfl
theorem L94 : (94 : Int32) = nI 94 := rfl
theorem L95 : (95 : Int32) = nI 95 := rfl
theorem L96 : (96 : Int32) = nI 96 := rfl
theorem L97 : (97 : Int32) = nI 97 := rfl
theorem L98 : (98 : Int32) = nI 98 := rfl
theorem L99 : (99 : Int32) = nI 99 := rfl
theorem L100 : (100 : Int32) = nI 100 := rfl
theorem L101 : (101 : Int32) = nI 101 := rfl
theorem L102 : (102 : Int32) = nI 102 := rfl
theorem L103 : (103 : Int32) = nI 103 := rfl
theorem L104 : (104 : Int32) = nI 104 := rfl
theorem L105 : (105 : Int32) = nI 105 := rfl
theorem L106 : (106 : Int32) = nI 106 := rfl
theorem L107 : (107 : Int32) = nI 107 := rfl
theorem L108 : (108 : Int32) = nI 108 := rfl
theorem L109 : (109 : Int32) = nI 109 := rfl
theorem L110 : (110 : Int32) = nI 110 := rfl
theorem L111 : (111 : Int32) = nI 111 := rfl
theorem L112 : (112 : Int32) = nI 112 := rfl
theorem L113 : (113 : Int32) = nI 113 := rfl
theorem L114 : (114 : Int32) = nI 114 := rfl
theorem L115 : (115 : Int32) = nI 115 := rfl
theorem L116 : (116 : Int32) = nI 116 := rfl
theorem L117 : (117 : Int32) = nI 117 := rfl
theorem L118 : (118 : Int32) = nI 118 := rfl
theorem L119 : (119 : Int32) = nI 119 := rfl
theorem L120 : (120 : Int32) = nI 120 := rfl
theorem L121 : (121 : Int32) = nI 121 := rfl
theorem L122 : (122 : Int32) = nI 122 := rfl
theorem L123 : (123 : Int32) = nI 123 := rfl
theorem L124 : (124 : Int32) = nI 124 := rfl
theorem L125 : (125 : Int32) = nI 125 := rfl
theorem L126 : (126 : Int32) = nI 126 := rfl
theorem L127 : (127 : Int32) = nI 127 := rfl
theorem L128 : (128 : Int32) = nI 128 := rfl
theorem L129 : (129 : Int32) = nI 129 := rfl
theorem L130 : (130 : Int32) = nI 130 := rfl
theorem L134 : (134 : Int32) = nI 134 := rfl
theorem L144 : (144 : Int32) = nI 144 := rfl
theorem L150 : (150 : Int32) = nI 150 := rfl
theorem L160 : (160 : Int32) = nI 160 := rfl
theorem L240 : (240 : Int32) = nI 240 := rfl
theorem L250 : (250 : Int32) = nI 250 := rfl
theorem L255 : (255 : Int32) = nI 255 := rfl
theorem L300 : (300 : Int32) = nI 300 := rfl
theorem L330 : (330 : Int32) = nI 330 := rfl
theorem L400 : (400 : Int32) = nI 400 := rfl
theorem L410 : (410 : Int32) = nI 410 := rfl
theorem L526 : (526 : Int32) = nI 526 := rfl
theorem L600 : (600 : Int32) = nI 600 := rfl
theorem L680 : (680 : Int32) = nI 680 := rfl
theorem L999 : (999 : Int32) = nI 999 := rfl
theorem L1000 : (1000 : Int32) = nI 1000 := rfl
theorem L1664 : (1664 : Int32) = nI 1664 := rfl
theorem L2720 : (2720 : Int32) = nI 2720 := rfl
theorem L3364 : (3364 : Int32) = nI 3364 := rfl
theorem L3890 : (3890 : Int32) = nI 3890 := rfl
theorem L9999 : (9999 : Int32) = nI 9999 := rfl
theorem L10000 : (10000 : Int32) = nI 10000 := rfl
theorem L100000 : (100000 : Int32) = nI 100000 := rfl
theorem L30103 : (30103 : Int32) = nI 30103 := rfl
theorem L181 : (181 : Int32) = nI 181 := rfl
theorem L1000000 : (1000000 : Int32) = nI 1000000 := rfl
theorem nadd (a b : Nat) : nI a + nI b = nI (a + b) := nI_add a b
theorem nmul (a b : Nat) : nI a * nI b = nI (a * b) := pk_mul a b
theorem nsub {a b : Nat} (h : b ≤ a) : nI a - nI b = nI (a - b) := pk_sub h
theorem nneg {a b : Nat} (h : b ≤ a) : nI a + -nI b = nI (a - b) := by rw [← Int32.sub_eq_add_neg]; exact pk_sub h
theorem ncl {n : Nat} (h : n < 2147483648) : (nI n).toNatClampNeg = n := nI_clamp h
theorem vin {n N : Nat} (h : n < N) (hN : N < 2147483648) : vp_in (nI n) N = True := eq_true (vp_in_nI h hN)
theorem nle {a b : Nat} (ha : a < 2147483648) (hb : b < 2147483648) : (nI a ≤ nI b) = (a ≤ b) := propext (nI_leI ha hb)
theorem nlt {a b : Nat} (ha : a < 2147483648) (hb : b < 2147483648) : (nI a < nI b) = (a < b) := propext (nI_ltI ha hb)
theorem neq {a b : Nat} (ha : a < 2147483648) (hb : b < 2147483648) : (nI a = nI b) = (a = b) := propext (nI_eq ha hb)
theorem nltT {a b : Nat} (h : a < b) (hb : b < 2147483648) : (nI a < nI b) = True := eq_true (nI_lt h hb)
theorem nltF {a b : Nat} (h : b ≤ a) (hb : a < 2147483648) : (nI a < nI b) = False := eq_false (nI_nlt h hb)
theorem nleT {a b : Nat} (h : a ≤ b) (hb : b < 2147483648) : (nI a ≤ nI b) = True := eq_true (nI_le h hb)
theorem nleF {a b : Nat} (h : b < a) (hb : a < 2147483648) : (nI a ≤ nI b) = False := eq_false (nI_ge h hb)
theorem neqT {a b : Nat} (h : a = b) : (nI a = nI b) = True := eq_true (congrArg nI h)
theorem neqF {a b : Nat} (h : a ≠ b) (ha : a < 2147483648) (hb : b < 2147483648) : (nI a = nI b) = False := eq_false (fun z => h ((nI_eq ha hb).mp z))
theorem brT {c P Q : Prop} (h : c) (p : P) : (c → P) ∧ (¬ c → Q) := ⟨fun _ => p, fun z => absurd h z⟩
theorem brF {c P Q : Prop} (h : ¬ c) (q : Q) : (c → P) ∧ (¬ c → Q) := ⟨fun z => absurd z h, fun _ => q⟩
theorem brT2 {c P Q : Prop} (h : c) (p : P) : (¬ c → Q) ∧ (c → P) := ⟨fun z => absurd h z, fun _ => p⟩
theorem brF2 {c P Q : Prop} (h : ¬ c) (q : Q) : (¬ c → Q) ∧ (c → P) := ⟨fun _ => q, fun z => absurd z h⟩
theorem inA {i : Int32} {n : Nat} {P : Prop} (h : vp_in i n) (p : P) : vp_in i n ∧ P := ⟨h, p⟩
theorem zeA {i : Int32} {P : Prop} (h : ¬ i = 0) (p : P) : ¬ i = 0 ∧ P := ⟨h, p⟩
theorem orA {P : Prop} (p : P) : ((1 : Int32) = 0 ∨ (1 : Int32) = 1) ∧ P := ⟨Or.inr rfl, p⟩
theorem orB {P : Prop} (p : P) : ((0 : Int32) = 0 ∨ (0 : Int32) = 1) ∧ P := ⟨Or.inl rfl, p⟩
theorem isInT {Post : Int32 → Prop} {a l h : Int32} (h1 : ¬ a < l) (h2 : ¬ h < a) (p : Post 1) : VC_isIn Post a l h := brF h1 (brF h2 p)
theorem isInL {Post : Int32 → Prop} {a l h : Int32} (h1 : a < l) (p : Post 0) : VC_isIn Post a l h := brT h1 p
theorem isInH {Post : Int32 → Prop} {a l h : Int32} (h2 : h < a) (p : Post 0) : VC_isIn Post a l h := ⟨fun _ => p, fun _ => brT h2 p⟩
theorem withinT {Post : Int32 → Prop} {a l h : Int32} (h1 : ¬ a < l) (h2 : ¬ h < a) (p : Post 1) : VC_X11_within Post a l h := brF h1 (brF h2 p)
theorem withinL {Post : Int32 → Prop} {a l h : Int32} (h1 : a < l) (p : Post 0) : VC_X11_within Post a l h := brT h1 p
theorem withinH {Post : Int32 → Prop} {a l h : Int32} (h2 : h < a) (p : Post 0) : VC_X11_within Post a l h := ⟨fun _ => p, fun _ => brT h2 p⟩
theorem hourA {Post : Int32 → Prop} {a : Int32} (h : VC_isIn (fun r1 => (r1 = 0 ∨ r1 = 1) ∧ Post r1) a 0 999) : VC_isHour Post a := h
theorem pieceA {Post : Int32 → Prop} {a : Int32} (h : Post (150 + (10 * a))) : VC_pieceAt Post a := h
theorem gaveA {Post : Int32 → MS → Prop} {a b : Int32} {S : MS} (h : vp_in (((150 + (10 * a)) + 4) + b) 3890 ∧ Post ((S.2.2.1 0) (((150 + (10 * a)) + 4) + b).toNatClampNeg) S) : VC_gave Post a b S := h
theorem getA {Post : Int32 → MS → Prop} {a b : Int32} {S : MS} (h : vp_in ((10 + (5 * a)) + b) 3890 ∧ Post ((S.2.2.1 0) ((10 + (5 * a)) + b).toNatClampNeg) S) : VC_get Post a b S := h
theorem setA {Post : MS → Prop} {a b c : Int32} {S : MS} (h : vp_in ((10 + (5 * a)) + b) 3890 ∧ ∀ S1 : MS, S1 = sF S 0 (upd (S.2.2.1 0) ((10 + (5 * a)) + b).toNatClampNeg c) → Post S1) : VC_set Post a b c S := h
theorem ntoInt {n : Nat} (h : n < 2147483648) : (nI n).toInt = (n : Int) := nI_toInt h
theorem nnegInt {n : Nat} (h : n < 2147483648) : (-nI n).toInt = -(n : Int) := by
  rw [Int32.toInt_neg, ntoInt h]
  exact Int.bmod_eq_of_le (by omega) (by omega)
theorem nm1 {a : Nat} (h : a < 2147483648) : (nI a = -nI 1) = False := by
  refine eq_false (fun e => ?_)
  have := congrArg Int32.toInt e
  rw [ntoInt h, nnegInt (by omega)] at this
  omega
theorem nm1s {a : Nat} (h : a < 2147483648) : (-nI 1 = nI a) = False := by
  refine eq_false (fun e => ?_)
  have := congrArg Int32.toInt e
  rw [ntoInt h, nnegInt (by omega)] at this
  omega
theorem nm2 {a : Nat} (h : a < 2147483648) : (nI a = -nI 2) = False := by
  refine eq_false (fun e => ?_)
  have := congrArg Int32.toInt e
  rw [ntoInt h, nnegInt (by omega)] at this
  omega
theorem nlem {a b : Nat} (ha : a < 2147483648) (h : b < 2147483648) (h0 : 0 < b) : (nI a ≤ -nI b) = False := by
  refine eq_false (fun e => ?_)
  rw [Int32.le_iff_toInt_le, ntoInt ha, nnegInt h] at e
  omega
theorem nltm {a b : Nat} (ha : a < 2147483648) (h : b < 2147483648) : (nI a < -nI b) = False := by
  refine eq_false (fun e => ?_)
  rw [Int32.lt_iff_toInt_lt, ntoInt ha, nnegInt h] at e
  omega
theorem nmle {a b : Nat} (ha : a < 2147483648) (h : b < 2147483648) : (-nI b ≤ nI a) = True := by
  refine eq_true ?_
  rw [Int32.le_iff_toInt_le, ntoInt ha, nnegInt h]
  omega
theorem nmlt {a b : Nat} (ha : a < 2147483648) (h : b < 2147483648) (h0 : 0 < b) : (-nI b < nI a) = True := by
  refine eq_true ?_
  rw [Int32.lt_iff_toInt_lt, ntoInt ha, nnegInt h]
  omega
/-! states -/
theorem sF_o (S : MS) (k j : Nat) (f : Nat → Int32) (h : j ≠ k) : (sF S k f).2.2.1 j = S.2.2.1 j := sF_other S f h
theorem sF_1 (S : MS) (k : Nat) (f : Nat → Int32) : (sF S k f).1 = S.1 := rfl
theorem sF_21 (S : MS) (k : Nat) (f : Nat → Int32) : (sF S k f).2.1 = S.2.1 := rfl
theorem sF_V (S : MS) (k : Nat) (f : Nat → Int32) : (sF S k f).2.2.2 = S.2.2.2 := rfl
theorem sI_s (S : MS) (k : Nat) (v : Int32) : (sI S k v).1 k = v := by simp [sI, upd]
theorem sI_o (S : MS) (k j : Nat) (v : Int32) (h : j ≠ k) : (sI S k v).1 j = S.1 j := by simp [sI, upd, h]
theorem sI_2 (S : MS) (k : Nat) (v : Int32) : (sI S k v).2 = S.2 := rfl
theorem sW_1 (S : MS) (v : Int64) : (sW S v).1 = S.1 := rfl
theorem sW_2 (S : MS) (v : Int64) : (sW S v).2.2 = S.2.2 := rfl
theorem sV_F (S : MS) (f : Nat → Int64) : (sV S f).2.2.1 = S.2.2.1 := rfl
theorem xF_s (S : XS) (k : Nat) (f : Nat → Int32) : (xF S k f).2.1 k = f := by simp [xF]
theorem xF_o (S : XS) (k j : Nat) (f : Nat → Int32) (h : j ≠ k) : (xF S k f).2.1 j = S.2.1 j := by simp [xF, h]
theorem xF_22 (S : XS) (k : Nat) (f : Nat → Int32) : (xF S k f).2.2 = S.2.2 := rfl
theorem xF_xF (S : XS) (k : Nat) (f g : Nat → Int32) : xF (xF S k f) k g = xF S k g := by
  unfold xF
  simp only [Prod.mk.injEq, true_and, and_true]
  funext j
  by_cases h : j = k <;> simp [h]
/-! the reference's array as numbers: cell 5 is one less -/
def enc (A : Nat → Nat) : Nat → Int32 := fun k => if k = 5 then nI (A 5) - 1 else nI (A k)
def uN (A : Nat → Nat) (k v : Nat) : Nat → Nat := fun j => if j = k then v else A j
theorem enc_at {A : Nat → Nat} {k : Nat} (h : k ≠ 5) : enc A k = nI (A k) := if_neg h
theorem enc_5 (A : Nat → Nat) : enc A 5 = nI (A 5) - 1 := rfl
theorem uN_s (A : Nat → Nat) (k v : Nat) : uN A k v k = v := if_pos rfl
theorem uN_n (A : Nat → Nat) (k v j : Nat) (h : j ≠ k) : uN A k v j = A j := if_neg h
theorem enc_u {A : Nat → Nat} {k v : Nat} (h : k ≠ 5) : upd (enc A) k (nI v) = enc (uN A k v) := by
  funext j
  unfold upd enc uN
  by_cases h1 : j = k
  · subst h1
    simp [h]
  · by_cases h2 : j = 5
    · subst h2
      simp [h1]
    · simp [h1, h2]
/-- sums over rows -/
def sumR (q : Nat → Bool) (w : Nat → Nat) : Nat → Nat
  | 0 => 0
  | m + 1 => sumR q w m + if q m then w m else 0
/-- a blower, a kind, a piece .. of n -/
def isOne (a : Int32) (n : Nat) : Prop := ∃ b : Nat, b < n ∧ a = nI b
theorem isOne_iff {a : Int32} {n : Nat} (hn : n < 2147483648) : isOne a n ↔ ¬ a < 0 ∧ ¬ nI n ≤ a := by
  constructor
  · rintro ⟨b, hb, rfl⟩
    exact ⟨nI_pos (by omega), nI_ge hb (by omega)⟩
  · rintro ⟨h0, h1⟩
    obtain ⟨j, hj, e⟩ := nI_of h0
    refine ⟨j, ?_, e⟩
    rw [e, nI_leI (by omega) (by omega)] at h1
    omega
theorem one_iff {a : Int32} {n : Nat} (hn : n < 2147483648) : isOne a n ↔ ¬ a < 0 ∧ ¬ nI n - 1 < a := by
  constructor
  · rintro ⟨b, hb, rfl⟩
    refine ⟨nI_pos (by omega), ?_⟩
    cases n with
    | zero => omega
    | succ n => rw [nI_pred, nI_ltI (by omega) (by omega)]; omega
  · rintro ⟨h0, h1⟩
    exact below hn h0 h1
/-- a number from low on to high -/
def isFrom (a : Int32) (l h : Nat) : Prop := ∃ b : Nat, l ≤ b ∧ b ≤ h ∧ a = nI b
theorem isFrom_iff {a : Int32} {l h : Nat} (hl : l < 2147483648) (hh : h < 2147483648) : isFrom a l h ↔ ¬ a < nI l ∧ ¬ nI h < a := by
  constructor
  · rintro ⟨b, h1, h2, rfl⟩
    rw [nI_ltI (by omega) (by omega), nI_ltI (by omega) (by omega)]
    omega
  · rintro ⟨h0, h1⟩
    have h2 : ¬ a < 0 := by
      intro h2
      refine h0 ?_
      rw [Int32.lt_iff_toInt_lt] at h2 ⊢
      rw [ntoInt hl]
      have : (0 : Int32).toInt = 0 := by decide
      omega
    obtain ⟨j, hj, e⟩ := nI_of h2
    rw [e, nI_ltI (by omega) (by omega)] at h0
    rw [e, nI_ltI (by omega) (by omega)] at h1
    exact ⟨j, by omega, by omega, e⟩
section IF
variable {Post : Int32 → Prop}
theorem wFrom {a lo hi : Int32} {l h : Nat} (el : lo = nI l := by rfl) (eh : hi = nI h := by rfl) (hl : l < 2147483648 := by omega) (hh : h < 2147483648 := by omega) (h1 : isFrom a l h → Post 1) (h0 : ¬ isFrom a l h → Post 0) : VC_X11_within Post a lo hi := by
  subst el eh
  refine wIn (fun c => h0 (fun z => ?_)) (fun c d => h1 ((isFrom_iff hl hh).mpr ⟨c, d⟩))
  have := (isFrom_iff hl hh).mp z
  exact c.elim this.1 this.2
theorem mFrom {a lo hi : Int32} {l h : Nat} (el : lo = nI l := by rfl) (eh : hi = nI h := by rfl) (hl : l < 2147483648 := by omega) (hh : h < 2147483648 := by omega) (h1 : isFrom a l h → Post 1) (h0 : ¬ isFrom a l h → Post 0) : VC_isIn Post a lo hi := by
  subst el eh
  refine mIn (fun c => h0 (fun z => ?_)) (fun c d => h1 ((isFrom_iff hl hh).mpr ⟨c, d⟩))
  have := (isFrom_iff hl hh).mp z
  exact c.elim this.1 this.2
theorem mOne {a lo hi : Int32} {n : Nat} (el : lo = 0) (eh : hi = nI n - 1) (hn : n < 2147483648) (h1 : isOne a n → Post 1) (h0 : ¬ isOne a n → Post 0) : VC_isIn Post a lo hi := by
  subst el eh
  refine mIn (fun c => h0 (fun z => ?_)) (fun c d => h1 ((one_iff hn).mpr ⟨c, d⟩))
  have := (one_iff hn).mp z
  exact c.elim this.1 this.2
end IF
section HAS
variable {Post : Int32 → XS → Prop} {S : XS} {a : Int32} {n : Nat}
theorem hasB (e : S.1 64 = nI n) (hn : n < 2147483648) (h1 : isOne a n → Post 1 S) (h0 : ¬ isOne a n → Post 0 S) : VC_X1_has_2 Post a S := by
  unfold VC_X1_has_2
  rw [e]
  by_cases h : isOne a n
  · have := (isOne_iff hn).mp h
    exact ⟨fun z => absurd z this.1, fun _ => ⟨fun z => absurd z this.2, fun _ => h1 h⟩⟩
  · refine ⟨fun _ => h0 h, fun z => ⟨fun _ => h0 h, fun z2 => absurd ((isOne_iff hn).mpr ⟨z, z2⟩) h⟩⟩
theorem hasK (e : S.1 224 = nI n) (hn : n < 2147483648) (h1 : isOne a n → Post 1 S) (h0 : ¬ isOne a n → Post 0 S) : VC_X10_has_7 Post a S := by
  unfold VC_X10_has_7
  rw [e]
  by_cases h : isOne a n
  · have := (isOne_iff hn).mp h
    exact ⟨fun z => absurd z this.1, fun _ => ⟨fun z => absurd z this.2, fun _ => h1 h⟩⟩
  · refine ⟨fun _ => h0 h, fun z => ⟨fun _ => h0 h, fun z2 => absurd ((isOne_iff hn).mpr ⟨z, z2⟩) h⟩⟩
theorem hasP (e : S.1 353 = nI n) (hn : n < 2147483648) (h1 : isOne a n → Post 1 S) (h0 : ¬ isOne a n → Post 0 S) : VC_X0_has_11 Post a S := by
  unfold VC_X0_has_11
  rw [e]
  by_cases h : isOne a n
  · have := (isOne_iff hn).mp h
    exact ⟨fun z => absurd z this.1, fun _ => ⟨fun z => absurd z this.2, fun _ => h1 h⟩⟩
  · refine ⟨fun _ => h0 h, fun z => ⟨fun _ => h0 h, fun z2 => absurd ((isOne_iff hn).mpr ⟨z, z2⟩) h⟩⟩
end HAS
section MHAS
variable {Post : Int32 → MS → Prop} {S : MS} {a : Int32} {A : Nat → Nat}
theorem mB (e : S.2.2.1 0 = enc A) (hn : A 0 < 2147483648) (h1 : isOne a (A 0) → Post 1 S) (h0 : ¬ isOne a (A 0) → Post 0 S) : VC_isBlower Post a S := by
  refine ⟨litIn 0 (by decide) (by decide), mOne rfl (by rw [e, litC 0 (by decide), enc_at (by decide)]) hn (fun h => ⟨Or.inr rfl, h1 h⟩) (fun h => ⟨Or.inl rfl, h0 h⟩)⟩
theorem mK (e : S.2.2.1 0 = enc A) (hn : A 1 < 2147483648) (h1 : isOne a (A 1) → Post 1 S) (h0 : ¬ isOne a (A 1) → Post 0 S) : VC_isKind Post a S := by
  refine ⟨litIn 1 (by decide) (by decide), mOne rfl (by rw [e, litC 1 (by decide), enc_at (by decide)]) hn (fun h => ⟨Or.inr rfl, h1 h⟩) (fun h => ⟨Or.inl rfl, h0 h⟩)⟩
theorem mP (e : S.2.2.1 0 = enc A) (hn : A 2 < 2147483648) (h1 : isOne a (A 2) → Post 1 S) (h0 : ¬ isOne a (A 2) → Post 0 S) : VC_isPiece Post a S := by
  refine ⟨litIn 2 (by decide) (by decide), mOne rfl (by rw [e, litC 2 (by decide), enc_at (by decide)]) hn (fun h => ⟨Or.inr rfl, h1 h⟩) (fun h => ⟨Or.inl rfl, h0 h⟩)⟩
end MHAS
