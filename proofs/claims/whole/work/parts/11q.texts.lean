/-! the texts, an image, back -/
def alN (l k : Nat) : Bool := (if l = 0 then 1 else if l = 1 then 31 else if l = 2 then 1761 else 511 : Nat).testBit k
def topL (l : Nat) : Nat := if l = 0 then 40 else if l = 2 then 10 else 99
/-- the judge's own: names, stack, top -/
def JFr (x x' : XS) : Prop := (∀ k, k ≠ 1538 → x'.1 k = x.1 k) ∧ (∀ k, k ≠ 49 → k ≠ 50 → x'.2.1 k = x.2.1 k) ∧ x'.2.2 = x.2.2
def KFr (y y' : MS) : Prop := y'.1 = y.1 ∧ ∀ k, k ≠ 22 → k ≠ 24 → y'.2.2.1 k = y.2.2.1 k
/-- the class works law l of record t as p -/
def cLaw (t : TR) (a l : Nat) (p : (Nat → Nat) → Nat) : Prop := ∀ (Post : Int32 → XS → Prop) (x : XS) (v : Nat → Nat), tx x a t → (∀ k, alN l k = true → x.2.1 49 k = nI (v k) ∧ v k ≤ 1000) → (∀ x', JFr x x' → Post (nI (p v)) x') → VC_X2_work_48 (fun r S => VC_X11_clamp (fun r7 => Post r7 S) r.toInt64 0 (nI (topL l))) a (nI l) x
/-- the reference works clause c of the text g as p -/
def rLaw (g : Nat → Int32) (c l : Nat) (p : (Nat → Nat) → Nat) : Prop := ∀ (Post : Int32 → MS → Prop) (y : MS) (v A : Nat → Nat) (i : Nat), i < 4 → (∀ k, k < 680 → y.2.2.1 2 (680 * i + k) = g k) → y.2.2.1 0 = enc A → A 5 = i + 1 → (∀ k, alN l k = true → y.2.2.1 22 k = nI (v k) ∧ v k ≤ 1000) → (∀ y', KFr y y' → Post (nI (p v)) y') → VC_work (fun S1 => vp_in (0 : Int32) 330 ∧ VC_held (fun r2 => Post r2 S1) ((S1.2.2.2) (0 : Int32).toNatClampNeg) 0 (nI (topL l))) (nI c) y
def clauseRel (t : TR) (g : Nat → Int32) (k : Nat) : Prop := ∃ s : Nat, s ≤ 6 ∧ t.2.2.2.2.2 (4 * k) = nI (32 + s) ∧ g (1 + 3 * k) = nI s
  ∧ (s = 4 → ∃ v, v ≤ 5 ∧ t.2.2.2.2.2 (4 * k + 1) = nI v ∧ g (2 + 3 * k) = nI v)
  ∧ (s = 5 → ∃ p b n, p ≤ 9 ∧ b ≤ 5 ∧ 1 ≤ n ∧ n ≤ 9 ∧ t.2.2.2.2.2 (4 * k + 1) = nI p ∧ t.2.2.2.2.2 (4 * k + 2) = nI b ∧ t.2.2.2.2.2 (4 * k + 3) = nI n ∧ g (2 + 3 * k) = nI p ∧ g (3 + 3 * k) = nI (10 * b + n))
  ∧ (s = 6 → ∃ v, 1 ≤ v ∧ v ≤ 99 ∧ t.2.2.2.2.2 (4 * k + 1) = nI v ∧ g (2 + 3 * k) = nI v)
def lawRel (t : TR) (a : Nat) (g : Nat → Int32) (c l : Nat) : Prop := (t.2.2.1 l < 0 ∧ ∀ k, k < c → ¬ g (1 + 3 * k) = nI l) ∨ (∃ k, k < c ∧ g (1 + 3 * k) = nI l ∧ (∀ k', k' < k → ¬ g (1 + 3 * k') = nI l) ∧ ¬ t.2.2.1 l < 0 ∧ ∃ p : (Nat → Nat) → Nat, (∀ v, p v ≤ topL l) ∧ cLaw t a l p ∧ rLaw g k l p)
def textRel (t : TR) (a : Nat) (g : Nat → Int32) : Prop := ∃ c : Nat, c ≤ 24 ∧ t.2.2.2.2.1 = 4 * c ∧ g 0 = nI c ∧ (∀ k, k < c → clauseRel t g k) ∧ ∀ l, l < 4 → lawRel t a g c l
def recOf (L : List TR) (a : Nat) (t : TR) : Prop := ∃ j : Nat, L[j]? = some t ∧ t.1.1 = a
def slotRel (G : (Nat → Nat → Option Nat) × List TR) (p i : Nat) (f : Nat → Int32) : Prop := ∃ a t, G.1 p i = some a ∧ recOf G.2 a t ∧ textRel t a (fun k => f (680 * i + k))
def TXd : TXT := fun G f n m => (∀ i, i < n → slotRel G 20 i f) ∧ (∀ i, i < m → slotRel G 40 i f) ∧ ∀ i a, (G.1 20 i = some a ∨ G.1 40 i = some a) → ∃ t, recOf G.2 a t
/-! rows are copied -/
def cpE (S : XS) (a b n : Nat) : XS := xF S b (va_cpy (S.2.1 a) (S.2.1 b) 0 0 n)
def itI (S : XS) (a b : Nat) : XS := xI S b (S.1 a)
theorem cpE_1 (S : XS) (a b n : Nat) : (cpE S a b n).1 = S.1 := rfl
theorem cpE_2 (S : XS) (a b n : Nat) : (cpE S a b n).2.2 = S.2.2 := rfl
theorem cpE_o (S : XS) (a b n j : Nat) (h : j ≠ b) : (cpE S a b n).2.1 j = S.2.1 j := xF_o _ _ _ _ h
theorem cpE_s (S : XS) (a b n : Nat) {i : Nat} (h : i < n) : (cpE S a b n).2.1 b i = S.2.1 a i := by
  unfold cpE
  rw [xF_s, pk_cpy_in (Nat.zero_le _) (by omega), Nat.zero_add, Nat.sub_zero]
theorem itI_s (S : XS) (a b : Nat) : (itI S a b).1 b = S.1 a := xI_s _ _ _
theorem itI_n (S : XS) (a b j : Nat) (h : j ≠ b) : (itI S a b).1 j = S.1 j := xI_n _ _ h
theorem itI_2 (S : XS) (a b : Nat) : (itI S a b).2 = S.2 := rfl
section CR
variable {Post : XS → Prop} {S : XS}
theorem cr_3_23 (h : Post (cpE S 3 23 6)) : VC_X11_copyRow_3_23 Post S := fun v1 e1 => ⟨⟨by decide, by decide, by rw [e1]; decide, by rw [e1]; decide, by rw [e1]; decide⟩, fun S2 e2 => by rw [e2, e1]; exact h⟩
theorem cr_23_3 (h : Post (cpE S 23 3 6)) : VC_X11_copyRow_23_3 Post S := fun v1 e1 => ⟨⟨by decide, by decide, by rw [e1]; decide, by rw [e1]; decide, by rw [e1]; decide⟩, fun S2 e2 => by rw [e2, e1]; exact h⟩
theorem cr_4_24 (h : Post (cpE S 4 24 6)) : VC_X11_copyRow_4_24 Post S := fun v1 e1 => ⟨⟨by decide, by decide, by rw [e1]; decide, by rw [e1]; decide, by rw [e1]; decide⟩, fun S2 e2 => by rw [e2, e1]; exact h⟩
theorem cr_24_4 (h : Post (cpE S 24 4 6)) : VC_X11_copyRow_24_4 Post S := fun v1 e1 => ⟨⟨by decide, by decide, by rw [e1]; decide, by rw [e1]; decide, by rw [e1]; decide⟩, fun S2 e2 => by rw [e2, e1]; exact h⟩
theorem cr_5_25 (h : Post (cpE S 5 25 6)) : VC_X11_copyRow_5_25 Post S := fun v1 e1 => ⟨⟨by decide, by decide, by rw [e1]; decide, by rw [e1]; decide, by rw [e1]; decide⟩, fun S2 e2 => by rw [e2, e1]; exact h⟩
theorem cr_25_5 (h : Post (cpE S 25 5 6)) : VC_X11_copyRow_25_5 Post S := fun v1 e1 => ⟨⟨by decide, by decide, by rw [e1]; decide, by rw [e1]; decide, by rw [e1]; decide⟩, fun S2 e2 => by rw [e2, e1]; exact h⟩
theorem cr_6_26 (h : Post (cpE S 6 26 6)) : VC_X11_copyRow_6_26 Post S := fun v1 e1 => ⟨⟨by decide, by decide, by rw [e1]; decide, by rw [e1]; decide, by rw [e1]; decide⟩, fun S2 e2 => by rw [e2, e1]; exact h⟩
theorem cr_26_6 (h : Post (cpE S 26 6 6)) : VC_X11_copyRow_26_6 Post S := fun v1 e1 => ⟨⟨by decide, by decide, by rw [e1]; decide, by rw [e1]; decide, by rw [e1]; decide⟩, fun S2 e2 => by rw [e2, e1]; exact h⟩
theorem cr_8_28 (h : Post (cpE S 8 28 6)) : VC_X11_copyRow_8_28 Post S := fun v1 e1 => ⟨⟨by decide, by decide, by rw [e1]; decide, by rw [e1]; decide, by rw [e1]; decide⟩, fun S2 e2 => by rw [e2, e1]; exact h⟩
theorem cr_28_8 (h : Post (cpE S 28 8 6)) : VC_X11_copyRow_28_8 Post S := fun v1 e1 => ⟨⟨by decide, by decide, by rw [e1]; decide, by rw [e1]; decide, by rw [e1]; decide⟩, fun S2 e2 => by rw [e2, e1]; exact h⟩
theorem cr_9_29 (h : Post (cpE S 9 29 6)) : VC_X11_copyRow_9_29 Post S := fun v1 e1 => ⟨⟨by decide, by decide, by rw [e1]; decide, by rw [e1]; decide, by rw [e1]; decide⟩, fun S2 e2 => by rw [e2, e1]; exact h⟩
theorem cr_29_9 (h : Post (cpE S 29 9 6)) : VC_X11_copyRow_29_9 Post S := fun v1 e1 => ⟨⟨by decide, by decide, by rw [e1]; decide, by rw [e1]; decide, by rw [e1]; decide⟩, fun S2 e2 => by rw [e2, e1]; exact h⟩
theorem cr_10_30 (h : Post (cpE S 10 30 6)) : VC_X11_copyRow_10_30 Post S := fun v1 e1 => ⟨⟨by decide, by decide, by rw [e1]; decide, by rw [e1]; decide, by rw [e1]; decide⟩, fun S2 e2 => by rw [e2, e1]; exact h⟩
theorem cr_30_10 (h : Post (cpE S 30 10 6)) : VC_X11_copyRow_30_10 Post S := fun v1 e1 => ⟨⟨by decide, by decide, by rw [e1]; decide, by rw [e1]; decide, by rw [e1]; decide⟩, fun S2 e2 => by rw [e2, e1]; exact h⟩
theorem cr_12_32 (h : Post (cpE S 12 32 10)) : VC_X11_copyRow_12_32 Post S := fun v1 e1 => ⟨⟨by decide, by decide, by rw [e1]; decide, by rw [e1]; decide, by rw [e1]; decide⟩, fun S2 e2 => by rw [e2, e1]; exact h⟩
theorem cr_32_12 (h : Post (cpE S 32 12 10)) : VC_X11_copyRow_32_12 Post S := fun v1 e1 => ⟨⟨by decide, by decide, by rw [e1]; decide, by rw [e1]; decide, by rw [e1]; decide⟩, fun S2 e2 => by rw [e2, e1]; exact h⟩
theorem cr_13_33 (h : Post (cpE S 13 33 10)) : VC_X11_copyRow_13_33 Post S := fun v1 e1 => ⟨⟨by decide, by decide, by rw [e1]; decide, by rw [e1]; decide, by rw [e1]; decide⟩, fun S2 e2 => by rw [e2, e1]; exact h⟩
theorem cr_33_13 (h : Post (cpE S 33 13 10)) : VC_X11_copyRow_33_13 Post S := fun v1 e1 => ⟨⟨by decide, by decide, by rw [e1]; decide, by rw [e1]; decide, by rw [e1]; decide⟩, fun S2 e2 => by rw [e2, e1]; exact h⟩
theorem cr_14_34 (h : Post (cpE S 14 34 160)) : VC_X11_copyRow_14_34 Post S := fun v1 e1 => ⟨⟨by decide, by decide, by rw [e1]; decide, by rw [e1]; decide, by rw [e1]; decide⟩, fun S2 e2 => by rw [e2, e1]; exact h⟩
theorem cr_34_14 (h : Post (cpE S 34 14 160)) : VC_X11_copyRow_34_14 Post S := fun v1 e1 => ⟨⟨by decide, by decide, by rw [e1]; decide, by rw [e1]; decide, by rw [e1]; decide⟩, fun S2 e2 => by rw [e2, e1]; exact h⟩
theorem cr_16_36 (h : Post (cpE S 16 36 240)) : VC_X11_copyRow_16_36 Post S := fun v1 e1 => ⟨⟨by decide, by decide, by rw [e1]; decide, by rw [e1]; decide, by rw [e1]; decide⟩, fun S2 e2 => by rw [e2, e1]; exact h⟩
theorem cr_36_16 (h : Post (cpE S 36 16 240)) : VC_X11_copyRow_36_16 Post S := fun v1 e1 => ⟨⟨by decide, by decide, by rw [e1]; decide, by rw [e1]; decide, by rw [e1]; decide⟩, fun S2 e2 => by rw [e2, e1]; exact h⟩
theorem cr_18_38 (h : Post (cpE S 18 38 8)) : VC_X11_copyRow_18_38 Post S := fun v1 e1 => ⟨⟨by decide, by decide, by rw [e1]; decide, by rw [e1]; decide, by rw [e1]; decide⟩, fun S2 e2 => by rw [e2, e1]; exact h⟩
theorem cr_38_18 (h : Post (cpE S 38 18 8)) : VC_X11_copyRow_38_18 Post S := fun v1 e1 => ⟨⟨by decide, by decide, by rw [e1]; decide, by rw [e1]; decide, by rw [e1]; decide⟩, fun S2 e2 => by rw [e2, e1]; exact h⟩
theorem cr_19_39 (h : Post (cpE S 19 39 80)) : VC_X11_copyRow_19_39 Post S := fun v1 e1 => ⟨⟨by decide, by decide, by rw [e1]; decide, by rw [e1]; decide, by rw [e1]; decide⟩, fun S2 e2 => by rw [e2, e1]; exact h⟩
theorem cr_39_19 (h : Post (cpE S 39 19 80)) : VC_X11_copyRow_39_19 Post S := fun v1 e1 => ⟨⟨by decide, by decide, by rw [e1]; decide, by rw [e1]; decide, by rw [e1]; decide⟩, fun S2 e2 => by rw [e2, e1]; exact h⟩
end CR
def img5 (x : XS) : XS := (cpE (cpE (itI (itI (cpE (itI (itI (cpE (cpE (cpE (itI (itI (itI (cpE (cpE (cpE (itI (cpE (cpE (cpE (cpE (itI x 64 704) 3 23 6) 4 24 6) 5 25 6) 6 26 6) 224 864) 8 28 6) 9 29 6) 10 30 6) 352 992) 353 993) 356 996) 12 32 10) 13 33 10) 14 34 160) 480 1120) 481 1121) 16 36 240) 544 1184) 546 1186) 18 38 8) 19 39 80)
theorem img5_i64 (x : XS) : (img5 x).1 704 = x.1 64 := by
  simp (disch := decide) only [img5, cpE_1, itI_s, itI_n]
theorem img5_i224 (x : XS) : (img5 x).1 864 = x.1 224 := by
  simp (disch := decide) only [img5, cpE_1, itI_s, itI_n]
theorem img5_i352 (x : XS) : (img5 x).1 992 = x.1 352 := by
  simp (disch := decide) only [img5, cpE_1, itI_s, itI_n]
theorem img5_i353 (x : XS) : (img5 x).1 993 = x.1 353 := by
  simp (disch := decide) only [img5, cpE_1, itI_s, itI_n]
theorem img5_i356 (x : XS) : (img5 x).1 996 = x.1 356 := by
  simp (disch := decide) only [img5, cpE_1, itI_s, itI_n]
theorem img5_i480 (x : XS) : (img5 x).1 1120 = x.1 480 := by
  simp (disch := decide) only [img5, cpE_1, itI_s, itI_n]
theorem img5_i481 (x : XS) : (img5 x).1 1121 = x.1 481 := by
  simp (disch := decide) only [img5, cpE_1, itI_s, itI_n]
theorem img5_i544 (x : XS) : (img5 x).1 1184 = x.1 544 := by
  simp (disch := decide) only [img5, cpE_1, itI_s, itI_n]
theorem img5_i546 (x : XS) : (img5 x).1 1186 = x.1 546 := by
  simp (disch := decide) only [img5, cpE_1, itI_s, itI_n]
theorem img5_i (x : XS) (j : Nat) (h : j ≠ 704 ∧ j ≠ 864 ∧ j ≠ 992 ∧ j ≠ 993 ∧ j ≠ 996 ∧ j ≠ 1120 ∧ j ≠ 1121 ∧ j ≠ 1184 ∧ j ≠ 1186) : (img5 x).1 j = x.1 j := by
  simp (disch := omega) only [img5, cpE_1, itI_n]
theorem img5_f3 (x : XS) {i : Nat} (h : i < 6) : (img5 x).2.1 23 i = x.2.1 3 i := by
  unfold img5
  (try simp (disch := decide) only [cpE_o, itI_2])
  rw [cpE_s _ _ _ _ h]
  simp (disch := decide) only [cpE_o, itI_2]
theorem img5_f4 (x : XS) {i : Nat} (h : i < 6) : (img5 x).2.1 24 i = x.2.1 4 i := by
  unfold img5
  (try simp (disch := decide) only [cpE_o, itI_2])
  rw [cpE_s _ _ _ _ h]
  simp (disch := decide) only [cpE_o, itI_2]
theorem img5_f5 (x : XS) {i : Nat} (h : i < 6) : (img5 x).2.1 25 i = x.2.1 5 i := by
  unfold img5
  (try simp (disch := decide) only [cpE_o, itI_2])
  rw [cpE_s _ _ _ _ h]
  simp (disch := decide) only [cpE_o, itI_2]
theorem img5_f6 (x : XS) {i : Nat} (h : i < 6) : (img5 x).2.1 26 i = x.2.1 6 i := by
  unfold img5
  (try simp (disch := decide) only [cpE_o, itI_2])
  rw [cpE_s _ _ _ _ h]
  simp (disch := decide) only [cpE_o, itI_2]
theorem img5_f8 (x : XS) {i : Nat} (h : i < 6) : (img5 x).2.1 28 i = x.2.1 8 i := by
  unfold img5
  (try simp (disch := decide) only [cpE_o, itI_2])
  rw [cpE_s _ _ _ _ h]
  simp (disch := decide) only [cpE_o, itI_2]
theorem img5_f9 (x : XS) {i : Nat} (h : i < 6) : (img5 x).2.1 29 i = x.2.1 9 i := by
  unfold img5
  (try simp (disch := decide) only [cpE_o, itI_2])
  rw [cpE_s _ _ _ _ h]
  simp (disch := decide) only [cpE_o, itI_2]
theorem img5_f10 (x : XS) {i : Nat} (h : i < 6) : (img5 x).2.1 30 i = x.2.1 10 i := by
  unfold img5
  (try simp (disch := decide) only [cpE_o, itI_2])
  rw [cpE_s _ _ _ _ h]
  simp (disch := decide) only [cpE_o, itI_2]
theorem img5_f12 (x : XS) {i : Nat} (h : i < 10) : (img5 x).2.1 32 i = x.2.1 12 i := by
  unfold img5
  (try simp (disch := decide) only [cpE_o, itI_2])
  rw [cpE_s _ _ _ _ h]
  simp (disch := decide) only [cpE_o, itI_2]
theorem img5_f13 (x : XS) {i : Nat} (h : i < 10) : (img5 x).2.1 33 i = x.2.1 13 i := by
  unfold img5
  (try simp (disch := decide) only [cpE_o, itI_2])
  rw [cpE_s _ _ _ _ h]
  simp (disch := decide) only [cpE_o, itI_2]
theorem img5_f14 (x : XS) {i : Nat} (h : i < 160) : (img5 x).2.1 34 i = x.2.1 14 i := by
  unfold img5
  (try simp (disch := decide) only [cpE_o, itI_2])
  rw [cpE_s _ _ _ _ h]
  simp (disch := decide) only [cpE_o, itI_2]
theorem img5_f16 (x : XS) {i : Nat} (h : i < 240) : (img5 x).2.1 36 i = x.2.1 16 i := by
  unfold img5
  (try simp (disch := decide) only [cpE_o, itI_2])
  rw [cpE_s _ _ _ _ h]
  simp (disch := decide) only [cpE_o, itI_2]
theorem img5_f18 (x : XS) {i : Nat} (h : i < 8) : (img5 x).2.1 38 i = x.2.1 18 i := by
  unfold img5
  (try simp (disch := decide) only [cpE_o, itI_2])
  rw [cpE_s _ _ _ _ h]
  simp (disch := decide) only [cpE_o, itI_2]
theorem img5_f19 (x : XS) {i : Nat} (h : i < 80) : (img5 x).2.1 39 i = x.2.1 19 i := by
  unfold img5
  (try simp (disch := decide) only [cpE_o, itI_2])
  rw [cpE_s _ _ _ _ h]
  simp (disch := decide) only [cpE_o, itI_2]
theorem img5_f (x : XS) (j : Nat) (h : j < 20 ∨ 40 ≤ j) : (img5 x).2.1 j = x.2.1 j := by
  unfold img5
  simp (disch := omega) only [cpE_o, itI_2]
theorem img5_2 (x : XS) : (img5 x).2.2 = x.2.2 := rfl
def bck5 (x : XS) : XS := (cpE (cpE (itI (itI (cpE (itI (itI (cpE (cpE (cpE (itI (itI (itI (cpE (cpE (cpE (itI (cpE (cpE (cpE (cpE (itI x 704 64) 23 3 6) 24 4 6) 25 5 6) 26 6 6) 864 224) 28 8 6) 29 9 6) 30 10 6) 992 352) 993 353) 996 356) 32 12 10) 33 13 10) 34 14 160) 1120 480) 1121 481) 36 16 240) 1184 544) 1186 546) 38 18 8) 39 19 80)
theorem bck5_i64 (x : XS) : (bck5 x).1 64 = x.1 704 := by
  simp (disch := decide) only [bck5, cpE_1, itI_s, itI_n]
theorem bck5_i224 (x : XS) : (bck5 x).1 224 = x.1 864 := by
  simp (disch := decide) only [bck5, cpE_1, itI_s, itI_n]
theorem bck5_i352 (x : XS) : (bck5 x).1 352 = x.1 992 := by
  simp (disch := decide) only [bck5, cpE_1, itI_s, itI_n]
theorem bck5_i353 (x : XS) : (bck5 x).1 353 = x.1 993 := by
  simp (disch := decide) only [bck5, cpE_1, itI_s, itI_n]
theorem bck5_i356 (x : XS) : (bck5 x).1 356 = x.1 996 := by
  simp (disch := decide) only [bck5, cpE_1, itI_s, itI_n]
theorem bck5_i480 (x : XS) : (bck5 x).1 480 = x.1 1120 := by
  simp (disch := decide) only [bck5, cpE_1, itI_s, itI_n]
theorem bck5_i481 (x : XS) : (bck5 x).1 481 = x.1 1121 := by
  simp (disch := decide) only [bck5, cpE_1, itI_s, itI_n]
theorem bck5_i544 (x : XS) : (bck5 x).1 544 = x.1 1184 := by
  simp (disch := decide) only [bck5, cpE_1, itI_s, itI_n]
theorem bck5_i546 (x : XS) : (bck5 x).1 546 = x.1 1186 := by
  simp (disch := decide) only [bck5, cpE_1, itI_s, itI_n]
theorem bck5_i (x : XS) (j : Nat) (h : j ≠ 64 ∧ j ≠ 224 ∧ j ≠ 352 ∧ j ≠ 353 ∧ j ≠ 356 ∧ j ≠ 480 ∧ j ≠ 481 ∧ j ≠ 544 ∧ j ≠ 546) : (bck5 x).1 j = x.1 j := by
  simp (disch := omega) only [bck5, cpE_1, itI_n]
theorem bck5_f3 (x : XS) {i : Nat} (h : i < 6) : (bck5 x).2.1 3 i = x.2.1 23 i := by
  unfold bck5
  (try simp (disch := decide) only [cpE_o, itI_2])
  rw [cpE_s _ _ _ _ h]
  simp (disch := decide) only [cpE_o, itI_2]
theorem bck5_f4 (x : XS) {i : Nat} (h : i < 6) : (bck5 x).2.1 4 i = x.2.1 24 i := by
  unfold bck5
  (try simp (disch := decide) only [cpE_o, itI_2])
  rw [cpE_s _ _ _ _ h]
  simp (disch := decide) only [cpE_o, itI_2]
theorem bck5_f5 (x : XS) {i : Nat} (h : i < 6) : (bck5 x).2.1 5 i = x.2.1 25 i := by
  unfold bck5
  (try simp (disch := decide) only [cpE_o, itI_2])
  rw [cpE_s _ _ _ _ h]
  simp (disch := decide) only [cpE_o, itI_2]
theorem bck5_f6 (x : XS) {i : Nat} (h : i < 6) : (bck5 x).2.1 6 i = x.2.1 26 i := by
  unfold bck5
  (try simp (disch := decide) only [cpE_o, itI_2])
  rw [cpE_s _ _ _ _ h]
  simp (disch := decide) only [cpE_o, itI_2]
theorem bck5_f8 (x : XS) {i : Nat} (h : i < 6) : (bck5 x).2.1 8 i = x.2.1 28 i := by
  unfold bck5
  (try simp (disch := decide) only [cpE_o, itI_2])
  rw [cpE_s _ _ _ _ h]
  simp (disch := decide) only [cpE_o, itI_2]
theorem bck5_f9 (x : XS) {i : Nat} (h : i < 6) : (bck5 x).2.1 9 i = x.2.1 29 i := by
  unfold bck5
  (try simp (disch := decide) only [cpE_o, itI_2])
  rw [cpE_s _ _ _ _ h]
  simp (disch := decide) only [cpE_o, itI_2]
theorem bck5_f10 (x : XS) {i : Nat} (h : i < 6) : (bck5 x).2.1 10 i = x.2.1 30 i := by
  unfold bck5
  (try simp (disch := decide) only [cpE_o, itI_2])
  rw [cpE_s _ _ _ _ h]
  simp (disch := decide) only [cpE_o, itI_2]
theorem bck5_f12 (x : XS) {i : Nat} (h : i < 10) : (bck5 x).2.1 12 i = x.2.1 32 i := by
  unfold bck5
  (try simp (disch := decide) only [cpE_o, itI_2])
  rw [cpE_s _ _ _ _ h]
  simp (disch := decide) only [cpE_o, itI_2]
theorem bck5_f13 (x : XS) {i : Nat} (h : i < 10) : (bck5 x).2.1 13 i = x.2.1 33 i := by
  unfold bck5
  (try simp (disch := decide) only [cpE_o, itI_2])
  rw [cpE_s _ _ _ _ h]
  simp (disch := decide) only [cpE_o, itI_2]
theorem bck5_f14 (x : XS) {i : Nat} (h : i < 160) : (bck5 x).2.1 14 i = x.2.1 34 i := by
  unfold bck5
  (try simp (disch := decide) only [cpE_o, itI_2])
  rw [cpE_s _ _ _ _ h]
  simp (disch := decide) only [cpE_o, itI_2]
theorem bck5_f16 (x : XS) {i : Nat} (h : i < 240) : (bck5 x).2.1 16 i = x.2.1 36 i := by
  unfold bck5
  (try simp (disch := decide) only [cpE_o, itI_2])
  rw [cpE_s _ _ _ _ h]
  simp (disch := decide) only [cpE_o, itI_2]
theorem bck5_f18 (x : XS) {i : Nat} (h : i < 8) : (bck5 x).2.1 18 i = x.2.1 38 i := by
  unfold bck5
  (try simp (disch := decide) only [cpE_o, itI_2])
  rw [cpE_s _ _ _ _ h]
  simp (disch := decide) only [cpE_o, itI_2]
theorem bck5_f19 (x : XS) {i : Nat} (h : i < 80) : (bck5 x).2.1 19 i = x.2.1 39 i := by
  unfold bck5
  (try simp (disch := decide) only [cpE_o, itI_2])
  rw [cpE_s _ _ _ _ h]
  simp (disch := decide) only [cpE_o, itI_2]
theorem bck5_f (x : XS) (j : Nat) (h : 20 ≤ j) : (bck5 x).2.1 j = x.2.1 j := by
  unfold bck5
  simp (disch := omega) only [cpE_o, itI_2]
theorem bck5_2 (x : XS) : (bck5 x).2.2 = x.2.2 := rfl
theorem Inv_ext {A B : Nat → Nat} (h : Inv A) (e : ∀ k, k < 3890 → B k = A k) : Inv B := by
  obtain ⟨b0, b1, b2, b3, b4, b5, b6, b7, b8, b9⟩ := h.b
  obtain ⟨g1, g2, g3, g4, g5, g6⟩ := h
  have e0 := e 0 (by omega)
  have e1 := e 1 (by omega)
  have e6 := e 6 (by omega)
  have e7 := e 7 (by omega)
  have e8 := e 8 (by omega)
  have hc : ∀ j, j ≤ A 6 → ∀ c, c < 116 → core B j c = core A j c := fun j hj c hc => by
    unfold core
    rw [e6]
    split
    · exact e _ (by omega)
    · exact live_of (fun k hk => e k (by omega)) hc
  refine ⟨⟨(by omega), (by omega), by rw [e 4 (by omega)]; omega, by rw [e 4 (by omega), e 5 (by omega)]; omega, (by omega), (by omega), (by omega)⟩, fun i hi => ?_, fun i j hi hj => ?_, fun k hk => ?_, ⟨fun i hi => ?_, fun i hi => ?_⟩, fun j hj => ?_, fun j hj => ?_⟩
  · rw [e (10 + 5 * i) (by omega), e (11 + 5 * i) (by omega), e (12 + 5 * i) (by omega), e (14 + 5 * i) (by omega), e0]; exact g2 i (by omega)
  · rw [e (14 + 5 * i) (by omega), e (14 + 5 * j) (by omega)]; exact g3 i j (by omega) (by omega)
  · rw [e (40 + 3 * k) (by omega), e (41 + 3 * k) (by omega), e (42 + 3 * k) (by omega)]; exact g4 k (by omega)
  · rw [e (60 + i) (by omega)]; exact g5.1 i (by omega)
  · rw [e (70 + 4 * i) (by omega), e (71 + 4 * i) (by omega), e (72 + 4 * i) (by omega), e (73 + 4 * i) (by omega), e0]; exact g5.2 i (by omega)
  · have c := g6.1 j (by omega)
    exact Cons_v (Cons_A c b0 b1 (fun k hk => e k (by omega))) (hc j (by omega)) (by omega)
  · rw [hc j (by omega) 2 (by omega), hc (j + 1) (by omega) 2 (by omega)]; exact g6.2 j (by omega)
section PT
variable {I J : Nat → Int32} {F G : Nat → Nat → Int32} {A B : Nat → Nat}
theorem RX_pt (hI : Inv A) (h : RX I F A) (e : ∀ k, k < 3890 → B k = A k) (i64 : J 64 = I 64) (i224 : J 224 = I 224) (i352 : J 352 = I 352) (i353 : J 353 = I 353) (i356 : J 356 = I 356) (i480 : J 480 = I 480) (i481 : J 481 = I 481) (i544 : J 544 = I 544) (i546 : J 546 = I 546) (i38 : J 38 = I 38) (i39 : J 39 = I 39)
    (f3 : ∀ i, i < 6 → G 3 i = F 3 i) (f4 : ∀ i, i < 6 → G 4 i = F 4 i) (f5 : ∀ i, i < 6 → G 5 i = F 5 i) (f6 : ∀ i, i < 6 → G 6 i = F 6 i) (f8 : ∀ i, i < 6 → G 8 i = F 8 i) (f9 : ∀ i, i < 6 → G 9 i = F 9 i) (f10 : ∀ i, i < 6 → G 10 i = F 10 i) (f12 : ∀ i, i < 10 → G 12 i = F 12 i) (f13 : ∀ i, i < 10 → G 13 i = F 13 i) (f14 : ∀ i, i < 160 → G 14 i = F 14 i) (f16 : ∀ i, i < 240 → G 16 i = F 16 i) (f18 : ∀ i, i < 8 → G 18 i = F 18 i) (f19 : ∀ i, i < 80 → G 19 i = F 19 i) : RX J G B := by
  obtain ⟨b0, b1, b2, b3, b4, b5, b6, b7, b8, b9⟩ := hI.b
  obtain ⟨r1, r2, ⟨q1, q2, q3, q4, q5⟩, ⟨s1, f, s2, s3, s4⟩, ⟨t1, t2, t3, t4⟩, r6⟩ := h
  have e0 := e 0 (by omega)
  have e1 := e 1 (by omega)
  have e2 := e 2 (by omega)
  have e6 := e 6 (by omega)
  have e7 := e 7 (by omega)
  have e8 := e 8 (by omega)
  have e9 := e 9 (by omega)
  have hc : ∀ j, j ≤ A 6 → ∀ c, c < 116 → core B j c = core A j c := fun j hj c hc => by
    unfold core
    rw [e6]
    split
    · exact e _ (by omega)
    · exact live_of (fun k hk => e k (by omega)) hc
  refine ⟨⟨by rw [i64, e0]; exact r1.1, fun i hi => ?_⟩, ⟨by rw [i224, e1]; exact r2.1, fun k hk => ?_⟩, ⟨by rw [i352, e 3 (by omega)]; exact q1, by rw [i353, e2]; exact q2, by rw [i356, e9]; exact q3, fun p hp => ?_, fun i hi => ?_⟩, ⟨by rw [i481, e6]; exact s1, f, s2, by rw [i480]; exact s3, fun j hj => ?_⟩, ⟨by rw [i544, e7]; exact t1, by rw [i546, e8]; exact t2, fun i hi => ?_, fun i hi => ?_⟩, ⟨by rw [i38, e 4 (by omega)]; exact r6.1, by rw [i39, e 5 (by omega)]; exact r6.2⟩⟩
  · rw [f3 i (by omega), f4 i (by omega), f5 i (by omega), f6 i (by omega), e (10 + 5 * i) (by omega), e (11 + 5 * i) (by omega), e (12 + 5 * i) (by omega), e (14 + 5 * i) (by omega)]; exact r1.2 i (by omega)
  · rw [f8 k (by omega), f9 k (by omega), f10 k (by omega), e (40 + 3 * k) (by omega), e (41 + 3 * k) (by omega), e (42 + 3 * k) (by omega)]; exact r2.2 k (by omega)
  · rw [f12 p (by omega), f13 p (by omega), e (150 + 10 * p) (by omega), e (153 + 10 * p) (by omega)]; exact q4 p (by omega)
  · rw [f14 i (by omega), e (250 + i) (by omega)]; exact q5 i (by omega)
  · have hb := hI.c j (by omega)
    exact step_of (s4 j (by omega)) (fun i hi => f16 _ (by omega)) (hc j (by omega)) (hc (j + 1) (by omega)) hb.1 hb.2
  · rw [f18 i (by omega), e (60 + i) (by omega)]; exact t3 i (by omega)
  · rw [f19 (4 * i) (by omega), f19 (4 * i + 1) (by omega), f19 (4 * i + 2) (by omega), f19 (4 * i + 3) (by omega), e (71 + 4 * i) (by omega), e (70 + 4 * i) (by omega), e (72 + 4 * i) (by omega), e (73 + 4 * i) (by omega)]; exact t4 i (by omega)
end PT
theorem xG_1 (S : XS) (k : Nat) (g : Nat → Option Nat) : (xG S k g).1 = S.1 := rfl
theorem xG_F (S : XS) (k : Nat) (g : Nat → Option Nat) : (xG S k g).2.1 = S.2.1 := rfl
theorem xG_L (S : XS) (k : Nat) (g : Nat → Option Nat) : (xG S k g).2.2.2 = S.2.2.2 := rfl
theorem xG_s (S : XS) (k : Nat) (g : Nat → Option Nat) : (xG S k g).2.2.1 k = g := by simp [xG]
theorem xG_o (S : XS) (k j : Nat) (g : Nat → Option Nat) (h : j ≠ k) : (xG S k g).2.2.1 j = S.2.2.1 j := by simp [xG, h]
theorem va_up_s {α : Type} (f : Nat → α) (k : Nat) (v : α) : va_up f k v k = v := if_pos rfl
theorem va_up_n {α : Type} (f : Nat → α) (k : Nat) (v : α) {j : Nat} (h : j ≠ k) : va_up f k v j = f j := if_neg h
theorem cpF_enc (A B : Nat → Nat) (n : Nat) : cpF (enc A) (enc B) n = enc (fun k => if k < n then A k else B k) := by
  funext k
  by_cases z5 : k = 5
  · subst z5
    show (if 5 < n then nI (A 5) - 1 else nI (B 5) - 1) = nI (if 5 < n then A 5 else B 5) - 1
    split <;> rfl
  · rw [enc_at z5]
    show (if k < n then enc A k else enc B k) = nI (if k < n then A k else B k)
    rw [enc_at z5, enc_at z5]
    split <;> rfl
section IMG
variable {A B : Nat → Nat} {x : XS} {y : MS}
theorem op_image (h : RelA TXd A B x y) : VC_X11_image_0 (fun r x' => VC_image (fun r' y' => r = r' ∧ RelT TXd x' y') y) x := by
  obtain ⟨g1, g2, g3, g4, g5, g6, g7, ⟨x1, x2, x3⟩, g9, g10⟩ := id h
  obtain ⟨b0, b1, b2, b3, b4, b5, b6, b7, b8, b9⟩ := g1.b
  intro K hK
  have start : K 0 (img5 x) := by
    have loop : ∀ n i : Nat, ∀ S : XS, i + n = 4 → S.1 = (img5 x).1 → S.2.1 = (img5 x).2.1 → S.2.2.2 = x.2.2.2 → (∀ p, p ≠ 40 → S.2.2.1 p = x.2.2.1 p) → (∀ j, j < i → S.2.2.1 40 j = x.2.2.1 20 j) → (∀ j, i ≤ j → S.2.2.1 40 j = x.2.2.1 40 j) → K (nI i) S := by
      intro n
      induction n with
      | zero =>
        intro i S hi s1 s2 s3 s4 s5 s6
        have ei : i = 4 := (by omega)
        subst ei
        refine hK _ _ ⟨fun _ v6 e6 S7 e7 v8 e8 S9 e9 => ?_, fun z => absurd (Int32.le_refl _) z⟩
        rw [s1, img5_i x 38 (by omega)] at e6
        rw [e7, xI_n _ _ (by omega), s1, img5_i x 39 (by omega)] at e8
        have I9 : ∀ j, j ≠ 678 → j ≠ 679 → S9.1 j = (img5 x).1 j := fun j j1 j2 => by rw [e9, xI_n _ _ j2, e7, xI_n _ _ j1, s1]
        have F9 : S9.2.1 = (img5 x).2.1 := by rw [e9, xI_f, e7, xI_f, s2]
        have G9 : S9.2.2 = S.2.2 := by rw [e9, xI_f, e7, xI_f]
        have I38 : S9.1 678 = x.1 38 := by rw [e9, xI_n _ _ (by omega), e7, xI_s, e6]
        have I39 : S9.1 679 = x.1 39 := by rw [e9, xI_s, e8]
        rw [I9 352 (by omega) (by omega), img5_i x 352 (by omega), g3.2.2.1.1]
        refine wp_copy_1_2 ⟨litIn 3 (by decide) (by decide), ?_⟩
        rw [g5, g6, cpF_enc]
        have eN : ∀ k, k < 3890 → (fun k => if k < 3890 then A k else B k) k = A k := fun k hk => if_pos hk
        generalize hN : (fun k => if k < 3890 then A k else B k) = B' at eN
        rw [sF_o _ _ _ _ (by decide), g5, litC 3 (by decide), enc_at (by decide)]
        have hlo : ∀ j, j < 640 → S9.1 j = x.1 j := fun j hj => by rw [I9 j (by omega) (by omega), img5_i x j (by omega)]
        have hhi : ∀ j, 1280 ≤ j → S9.1 j = x.1 j := fun j hj => by rw [I9 j (by omega) (by omega), img5_i x j (by omega)]
        have kI9 : ∀ k, k < 640 → kI S9 k = S9.1 (k + 640) := fun k hk => if_pos hk
        have kF9 : ∀ k, k < 20 → kF S9 k = (img5 x).2.1 (k + 20) := fun k hk => by unfold kF; rw [if_pos hk, F9]
        refine ⟨rfl, A, B', g1, Inv_ext g1 eN, RX_frame g1 g3 ⟨hlo, fun k hk => by rw [F9, img5_f x k (by omega)]⟩, ?_, by rw [sF_o _ _ _ _ (by decide)]; exact g5, sF_same _ _ _, by rw [eN 4 (by omega)]; omega, ?_, ?_, ?_⟩
        · refine RX_pt g1 g3 eN ?_ ?_ ?_ ?_ ?_ ?_ ?_ ?_ ?_ ?_ ?_ ?_ ?_ ?_ ?_ ?_ ?_ ?_ ?_ ?_ ?_ ?_ ?_ ?_
          · rw [kI9 _ (by omega), I9 _ (by omega) (by omega), img5_i64]
          · rw [kI9 _ (by omega), I9 _ (by omega) (by omega), img5_i224]
          · rw [kI9 _ (by omega), I9 _ (by omega) (by omega), img5_i352]
          · rw [kI9 _ (by omega), I9 _ (by omega) (by omega), img5_i353]
          · rw [kI9 _ (by omega), I9 _ (by omega) (by omega), img5_i356]
          · rw [kI9 _ (by omega), I9 _ (by omega) (by omega), img5_i480]
          · rw [kI9 _ (by omega), I9 _ (by omega) (by omega), img5_i481]
          · rw [kI9 _ (by omega), I9 _ (by omega) (by omega), img5_i544]
          · rw [kI9 _ (by omega), I9 _ (by omega) (by omega), img5_i546]
          · rw [kI9 _ (by omega), I38]
          · rw [kI9 _ (by omega), I39]
          · intro i hi; rw [kF9 _ (by omega), img5_f3 x hi]
          · intro i hi; rw [kF9 _ (by omega), img5_f4 x hi]
          · intro i hi; rw [kF9 _ (by omega), img5_f5 x hi]
          · intro i hi; rw [kF9 _ (by omega), img5_f6 x hi]
          · intro i hi; rw [kF9 _ (by omega), img5_f8 x hi]
          · intro i hi; rw [kF9 _ (by omega), img5_f9 x hi]
          · intro i hi; rw [kF9 _ (by omega), img5_f10 x hi]
          · intro i hi; rw [kF9 _ (by omega), img5_f12 x hi]
          · intro i hi; rw [kF9 _ (by omega), img5_f13 x hi]
          · intro i hi; rw [kF9 _ (by omega), img5_f14 x hi]
          · intro i hi; rw [kF9 _ (by omega), img5_f16 x hi]
          · intro i hi; rw [kF9 _ (by omega), img5_f18 x hi]
          · intro i hi; rw [kF9 _ (by omega), img5_f19 x hi]
        · rw [eN 4 (by omega), sF_o _ _ _ _ (by decide)]
          refine ⟨fun i hi => ?_, fun i hi => ?_, fun i a ha => ?_⟩
          · obtain ⟨a, t, q1, q2, q3⟩ := x1 i hi
            exact ⟨a, t, by rw [G9, s4 20 (by decide)]; exact q1, by rw [G9, s3]; exact q2, q3⟩
          · obtain ⟨a, t, q1, q2, q3⟩ := x1 i hi
            exact ⟨a, t, by rw [G9, s5 i (by omega)]; exact q1, by rw [G9, s3]; exact q2, q3⟩
          · rw [G9, s4 20 (by decide)] at ha
            rw [G9, s3]
            rcases ha with ha | ha
            · exact x3 i a (Or.inl ha)
            · by_cases z : i < 4
              · rw [s5 i z] at ha; exact x3 i a (Or.inl ha)
              · rw [s6 i (by omega)] at ha; exact x3 i a (Or.inr ha)
        · obtain ⟨m, m1, m2, m3, m4⟩ := g9
          exact ⟨m, m1, by rw [hhi _ (by omega)]; exact m2, m3, fun i hi => by rw [F9, img5_f x 42 (by omega), sF_o _ _ _ _ (by decide)]; exact m4 i hi⟩
        · unfold faultOK
          rw [hhi _ (by omega), hhi _ (by omega), hhi _ (by omega)]; exact g10
      | succ n ih =>
        intro i S hi s1 s2 s3 s4 s5 s6
        refine hK _ _ ⟨fun z => absurd z (nI_ge (b := 4) (by omega) (by decide)), fun _ => ⟨vp_in_nI (by omega) (by decide), fun a ha => ?_, vp_in_nI (by omega) (by decide), fun S10 e10 v11 e11 => ?_⟩⟩
        · rw [s4 20 (by decide)] at ha
          obtain ⟨t, j, q1, q2⟩ := x3 _ a (Or.inl ha)
          exact ⟨t, j, by rw [s3]; exact q1, q2⟩
        · rw [ncl (by omega), s4 20 (by decide)] at e10
          rw [e11, nI_1, e10]
          refine ih (i + 1) _ (by omega) s1 s2 s3 (fun p hp => by rw [xG_o _ _ _ _ hp, s4 p hp]) (fun j hj => ?_) (fun j hj => by rw [xG_s, va_up_n _ _ _ (by omega), s6 j (by omega)])
          rw [xG_s]
          by_cases z : j = i
          · rw [z, va_up_s]
          · rw [va_up_n _ _ _ z, s5 j (by omega)]
    exact loop 4 0 (img5 x) (by omega) rfl rfl rfl (fun _ _ => rfl) (fun j hj => absurd hj (by omega)) (fun _ _ => rfl)
  intro v1 e1 S2 e2
  refine cr_3_23 (cr_4_24 (cr_5_25 (cr_6_26 (fun v3 e3 S4 e4 => cr_8_28 (cr_9_29 (cr_10_30 (fun v5 e5 S6 e6 v7 e7 S8 e8 v9 e9 S10 e10 => cr_12_32 (cr_13_33 (cr_14_34 (fun v11 e11 S12 e12 v13 e13 S14 e14 => cr_16_36 (fun v15 e15 S16 e16 v17 e17 S18 e18 => cr_18_38 (cr_19_39 ?_))))))))))))
  rw [e18, e17, e16, e15, e14, e13, e12, e11, e10, e9, e8, e7, e6, e5, e4, e3, e2, e1]
  exact start
theorem op_back (h : RelA TXd A B x y) : VC_X11_back_0 (fun r x' => VC_back (fun r' y' => r = r' ∧ RelT TXd x' y') y) x := by
  obtain ⟨g1, g2, g3, g4, g5, g6, g7, ⟨x1, x2, x3⟩, g9, g10⟩ := id h
  obtain ⟨b0, b1, b2, b3, b4, b5, b6, b7, b8, b9⟩ := g2.b
  intro K hK
  have start : K 0 (bck5 x) := by
    have loop : ∀ n i : Nat, ∀ S : XS, i + n = 4 → S.1 = (bck5 x).1 → S.2.1 = (bck5 x).2.1 → S.2.2.2 = x.2.2.2 → (∀ p, p ≠ 20 → S.2.2.1 p = x.2.2.1 p) → (∀ j, j < i → S.2.2.1 20 j = x.2.2.1 40 j) → (∀ j, i ≤ j → S.2.2.1 20 j = x.2.2.1 20 j) → K (nI i) S := by
      intro n
      induction n with
      | zero =>
        intro i S hi s1 s2 s3 s4 s5 s6
        have ei : i = 4 := (by omega)
        subst ei
        refine hK _ _ ⟨fun _ v6 e6 S7 e7 v8 e8 S9 e9 => ?_, fun z => absurd (Int32.le_refl _) z⟩
        rw [s1, bck5_i x 678 (by omega)] at e6
        rw [e7, xI_n _ _ (by omega), s1, bck5_i x 679 (by omega)] at e8
        have I9 : ∀ j, j ≠ 38 → j ≠ 39 → S9.1 j = (bck5 x).1 j := fun j j1 j2 => by rw [e9, xI_n _ _ j2, e7, xI_n _ _ j1, s1]
        have F9 : S9.2.1 = (bck5 x).2.1 := by rw [e9, xI_f, e7, xI_f, s2]
        have G9 : S9.2.2 = S.2.2 := by rw [e9, xI_f, e7, xI_f]
        have I38 : S9.1 38 = x.1 678 := by rw [e9, xI_n _ _ (by omega), e7, xI_s, e6]
        have I39 : S9.1 39 = x.1 679 := by rw [e9, xI_s, e8]
        have kx : ∀ k, k < 640 → x.1 (k + 640) = kI x k := fun k hk => (if_pos hk).symm
        have kfx : ∀ k, k < 20 → x.2.1 (k + 20) = kF x k := fun k hk => (if_pos hk).symm
        have hour : x.1 992 = nI (B 3) := g4.2.2.1.1
        rw [I9 352 (by omega) (by omega), bck5_i352, hour]
        refine wp_copy_2_1 ⟨litIn 3 (by decide) (by decide), ?_⟩
        rw [g5, g6, cpF_enc]
        have eN : ∀ k, k < 3890 → (fun k => if k < 3890 then B k else A k) k = B k := fun k hk => if_pos hk
        generalize hN : (fun k => if k < 3890 then B k else A k) = A' at eN
        rw [sF_same, litC 3 (by decide), enc_at (by decide), eN 3 (by omega)]
        have hkp : ∀ j, 640 ≤ j → S9.1 j = x.1 j := fun j hj => by rw [I9 j (by omega) (by omega), bck5_i x j (by omega)]
        have ek : kI S9 = kI x := by
          funext k; unfold kI; split
          · rw [hkp _ (by omega)]
          · rfl
        have ef : kF S9 = kF x := by
          funext k; unfold kF; split
          · rw [F9, bck5_f x _ (by omega)]
          · rfl
        refine ⟨rfl, A', B, Inv_ext g2 eN, g2, ?_, by rw [ek, ef]; exact g4, sF_same _ _ _, by rw [sF_o _ _ _ _ (by decide)]; exact g6, by rw [eN 4 (by omega)]; omega, ?_, ?_, ?_⟩
        · refine RX_pt g2 g4 eN ?_ ?_ ?_ ?_ ?_ ?_ ?_ ?_ ?_ ?_ ?_ ?_ ?_ ?_ ?_ ?_ ?_ ?_ ?_ ?_ ?_ ?_ ?_ ?_
          · rw [I9 _ (by omega) (by omega), bck5_i64]; exact kx 64 (by omega)
          · rw [I9 _ (by omega) (by omega), bck5_i224]; exact kx 224 (by omega)
          · rw [I9 _ (by omega) (by omega), bck5_i352]; exact kx 352 (by omega)
          · rw [I9 _ (by omega) (by omega), bck5_i353]; exact kx 353 (by omega)
          · rw [I9 _ (by omega) (by omega), bck5_i356]; exact kx 356 (by omega)
          · rw [I9 _ (by omega) (by omega), bck5_i480]; exact kx 480 (by omega)
          · rw [I9 _ (by omega) (by omega), bck5_i481]; exact kx 481 (by omega)
          · rw [I9 _ (by omega) (by omega), bck5_i544]; exact kx 544 (by omega)
          · rw [I9 _ (by omega) (by omega), bck5_i546]; exact kx 546 (by omega)
          · rw [I38]; exact kx 38 (by omega)
          · rw [I39]; exact kx 39 (by omega)
          · intro i hi; rw [F9, bck5_f3 x hi]; exact congrFun (kfx 3 (by omega)) i
          · intro i hi; rw [F9, bck5_f4 x hi]; exact congrFun (kfx 4 (by omega)) i
          · intro i hi; rw [F9, bck5_f5 x hi]; exact congrFun (kfx 5 (by omega)) i
          · intro i hi; rw [F9, bck5_f6 x hi]; exact congrFun (kfx 6 (by omega)) i
          · intro i hi; rw [F9, bck5_f8 x hi]; exact congrFun (kfx 8 (by omega)) i
          · intro i hi; rw [F9, bck5_f9 x hi]; exact congrFun (kfx 9 (by omega)) i
          · intro i hi; rw [F9, bck5_f10 x hi]; exact congrFun (kfx 10 (by omega)) i
          · intro i hi; rw [F9, bck5_f12 x hi]; exact congrFun (kfx 12 (by omega)) i
          · intro i hi; rw [F9, bck5_f13 x hi]; exact congrFun (kfx 13 (by omega)) i
          · intro i hi; rw [F9, bck5_f14 x hi]; exact congrFun (kfx 14 (by omega)) i
          · intro i hi; rw [F9, bck5_f16 x hi]; exact congrFun (kfx 16 (by omega)) i
          · intro i hi; rw [F9, bck5_f18 x hi]; exact congrFun (kfx 18 (by omega)) i
          · intro i hi; rw [F9, bck5_f19 x hi]; exact congrFun (kfx 19 (by omega)) i
        · rw [eN 4 (by omega), sF_o _ _ _ _ (by decide)]
          refine ⟨fun i hi => ?_, fun i hi => ?_, fun i a ha => ?_⟩
          · obtain ⟨a, t, q1, q2, q3⟩ := x2 i hi
            exact ⟨a, t, by rw [G9, s5 i (by omega)]; exact q1, by rw [G9, s3]; exact q2, q3⟩
          · obtain ⟨a, t, q1, q2, q3⟩ := x2 i hi
            exact ⟨a, t, by rw [G9, s4 40 (by decide)]; exact q1, by rw [G9, s3]; exact q2, q3⟩
          · rw [G9, s4 40 (by decide)] at ha
            rw [G9, s3]
            rcases ha with ha | ha
            · by_cases z : i < 4
              · rw [s5 i z] at ha; exact x3 i a (Or.inr ha)
              · rw [s6 i (by omega)] at ha; exact x3 i a (Or.inl ha)
            · exact x3 i a (Or.inr ha)
        · obtain ⟨m, m1, m2, m3, m4⟩ := g9
          exact ⟨m, m1, by rw [hkp _ (by omega)]; exact m2, m3, fun i hi => by rw [F9, bck5_f x 42 (by omega), sF_o _ _ _ _ (by decide)]; exact m4 i hi⟩
        · unfold faultOK
          rw [hkp _ (by omega), hkp _ (by omega), hkp _ (by omega)]; exact g10
      | succ n ih =>
        intro i S hi s1 s2 s3 s4 s5 s6
        refine hK _ _ ⟨fun z => absurd z (nI_ge (b := 4) (by omega) (by decide)), fun _ => ⟨vp_in_nI (by omega) (by decide), fun a ha => ?_, vp_in_nI (by omega) (by decide), fun S10 e10 v11 e11 => ?_⟩⟩
        · rw [s4 40 (by decide)] at ha
          obtain ⟨t, j, q1, q2⟩ := x3 _ a (Or.inr ha)
          exact ⟨t, j, by rw [s3]; exact q1, q2⟩
        · rw [ncl (by omega), s4 40 (by decide)] at e10
          rw [e11, nI_1, e10]
          refine ih (i + 1) _ (by omega) s1 s2 s3 (fun p hp => by rw [xG_o _ _ _ _ hp, s4 p hp]) (fun j hj => ?_) (fun j hj => by rw [xG_s, va_up_n _ _ _ (by omega), s6 j (by omega)])
          rw [xG_s]
          by_cases z : j = i
          · rw [z, va_up_s]
          · rw [va_up_n _ _ _ z, s5 j (by omega)]
    exact loop 4 0 (bck5 x) (by omega) rfl rfl rfl (fun _ _ => rfl) (fun j hj => absurd hj (by omega)) (fun _ _ => rfl)
  intro v1 e1 S2 e2
  refine cr_23_3 (cr_24_4 (cr_25_5 (cr_26_6 (fun v3 e3 S4 e4 => cr_28_8 (cr_29_9 (cr_30_10 (fun v5 e5 S6 e6 v7 e7 S8 e8 v9 e9 S10 e10 => cr_32_12 (cr_33_13 (cr_34_14 (fun v11 e11 S12 e12 v13 e13 S14 e14 => cr_36_16 (fun v15 e15 S16 e16 v17 e17 S18 e18 => cr_38_18 (cr_39_19 ?_))))))))))))
  rw [e18, e17, e16, e15, e14, e13, e12, e11, e10, e9, e8, e7, e6, e5, e4, e3, e2, e1]
  exact start
theorem op_by {a0 : Int32} (h : RelA TXd A B x y) : VC_X11_by_0 (fun r x' => VC_by (fun r' y' => r = r' ∧ RelT TXd x' y') a0 y) a0 x := by
  obtain ⟨g1, g2, g3, g4, g5, g6, g7, ⟨x1, x2, x3⟩, g9, g10⟩ := id h
  obtain ⟨b0, b1, b2, b3, b4, b5, b6, b7, b8, b9⟩ := g1.b
  obtain ⟨h1, h2, h3, h4, h5, h6⟩ := g3
  have c4 : y.2.2.1 0 (4 : Int32).toNatClampNeg = nI (A 4) := enc_cell (k := 4) g5 (by decide) (by decide)
  have i4 : vp_in (4 : Int32) 3890 := litIn 4 (by decide) (by decide)
  have i5 : vp_in (5 : Int32) 3890 := litIn 5 (by decide) (by decide)
  have good : ∀ v : Nat, v ≤ A 4 → a0 = nI v - 1 → RelT TXd (xI x 39 a0) (sF y 0 (upd (y.2.2.1 0) (5 : Int32).toNatClampNeg a0)) := fun v hv ev => by
    have eA : ∀ k, k ≠ 5 → uN A 5 v k = A k := fun k hk => uN_n _ _ _ _ hk
    have hI' : Inv (uN A 5 v) := Inv_talk g1 (fun k _ k5 _ _ _ => eA k k5) (by rw [eA 4 (by omega)]; omega) (by rw [eA 4 (by omega), uN_s]; exact hv) (by rw [eA 7 (by omega)]; omega) (by rw [eA 8 (by omega)]; omega) ⟨fun i hi => by rw [eA 7 (by omega)] at hi; rw [eA _ (by omega)]; exact g1.2.2.2.2.1.1 i hi, fun i hi => by rw [eA 8 (by omega)] at hi; rw [eA (70 + 4 * i) (by omega), eA (71 + 4 * i) (by omega), eA (72 + 4 * i) (by omega), eA (73 + 4 * i) (by omega), eA 0 (by omega)]; exact g1.2.2.2.2.1.2 i hi⟩
    refine h.step ((XFr.refl x).I _ _ (by omega)) ((YFr.refl y).F _ _ (by omega)) hI' ⟨rxCrew_of h1 b0 (xI_n _ _ (by omega)) (fun _ _ _ _ => rfl) (fun k hk => eA k (by omega)), rxWares_of h2 b1 (xI_n _ _ (by omega)) (fun _ _ _ _ => rfl) (fun k hk => eA k (by omega)), rxBench_of h3 b2 b9 ⟨xI_n _ _ (by omega), xI_n _ _ (by omega), xI_n _ _ (by omega)⟩ (fun _ _ _ _ => rfl) (fun k hk => eA k (by omega)), rxSteps_of h4 g1.c ⟨xI_n _ _ (by omega), xI_n _ _ (by omega)⟩ (fun _ _ _ => rfl) (eA 6 (by omega)) (fun j _ k hk => core_of (eA 6 (by omega)) (fun k hk => eA k (by omega)) j hk), rxTalk_of h5 b7 b8 ⟨xI_n _ _ (by omega), xI_n _ _ (by omega)⟩ (fun _ _ _ => rfl) (fun k hk => eA k (by omega)), ⟨by rw [xI_n _ _ (by omega), eA 4 (by omega)]; exact h6.1, by rw [xI_s, uN_s]; exact ev⟩⟩ ?_ (eA 4 (by omega))
    rw [sF_same, litC 5 (by decide), g5, ev]
    funext k
    unfold upd enc uN
    by_cases z : k = 5
    · rw [if_pos z, if_pos z, if_pos rfl]
    · rw [if_neg z, if_neg z, if_neg z, if_neg z]
  have m1 : ∀ z : Int32, ¬ z < -1 → ¬ z = -1 → ¬ z < 0 := fun z z1 z2 z3 => by
    rw [Int32.lt_iff_toInt_lt] at z1 z3
    have q1 : (-1 : Int32).toInt = -1 := (by decide)
    have q0 : (0 : Int32).toInt = 0 := (by decide)
    exact z2 (Int32.toInt_inj.mp (by omega))
  refine ⟨fun e S1 e1 => ?_, fun ne => ?_⟩
  · refine ⟨i4, mIn (fun hc => ?_) (fun _ _ => ⟨fun _ => ⟨i5, fun S2 e2 => ⟨rfl, ?_⟩⟩, fun z => absurd z (by decide)⟩)⟩
    · rw [c4] at hc
      rcases hc with hc | hc
      · rw [e] at hc; exact absurd hc (by decide)
      · rw [e, Int32.lt_iff_toInt_lt, L1, nsubI (by omega) (by omega), nnegInt (by omega)] at hc
        omega
    · rw [e1, e2]
      exact good 0 (by omega) (by rw [e]; rfl)
  · unfold VC_X5_textAt_1
    rw [h6.1]
    have bad : ¬ isOne a0 (A 4) → VC_by (fun r' y' => (0 : Int32) = r' ∧ RelT TXd x y') a0 y := fun hn => by
      refine ⟨i4, mIn (fun _ => ⟨fun z => absurd rfl z, fun _ => ⟨rfl, A, B, h⟩⟩) (fun c d => ?_)⟩
      rw [c4] at d
      exact absurd ((one_iff (by omega)).mpr ⟨m1 a0 c ne, d⟩) hn
    refine ⟨fun hlt => ⟨fun _ => bad (fun z => ((one_iff (by omega)).mp z).1 hlt), fun a z => absurd z (by simp)⟩, fun hge => ⟨fun hle => ⟨fun _ => bad (fun z => ((isOne_iff (by omega)).mp z).2 hle), fun a z => absurd z (by simp)⟩, fun hgt => ?_⟩⟩
    obtain ⟨i, hi, rfl⟩ := (isOne_iff (n := A 4) (by omega)).mpr ⟨hge, hgt⟩
    obtain ⟨a, t, q1, q2, q3⟩ := x1 i hi
    rw [ncl (by omega)]
    refine ⟨vp_in_nI (by omega) (by decide), fun z => absurd (q1.symm.trans z) (by simp), fun a4 _ S5 e5 => ⟨i4, mIn (fun hc => ?_) (fun _ _ => ⟨fun _ => ⟨i5, fun S2 e2 => ⟨rfl, ?_⟩⟩, fun z => absurd z (by decide)⟩)⟩⟩
    · rw [c4] at hc
      have := (one_iff (n := A 4) (by omega)).mp ⟨i, hi, rfl⟩
      rcases hc with hc | hc
      · rw [Int32.lt_iff_toInt_lt, ntoInt (by omega), L1, nnegInt (by omega)] at hc; omega
      · exact absurd hc this.2
    · rw [e5, e2]
      exact good (i + 1) (by omega) (nI_pred i).symm
end IMG
