/-! what one order comes to -/
def clI (L H z : Int) : Int := if z < L then L else if H < z then H else z
def cl6 (z : Int) : Int := clI (-1000000) 1000000 z
def b6 (z : Int) : Prop := -1000000 ≤ z ∧ z ≤ 1000000
def opI (t : Nat) (x y : Int) : Int := if t = 0 then (if x < y then 1 else 0) else if t = 1 then (if y < x then 1 else 0) else if t = 2 then (if x = y then 1 else 0) else if t = 3 then (if x = y then 0 else 1) else if t = 4 then (x + y) else if t = 5 then (x - y) else if t = 6 then (x * y) else if t = 7 then (if y = 0 then 0 else x.tdiv y) else if t = 13 then (if x ≤ y then 1 else 0) else if t = 14 then (if y ≤ x then 1 else 0) else if t = 43 then (if x = 0 then y else 1) else if t = 44 then (if x = 0 then 0 else y) else 0
theorem opI_0 (x y : Int) : opI 0 x y = (if x < y then 1 else 0) := rfl
theorem opI_1 (x y : Int) : opI 1 x y = (if y < x then 1 else 0) := rfl
theorem opI_2 (x y : Int) : opI 2 x y = (if x = y then 1 else 0) := rfl
theorem opI_3 (x y : Int) : opI 3 x y = (if x = y then 0 else 1) := rfl
theorem opI_4 (x y : Int) : opI 4 x y = (x + y) := rfl
theorem opI_5 (x y : Int) : opI 5 x y = (x - y) := rfl
theorem opI_6 (x y : Int) : opI 6 x y = (x * y) := rfl
theorem opI_7 (x y : Int) : opI 7 x y = (if y = 0 then 0 else x.tdiv y) := rfl
theorem opI_13 (x y : Int) : opI 13 x y = (if x ≤ y then 1 else 0) := rfl
theorem opI_14 (x y : Int) : opI 14 x y = (if y ≤ x then 1 else 0) := rfl
theorem opI_43 (x y : Int) : opI 43 x y = (if x = 0 then y else 1) := rfl
theorem opI_44 (x y : Int) : opI 44 x y = (if x = 0 then 0 else y) := rfl
theorem bm64 {z : Int} (h : -9000000000000000000 ≤ z) (h' : z ≤ 9000000000000000000) : z.bmod (2 ^ 64) = z := Int.bmod_eq_of_le_mul_two (by omega) (by omega)
theorem bm32 {z : Int} (h : -2000000000 ≤ z) (h' : z ≤ 2000000000) : z.bmod (2 ^ 32) = z := Int.bmod_eq_of_le_mul_two (by omega) (by omega)
theorem mul6 {x y : Int} (hx : b6 x) (hy : b6 y) : -9000000000000000000 ≤ x * y ∧ x * y ≤ 9000000000000000000 := by
  obtain ⟨a, b⟩ := hx
  obtain ⟨c, d⟩ := hy
  have e := Int.natAbs_mul x y
  have f : x.natAbs * y.natAbs ≤ 1000000 * 1000000 := Nat.mul_le_mul (by omega) (by omega)
  rw [← e] at f
  generalize x * y = z at f
  omega
theorem div6 {x y : Int} (hx : b6 x) : -9000000000000000000 ≤ x.tdiv y ∧ x.tdiv y ≤ 9000000000000000000 := by
  obtain ⟨a, b⟩ := hx
  have e := Int.natAbs_tdiv_le_natAbs x y
  generalize x.tdiv y = z at e
  omega
theorem one6 {a : Int64} {x : Int} (e : a.toInt = x) (h : x = 0 ∨ x = 1) : (x = 0 ∧ a = 0) ∨ (x = 1 ∧ a = 1) := by
  rcases h with h | h
  · exact Or.inl ⟨h, Int64.toInt_inj.mp (by rw [e, h]; decide)⟩
  · exact Or.inr ⟨h, Int64.toInt_inj.mp (by rw [e, h]; decide)⟩
theorem or6 {a1 a2 : Int64} {x y : Int} (e1 : a1.toInt = x) (e2 : a2.toInt = y) (h : (x = 0 ∨ x = 1) ∧ (y = 0 ∨ y = 1)) : (a1 ||| a2).toInt = (if x = 0 then y else 1) := by
  rcases one6 e1 h.1 with ⟨c, d⟩ | ⟨c, d⟩ <;> rcases one6 e2 h.2 with ⟨f, g⟩ | ⟨f, g⟩ <;> subst c d f g <;> decide
theorem and6 {a1 a2 : Int64} {x y : Int} (e1 : a1.toInt = x) (e2 : a2.toInt = y) (h : (x = 0 ∨ x = 1) ∧ (y = 0 ∨ y = 1)) : (a1 &&& a2).toInt = (if x = 0 then 0 else y) := by
  rcases one6 e1 h.1 with ⟨c, d⟩ | ⟨c, d⟩ <;> rcases one6 e2 h.2 with ⟨f, g⟩ | ⟨f, g⟩ <;> subst c d f g <;> decide
section CMP6
variable {a1 a2 : Int64} {x y : Int}
theorem cge6 (e1 : a1.toInt = x) (e2 : a2.toInt = y) : (0 ≤ lg_cmp a1 a2) ↔ y ≤ x := by rw [lg_cmp_ge, Int64.le_iff_toInt_le, e1, e2]
theorem cle6 (e1 : a1.toInt = x) (e2 : a2.toInt = y) : (lg_cmp a1 a2 ≤ 0) ↔ x ≤ y := by rw [lg_cmp_le, Int64.le_iff_toInt_le, e1, e2]
theorem cgt6 (e1 : a1.toInt = x) (e2 : a2.toInt = y) : (0 < lg_cmp a1 a2) ↔ y < x := by rw [lg_cmp_gt, Int64.lt_iff_toInt_lt, e1, e2]
theorem clt6 (e1 : a1.toInt = x) (e2 : a2.toInt = y) : (lg_cmp a1 a2 < 0) ↔ x < y := by rw [lg_cmp_lt, Int64.lt_iff_toInt_lt, e1, e2]
theorem ceq6 (e1 : a1.toInt = x) (e2 : a2.toInt = y) : (lg_cmp a1 a2 = 0) ↔ x = y := by rw [lg_cmp_eq, ← Int64.toInt_inj, e1, e2]
theorem c_join_0 {Post : Int64 → Prop} (e1 : a1.toInt = x) (e2 : a2.toInt = y) (hx : b6 x) (hy : b6 y) (hb : (0 = 43 ∨ 0 = 44) → (x = 0 ∨ x = 1) ∧ (y = 0 ∨ y = 1)) (k : ∀ r : Int64, r.toInt = opI 0 x y → Post r) : VC_X2_join Post (nI 0) a1 a2 := by
  rw [opI_0] at k
  have cge := cge6 e1 e2
  have cle := cle6 e1 e2
  have cgt := cgt6 e1 e2
  have clt := clt6 e1 e2
  have ceq := ceq6 e1 e2
  have z0 : (0 : Int64).toInt = 0 := (by decide)
  have z1 : (1 : Int64).toInt = 1 := (by decide)
  have c0 := ceq6 e2 z0
  have hb := fun w => hb w
  obtain ⟨hx1, hx2⟩ := id hx
  obtain ⟨hy1, hy2⟩ := id hy
  exact ⟨fun _ => ⟨fun g => k _ (by rw [z0, if_neg (by have := cge.mp g; omega)]), fun g => k _ (by rw [z1, if_pos (Int.not_le.mp (fun w => g (cge.mpr w)))])⟩, fun z => absurd z (by decide), fun z => absurd z (by decide), fun z => absurd z (by decide), fun z => absurd z (by decide), fun z => absurd z (by decide), fun z => absurd z (by decide), fun z => absurd z (by decide), fun z => absurd z (by decide), fun z => absurd z (by decide), fun z => absurd z (by decide), fun z => absurd z (by decide), fun z => absurd z (by decide), fun z => absurd z (by decide), fun z => absurd z (by decide), fun z => absurd z (by decide), fun z => absurd z (by decide), fun z => absurd z (by decide), fun z => absurd z (by decide), fun z => absurd z (by decide), fun z => absurd z (by decide), fun z => absurd z (by decide), fun z => absurd z (by decide), fun z => absurd z (by decide), fun z => absurd z (by decide), fun z => absurd z (by decide), fun z => absurd z (by decide), fun z => absurd z (by decide), fun z => absurd z (by decide), fun z => absurd z (by decide), fun z => absurd z (by decide), fun z => absurd z (by decide), fun z => absurd z (by decide), fun z => absurd z (by decide), fun z => absurd z (by decide), fun z => absurd z (by decide), fun z => absurd z (by decide), fun z => absurd z (by decide), fun z => absurd z (by decide), fun z => absurd z (by decide), fun z => absurd z (by decide), fun z => absurd z (by decide), fun z => absurd z (by decide), fun z => absurd z (by decide), fun z => absurd z (by decide), fun z _ _ _ _ _ _ _ _ _ _ _ _ _ _ _ _ _ _ _ _ _ _ _ _ _ _ _ _ _ _ _ _ _ _ _ _ _ _ _ _ _ _ _ _ => absurd rfl z⟩
theorem c_join_1 {Post : Int64 → Prop} (e1 : a1.toInt = x) (e2 : a2.toInt = y) (hx : b6 x) (hy : b6 y) (hb : (1 = 43 ∨ 1 = 44) → (x = 0 ∨ x = 1) ∧ (y = 0 ∨ y = 1)) (k : ∀ r : Int64, r.toInt = opI 1 x y → Post r) : VC_X2_join Post (nI 1) a1 a2 := by
  rw [opI_1] at k
  have cge := cge6 e1 e2
  have cle := cle6 e1 e2
  have cgt := cgt6 e1 e2
  have clt := clt6 e1 e2
  have ceq := ceq6 e1 e2
  have z0 : (0 : Int64).toInt = 0 := (by decide)
  have z1 : (1 : Int64).toInt = 1 := (by decide)
  have c0 := ceq6 e2 z0
  have hb := fun w => hb w
  obtain ⟨hx1, hx2⟩ := id hx
  obtain ⟨hy1, hy2⟩ := id hy
  exact ⟨fun z => absurd z (by decide), fun _ => ⟨fun g => k _ (by rw [z0, if_neg (by have := cle.mp g; omega)]), fun g => k _ (by rw [z1, if_pos (Int.not_le.mp (fun w => g (cle.mpr w)))])⟩, fun z => absurd z (by decide), fun z => absurd z (by decide), fun z => absurd z (by decide), fun z => absurd z (by decide), fun z => absurd z (by decide), fun z => absurd z (by decide), fun z => absurd z (by decide), fun z => absurd z (by decide), fun z => absurd z (by decide), fun z => absurd z (by decide), fun z => absurd z (by decide), fun z => absurd z (by decide), fun z => absurd z (by decide), fun z => absurd z (by decide), fun z => absurd z (by decide), fun z => absurd z (by decide), fun z => absurd z (by decide), fun z => absurd z (by decide), fun z => absurd z (by decide), fun z => absurd z (by decide), fun z => absurd z (by decide), fun z => absurd z (by decide), fun z => absurd z (by decide), fun z => absurd z (by decide), fun z => absurd z (by decide), fun z => absurd z (by decide), fun z => absurd z (by decide), fun z => absurd z (by decide), fun z => absurd z (by decide), fun z => absurd z (by decide), fun z => absurd z (by decide), fun z => absurd z (by decide), fun z => absurd z (by decide), fun z => absurd z (by decide), fun z => absurd z (by decide), fun z => absurd z (by decide), fun z => absurd z (by decide), fun z => absurd z (by decide), fun z => absurd z (by decide), fun z => absurd z (by decide), fun z => absurd z (by decide), fun z => absurd z (by decide), fun z => absurd z (by decide), fun _ z _ _ _ _ _ _ _ _ _ _ _ _ _ _ _ _ _ _ _ _ _ _ _ _ _ _ _ _ _ _ _ _ _ _ _ _ _ _ _ _ _ _ _ => absurd rfl z⟩
theorem c_join_2 {Post : Int64 → Prop} (e1 : a1.toInt = x) (e2 : a2.toInt = y) (hx : b6 x) (hy : b6 y) (hb : (2 = 43 ∨ 2 = 44) → (x = 0 ∨ x = 1) ∧ (y = 0 ∨ y = 1)) (k : ∀ r : Int64, r.toInt = opI 2 x y → Post r) : VC_X2_join Post (nI 2) a1 a2 := by
  rw [opI_2] at k
  have cge := cge6 e1 e2
  have cle := cle6 e1 e2
  have cgt := cgt6 e1 e2
  have clt := clt6 e1 e2
  have ceq := ceq6 e1 e2
  have z0 : (0 : Int64).toInt = 0 := (by decide)
  have z1 : (1 : Int64).toInt = 1 := (by decide)
  have c0 := ceq6 e2 z0
  have hb := fun w => hb w
  obtain ⟨hx1, hx2⟩ := id hx
  obtain ⟨hy1, hy2⟩ := id hy
  exact ⟨fun z => absurd z (by decide), fun z => absurd z (by decide), fun _ => ⟨fun g => k _ (by rw [z0, if_neg (fun w => g (ceq.mpr w))]), fun g => k _ (by rw [z1, if_pos (ceq.mp g)])⟩, fun z => absurd z (by decide), fun z => absurd z (by decide), fun z => absurd z (by decide), fun z => absurd z (by decide), fun z => absurd z (by decide), fun z => absurd z (by decide), fun z => absurd z (by decide), fun z => absurd z (by decide), fun z => absurd z (by decide), fun z => absurd z (by decide), fun z => absurd z (by decide), fun z => absurd z (by decide), fun z => absurd z (by decide), fun z => absurd z (by decide), fun z => absurd z (by decide), fun z => absurd z (by decide), fun z => absurd z (by decide), fun z => absurd z (by decide), fun z => absurd z (by decide), fun z => absurd z (by decide), fun z => absurd z (by decide), fun z => absurd z (by decide), fun z => absurd z (by decide), fun z => absurd z (by decide), fun z => absurd z (by decide), fun z => absurd z (by decide), fun z => absurd z (by decide), fun z => absurd z (by decide), fun z => absurd z (by decide), fun z => absurd z (by decide), fun z => absurd z (by decide), fun z => absurd z (by decide), fun z => absurd z (by decide), fun z => absurd z (by decide), fun z => absurd z (by decide), fun z => absurd z (by decide), fun z => absurd z (by decide), fun z => absurd z (by decide), fun z => absurd z (by decide), fun z => absurd z (by decide), fun z => absurd z (by decide), fun z => absurd z (by decide), fun _ _ z _ _ _ _ _ _ _ _ _ _ _ _ _ _ _ _ _ _ _ _ _ _ _ _ _ _ _ _ _ _ _ _ _ _ _ _ _ _ _ _ _ _ => absurd rfl z⟩
theorem c_join_3 {Post : Int64 → Prop} (e1 : a1.toInt = x) (e2 : a2.toInt = y) (hx : b6 x) (hy : b6 y) (hb : (3 = 43 ∨ 3 = 44) → (x = 0 ∨ x = 1) ∧ (y = 0 ∨ y = 1)) (k : ∀ r : Int64, r.toInt = opI 3 x y → Post r) : VC_X2_join Post (nI 3) a1 a2 := by
  rw [opI_3] at k
  have cge := cge6 e1 e2
  have cle := cle6 e1 e2
  have cgt := cgt6 e1 e2
  have clt := clt6 e1 e2
  have ceq := ceq6 e1 e2
  have z0 : (0 : Int64).toInt = 0 := (by decide)
  have z1 : (1 : Int64).toInt = 1 := (by decide)
  have c0 := ceq6 e2 z0
  have hb := fun w => hb w
  obtain ⟨hx1, hx2⟩ := id hx
  obtain ⟨hy1, hy2⟩ := id hy
  exact ⟨fun z => absurd z (by decide), fun z => absurd z (by decide), fun z => absurd z (by decide), fun _ => ⟨fun g => k _ (by rw [z0, if_pos (ceq.mp g)]), fun g => k _ (by rw [z1, if_neg (fun w => g (ceq.mpr w))])⟩, fun z => absurd z (by decide), fun z => absurd z (by decide), fun z => absurd z (by decide), fun z => absurd z (by decide), fun z => absurd z (by decide), fun z => absurd z (by decide), fun z => absurd z (by decide), fun z => absurd z (by decide), fun z => absurd z (by decide), fun z => absurd z (by decide), fun z => absurd z (by decide), fun z => absurd z (by decide), fun z => absurd z (by decide), fun z => absurd z (by decide), fun z => absurd z (by decide), fun z => absurd z (by decide), fun z => absurd z (by decide), fun z => absurd z (by decide), fun z => absurd z (by decide), fun z => absurd z (by decide), fun z => absurd z (by decide), fun z => absurd z (by decide), fun z => absurd z (by decide), fun z => absurd z (by decide), fun z => absurd z (by decide), fun z => absurd z (by decide), fun z => absurd z (by decide), fun z => absurd z (by decide), fun z => absurd z (by decide), fun z => absurd z (by decide), fun z => absurd z (by decide), fun z => absurd z (by decide), fun z => absurd z (by decide), fun z => absurd z (by decide), fun z => absurd z (by decide), fun z => absurd z (by decide), fun z => absurd z (by decide), fun z => absurd z (by decide), fun z => absurd z (by decide), fun z => absurd z (by decide), fun z => absurd z (by decide), fun _ _ _ z _ _ _ _ _ _ _ _ _ _ _ _ _ _ _ _ _ _ _ _ _ _ _ _ _ _ _ _ _ _ _ _ _ _ _ _ _ _ _ _ _ => absurd rfl z⟩
theorem c_join_4 {Post : Int64 → Prop} (e1 : a1.toInt = x) (e2 : a2.toInt = y) (hx : b6 x) (hy : b6 y) (hb : (4 = 43 ∨ 4 = 44) → (x = 0 ∨ x = 1) ∧ (y = 0 ∨ y = 1)) (k : ∀ r : Int64, r.toInt = opI 4 x y → Post r) : VC_X2_join Post (nI 4) a1 a2 := by
  rw [opI_4] at k
  have cge := cge6 e1 e2
  have cle := cle6 e1 e2
  have cgt := cgt6 e1 e2
  have clt := clt6 e1 e2
  have ceq := ceq6 e1 e2
  have z0 : (0 : Int64).toInt = 0 := (by decide)
  have z1 : (1 : Int64).toInt = 1 := (by decide)
  have c0 := ceq6 e2 z0
  have hb := fun w => hb w
  obtain ⟨hx1, hx2⟩ := id hx
  obtain ⟨hy1, hy2⟩ := id hy
  exact ⟨fun z => absurd z (by decide), fun z => absurd z (by decide), fun z => absurd z (by decide), fun z => absurd z (by decide), fun _ => k _ (by rw [Int64.toInt_add, e1, e2, bm64 (by omega) (by omega)]), fun z => absurd z (by decide), fun z => absurd z (by decide), fun z => absurd z (by decide), fun z => absurd z (by decide), fun z => absurd z (by decide), fun z => absurd z (by decide), fun z => absurd z (by decide), fun z => absurd z (by decide), fun z => absurd z (by decide), fun z => absurd z (by decide), fun z => absurd z (by decide), fun z => absurd z (by decide), fun z => absurd z (by decide), fun z => absurd z (by decide), fun z => absurd z (by decide), fun z => absurd z (by decide), fun z => absurd z (by decide), fun z => absurd z (by decide), fun z => absurd z (by decide), fun z => absurd z (by decide), fun z => absurd z (by decide), fun z => absurd z (by decide), fun z => absurd z (by decide), fun z => absurd z (by decide), fun z => absurd z (by decide), fun z => absurd z (by decide), fun z => absurd z (by decide), fun z => absurd z (by decide), fun z => absurd z (by decide), fun z => absurd z (by decide), fun z => absurd z (by decide), fun z => absurd z (by decide), fun z => absurd z (by decide), fun z => absurd z (by decide), fun z => absurd z (by decide), fun z => absurd z (by decide), fun z => absurd z (by decide), fun z => absurd z (by decide), fun z => absurd z (by decide), fun z => absurd z (by decide), fun _ _ _ _ z _ _ _ _ _ _ _ _ _ _ _ _ _ _ _ _ _ _ _ _ _ _ _ _ _ _ _ _ _ _ _ _ _ _ _ _ _ _ _ _ => absurd rfl z⟩
theorem c_join_5 {Post : Int64 → Prop} (e1 : a1.toInt = x) (e2 : a2.toInt = y) (hx : b6 x) (hy : b6 y) (hb : (5 = 43 ∨ 5 = 44) → (x = 0 ∨ x = 1) ∧ (y = 0 ∨ y = 1)) (k : ∀ r : Int64, r.toInt = opI 5 x y → Post r) : VC_X2_join Post (nI 5) a1 a2 := by
  rw [opI_5] at k
  have cge := cge6 e1 e2
  have cle := cle6 e1 e2
  have cgt := cgt6 e1 e2
  have clt := clt6 e1 e2
  have ceq := ceq6 e1 e2
  have z0 : (0 : Int64).toInt = 0 := (by decide)
  have z1 : (1 : Int64).toInt = 1 := (by decide)
  have c0 := ceq6 e2 z0
  have hb := fun w => hb w
  obtain ⟨hx1, hx2⟩ := id hx
  obtain ⟨hy1, hy2⟩ := id hy
  exact ⟨fun z => absurd z (by decide), fun z => absurd z (by decide), fun z => absurd z (by decide), fun z => absurd z (by decide), fun z => absurd z (by decide), fun _ => k _ (by rw [Int64.toInt_sub, e1, e2, bm64 (by omega) (by omega)]), fun z => absurd z (by decide), fun z => absurd z (by decide), fun z => absurd z (by decide), fun z => absurd z (by decide), fun z => absurd z (by decide), fun z => absurd z (by decide), fun z => absurd z (by decide), fun z => absurd z (by decide), fun z => absurd z (by decide), fun z => absurd z (by decide), fun z => absurd z (by decide), fun z => absurd z (by decide), fun z => absurd z (by decide), fun z => absurd z (by decide), fun z => absurd z (by decide), fun z => absurd z (by decide), fun z => absurd z (by decide), fun z => absurd z (by decide), fun z => absurd z (by decide), fun z => absurd z (by decide), fun z => absurd z (by decide), fun z => absurd z (by decide), fun z => absurd z (by decide), fun z => absurd z (by decide), fun z => absurd z (by decide), fun z => absurd z (by decide), fun z => absurd z (by decide), fun z => absurd z (by decide), fun z => absurd z (by decide), fun z => absurd z (by decide), fun z => absurd z (by decide), fun z => absurd z (by decide), fun z => absurd z (by decide), fun z => absurd z (by decide), fun z => absurd z (by decide), fun z => absurd z (by decide), fun z => absurd z (by decide), fun z => absurd z (by decide), fun z => absurd z (by decide), fun _ _ _ _ _ z _ _ _ _ _ _ _ _ _ _ _ _ _ _ _ _ _ _ _ _ _ _ _ _ _ _ _ _ _ _ _ _ _ _ _ _ _ _ _ => absurd rfl z⟩
theorem c_join_6 {Post : Int64 → Prop} (e1 : a1.toInt = x) (e2 : a2.toInt = y) (hx : b6 x) (hy : b6 y) (hb : (6 = 43 ∨ 6 = 44) → (x = 0 ∨ x = 1) ∧ (y = 0 ∨ y = 1)) (k : ∀ r : Int64, r.toInt = opI 6 x y → Post r) : VC_X2_join Post (nI 6) a1 a2 := by
  rw [opI_6] at k
  have cge := cge6 e1 e2
  have cle := cle6 e1 e2
  have cgt := cgt6 e1 e2
  have clt := clt6 e1 e2
  have ceq := ceq6 e1 e2
  have z0 : (0 : Int64).toInt = 0 := (by decide)
  have z1 : (1 : Int64).toInt = 1 := (by decide)
  have c0 := ceq6 e2 z0
  have hb := fun w => hb w
  obtain ⟨hx1, hx2⟩ := id hx
  obtain ⟨hy1, hy2⟩ := id hy
  exact ⟨fun z => absurd z (by decide), fun z => absurd z (by decide), fun z => absurd z (by decide), fun z => absurd z (by decide), fun z => absurd z (by decide), fun z => absurd z (by decide), fun _ => k _ (by rw [Int64.toInt_mul, e1, e2, bm64 (mul6 hx hy).1 (mul6 hx hy).2]), fun z => absurd z (by decide), fun z => absurd z (by decide), fun z => absurd z (by decide), fun z => absurd z (by decide), fun z => absurd z (by decide), fun z => absurd z (by decide), fun z => absurd z (by decide), fun z => absurd z (by decide), fun z => absurd z (by decide), fun z => absurd z (by decide), fun z => absurd z (by decide), fun z => absurd z (by decide), fun z => absurd z (by decide), fun z => absurd z (by decide), fun z => absurd z (by decide), fun z => absurd z (by decide), fun z => absurd z (by decide), fun z => absurd z (by decide), fun z => absurd z (by decide), fun z => absurd z (by decide), fun z => absurd z (by decide), fun z => absurd z (by decide), fun z => absurd z (by decide), fun z => absurd z (by decide), fun z => absurd z (by decide), fun z => absurd z (by decide), fun z => absurd z (by decide), fun z => absurd z (by decide), fun z => absurd z (by decide), fun z => absurd z (by decide), fun z => absurd z (by decide), fun z => absurd z (by decide), fun z => absurd z (by decide), fun z => absurd z (by decide), fun z => absurd z (by decide), fun z => absurd z (by decide), fun z => absurd z (by decide), fun z => absurd z (by decide), fun _ _ _ _ _ _ z _ _ _ _ _ _ _ _ _ _ _ _ _ _ _ _ _ _ _ _ _ _ _ _ _ _ _ _ _ _ _ _ _ _ _ _ _ _ => absurd rfl z⟩
theorem c_join_7 {Post : Int64 → Prop} (e1 : a1.toInt = x) (e2 : a2.toInt = y) (hx : b6 x) (hy : b6 y) (hb : (7 = 43 ∨ 7 = 44) → (x = 0 ∨ x = 1) ∧ (y = 0 ∨ y = 1)) (k : ∀ r : Int64, r.toInt = opI 7 x y → Post r) : VC_X2_join Post (nI 7) a1 a2 := by
  rw [opI_7] at k
  have cge := cge6 e1 e2
  have cle := cle6 e1 e2
  have cgt := cgt6 e1 e2
  have clt := clt6 e1 e2
  have ceq := ceq6 e1 e2
  have z0 : (0 : Int64).toInt = 0 := (by decide)
  have z1 : (1 : Int64).toInt = 1 := (by decide)
  have c0 := ceq6 e2 z0
  have hb := fun w => hb w
  obtain ⟨hx1, hx2⟩ := id hx
  obtain ⟨hy1, hy2⟩ := id hy
  exact ⟨fun z => absurd z (by decide), fun z => absurd z (by decide), fun z => absurd z (by decide), fun z => absurd z (by decide), fun z => absurd z (by decide), fun z => absurd z (by decide), fun z => absurd z (by decide), fun _ => ⟨fun g => ⟨fun w => g (c0.mpr (by rw [← e2, w]; decide)), k _ (by rw [Int64.toInt_div, e1, e2, bm64 (div6 hx).1 (div6 hx).2, if_neg (fun w => g (c0.mpr w))])⟩, fun g => k _ (by rw [z0, if_pos (c0.mp g)])⟩, fun z => absurd z (by decide), fun z => absurd z (by decide), fun z => absurd z (by decide), fun z => absurd z (by decide), fun z => absurd z (by decide), fun z => absurd z (by decide), fun z => absurd z (by decide), fun z => absurd z (by decide), fun z => absurd z (by decide), fun z => absurd z (by decide), fun z => absurd z (by decide), fun z => absurd z (by decide), fun z => absurd z (by decide), fun z => absurd z (by decide), fun z => absurd z (by decide), fun z => absurd z (by decide), fun z => absurd z (by decide), fun z => absurd z (by decide), fun z => absurd z (by decide), fun z => absurd z (by decide), fun z => absurd z (by decide), fun z => absurd z (by decide), fun z => absurd z (by decide), fun z => absurd z (by decide), fun z => absurd z (by decide), fun z => absurd z (by decide), fun z => absurd z (by decide), fun z => absurd z (by decide), fun z => absurd z (by decide), fun z => absurd z (by decide), fun z => absurd z (by decide), fun z => absurd z (by decide), fun z => absurd z (by decide), fun z => absurd z (by decide), fun z => absurd z (by decide), fun z => absurd z (by decide), fun z => absurd z (by decide), fun _ _ _ _ _ _ _ z _ _ _ _ _ _ _ _ _ _ _ _ _ _ _ _ _ _ _ _ _ _ _ _ _ _ _ _ _ _ _ _ _ _ _ _ _ => absurd rfl z⟩
theorem c_join_13 {Post : Int64 → Prop} (e1 : a1.toInt = x) (e2 : a2.toInt = y) (hx : b6 x) (hy : b6 y) (hb : (13 = 43 ∨ 13 = 44) → (x = 0 ∨ x = 1) ∧ (y = 0 ∨ y = 1)) (k : ∀ r : Int64, r.toInt = opI 13 x y → Post r) : VC_X2_join Post (nI 13) a1 a2 := by
  rw [opI_13] at k
  have cge := cge6 e1 e2
  have cle := cle6 e1 e2
  have cgt := cgt6 e1 e2
  have clt := clt6 e1 e2
  have ceq := ceq6 e1 e2
  have z0 : (0 : Int64).toInt = 0 := (by decide)
  have z1 : (1 : Int64).toInt = 1 := (by decide)
  have c0 := ceq6 e2 z0
  have hb := fun w => hb w
  obtain ⟨hx1, hx2⟩ := id hx
  obtain ⟨hy1, hy2⟩ := id hy
  exact ⟨fun z => absurd z (by decide), fun z => absurd z (by decide), fun z => absurd z (by decide), fun z => absurd z (by decide), fun z => absurd z (by decide), fun z => absurd z (by decide), fun z => absurd z (by decide), fun z => absurd z (by decide), fun z => absurd z (by decide), fun z => absurd z (by decide), fun z => absurd z (by decide), fun z => absurd z (by decide), fun z => absurd z (by decide), fun _ => ⟨fun g => k _ (by rw [z0, if_neg (by have := cgt.mp g; omega)]), fun g => k _ (by rw [z1, if_pos (Int.not_lt.mp (fun w => g (cgt.mpr w)))])⟩, fun z => absurd z (by decide), fun z => absurd z (by decide), fun z => absurd z (by decide), fun z => absurd z (by decide), fun z => absurd z (by decide), fun z => absurd z (by decide), fun z => absurd z (by decide), fun z => absurd z (by decide), fun z => absurd z (by decide), fun z => absurd z (by decide), fun z => absurd z (by decide), fun z => absurd z (by decide), fun z => absurd z (by decide), fun z => absurd z (by decide), fun z => absurd z (by decide), fun z => absurd z (by decide), fun z => absurd z (by decide), fun z => absurd z (by decide), fun z => absurd z (by decide), fun z => absurd z (by decide), fun z => absurd z (by decide), fun z => absurd z (by decide), fun z => absurd z (by decide), fun z => absurd z (by decide), fun z => absurd z (by decide), fun z => absurd z (by decide), fun z => absurd z (by decide), fun z => absurd z (by decide), fun z => absurd z (by decide), fun z => absurd z (by decide), fun z => absurd z (by decide), fun _ _ _ _ _ _ _ _ _ _ _ _ _ z _ _ _ _ _ _ _ _ _ _ _ _ _ _ _ _ _ _ _ _ _ _ _ _ _ _ _ _ _ _ _ => absurd rfl z⟩
theorem c_join_14 {Post : Int64 → Prop} (e1 : a1.toInt = x) (e2 : a2.toInt = y) (hx : b6 x) (hy : b6 y) (hb : (14 = 43 ∨ 14 = 44) → (x = 0 ∨ x = 1) ∧ (y = 0 ∨ y = 1)) (k : ∀ r : Int64, r.toInt = opI 14 x y → Post r) : VC_X2_join Post (nI 14) a1 a2 := by
  rw [opI_14] at k
  have cge := cge6 e1 e2
  have cle := cle6 e1 e2
  have cgt := cgt6 e1 e2
  have clt := clt6 e1 e2
  have ceq := ceq6 e1 e2
  have z0 : (0 : Int64).toInt = 0 := (by decide)
  have z1 : (1 : Int64).toInt = 1 := (by decide)
  have c0 := ceq6 e2 z0
  have hb := fun w => hb w
  obtain ⟨hx1, hx2⟩ := id hx
  obtain ⟨hy1, hy2⟩ := id hy
  exact ⟨fun z => absurd z (by decide), fun z => absurd z (by decide), fun z => absurd z (by decide), fun z => absurd z (by decide), fun z => absurd z (by decide), fun z => absurd z (by decide), fun z => absurd z (by decide), fun z => absurd z (by decide), fun z => absurd z (by decide), fun z => absurd z (by decide), fun z => absurd z (by decide), fun z => absurd z (by decide), fun z => absurd z (by decide), fun z => absurd z (by decide), fun _ => ⟨fun g => k _ (by rw [z0, if_neg (by have := clt.mp g; omega)]), fun g => k _ (by rw [z1, if_pos (Int.not_lt.mp (fun w => g (clt.mpr w)))])⟩, fun z => absurd z (by decide), fun z => absurd z (by decide), fun z => absurd z (by decide), fun z => absurd z (by decide), fun z => absurd z (by decide), fun z => absurd z (by decide), fun z => absurd z (by decide), fun z => absurd z (by decide), fun z => absurd z (by decide), fun z => absurd z (by decide), fun z => absurd z (by decide), fun z => absurd z (by decide), fun z => absurd z (by decide), fun z => absurd z (by decide), fun z => absurd z (by decide), fun z => absurd z (by decide), fun z => absurd z (by decide), fun z => absurd z (by decide), fun z => absurd z (by decide), fun z => absurd z (by decide), fun z => absurd z (by decide), fun z => absurd z (by decide), fun z => absurd z (by decide), fun z => absurd z (by decide), fun z => absurd z (by decide), fun z => absurd z (by decide), fun z => absurd z (by decide), fun z => absurd z (by decide), fun z => absurd z (by decide), fun z => absurd z (by decide), fun _ _ _ _ _ _ _ _ _ _ _ _ _ _ z _ _ _ _ _ _ _ _ _ _ _ _ _ _ _ _ _ _ _ _ _ _ _ _ _ _ _ _ _ _ => absurd rfl z⟩
theorem c_join_43 {Post : Int64 → Prop} (e1 : a1.toInt = x) (e2 : a2.toInt = y) (hx : b6 x) (hy : b6 y) (hb : (43 = 43 ∨ 43 = 44) → (x = 0 ∨ x = 1) ∧ (y = 0 ∨ y = 1)) (k : ∀ r : Int64, r.toInt = opI 43 x y → Post r) : VC_X2_join Post (nI 43) a1 a2 := by
  rw [opI_43] at k
  have cge := cge6 e1 e2
  have cle := cle6 e1 e2
  have cgt := cgt6 e1 e2
  have clt := clt6 e1 e2
  have ceq := ceq6 e1 e2
  have z0 : (0 : Int64).toInt = 0 := (by decide)
  have z1 : (1 : Int64).toInt = 1 := (by decide)
  have c0 := ceq6 e2 z0
  have hb := fun w => hb w
  obtain ⟨hx1, hx2⟩ := id hx
  obtain ⟨hy1, hy2⟩ := id hy
  replace hb := hb (by decide)
  exact ⟨fun z => absurd z (by decide), fun z => absurd z (by decide), fun z => absurd z (by decide), fun z => absurd z (by decide), fun z => absurd z (by decide), fun z => absurd z (by decide), fun z => absurd z (by decide), fun z => absurd z (by decide), fun z => absurd z (by decide), fun z => absurd z (by decide), fun z => absurd z (by decide), fun z => absurd z (by decide), fun z => absurd z (by decide), fun z => absurd z (by decide), fun z => absurd z (by decide), fun z => absurd z (by decide), fun z => absurd z (by decide), fun z => absurd z (by decide), fun z => absurd z (by decide), fun z => absurd z (by decide), fun z => absurd z (by decide), fun z => absurd z (by decide), fun z => absurd z (by decide), fun z => absurd z (by decide), fun z => absurd z (by decide), fun z => absurd z (by decide), fun z => absurd z (by decide), fun z => absurd z (by decide), fun z => absurd z (by decide), fun z => absurd z (by decide), fun z => absurd z (by decide), fun z => absurd z (by decide), fun z => absurd z (by decide), fun z => absurd z (by decide), fun z => absurd z (by decide), fun z => absurd z (by decide), fun z => absurd z (by decide), fun z => absurd z (by decide), fun z => absurd z (by decide), fun z => absurd z (by decide), fun z => absurd z (by decide), fun z => absurd z (by decide), fun z => absurd z (by decide), fun _ => k _ (or6 e1 e2 hb), fun z => absurd z (by decide), fun _ _ _ _ _ _ _ _ _ _ _ _ _ _ _ _ _ _ _ _ _ _ _ _ _ _ _ _ _ _ _ _ _ _ _ _ _ _ _ _ _ _ _ z _ => absurd rfl z⟩
theorem c_join_44 {Post : Int64 → Prop} (e1 : a1.toInt = x) (e2 : a2.toInt = y) (hx : b6 x) (hy : b6 y) (hb : (44 = 43 ∨ 44 = 44) → (x = 0 ∨ x = 1) ∧ (y = 0 ∨ y = 1)) (k : ∀ r : Int64, r.toInt = opI 44 x y → Post r) : VC_X2_join Post (nI 44) a1 a2 := by
  rw [opI_44] at k
  have cge := cge6 e1 e2
  have cle := cle6 e1 e2
  have cgt := cgt6 e1 e2
  have clt := clt6 e1 e2
  have ceq := ceq6 e1 e2
  have z0 : (0 : Int64).toInt = 0 := (by decide)
  have z1 : (1 : Int64).toInt = 1 := (by decide)
  have c0 := ceq6 e2 z0
  have hb := fun w => hb w
  obtain ⟨hx1, hx2⟩ := id hx
  obtain ⟨hy1, hy2⟩ := id hy
  replace hb := hb (by decide)
  exact ⟨fun z => absurd z (by decide), fun z => absurd z (by decide), fun z => absurd z (by decide), fun z => absurd z (by decide), fun z => absurd z (by decide), fun z => absurd z (by decide), fun z => absurd z (by decide), fun z => absurd z (by decide), fun z => absurd z (by decide), fun z => absurd z (by decide), fun z => absurd z (by decide), fun z => absurd z (by decide), fun z => absurd z (by decide), fun z => absurd z (by decide), fun z => absurd z (by decide), fun z => absurd z (by decide), fun z => absurd z (by decide), fun z => absurd z (by decide), fun z => absurd z (by decide), fun z => absurd z (by decide), fun z => absurd z (by decide), fun z => absurd z (by decide), fun z => absurd z (by decide), fun z => absurd z (by decide), fun z => absurd z (by decide), fun z => absurd z (by decide), fun z => absurd z (by decide), fun z => absurd z (by decide), fun z => absurd z (by decide), fun z => absurd z (by decide), fun z => absurd z (by decide), fun z => absurd z (by decide), fun z => absurd z (by decide), fun z => absurd z (by decide), fun z => absurd z (by decide), fun z => absurd z (by decide), fun z => absurd z (by decide), fun z => absurd z (by decide), fun z => absurd z (by decide), fun z => absurd z (by decide), fun z => absurd z (by decide), fun z => absurd z (by decide), fun z => absurd z (by decide), fun z => absurd z (by decide), fun _ => k _ (and6 e1 e2 hb), fun _ _ _ _ _ _ _ _ _ _ _ _ _ _ _ _ _ _ _ _ _ _ _ _ _ _ _ _ _ _ _ _ _ _ _ _ _ _ _ _ _ _ _ _ z  => absurd rfl z⟩
def tOK (t : Nat) : Prop := t ≤ 7 ∨ t = 13 ∨ t = 14 ∨ t = 43 ∨ t = 44
theorem c_join {Post : Int64 → Prop} {t : Nat} (ht : tOK t) (e1 : a1.toInt = x) (e2 : a2.toInt = y) (hx : b6 x) (hy : b6 y) (hb : (t = 43 ∨ t = 44) → (x = 0 ∨ x = 1) ∧ (y = 0 ∨ y = 1)) (k : ∀ r : Int64, r.toInt = opI t x y → Post r) : VC_X2_join Post (nI t) a1 a2 := by
  unfold tOK at ht
  have cs : t = 0 ∨ t = 1 ∨ t = 2 ∨ t = 3 ∨ t = 4 ∨ t = 5 ∨ t = 6 ∨ t = 7 ∨ t = 13 ∨ t = 14 ∨ t = 43 ∨ t = 44 := (by omega)
  rcases cs with e | e | e | e | e | e | e | e | e | e | e | e <;> subst e
  · exact c_join_0 e1 e2 hx hy hb k
  · exact c_join_1 e1 e2 hx hy hb k
  · exact c_join_2 e1 e2 hx hy hb k
  · exact c_join_3 e1 e2 hx hy hb k
  · exact c_join_4 e1 e2 hx hy hb k
  · exact c_join_5 e1 e2 hx hy hb k
  · exact c_join_6 e1 e2 hx hy hb k
  · exact c_join_7 e1 e2 hx hy hb k
  · exact c_join_13 e1 e2 hx hy hb k
  · exact c_join_14 e1 e2 hx hy hb k
  · exact c_join_43 e1 e2 hx hy hb k
  · exact c_join_44 e1 e2 hx hy hb k
end CMP6
theorem clI_6 {z : Int} : b6 (cl6 z) := by
  unfold cl6 clI b6
  split
  · omega
  · split <;> omega
theorem cl6_id {z : Int} (h : b6 z) : cl6 z = z := by
  obtain ⟨a, b⟩ := h
  unfold cl6 clI
  rw [if_neg (by omega), if_neg (by omega)]
theorem c_clampI {Post : Int32 → Prop} {r : Int64} {lo hi : Int32} {L H : Int} (eL : lo.toInt = L) (eH : hi.toInt = H) (hL : -2000000000 ≤ L) (hLH : L ≤ H) (hH : H ≤ 2000000000) (k : ∀ s : Int32, s.toInt = clI L H r.toInt → Post s) : VC_X11_clamp Post r lo hi := by
  refine k _ ?_
  have fL : lo.toInt64.toInt = L := by rw [Int32.toInt_toInt64, eL]
  have fH : hi.toInt64.toInt = H := by rw [Int32.toInt_toInt64, eH]
  unfold clI
  rw [Int64.toInt_toInt32]
  by_cases a : r < hi.toInt64
  · have a' : r.toInt < H := by rw [Int64.lt_iff_toInt_lt, fH] at a; exact a
    rw [if_pos a]
    by_cases b : r < lo.toInt64
    · have b' : r.toInt < L := by rw [Int64.lt_iff_toInt_lt, fL] at b; exact b
      rw [if_pos b, fL, if_pos b', bm32 hL (by omega)]
    · have b' : ¬ r.toInt < L := by rw [Int64.lt_iff_toInt_lt, fL] at b; exact b
      rw [if_neg b, if_neg b', if_neg (by omega), bm32 (by omega) (by omega)]
  · have a' : ¬ r.toInt < H := by rw [Int64.lt_iff_toInt_lt, fH] at a; exact a
    have b : ¬ hi.toInt64 < lo.toInt64 := by rw [Int64.lt_iff_toInt_lt, fL, fH]; omega
    rw [if_neg a, if_neg b, fH, bm32 (by omega) hH, if_neg (by omega)]
    split <;> omega
theorem r_clip {Post : Int64 → Prop} {a : Int64} (k : ∀ r : Int64, r.toInt = cl6 a.toInt → Post r) : VC_clip Post a := by
  have p1 : (1000000 : Int64).toInt = 1000000 := (by decide)
  have p2 : (-1000000 : Int64).toInt = -1000000 := (by decide)
  have h1 := cle6 (a1 := a) rfl p1
  have h2 := cge6 (a1 := a) rfl p2
  refine ⟨fun g => ⟨fun f => k _ ?_, fun f => k _ ?_⟩, fun g => k _ ?_⟩
  · have := h1.mp g
    have := h2.mp f
    unfold cl6 clI
    rw [if_neg (by omega), if_neg (by omega)]
  · have : ¬ -1000000 ≤ a.toInt := fun w => f (h2.mpr w)
    unfold cl6 clI
    rw [p2, if_pos (by omega)]
  · have : ¬ a.toInt ≤ 1000000 := fun w => g (h1.mpr w)
    unfold cl6 clI
    rw [p1, if_neg (by omega), if_pos (by omega)]
theorem r_two {Post : Int64 → Prop} {t : Nat} {a1 a2 : Int64} {x y : Int} (ht : t = 4 ∨ t = 5 ∨ t = 6 ∨ t = 7) (e1 : a1.toInt = x) (e2 : a2.toInt = y) (hx : b6 x) (hy : b6 y) (k : ∀ r : Int64, r.toInt = cl6 (opI t x y) → Post r) : VC_two Post (nI (roF t)) a1 a2 := by
  obtain ⟨hx1, hx2⟩ := id hx
  obtain ⟨hy1, hy2⟩ := id hy
  have z0 : (0 : Int64).toInt = 0 := (by decide)
  have c0 := ceq6 e2 z0
  rcases ht with e | e | e | e <;> subst e
  · rw [opI_4] at k
    refine ⟨fun _ => r_clip (fun r e => k r ?_), fun z => absurd z (by decide), fun z => absurd z (by decide), fun z => absurd rfl z⟩
    rw [e, Int64.toInt_add, e1, e2, bm64 (by omega) (by omega)]
  · rw [opI_5] at k
    refine ⟨fun z => absurd z (by decide), fun _ => r_clip (fun r e => k r ?_), fun z => absurd z (by decide), fun _ z => absurd rfl z⟩
    rw [e, Int64.toInt_sub, e1, e2, bm64 (by omega) (by omega)]
  · rw [opI_6] at k
    refine ⟨fun z => absurd z (by decide), fun z => absurd z (by decide), fun _ => r_clip (fun r e => k r ?_), fun _ _ z => absurd rfl z⟩
    rw [e, Int64.toInt_mul, e1, e2, bm64 (mul6 hx hy).1 (mul6 hx hy).2]
  · rw [opI_7] at k
    refine ⟨fun z => absurd z (by decide), fun z => absurd z (by decide), fun z => absurd z (by decide), fun _ _ _ => ⟨fun g => ⟨fun w => g (c0.mpr (by rw [← e2, w]; decide)), r_clip (fun r e => k r ?_)⟩, fun g => k _ ?_⟩⟩
    · rw [e, Int64.toInt_div, e1, e2, bm64 (div6 hx).1 (div6 hx).2, if_neg (fun w => g (c0.mpr w))]
    · rw [z0, if_pos (c0.mp g)]; rfl
theorem r_asked {Post : Int32 → Prop} {t : Nat} {a1 a2 : Int64} {x y : Int} (ht : isCmp t = true) (e1 : a1.toInt = x) (e2 : a2.toInt = y) (k1 : opI t x y = 1 → Post 1) (k0 : opI t x y = 0 → Post 0) : VC_isAsked Post (nI (roF t)) a1 a2 := by
  have cge := cge6 e1 e2
  have cle := cle6 e1 e2
  have cgt := cgt6 e1 e2
  have clt := clt6 e1 e2
  have ceq := ceq6 e1 e2
  have ht := of_decide_eq_true ht
  have cs : t = 0 ∨ t = 13 ∨ t = 1 ∨ t = 14 ∨ t = 2 ∨ t = 3 := (by omega)
  rcases cs with e | e | e | e | e | e <;> subst e
  · rw [opI_0] at k1 k0
    exact ⟨fun z => absurd rfl z, fun _ => ⟨fun g => k0 (if_neg (by have := cge.mp g; omega)), fun g => k1 (if_pos (Int.not_le.mp (fun w => g (cge.mpr w))))⟩⟩
  · rw [opI_13] at k1 k0
    exact ⟨fun _ => ⟨fun z => absurd rfl z, fun _ => ⟨fun g => k0 (if_neg (by have := cgt.mp g; omega)), fun g => k1 (if_pos (Int.not_lt.mp (fun w => g (cgt.mpr w))))⟩⟩, fun z => absurd z (by decide)⟩
  · rw [opI_1] at k1 k0
    exact ⟨fun _ => ⟨fun _ => ⟨fun z => absurd rfl z, fun _ => ⟨fun g => k0 (if_neg (by have := cle.mp g; omega)), fun g => k1 (if_pos (Int.not_le.mp (fun w => g (cle.mpr w))))⟩⟩, fun z => absurd z (by decide)⟩, fun z => absurd z (by decide)⟩
  · rw [opI_14] at k1 k0
    exact ⟨fun _ => ⟨fun _ => ⟨fun _ => ⟨fun z => absurd rfl z, fun _ => ⟨fun g => k0 (if_neg (by have := clt.mp g; omega)), fun g => k1 (if_pos (Int.not_lt.mp (fun w => g (clt.mpr w))))⟩⟩, fun z => absurd z (by decide)⟩, fun z => absurd z (by decide)⟩, fun z => absurd z (by decide)⟩
  · rw [opI_2] at k1 k0
    exact ⟨fun _ => ⟨fun _ => ⟨fun _ => ⟨fun _ => ⟨fun z => absurd rfl z, fun _ => ⟨fun g => k0 (if_neg (fun w => g (ceq.mpr w))), fun g => k1 (if_pos (ceq.mp g))⟩⟩, fun z => absurd z (by decide)⟩, fun z => absurd z (by decide)⟩, fun z => absurd z (by decide)⟩, fun z => absurd z (by decide)⟩
  · rw [opI_3] at k1 k0
    exact ⟨fun _ => ⟨fun _ => ⟨fun _ => ⟨fun _ => ⟨fun _ => ⟨fun g => k0 (if_pos (ceq.mp g)), fun g => k1 (if_neg (fun w => g (ceq.mpr w)))⟩, fun z => absurd z (by decide)⟩, fun z => absurd z (by decide)⟩, fun z => absurd z (by decide)⟩, fun z => absurd z (by decide)⟩, fun z => absurd z (by decide)⟩
theorem cmp_01 {t : Nat} {x y : Int} (ht : isCmp t = true) : opI t x y = 0 ∨ opI t x y = 1 := by
  have ht := of_decide_eq_true ht
  have cs : t = 0 ∨ t = 13 ∨ t = 1 ∨ t = 14 ∨ t = 2 ∨ t = 3 := (by omega)
  rcases cs with e | e | e | e | e | e <;> subst e
  · rw [opI_0]; split <;> omega
  · rw [opI_13]; split <;> omega
  · rw [opI_1]; split <;> omega
  · rw [opI_14]; split <;> omega
  · rw [opI_2]; split <;> omega
  · rw [opI_3]; split <;> omega
theorem r_held {Post : Int32 → Prop} {a : Int64} {h : Nat} (hh : h ≤ 1000) (k : Post (nI (clI 0 h a.toInt).toNat)) : VC_held Post a 0 (nI h) := by
  have p1 : (0 : Int32).toInt64.toInt = 0 := (by decide)
  have p2 : (nI h).toInt64.toInt = (h : Int) := by rw [Int32.toInt_toInt64, ntoInt (by omega)]
  have h1 := cge6 (a1 := a) rfl p1
  have h2 := cle6 (a1 := a) rfl p2
  unfold clI at k
  refine ⟨fun g => ⟨fun f => ?_, fun f => ?_⟩, fun g => ?_⟩
  · have g := h1.mp g
    have f := h2.mp f
    rw [if_neg (by omega), if_neg (by omega)] at k
    have : a.toInt32 = nI a.toInt.toNat := Int32.toInt_inj.mp (by rw [Int64.toInt_toInt32, bm32 (by omega) (by omega), ntoInt (by omega)]; omega)
    rw [this]; exact k
  · have g := h1.mp g
    have f : ¬ a.toInt ≤ (h : Int) := fun w => f (h2.mpr w)
    rw [if_neg (by omega), if_pos (by omega)] at k
    exact k
  · have g : ¬ 0 ≤ a.toInt := fun w => g (h1.mpr w)
    rw [if_pos (by omega)] at k
    exact k
