/-! the reference's run keeps to the descent -/
def asks (P : List Nat) : Prop := koF P = 41 ∧ icF P = false ∧ iaF P = true
def rkK (k : Nat) : Nat := ([5, 6, 7, 7, 1, 2, 3] : List Nat).getD k 0
def lwK (k : Nat) : Nat := ([5, 6, 8, 8, 1, 2, 4] : List Nat).getD k 0
def pbK (k : Nat) : Nat := ([4, 5, 6, 6, 1, 2, 3] : List Nat).getD k 0
def topK (k : Nat) (P : List Nat) : Prop := low (lwK k) P ∧ (4 ≤ k → asks P)
def rres (T : Nat → Nat) (m b l : Nat) (Post : Int32 → MS → Prop) (K : Hd_parsed → MS → Prop) (y : MS) (k : Nat) (P : List Nat) (W : List (Nat × Nat)) : PR → Prop
  | .inl (f, q') => ∀ y', RF b y y' → y'.1 8 = nI q' → Post (nI f) y'
  | .inr (q', e) => ∀ P' W' y', rs T m b l y' P' W' 1 q' → RF b y y' → stl (rkK k) P' W' = stl (rkK k) P (W ++ rC e) → P'.length ≤ 60 → (4 ≤ k → icF P' = true) → K (.inl (0, 1)) y'
def RGd (T : Nat → Nat) (m b l d : Nat) (Post : Int32 → MS → Prop) (K : Hd_parsed → MS → Prop) : Prop := ∀ (k q : Nat) (P : List Nat) (W : List (Nat × Nat)) (y : MS), k ≤ 6 → rs T m b l y P W 0 q → 8 * (9 - cnt P) + hK k ≤ d → P.length ≤ 6 * cnt P + pbK k → topK k P → (k ≤ 3 → tkC T m q = 45 → iaF P = false) → (k = 3 → tkC T m q = 41) → rres T m b l Post K y k P W (PF T m l d k q (cnt P)) → K (.inl (0, 1)) y
section RG
variable {T : Nat → Nat} {m b l : Nat} {Post : Int32 → MS → Prop} {K : Hd_parsed → MS → Prop}
theorem low.up {r s : Nat} {P : List Nat} (h : low r P) (hs : r ≤ s) : low s P := fun a Q e => Nat.lt_of_lt_of_le (h a Q e) hs
theorem low8 {P : List Nat} : low 8 P := fun a Q e => by have := rkF_7 (a := a); omega
theorem low_c {r a : Nat} {P : List Nat} (h : rkF a < r) : low r (a :: P) := fun c Q e => by rw [← (List.cons.inj e).1]; exact h
theorem rs.pl8 {y : MS} {P : List Nat} {W : List (Nat × Nat)} {w q : Nat} (h : rs T m b l y P W w q) : y.1 8 = nI q := h.2.2.1.2.1
theorem rs.o8 {y : MS} {P : List Nat} {W : List (Nat × Nat)} {w q : Nat} (h : rs T m b l y P W w q) : cnt P ≤ 8 := h.2.2.2.1.2.2.2.1.2
theorem ia_no {a : Nat} {P : List Nat} (h1 : a ≠ 41) (h2 : rkF a = 0 ∨ 4 ≤ rkF a) : iaF (a :: P) = false := decide_eq_false (fun z => by have := z.2; omega)
theorem r_loop {d k k1 c1 c2 o : Nat} (hB : ∀ h S, B_parsed Post K h S → K h S) (ih : RGd T m b l d Post K) (hk1 : k1 ≤ 6) (hk3 : k1 ≠ 3) {P : List Nat} {W : List (Nat × Nat)} {y0 : MS} (ho : cnt P = o) (hd : 8 * (9 - o) + hK k1 ≤ d) (pb : P.length + 1 ≤ 6 * o + pbK k1) (lo : low (rkK k) P) (r1 : 1 ≤ rkK k) (rk : rkK k ≤ rkK k1) (ic : 4 ≤ k → 4 ≤ k1)
    (c : ∀ t, t = c1 ∨ t = c2 → t ≠ 16 ∧ rkF (roF t) = rkK k ∧ roF t ≠ 0 ∧ topK k1 (roF t :: P) ∧ cnt (roF t :: P) = cnt P ∧ (k1 ≤ 3 → iaF (roF t :: P) = false))
    (bw : ∀ Z t, t = c1 ∨ t = c2 → koF Z = koF P → (4 ≤ k1 → icF Z = true) → bwN Z t = roF t) :
    ∀ (n q : Nat) (e : EX) (Z : List Nat) (ZW : List (Nat × Nat)) (y : MS), rs T m b l y Z ZW 1 q → RF b y0 y → stl (rkK k) Z ZW = stl (rkK k) P (W ++ rC e) → Z.length ≤ 60 → (4 ≤ k1 → icF Z = true) → rres T m b l Post K y0 k P W (loopF T m (fun q => PF T m l d k1 q o) c1 c2 n q e) → K (.inl (0, 1)) y := by
  intro n
  induction n with
  | zero =>
    intro q e Z ZW y h f st le i hp
    exact hp Z ZW y h f st le (fun z => i (ic z))
  | succ n ihn =>
    intro q e Z ZW y h f st le i hp
    unfold loopF at hp
    by_cases z : tkC T m q = c1 ∨ tkC T m q = c2
    · rw [if_pos z] at hp
      obtain ⟨t16, tr, t0, tt, tc, ti⟩ := c _ z
      have eb := bw Z _ z (alike_ko r1 st).1 i
      have nz : bwN Z (tkC T m q) ≠ 0 := by rw [eb]; exact t0
      have no : ∀ {X : Prop}, bwN Z (tkC T m q) = 0 → X := fun w => absurd w nz
      refine run1 hB h (r_beh h (by omega) (fun _ y' h' f' => ?_) (fun w => no w) (fun w => no w) (fun w => no w) (fun w => no w))
      rw [eb, tr, st, stl_low lo] at h'
      refine ih k1 (nx T m q) (roF (tkC T m q) :: P) (W ++ rC e) y' hk1 h' (by rw [tc, ho]; exact hd) (by rw [tc, ho]; exact pb) tt (fun w _ => ti w) (fun w => absurd w hk3) ?_
      rw [tc, ho]
      cases hh : PF T m l d k1 (nx T m q) o with
      | inl v =>
        obtain ⟨g, q'⟩ := v
        rw [hh] at hp
        exact fun y'' f'' p'' => hp y'' ((f.trans f').trans f'') p''
      | inr v =>
        obtain ⟨q', e'⟩ := v
        rw [hh] at hp
        intro P' W' y'' h'' f'' st'' le'' i''
        refine ihn q' (eTwo (tkC T m q) e e') P' W' y'' h'' ((f.trans f').trans f'') ?_ le'' i'' hp
        have a := alike_low rk st''
        have p : stl (rkK k) (roF (tkC T m q) :: P) (W ++ rC e ++ rC e') = stl (rkK k) P (W ++ rC e ++ rC e' ++ [(roF (tkC T m q), 0)]) := if_neg (by omega)
        rw [a, p]
        show _ = stl (rkK k) P (W ++ (rC e ++ rC e' ++ [(roF (tkC T m q), 0)]))
        rw [List.append_assoc, List.append_assoc, List.append_assoc]
    · rw [if_neg z] at hp
      exact hp Z ZW y h f st le (fun z => i (ic z))
theorem r_head {d k k1 c1 c2 q : Nat} (hB : ∀ h S, B_parsed Post K h S → K h S) (ih : RGd T m b l d Post K) (hk1 : k1 ≤ 6) (hk3 : k1 ≠ 3) {P : List Nat} {W : List (Nat × Nat)} {y : MS} (h : rs T m b l y P W 0 q) (hd : 8 * (9 - cnt P) + hK k1 ≤ d) (pb : P.length + 1 ≤ 6 * cnt P + pbK k1) (lo : low (rkK k) P) (r1 : 1 ≤ rkK k) (rk : rkK k ≤ rkK k1) (ic : 4 ≤ k → 4 ≤ k1)
    (tp : topK k1 P) (ni : k1 ≤ 3 → tkC T m q = 45 → iaF P = false)
    (c : ∀ t, t = c1 ∨ t = c2 → t ≠ 16 ∧ rkF (roF t) = rkK k ∧ roF t ≠ 0 ∧ topK k1 (roF t :: P) ∧ cnt (roF t :: P) = cnt P ∧ (k1 ≤ 3 → iaF (roF t :: P) = false))
    (bw : ∀ Z t, t = c1 ∨ t = c2 → koF Z = koF P → (4 ≤ k1 → icF Z = true) → bwN Z t = roF t)
    (hp : rres T m b l Post K y k P W (bnd (PF T m l d k1 q (cnt P)) (fun q e => loopF T m (fun q => PF T m l d k1 q (cnt P)) c1 c2 300 q e))) : K (.inl (0, 1)) y := by
  refine ih k1 q P W y hk1 h hd (by omega) tp ni (fun w => absurd w hk3) ?_
  cases hh : PF T m l d k1 q (cnt P) with
  | inl v =>
    obtain ⟨g, q'⟩ := v
    rw [hh] at hp
    exact hp
  | inr v =>
    obtain ⟨q', e⟩ := v
    rw [hh, bnd_r] at hp
    exact fun P' W' y' h' f' st' le' i' => r_loop hB ih hk1 hk3 rfl hd pb lo r1 rk ic c bw 300 q' e P' W' y' h' f' (alike_low rk st') le' i' hp
end RG
