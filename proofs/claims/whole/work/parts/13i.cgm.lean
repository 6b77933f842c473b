/-! the class's nonterminals -/
section CGM
variable {T : Nat → Nat} {m l : Nat}
theorem le300 {t : Nat} (h : t ≤ 300) : ((300 : Int32) ≤ nI t) = (300 ≤ t) := by
  apply propext
  constructor
  · intro z
    rcases Nat.lt_or_ge t 300 with y | y
    · exact absurd z (nI_ge (b := 300) y (by decide))
    · exact y
  · intro z; exact nI_le (a := 300) z (by omega)
theorem sub1 {o : Nat} : nI (o + 1) - 1 = nI o := by rw [L1, nsub (by omega)]; rfl
theorem c_un {d k1 w : Nat} {mk : EX → EX} (hw : w < 128) (hmk : ∀ s e, cC s (mk e) = cC s e ++ [(w, 0)]) (hcl : ∀ e, cl (mk e) = cl e + 1) (ih : CGd T m l d) (hk : k1 ≤ 6) (hk3 : k1 ≠ 3) {Post : XS → Prop} {S : XS} {q o s : Nat} (h : cst S T m l q o s) (hd : 8 * (8 - o) + hK k1 ≤ d) (t : tkC T m q ≠ 16)
    (hp : ∀ S', res T m l S o s S' (if o < 8 then bnd (PF T m l d k1 (nx T m q) (o + 1)) (fun q e => .inr (q, mk e)) else .inl (3, q)) → Post S') :
    VC_X3_enter_43 (fun S1 => VG d k1 (fun S2 => VC_X3_emit_43 (fun _ S3 => ∀ v5 : Int32, v5 = (S3.1 1384) - 1 → ∀ S6 : XS, S6 = xI S3 1384 v5 → Post S6) (nI w) (nI 0) S2) S1) S := by
  have lt := nx_lt (T := T) h.2.1 t
  refine c_enter h (fun ho S1 k1' => ?_) (fun ho S1 f1 => ?_)
  · rw [if_pos ho] at hp
    refine ih k1 _ S1 (nx T m q) (o + 1) s hk k1'.1 (by omega) (fun S2 r2 => ?_)
    have gr := PF_gr (T := T) (m := m) (l := l) d k1 (nx T m q) (o + 1) k1'.1.2.1
    cases hh : PF T m l d k1 (nx T m q) (o + 1) with
    | inl v =>
      obtain ⟨f, q'⟩ := v
      rw [hh] at r2 hp
      refine f_emit (r2.2.up k1'.2.1) (fun r S3 f3 v5 e5 S6 e6 => hp S6 ⟨r2.1, ?_⟩)
      rw [e6]; exact f3.opn _
    | inr v =>
      obtain ⟨q', e⟩ := v
      rw [hh] at r2 hp gr
      have g1 : nx T m q + cl e ≤ q' := gr.1
      have g2 : q' ≤ m := gr.2
      have m3 := h.1.2.1
      have sq := h.2.2.2.2.2.2.2
      have le := r2.2 s
      have k := k1'.app (M := cC s e) r2.1
      rw [List.nil_append] at k
      have s7 := k.1.2.2.2.2.2.2.1
      rw [le] at s7
      refine c_emit hw (by decide) s7 (by omega) (fun v5 e5 S6 e6 => hp S6 ⟨?_, fun s => ?_⟩)
      · have k2 := (k.emit (w := (w, 0)) (by rw [le]; omega)).opn o (by omega)
        rw [le] at k2
        rw [hmk]
        rw [emS_n (by decide), k.1.2.2.2.2.1.1, sub1] at e5
        rw [e6, e5]; exact k2
      · rw [hmk, hcl, List.length_append, r2.2]; rfl
  · rw [if_neg ho] at hp
    refine fall (f := nI 3) (nI_n0 (by omega)) d k1 _ S1 (by omega) hk hk3 f1 (fun S2 f2 => f_emit f2 (fun r S3 f3 v5 e5 S6 e6 => hp S6 ⟨(by omega), ?_⟩))
    rw [e6]; exact f3.opn _
/-- written, then read on: the size may meet the next place alone -/
theorem c_name_adv {Post : XS → Prop} {S : XS} {q o s : Nat} {w : Nat × Nat} (h : cst S T m l q o s) (hq : q < nx T m q) (k : ∀ S', OKL T m l S S' (nx T m q) o s [w] → Post S') : VC_X3_advance_43 Post (emS S s w) := by
  obtain ⟨h1, h2, h3, ⟨k1, k2, k3, k4⟩, h5, h6, h7, h8⟩ := h
  have le := nx_le (T := T) h2
  have cf : CF S (emS S s w) := ((CF.refl S).F _).I _ _ (by omega)
  refine c_adv (cf.tp h1) (by rw [emS_n (by decide)]; exact h3) (by rw [emS_n (by decide)]; exact k1) (tkE_le h2).2 (fun S' a a0 a2 a1 a3 => k S' ⟨⟨a.tp (cf.tp h1), le.2, ?_, ⟨a0, a2, a1, a3⟩, ⟨?_, h5.2⟩, ⟨?_, h6.2⟩, ?_, ?_⟩, cf.trans a.cf, ?_, ?_, ?_⟩)
  · rw [a.1 1377 (by decide) (by decide) (by decide) (by decide), emS_n (by decide)]; exact h3
  · rw [a.1 1384 (by decide) (by decide) (by decide) (by decide), emS_n (by decide)]; exact h5.1
  · rw [a.1 1385 (by decide) (by decide) (by decide) (by decide), emS_n (by decide)]; exact h6.1
  · rw [a.1 1387 (by decide) (by decide) (by decide) (by decide)]; exact xI_s _ _ _
  · show s + 1 ≤ nx T m q
    omega
  · rw [a.1 1378 (by decide) (by decide) (by decide) (by decide), emS_n (by decide)]
  · intro j hj
    rw [a.2, emS_f, upd_n _ _ (by omega)]
  · rw [a.2]
    exact hasC.one (by rw [emS_f, upd_s])
theorem nm_tab : ∀ a : Fin 4, ∀ i : Fin 11, ((((eN.getD a.1 0) >>> (nI i.1 &&& 31)) &&& 1) = 0) ↔ nmB a.1 i.1 = false := by decide +kernel
theorem nm_neg : ∀ t : Fin 46, nI t.1 - 46 < 0 := by decide +kernel
theorem PF_2 {d q o : Nat} : PF T m l (d + 1) 2 q o =
      if tkC T m q = 5 then (if o < 8 then bnd (PF T m l d 2 (nx T m q) (o + 1)) (fun q e => .inr (q, (eNeg e))) else .inl (3, q))
      else if tkC T m q = 8 then (if o < 8 then bnd (PF T m l d 0 (nx T m q) (o + 1)) (fun q e => due T m 9 q (fun q => .inr (q, e))) else .inl (3, q))
      else if tkC T m q = 15 then (if rkV T m q ≤ 9999 then .inr ((nx T m q), (eNum (rkV T m q))) else .inl (2, q))
      else if tkC T m q = 41 then PF T m l d 3 q o
      else if 46 ≤ tkC T m q then (if nmB l (tkC T m q - 46) = true then .inr ((nx T m q), (eNam (tkC T m q - 46))) else .inl (5, q))
      else .inl (1, q) := rfl
theorem c_one {d : Nat} (ih : CGd T m l d) {Post : XS → Prop} {S : XS} {q o s : Nat} (h : cst S T m l q o s) (hd : 8 * (9 - o) + 1 ≤ d + 1) (hp : ∀ S', res T m l S o s S' (PF T m l (d + 1) 2 q o) → Post S') : VC_X3_parseOne_43 (VG d) Post S := by
  have hT := h.hT
  obtain ⟨u1, u2, u3, ⟨v1, v2, v3, v4⟩, u5, u6, u7, u8⟩ := id h
  have tl := tkC_lt (q := q) hT
  have m3 := u1.2.1
  have o8 := u5.2
  have le := nx_le (T := T) u2
  have tk : ∀ c, c < 57 → (S.1 1381 = nI c ↔ tkC T m q = c) := fun c hc => by rw [v3, neq (by omega) (by omega)]
  have K0 : hK 0 = 3 := rfl
  have K2 : hK 2 = 1 := rfl
  have K3 : hK 3 = 0 := rfl
  rw [PF_2] at hp
  refine ⟨fun z => ?_, fun z => ?_, fun z => ?_, fun z => ?_, fun n1 n2 n3 n4 => ?_⟩
  · have t := (tk 5 (by decide)).mp z
    rw [if_pos t] at hp
    exact c_un (w := 64) (mk := eNeg) (by decide) (fun _ _ => rfl) (fun _ => rfl) ih (by decide) (by decide) h (by omega) (by omega) hp
  · have t := (tk 8 (by decide)).mp z
    rw [if_neg (by omega), if_pos t] at hp
    have lt := nx_lt (T := T) u2 (by omega)
    refine c_enter h (fun ho S1 k1 => ?_) (fun ho S1 f1 => ?_)
    · rw [if_pos ho] at hp
      refine ih 0 _ S1 (nx T m q) (o + 1) s (by decide) k1.1 (by omega) (fun S2 r2 => ?_)
      cases hh : PF T m l d 0 (nx T m q) (o + 1) with
      | inl v =>
        obtain ⟨f, q'⟩ := v
        rw [hh] at r2 hp
        refine f_expect (by decide) (nI_n0 r2.1) (r2.2.up k1.2.1) (fun S3 f3 v5 e5 S6 e6 => hp S6 ⟨r2.1, ?_⟩)
        rw [e6]; exact f3.opn _
      | inr v =>
        obtain ⟨q', e⟩ := v
        rw [hh, bnd_r] at hp
        rw [hh] at r2
        have k := k1.app (M := cC s e) r2.1
        rw [List.nil_append] at k
        unfold due at hp
        refine c_expect (a := 9) (by decide) k (fun t9 S3 k3 v5 e5 S6 e6 => ?_) (fun t9 S3 f3 v5 e5 S6 e6 => ?_)
        · rw [if_pos t9] at hp
          refine hp S6 ⟨?_, r2.2⟩
          rw [k3.1.2.2.2.2.1.1, sub1] at e5
          rw [e6, e5]; exact k3.opn o o8
        · rw [if_neg t9] at hp
          refine hp S6 ⟨(by decide), ?_⟩
          rw [e6]; exact f3.opn _
    · rw [if_neg ho] at hp
      refine fall (f := nI 3) (nI_n0 (by omega)) d 0 _ S1 (by omega) (by decide) (by decide) f1 (fun S2 f2 => f_expect (by decide) (nI_n0 (f := 3) (by decide)) f2 (fun S3 f3 v5 e5 S6 e6 => hp S6 ⟨(by decide), ?_⟩))
      rw [e6]; exact f3.opn _
  · have t := (tk 15 (by decide)).mp z
    rw [if_neg (by omega), if_neg (by omega), if_pos t] at hp
    have lt := nx_lt (T := T) u2 (by omega)
    have vm := tkV_min (T := T) u2
    refine ⟨fun _ => ?_, fun y => absurd z y⟩
    rw [v4 t]
    by_cases b : rkV T m q ≤ 9999
    · rw [if_pos b] at hp
      have ev : tkV T m q = rkV T m q := by rw [vm, if_pos (by omega)]
      rw [ev]
      refine wIn (fun y => ?_) (fun _ _ => ⟨fun _ v2 e2 => c_advs h (fun S3 c3 a3 => ?_), fun y => absurd y (by decide)⟩)
      · rcases y with y | y
        · exact absurd y (nI_pos (by omega))
        · exact absurd y (nI_nlt (a := 9999) b (by decide))
      · have k := (OKL.nil h).adv c3 a3
        rw [e2]
        refine c_emit (a := 60) (by decide) (by omega) (k.1.2.2.2.2.2.2.1) (by show s + 0 < 300; omega) ?_
        exact hp _ ⟨k.emit (w := (60, rkV T m q)) (by show s + 0 + 1 ≤ _; omega), fun _ => rfl⟩
    · rw [if_neg b] at hp
      have ev : tkV T m q = 10000 := by
        rw [vm]
        split
        · omega
        · rfl
      rw [ev]
      refine wIn (fun _ => ⟨fun y => absurd rfl y, fun _ => c_fails (f := 2) (CF.refl S) h (fun S4 f4 => f_emit f4 (fun r S5 f5 => hp S5 ⟨(by decide), f5⟩))⟩) (fun _ y => absurd (by decide) y)
  · have t := (tk 41 (by decide)).mp z
    rw [if_neg (by omega), if_neg (by omega), if_neg (by omega), if_pos t] at hp
    exact ih 3 _ S q o s (by decide) h (by omega) hp
  · have t5 : ¬ tkC T m q = 5 := fun y => n1 ((tk 5 (by decide)).mpr y)
    have t8 : ¬ tkC T m q = 8 := fun y => n2 ((tk 8 (by decide)).mpr y)
    have t15 : ¬ tkC T m q = 15 := fun y => n3 ((tk 15 (by decide)).mpr y)
    have t41 : ¬ tkC T m q = 41 := fun y => n4 ((tk 41 (by decide)).mpr y)
    rw [if_neg t5, if_neg t8, if_neg t15, if_neg t41] at hp
    intro w1 ew
    rw [v3] at ew
    by_cases b : 46 ≤ tkC T m q
    · rw [if_pos b] at hp
      rw [show (46 : Int32) = nI 46 from rfl, nsub b] at ew
      subst ew
      have lt := nx_lt (T := T) u2 (by omega)
      refine wIn (fun y => ?_) (fun _ _ => ⟨fun _ => ?_, fun y => absurd y (by decide)⟩)
      · rcases y with y | y
        · exact absurd y (nI_pos (by omega))
        · exact absurd y (nI_nlt (a := 10) (by omega) (by decide))
      · have tab := nm_tab ⟨l, u6.2⟩ ⟨tkC T m q - 46, (by omega)⟩
        simp only at tab
        have l4 := u6.2
        rw [u6.1, ncl (by omega), tab]
        refine ⟨vp_in_nI l4 (by decide), fun y => ?_, fun y => ?_⟩
        · have y' : nmB l (tkC T m q - 46) = true := by
            cases x : nmB l (tkC T m q - 46)
            · exact absurd x y
            · rfl
          rw [if_pos y'] at hp
          refine c_emit (a := 61) (by decide) (by omega) u7 (by omega) ?_
          have k := OKL.nil h
          have sz : s + 1 ≤ nx T m q := (by omega)
          refine c_name_adv h (by omega) (fun S' k' => hp S' ⟨k', fun _ => rfl⟩)
        · rw [if_neg (by rw [y]; decide)] at hp
          exact c_fails (f := 5) (CF.refl S) h (fun S' f' => hp S' ⟨(by decide), f'⟩)
    · rw [if_neg b] at hp
      subst ew
      refine wIn (fun _ => ⟨fun y => absurd rfl y, fun _ => c_fails (f := 1) (CF.refl S) h (fun S' f' => hp S' ⟨(by decide), f'⟩)⟩) (fun y _ => absurd (nm_neg ⟨tkC T m q, (by omega)⟩) y)
end CGM
