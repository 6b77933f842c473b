-- isAsked work sumOf smokeIn
def ww_isAsked : List Cond := .code yX12_isAsked cX12_isAsked 5 (some .boolean) :: (WdM ++ wsX120)
theorem q_isAsked : yX12_isAsked.cls ≠ "java/lang/invoke/MethodHandle" ∧ yX12_isAsked.cls ≠ "java/lang/invoke/VarHandle" ∧ (parseMethodDescriptor yX12_isAsked.desc).map (fun d => d.parameters.length) = some 3 := by decide +kernel
def VC_isAsked (Post : Int32 → Prop) (a0 : Int32) (a1 : Int64) (a2 : Int64) : Prop := ((¬ a0 = 10 → ((¬ a0 = 11 → ((¬ a0 = 12 → ((¬ a0 = 13 → ((¬ a0 = 14 → (((lg_cmp a1 a2) = 0 → Post 0) ∧ (¬ (lg_cmp a1 a2) = 0 → Post 1))) ∧ (a0 = 14 → ((¬ (lg_cmp a1 a2) = 0 → Post 0) ∧ ((lg_cmp a1 a2) = 0 → Post 1))))) ∧ (a0 = 13 → (((lg_cmp a1 a2) < 0 → Post 0) ∧ (¬ (lg_cmp a1 a2) < 0 → Post 1))))) ∧ (a0 = 12 → (((lg_cmp a1 a2) ≤ 0 → Post 0) ∧ (¬ (lg_cmp a1 a2) ≤ 0 → Post 1))))) ∧ (a0 = 11 → ((0 < (lg_cmp a1 a2) → Post 0) ∧ (¬ 0 < (lg_cmp a1 a2) → Post 1))))) ∧ (a0 = 10 → ((0 ≤ (lg_cmp a1 a2) → Post 0) ∧ (¬ 0 ≤ (lg_cmp a1 a2) → Post 1))))
set_option maxHeartbeats 4000000 in
set_option maxRecDepth 100000 in
theorem m_isAsked {l : Launch} {Post : Int32 → Prop} (a0 : Int32) (a1 : Int64) (a2 : Int64) (h : VC_isAsked Post a0 a1 a2) : Met l yX12_isAsked ww_isAsked ({ frames := 0, cells := 0, slots := 0, locals := 0 } : Room) (va_Pc [.int a0, .long a1, .long a2] (fun _ => True)) (vp_Si Post) 0 0 (fun _ => False) := by
  refine oS (cc := cX12_isAsked) (maxL := 5) (ret := (some .boolean)) (Qc := vp_Si Post) (by decide) rfl (Nat.le_of_ble_eq_true rfl) (fun p e s m below meth c ls X hr hlocks hl => ?_)
  have hx := X.1
  have hb := X.2.1
  have hl : lv_has ls 5 [(0, .int a0), (1, .long a1), (3, .long a2)] := hl
  dsimp only [VC_isAsked] at h
  refine lv_iload_n hx hb (dk DX12_isAsked 0 rfl) rfl (lv_at hl 0 rfl) ?_
  refine lv_bipush (v := 10) hx hb (dk DX12_isAsked 1 rfl) (by decide) ?_
  refine lv_icmp_ne (tgt := 20) hx hb (dk DX12_isAsked 2 rfl) (by decide) (fun hc => ?_) (fun hc => ?_)
  · have h := h.1 hc
    refine lv_iload_n hx hb (dk DX12_isAsked 11 rfl) rfl (lv_at hl 0 rfl) ?_
    refine lv_bipush (v := 11) hx hb (dk DX12_isAsked 12 rfl) (by decide) ?_
    refine lv_icmp_ne (tgt := 40) hx hb (dk DX12_isAsked 13 rfl) (by decide) (fun hc => ?_) (fun hc => ?_)
    · have h := h.1 hc
      refine lv_iload_n hx hb (dk DX12_isAsked 22 rfl) rfl (lv_at hl 0 rfl) ?_
      refine lv_bipush (v := 12) hx hb (dk DX12_isAsked 23 rfl) (by decide) ?_
      refine lv_icmp_ne (tgt := 60) hx hb (dk DX12_isAsked 24 rfl) (by decide) (fun hc => ?_) (fun hc => ?_)
      · have h := h.1 hc
        refine lv_iload_n hx hb (dk DX12_isAsked 33 rfl) rfl (lv_at hl 0 rfl) ?_
        refine lv_bipush (v := 13) hx hb (dk DX12_isAsked 34 rfl) (by decide) ?_
        refine lv_icmp_ne (tgt := 80) hx hb (dk DX12_isAsked 35 rfl) (by decide) (fun hc => ?_) (fun hc => ?_)
        · have h := h.1 hc
          refine lv_iload_n hx hb (dk DX12_isAsked 44 rfl) rfl (lv_at hl 0 rfl) ?_
          refine lv_bipush (v := 14) hx hb (dk DX12_isAsked 45 rfl) (by decide) ?_
          refine lv_icmp_ne (tgt := 100) hx hb (dk DX12_isAsked 46 rfl) (by decide) (fun hc => ?_) (fun hc => ?_)
          · have h := h.1 hc
            refine lv_lload_n hx hb (dk DX12_isAsked 55 rfl) rfl (lv_at hl 1 rfl) ?_
            refine lv_lload_n hx hb (dk DX12_isAsked 56 rfl) rfl (lv_at hl 2 rfl) ?_
            refine W.lcmp hx hb (dk DX12_isAsked 57 rfl) ?_
            refine lv_if_eq (tgt := 110) hx hb (dk DX12_isAsked 58 rfl) (by decide) (fun hc => ?_) (fun hc => ?_)
            · have h := h.1 hc
              refine lv_iconst (v := 0) hx hb (dk DX12_isAsked 61 rfl) (by decide) ?_
              exact W.zret (v := 0) hx hb hr (by decide) (fun t ht hW => ⟨_, rfl, h, ht⟩) (fun _ h => by cases h) (dk DX12_isAsked 62 rfl)
            · have h := h.2 hc
              refine lv_iconst (v := 1) hx hb (dk DX12_isAsked 59 rfl) (by decide) ?_
              refine lv_goto (tgt := 111) hx hb (dk DX12_isAsked 60 rfl) (by decide) ?_
              exact W.zret (v := 1) hx hb hr (by decide) (fun t ht hW => ⟨_, rfl, h, ht⟩) (fun _ h => by cases h) (dk DX12_isAsked 62 rfl)
          · have h := h.2 hc
            refine lv_lload_n hx hb (dk DX12_isAsked 47 rfl) rfl (lv_at hl 1 rfl) ?_
            refine lv_lload_n hx hb (dk DX12_isAsked 48 rfl) rfl (lv_at hl 2 rfl) ?_
            refine W.lcmp hx hb (dk DX12_isAsked 49 rfl) ?_
            refine lv_if_ne (tgt := 96) hx hb (dk DX12_isAsked 50 rfl) (by decide) (fun hc => ?_) (fun hc => ?_)
            · have h := h.1 hc
              refine lv_iconst (v := 0) hx hb (dk DX12_isAsked 53 rfl) (by decide) ?_
              refine lv_goto (tgt := 111) hx hb (dk DX12_isAsked 54 rfl) (by decide) ?_
              exact W.zret (v := 0) hx hb hr (by decide) (fun t ht hW => ⟨_, rfl, h, ht⟩) (fun _ h => by cases h) (dk DX12_isAsked 62 rfl)
            · have h := h.2 hc
              refine lv_iconst (v := 1) hx hb (dk DX12_isAsked 51 rfl) (by decide) ?_
              refine lv_goto (tgt := 111) hx hb (dk DX12_isAsked 52 rfl) (by decide) ?_
              exact W.zret (v := 1) hx hb hr (by decide) (fun t ht hW => ⟨_, rfl, h, ht⟩) (fun _ h => by cases h) (dk DX12_isAsked 62 rfl)
        · have h := h.2 hc
          refine lv_lload_n hx hb (dk DX12_isAsked 36 rfl) rfl (lv_at hl 1 rfl) ?_
          refine lv_lload_n hx hb (dk DX12_isAsked 37 rfl) rfl (lv_at hl 2 rfl) ?_
          refine W.lcmp hx hb (dk DX12_isAsked 38 rfl) ?_
          refine lv_if_lt (tgt := 76) hx hb (dk DX12_isAsked 39 rfl) (by decide) (fun hc => ?_) (fun hc => ?_)
          · have h := h.1 hc
            refine lv_iconst (v := 0) hx hb (dk DX12_isAsked 42 rfl) (by decide) ?_
            refine lv_goto (tgt := 111) hx hb (dk DX12_isAsked 43 rfl) (by decide) ?_
            exact W.zret (v := 0) hx hb hr (by decide) (fun t ht hW => ⟨_, rfl, h, ht⟩) (fun _ h => by cases h) (dk DX12_isAsked 62 rfl)
          · have h := h.2 hc
            refine lv_iconst (v := 1) hx hb (dk DX12_isAsked 40 rfl) (by decide) ?_
            refine lv_goto (tgt := 111) hx hb (dk DX12_isAsked 41 rfl) (by decide) ?_
            exact W.zret (v := 1) hx hb hr (by decide) (fun t ht hW => ⟨_, rfl, h, ht⟩) (fun _ h => by cases h) (dk DX12_isAsked 62 rfl)
      · have h := h.2 hc
        refine lv_lload_n hx hb (dk DX12_isAsked 25 rfl) rfl (lv_at hl 1 rfl) ?_
        refine lv_lload_n hx hb (dk DX12_isAsked 26 rfl) rfl (lv_at hl 2 rfl) ?_
        refine W.lcmp hx hb (dk DX12_isAsked 27 rfl) ?_
        refine lv_if_le (tgt := 56) hx hb (dk DX12_isAsked 28 rfl) (by decide) (fun hc => ?_) (fun hc => ?_)
        · have h := h.1 hc
          refine lv_iconst (v := 0) hx hb (dk DX12_isAsked 31 rfl) (by decide) ?_
          refine lv_goto (tgt := 111) hx hb (dk DX12_isAsked 32 rfl) (by decide) ?_
          exact W.zret (v := 0) hx hb hr (by decide) (fun t ht hW => ⟨_, rfl, h, ht⟩) (fun _ h => by cases h) (dk DX12_isAsked 62 rfl)
        · have h := h.2 hc
          refine lv_iconst (v := 1) hx hb (dk DX12_isAsked 29 rfl) (by decide) ?_
          refine lv_goto (tgt := 111) hx hb (dk DX12_isAsked 30 rfl) (by decide) ?_
          exact W.zret (v := 1) hx hb hr (by decide) (fun t ht hW => ⟨_, rfl, h, ht⟩) (fun _ h => by cases h) (dk DX12_isAsked 62 rfl)
    · have h := h.2 hc
      refine lv_lload_n hx hb (dk DX12_isAsked 14 rfl) rfl (lv_at hl 1 rfl) ?_
      refine lv_lload_n hx hb (dk DX12_isAsked 15 rfl) rfl (lv_at hl 2 rfl) ?_
      refine W.lcmp hx hb (dk DX12_isAsked 16 rfl) ?_
      refine lv_if_gt (tgt := 36) hx hb (dk DX12_isAsked 17 rfl) (by decide) (fun hc => ?_) (fun hc => ?_)
      · have h := h.1 hc
        refine lv_iconst (v := 0) hx hb (dk DX12_isAsked 20 rfl) (by decide) ?_
        refine lv_goto (tgt := 111) hx hb (dk DX12_isAsked 21 rfl) (by decide) ?_
        exact W.zret (v := 0) hx hb hr (by decide) (fun t ht hW => ⟨_, rfl, h, ht⟩) (fun _ h => by cases h) (dk DX12_isAsked 62 rfl)
      · have h := h.2 hc
        refine lv_iconst (v := 1) hx hb (dk DX12_isAsked 18 rfl) (by decide) ?_
        refine lv_goto (tgt := 111) hx hb (dk DX12_isAsked 19 rfl) (by decide) ?_
        exact W.zret (v := 1) hx hb hr (by decide) (fun t ht hW => ⟨_, rfl, h, ht⟩) (fun _ h => by cases h) (dk DX12_isAsked 62 rfl)
  · have h := h.2 hc
    refine lv_lload_n hx hb (dk DX12_isAsked 3 rfl) rfl (lv_at hl 1 rfl) ?_
    refine lv_lload_n hx hb (dk DX12_isAsked 4 rfl) rfl (lv_at hl 2 rfl) ?_
    refine W.lcmp hx hb (dk DX12_isAsked 5 rfl) ?_
    refine lv_if_ge (tgt := 16) hx hb (dk DX12_isAsked 6 rfl) (by decide) (fun hc => ?_) (fun hc => ?_)
    · have h := h.1 hc
      refine lv_iconst (v := 0) hx hb (dk DX12_isAsked 9 rfl) (by decide) ?_
      refine lv_goto (tgt := 111) hx hb (dk DX12_isAsked 10 rfl) (by decide) ?_
      exact W.zret (v := 0) hx hb hr (by decide) (fun t ht hW => ⟨_, rfl, h, ht⟩) (fun _ h => by cases h) (dk DX12_isAsked 62 rfl)
    · have h := h.2 hc
      refine lv_iconst (v := 1) hx hb (dk DX12_isAsked 7 rfl) (by decide) ?_
      refine lv_goto (tgt := 111) hx hb (dk DX12_isAsked 8 rfl) (by decide) ?_
      exact W.zret (v := 1) hx hb hr (by decide) (fun t ht hW => ⟨_, rfl, h, ht⟩) (fun _ h => by cases h) (dk DX12_isAsked 62 rfl)

def ww_work : List Cond := .code yX12_work cX12_work 9 none :: (WdM ++ wsX120)
theorem q_work : yX12_work.cls = RX12 ∧ yX12_work.cls ≠ "java/lang/invoke/MethodHandle" ∧ yX12_work.cls ≠ "java/lang/invoke/VarHandle" ∧ (parseMethodDescriptor yX12_work.desc).map (fun d => d.parameters.length) = some 1 := by decide +kernel
abbrev Hd_work : Type := (Int32 × Int32 × Int32 × Int32 × Int32 × Int32)
def B_work (Post : MS → Prop) (K : Hd_work → MS → Prop) : Hd_work → MS → Prop
  | (x1, x2, x3, x4, x5, x6), S => vp_in (x2 + 2) 2720 ∧ ((((S.2.2.1 2) (x2 + 2).toNatClampNeg) ≤ x6 → Post S) ∧ (¬ ((S.2.2.1 2) (x2 + 2).toNatClampNeg) ≤ x6 → vp_in (x3 + (2 * x6)) 2720 ∧ ∀ v4 : Int32, v4 = (S.2.2.1 2) (x3 + (2 * x6)).toNatClampNeg → vp_in ((x3 + (2 * x6)) + 1) 2720 ∧ ∀ v5 : Int32, v5 = (S.2.2.1 2) ((x3 + (2 * x6)) + 1).toNatClampNeg → ((1 < v4 → ((¬ v4 = 2 → ((10 ≤ v4 → ((20 ≤ v4 → ((¬ v4 = 20 → ((¬ v4 = 23 → ∀ v6 : Int32, v6 = x5 + (-1) → ((¬ v4 = 21 → vp_in (v6 - 1) 330 ∧ ((¬ ((S.2.2.1 24) (v6 - 1).toNatClampNeg) = 0 → vp_in (v6 - 1) 330 ∧ ∀ S7 : MS, S7 = sF S 24 (upd (S.2.2.1 24) (v6 - 1).toNatClampNeg (vp_nar .boolean 1)) → ∀ v8 : Int32, v8 = x6 + 1 → K (x1, x2, x3, x4, v6, v8) S7) ∧ (((S.2.2.1 24) (v6 - 1).toNatClampNeg) = 0 → vp_in v6 330 ∧ ((((S.2.2.1 24) v6.toNatClampNeg) = 0 → vp_in (v6 - 1) 330 ∧ ∀ S9 : MS, S9 = sF S 24 (upd (S.2.2.1 24) (v6 - 1).toNatClampNeg (vp_nar .boolean 0)) → ∀ v10 : Int32, v10 = x6 + 1 → K (x1, x2, x3, x4, v6, v10) S9) ∧ (¬ ((S.2.2.1 24) v6.toNatClampNeg) = 0 → vp_in (v6 - 1) 330 ∧ ∀ S11 : MS, S11 = sF S 24 (upd (S.2.2.1 24) (v6 - 1).toNatClampNeg (vp_nar .boolean 1)) → ∀ v12 : Int32, v12 = x6 + 1 → K (x1, x2, x3, x4, v6, v12) S11))))) ∧ (v4 = 21 → vp_in (v6 - 1) 330 ∧ ((((S.2.2.1 24) (v6 - 1).toNatClampNeg) = 0 → vp_in (v6 - 1) 330 ∧ ∀ S13 : MS, S13 = sF S 24 (upd (S.2.2.1 24) (v6 - 1).toNatClampNeg (vp_nar .boolean 0)) → ∀ v14 : Int32, v14 = x6 + 1 → K (x1, x2, x3, x4, v6, v14) S13) ∧ (¬ ((S.2.2.1 24) (v6 - 1).toNatClampNeg) = 0 → vp_in v6 330 ∧ ((((S.2.2.1 24) v6.toNatClampNeg) = 0 → vp_in (v6 - 1) 330 ∧ ∀ S15 : MS, S15 = sF S 24 (upd (S.2.2.1 24) (v6 - 1).toNatClampNeg (vp_nar .boolean 0)) → ∀ v16 : Int32, v16 = x6 + 1 → K (x1, x2, x3, x4, v6, v16) S15) ∧ (¬ ((S.2.2.1 24) v6.toNatClampNeg) = 0 → vp_in (v6 - 1) 330 ∧ ∀ S17 : MS, S17 = sF S 24 (upd (S.2.2.1 24) (v6 - 1).toNatClampNeg (vp_nar .boolean 1)) → ∀ v18 : Int32, v18 = x6 + 1 → K (x1, x2, x3, x4, v6, v18) S17))))))) ∧ (v4 = 23 → ∀ v19 : Int32, v19 = x4 + (-1) → ∀ v20 : Int32, v20 = x5 + (-1) → vp_in v20 330 ∧ ((((S.2.2.1 24) v20.toNatClampNeg) = 0 → vp_in v19 330 ∧ ∀ v21 : Int64, v21 = (S.2.2.2) v19.toNatClampNeg → vp_in (v19 - 1) 330 ∧ ∀ S22 : MS, S22 = sV S (vp_updL (S.2.2.2) (v19 - 1).toNatClampNeg v21) → ∀ v23 : Int32, v23 = x6 + 1 → K (x1, x2, x3, v19, v20, v23) S22) ∧ (¬ ((S.2.2.1 24) v20.toNatClampNeg) = 0 → vp_in (v19 - 1) 330 ∧ ∀ v24 : Int64, v24 = (S.2.2.2) (v19 - 1).toNatClampNeg → vp_in (v19 - 1) 330 ∧ ∀ S25 : MS, S25 = sV S (vp_updL (S.2.2.2) (v19 - 1).toNatClampNeg v24) → ∀ v26 : Int32, v26 = x6 + 1 → K (x1, x2, x3, v19, v20, v26) S25))))) ∧ (v4 = 20 → vp_in (x5 - 1) 330 ∧ ((¬ ((S.2.2.1 24) (x5 - 1).toNatClampNeg) = 0 → vp_in (x5 - 1) 330 ∧ ∀ S27 : MS, S27 = sF S 24 (upd (S.2.2.1 24) (x5 - 1).toNatClampNeg (vp_nar .boolean 0)) → ∀ v28 : Int32, v28 = x6 + 1 → K (x1, x2, x3, x4, x5, v28) S27) ∧ (((S.2.2.1 24) (x5 - 1).toNatClampNeg) = 0 → vp_in (x5 - 1) 330 ∧ ∀ S29 : MS, S29 = sF S 24 (upd (S.2.2.1 24) (x5 - 1).toNatClampNeg (vp_nar .boolean 1)) → ∀ v30 : Int32, v30 = x6 + 1 → K (x1, x2, x3, x4, x5, v30) S29))))) ∧ (¬ 20 ≤ v4 → ∀ v31 : Int32, v31 = x4 + (-2) → vp_in v31 330 ∧ vp_in (v31 + 1) 330 ∧ VC_isAsked (fun r32 => vp_in x5 330 ∧ ∀ S33 : MS, S33 = sF S 24 (upd (S.2.2.1 24) x5.toNatClampNeg (vp_nar .boolean r32)) → ∀ v34 : Int32, v34 = x5 + 1 → ∀ v35 : Int32, v35 = x6 + 1 → K (x1, x2, x3, v31, v34, v35) S33) v4 ((S.2.2.2) v31.toNatClampNeg) ((S.2.2.2) (v31 + 1).toNatClampNeg)))) ∧ (¬ 10 ≤ v4 → ∀ v36 : Int32, v36 = x4 + (-1) → vp_in (v36 - 1) 330 ∧ vp_in v36 330 ∧ VC_two (fun r37 => vp_in (v36 - 1) 330 ∧ ∀ S38 : MS, S38 = sV S (vp_updL (S.2.2.2) (v36 - 1).toNatClampNeg r37) → ∀ v39 : Int32, v39 = x6 + 1 → K (x1, x2, x3, v36, x5, v39) S38) v4 ((S.2.2.2) (v36 - 1).toNatClampNeg) ((S.2.2.2) v36.toNatClampNeg)))) ∧ (v4 = 2 → vp_in (x4 - 1) 330 ∧ ∀ v40 : Int64, v40 = -((S.2.2.2) (x4 - 1).toNatClampNeg) → vp_in (x4 - 1) 330 ∧ ∀ S41 : MS, S41 = sV S (vp_updL (S.2.2.2) (x4 - 1).toNatClampNeg v40) → ∀ v42 : Int32, v42 = x6 + 1 → K (x1, x2, x3, x4, x5, v42) S41))) ∧ (¬ 1 < v4 → ((¬ v4 = 0 → vp_in v5 11 ∧ ∀ v43 : Int64, v43 = ((S.2.2.1 22) v5.toNatClampNeg).toInt64 → vp_in x4 330 ∧ ∀ S44 : MS, S44 = sV S (vp_updL (S.2.2.2) x4.toNatClampNeg v43) → ∀ v45 : Int32, v45 = x4 + 1 → ∀ v46 : Int32, v46 = x6 + 1 → K (x1, x2, x3, v45, x5, v46) S44) ∧ (v4 = 0 → ∀ v47 : Int64, v47 = v5.toInt64 → vp_in x4 330 ∧ ∀ S48 : MS, S48 = sV S (vp_updL (S.2.2.2) x4.toNatClampNeg v47) → ∀ v49 : Int32, v49 = x4 + 1 → ∀ v50 : Int32, v50 = x6 + 1 → K (x1, x2, x3, v49, x5, v50) S48))))))
def VC_work (Post : MS → Prop) (a0 : Int32) (S : MS) : Prop := ∀ K : Hd_work → MS → Prop, (∀ h S, B_work Post K h S → K h S) → vp_in (5 : Int32) 3890 ∧ ∀ v1 : Int32, v1 = ((680 * ((S.2.2.1 0) (5 : Int32).toNatClampNeg)) + 1) + (3 * a0) → vp_in (5 : Int32) 3890 ∧ ∀ v2 : Int32, v2 = (680 * ((S.2.2.1 0) (5 : Int32).toNatClampNeg)) + 75 → vp_in (v1 + 1) 2720 ∧ ∀ v3 : Int32, v3 = (S.2.2.1 2) (v1 + 1).toNatClampNeg → K (a0, v1, v2, 0, 0, v3) S
set_option maxHeartbeats 4000000 in
set_option maxRecDepth 100000 in
theorem h_work_0 {p : Program} {l : Launch} {e : Env} {s : State} {m : MethodId} {below : List Frame} {meth : Method} {c : Code} {dC : Nat → ClassId} {dI : Nat → Nat → Nat} {q : Nat → Nat} {cI cJ cZ : ClassId} {A : Nat → Prop} {args : Array Value} {Post : MS → Prop} {K : Hd_work → MS → Prop} (X : XM p s m args c cX12_work 9 ww_work dC dI cI cJ cZ A) (hr : meth.sig.returnType = none) (hlocks : meth.locks = false) (hK0 : ∀ (x1 : Int32) (x2 : Int32) (x3 : Int32) (x4 : Int32) (x5 : Int32) (x6 : Int32) (S : MS), K (x1, x2, x3, x4, x5, x6) S → ∀ (H : Heap) (locs : List Loc), va_P (dC, dI) vwCl (wM q cI cJ cZ S) H → va_D A (wM q cI cJ cZ S) → va_S A s.heap H locs → ∀ ls : Array Slot, lv_has ls 9 [(0, .ref (q 0)), (1, .int x1), (2, .int x2), (3, .int x3), (4, .int x4), (5, .int x5), (6, .int x6)] → W p l e (headSpec ww_work ({ frames := 2, cells := 0, slots := 0, locals := 45 } : Room)).room s m args below meth c H locs 0 0 (MQ below (va_Qv Post (atM dC dI q cI cJ cZ A) A) args s 0 0 A) (F0 m 47 ls [])) (x1 : Int32) (x2 : Int32) (x3 : Int32) (x4 : Int32) (x5 : Int32) (x6 : Int32) (S : MS) (h : B_work Post K (x1, x2, x3, x4, x5, x6) S) : ∀ (H : Heap) (locs : List Loc), va_P (dC, dI) vwCl (wM q cI cJ cZ S) H → va_D A (wM q cI cJ cZ S) → va_S A s.heap H locs → ∀ ls : Array Slot, lv_has ls 9 [(0, .ref (q 0)), (1, .int x1), (2, .int x2), (3, .int x3), (4, .int x4), (5, .int x5), (6, .int x6)] → W p l e (headSpec ww_work ({ frames := 2, cells := 0, slots := 0, locals := 45 } : Room)).room s m args below meth c H locs 0 0 (MQ below (va_Qv Post (atM dC dI q cI cJ cZ A) A) args s 0 0 A) (F0 m 47 ls []) := by
  have hx := X.1
  have hb := X.2.1
  intro H locs hP hD hS ls hl
  have lk7 := X.2.2.2.2.1 (.fieldLink RX12 7 "BreathOnLoanModel" "a" "[I") (inW 5 rfl)
  have lk16 := X.2.2.2.2.1 (.fieldLink RX12 16 "BreathOnLoanModel" "texts" "[I") (inW 7 rfl)
  have lk39 := X.2.2.2.2.1 (.fieldLink RX12 39 "BreathOnLoanModel" "truth" "[Z") (inW 16 rfl)
  have lk35 := X.2.2.2.2.1 (.fieldLink RX12 35 "BreathOnLoanModel" "values" "[J") (inW 14 rfl)
  have lk32 := X.2.2.2.2.1 (.fieldLink RX12 32 "BreathOnLoanModel" "named" "[I") (inW 12 rfl)
  dsimp only [B_work] at h
  refine lv_iload hx hb (dk DX12_work 33 rfl) (lv_at hl 6 rfl) ?_
  refine lv_aload_n hx hb (dk DX12_work 34 rfl) rfl (lv_at hl 0 rfl) ?_
  refine gM X hP 2 (by decide) rfl lk16 (dk DX12_work 35 rfl) ?_
  refine lv_iload_n hx hb (dk DX12_work 36 rfl) rfl (lv_at hl 2 rfl) ?_
  refine lv_iconst (v := 2) hx hb (dk DX12_work 37 rfl) (by decide) ?_
  refine lv_iadd hx hb (dk DX12_work 38 rfl) ?_
  obtain ⟨hin, h⟩ := h
  refine ldM X hP 3 rfl hin (dk DX12_work 39 rfl) ?_
  refine lv_icmp_ge (tgt := 413) hx hb (dk DX12_work 40 rfl) (by decide) (fun hc => ?_) (fun hc => ?_)
  · have h := h.1 hc
    exact W.vret hx hb hr (fun t ht hW => ⟨⟨_, rfl, h, by rw [ht]; exact hP, va_K.moved hW.alike X.2.2.2.2.2.2.1, hD⟩, hS.F ht⟩) hS.2.2 (dk DX12_work 233 rfl)
  · have h := h.2 hc
    refine lv_aload_n hx hb (dk DX12_work 41 rfl) rfl (lv_at hl 0 rfl) ?_
    refine gM X hP 2 (by decide) rfl lk16 (dk DX12_work 42 rfl) ?_
    refine lv_iload_n hx hb (dk DX12_work 43 rfl) rfl (lv_at hl 3 rfl) ?_
    refine lv_iconst (v := 2) hx hb (dk DX12_work 44 rfl) (by decide) ?_
    refine lv_iload hx hb (dk DX12_work 45 rfl) (lv_at hl 6 rfl) ?_
    refine lv_imul hx hb (dk DX12_work 46 rfl) ?_
    refine lv_iadd hx hb (dk DX12_work 47 rfl) ?_
    obtain ⟨hin, h⟩ := h
    refine ldM X hP 3 rfl hin (dk DX12_work 48 rfl) ?_
    refine lv_topi (fun v4 ev4 => ?_)
    have h := h v4 ev4
    refine lv_istore (lv' := [(7, .int v4), (0, .ref (q 0)), (1, .int x1), (2, .int x2), (3, .int x3), (4, .int x4), (5, .int x5), (6, .int x6)]) hx hb (dk DX12_work 49 rfl) hl (by decide) rfl (fun ls hl => ?_)
    refine lv_aload_n hx hb (dk DX12_work 50 rfl) rfl (lv_at hl 1 rfl) ?_
    refine gM X hP 2 (by decide) rfl lk16 (dk DX12_work 51 rfl) ?_
    refine lv_iload_n hx hb (dk DX12_work 52 rfl) rfl (lv_at hl 4 rfl) ?_
    refine lv_iconst (v := 2) hx hb (dk DX12_work 53 rfl) (by decide) ?_
    refine lv_iload hx hb (dk DX12_work 54 rfl) (lv_at hl 7 rfl) ?_
    refine lv_imul hx hb (dk DX12_work 55 rfl) ?_
    refine lv_iadd hx hb (dk DX12_work 56 rfl) ?_
    refine lv_iconst (v := 1) hx hb (dk DX12_work 57 rfl) (by decide) ?_
    refine lv_iadd hx hb (dk DX12_work 58 rfl) ?_
    obtain ⟨hin, h⟩ := h
    refine ldM X hP 3 rfl hin (dk DX12_work 59 rfl) ?_
    refine lv_topi (fun v5 ev5 => ?_)
    have h := h v5 ev5
    refine lv_istore (lv' := [(8, .int v5), (7, .int v4), (0, .ref (q 0)), (1, .int x1), (2, .int x2), (3, .int x3), (4, .int x4), (5, .int x5), (6, .int x6)]) hx hb (dk DX12_work 60 rfl) hl (by decide) rfl (fun ls hl => ?_)
    refine lv_iload hx hb (dk DX12_work 61 rfl) (lv_at hl 1 rfl) ?_
    refine lv_iconst (v := 1) hx hb (dk DX12_work 62 rfl) (by decide) ?_
    refine lv_icmp_gt (tgt := 126) hx hb (dk DX12_work 63 rfl) (by decide) (fun hc => ?_) (fun hc => ?_)
    · have h := h.1 hc
      refine lv_iload hx hb (dk DX12_work 80 rfl) (lv_at hl 1 rfl) ?_
      refine lv_iconst (v := 2) hx hb (dk DX12_work 81 rfl) (by decide) ?_
      refine lv_icmp_ne (tgt := 154) hx hb (dk DX12_work 82 rfl) (by decide) (fun hc => ?_) (fun hc => ?_)
      · have h := h.1 hc
        refine lv_iload hx hb (dk DX12_work 97 rfl) (lv_at hl 1 rfl) ?_
        refine lv_bipush (v := 10) hx hb (dk DX12_work 98 rfl) (by decide) ?_
        refine lv_icmp_ge (tgt := 197) hx hb (dk DX12_work 99 rfl) (by decide) (fun hc => ?_) (fun hc => ?_)
        · have h := h.1 hc
          refine lv_iload hx hb (dk DX12_work 120 rfl) (lv_at hl 1 rfl) ?_
          refine lv_bipush (v := 20) hx hb (dk DX12_work 121 rfl) (by decide) ?_
          refine lv_icmp_ge (tgt := 241) hx hb (dk DX12_work 122 rfl) (by decide) (fun hc => ?_) (fun hc => ?_)
          · have h := h.1 hc
            refine lv_iload hx hb (dk DX12_work 142 rfl) (lv_at hl 1 rfl) ?_
            refine lv_bipush (v := 20) hx hb (dk DX12_work 143 rfl) (by decide) ?_
            refine lv_icmp_ne (tgt := 277) hx hb (dk DX12_work 144 rfl) (by decide) (fun hc => ?_) (fun hc => ?_)
            · have h := h.1 hc
              refine lv_iload hx hb (dk DX12_work 162 rfl) (lv_at hl 1 rfl) ?_
              refine lv_bipush (v := 23) hx hb (dk DX12_work 163 rfl) (by decide) ?_
              refine lv_icmp_ne (tgt := 331) hx hb (dk DX12_work 164 rfl) (by decide) (fun hc => ?_) (fun hc => ?_)
              · have h := h.1 hc
                obtain ⟨v6, ev6⟩ : ∃ y : Int32, y = x5 + (-1) := ⟨_, rfl⟩
                have h := h v6 ev6
                refine lv_iinc (v := v6) (lv' := [(5, .int v6), (8, .int v5), (7, .int v4), (0, .ref (q 0)), (1, .int x1), (2, .int x2), (3, .int x3), (4, .int x4), (6, .int x6)]) hx hb (dk DX12_work 190 rfl) hl (k := 7) rfl (by rw [ev6]; rfl) (by decide) rfl (fun ls hl => ?_)
                refine lv_aload_n hx hb (dk DX12_work 191 rfl) rfl (lv_at hl 3 rfl) ?_
                refine gM X hP 24 (by decide) rfl lk39 (dk DX12_work 192 rfl) ?_
                refine lv_iload hx hb (dk DX12_work 193 rfl) (lv_at hl 0 rfl) ?_
                refine lv_iconst (v := 1) hx hb (dk DX12_work 194 rfl) (by decide) ?_
                refine lv_isub hx hb (dk DX12_work 195 rfl) ?_
                refine lv_iload hx hb (dk DX12_work 196 rfl) (lv_at hl 2 rfl) ?_
                refine lv_bipush (v := 21) hx hb (dk DX12_work 197 rfl) (by decide) ?_
                refine lv_icmp_ne (tgt := 379) hx hb (dk DX12_work 198 rfl) (by decide) (fun hc => ?_) (fun hc => ?_)
                · have h := h.1 hc
                  refine lv_aload_n hx hb (dk DX12_work 215 rfl) rfl (lv_at hl 3 rfl) ?_
                  refine gM X hP 24 (by decide) rfl lk39 (dk DX12_work 216 rfl) ?_
                  refine lv_iload hx hb (dk DX12_work 217 rfl) (lv_at hl 0 rfl) ?_
                  refine lv_iconst (v := 1) hx hb (dk DX12_work 218 rfl) (by decide) ?_
                  refine lv_isub hx hb (dk DX12_work 219 rfl) ?_
                  obtain ⟨hin, h⟩ := h
                  refine lzM X hP 8 rfl hin (dk DX12_work 220 rfl) ?_
                  refine lv_if_ne (tgt := 401) hx hb (dk DX12_work 221 rfl) (by decide) (fun hc => ?_) (fun hc => ?_)
                  · have h := h.1 hc
                    refine lv_iconst (v := 1) hx hb (dk DX12_work 227 rfl) (by decide) ?_
                    refine lv_goto (tgt := 406) hx hb (dk DX12_work 228 rfl) (by decide) ?_
                    obtain ⟨hin, h⟩ := h
                    refine stM_24 X hP hD hS hin (dk DX12_work 230 rfl) (fun S7 eS7 H locs hP hD hS => ?_)
                    have h := h S7 eS7
                    obtain ⟨v8, ev8⟩ : ∃ y : Int32, y = x6 + 1 := ⟨_, rfl⟩
                    have h := h v8 ev8
                    refine lv_iinc (v := v8) (lv' := [(6, .int v8), (5, .int v6), (8, .int v5), (7, .int v4), (0, .ref (q 0)), (1, .int x1), (2, .int x2), (3, .int x3), (4, .int x4)]) hx hb (dk DX12_work 231 rfl) hl (k := 8) rfl (by rw [ev8]; rfl) (by decide) rfl (fun ls hl => ?_)
                    refine lv_goto (tgt := 47) hx hb (dk DX12_work 232 rfl) (by decide) ?_
                    exact hK0 x1 x2 x3 x4 v6 v8 S7 h _ _ hP hD hS ls (lv_sub hl [4, 5, 6, 7, 8, 1, 0] rfl)
                  · have h := h.2 hc
                    refine lv_aload_n hx hb (dk DX12_work 222 rfl) rfl (lv_at hl 3 rfl) ?_
                    refine gM X hP 24 (by decide) rfl lk39 (dk DX12_work 223 rfl) ?_
                    refine lv_iload hx hb (dk DX12_work 224 rfl) (lv_at hl 0 rfl) ?_
                    obtain ⟨hin, h⟩ := h
                    refine lzM X hP 8 rfl hin (dk DX12_work 225 rfl) ?_
                    refine lv_if_eq (tgt := 405) hx hb (dk DX12_work 226 rfl) (by decide) (fun hc => ?_) (fun hc => ?_)
                    · have h := h.1 hc
                      refine lv_iconst (v := 0) hx hb (dk DX12_work 229 rfl) (by decide) ?_
                      obtain ⟨hin, h⟩ := h
                      refine stM_24 X hP hD hS hin (dk DX12_work 230 rfl) (fun S9 eS9 H locs hP hD hS => ?_)
                      have h := h S9 eS9
                      obtain ⟨v10, ev10⟩ : ∃ y : Int32, y = x6 + 1 := ⟨_, rfl⟩
                      have h := h v10 ev10
                      refine lv_iinc (v := v10) (lv' := [(6, .int v10), (5, .int v6), (8, .int v5), (7, .int v4), (0, .ref (q 0)), (1, .int x1), (2, .int x2), (3, .int x3), (4, .int x4)]) hx hb (dk DX12_work 231 rfl) hl (k := 8) rfl (by rw [ev10]; rfl) (by decide) rfl (fun ls hl => ?_)
                      refine lv_goto (tgt := 47) hx hb (dk DX12_work 232 rfl) (by decide) ?_
                      exact hK0 x1 x2 x3 x4 v6 v10 S9 h _ _ hP hD hS ls (lv_sub hl [4, 5, 6, 7, 8, 1, 0] rfl)
                    · have h := h.2 hc
                      refine lv_iconst (v := 1) hx hb (dk DX12_work 227 rfl) (by decide) ?_
                      refine lv_goto (tgt := 406) hx hb (dk DX12_work 228 rfl) (by decide) ?_
                      obtain ⟨hin, h⟩ := h
                      refine stM_24 X hP hD hS hin (dk DX12_work 230 rfl) (fun S11 eS11 H locs hP hD hS => ?_)
                      have h := h S11 eS11
                      obtain ⟨v12, ev12⟩ : ∃ y : Int32, y = x6 + 1 := ⟨_, rfl⟩
                      have h := h v12 ev12
                      refine lv_iinc (v := v12) (lv' := [(6, .int v12), (5, .int v6), (8, .int v5), (7, .int v4), (0, .ref (q 0)), (1, .int x1), (2, .int x2), (3, .int x3), (4, .int x4)]) hx hb (dk DX12_work 231 rfl) hl (k := 8) rfl (by rw [ev12]; rfl) (by decide) rfl (fun ls hl => ?_)
                      refine lv_goto (tgt := 47) hx hb (dk DX12_work 232 rfl) (by decide) ?_
                      exact hK0 x1 x2 x3 x4 v6 v12 S11 h _ _ hP hD hS ls (lv_sub hl [4, 5, 6, 7, 8, 1, 0] rfl)
                · have h := h.2 hc
                  refine lv_aload_n hx hb (dk DX12_work 199 rfl) rfl (lv_at hl 3 rfl) ?_
                  refine gM X hP 24 (by decide) rfl lk39 (dk DX12_work 200 rfl) ?_
                  refine lv_iload hx hb (dk DX12_work 201 rfl) (lv_at hl 0 rfl) ?_
                  refine lv_iconst (v := 1) hx hb (dk DX12_work 202 rfl) (by decide) ?_
                  refine lv_isub hx hb (dk DX12_work 203 rfl) ?_
                  obtain ⟨hin, h⟩ := h
                  refine lzM X hP 8 rfl hin (dk DX12_work 204 rfl) ?_
                  refine lv_if_eq (tgt := 375) hx hb (dk DX12_work 205 rfl) (by decide) (fun hc => ?_) (fun hc => ?_)
                  · have h := h.1 hc
                    refine lv_iconst (v := 0) hx hb (dk DX12_work 213 rfl) (by decide) ?_
                    refine lv_goto (tgt := 406) hx hb (dk DX12_work 214 rfl) (by decide) ?_
                    obtain ⟨hin, h⟩ := h
                    refine stM_24 X hP hD hS hin (dk DX12_work 230 rfl) (fun S13 eS13 H locs hP hD hS => ?_)
                    have h := h S13 eS13
                    obtain ⟨v14, ev14⟩ : ∃ y : Int32, y = x6 + 1 := ⟨_, rfl⟩
                    have h := h v14 ev14
                    refine lv_iinc (v := v14) (lv' := [(6, .int v14), (5, .int v6), (8, .int v5), (7, .int v4), (0, .ref (q 0)), (1, .int x1), (2, .int x2), (3, .int x3), (4, .int x4)]) hx hb (dk DX12_work 231 rfl) hl (k := 8) rfl (by rw [ev14]; rfl) (by decide) rfl (fun ls hl => ?_)
                    refine lv_goto (tgt := 47) hx hb (dk DX12_work 232 rfl) (by decide) ?_
                    exact hK0 x1 x2 x3 x4 v6 v14 S13 h _ _ hP hD hS ls (lv_sub hl [4, 5, 6, 7, 8, 1, 0] rfl)
                  · have h := h.2 hc
                    refine lv_aload_n hx hb (dk DX12_work 206 rfl) rfl (lv_at hl 3 rfl) ?_
                    refine gM X hP 24 (by decide) rfl lk39 (dk DX12_work 207 rfl) ?_
                    refine lv_iload hx hb (dk DX12_work 208 rfl) (lv_at hl 0 rfl) ?_
                    obtain ⟨hin, h⟩ := h
                    refine lzM X hP 8 rfl hin (dk DX12_work 209 rfl) ?_
                    refine lv_if_eq (tgt := 375) hx hb (dk DX12_work 210 rfl) (by decide) (fun hc => ?_) (fun hc => ?_)
                    · have h := h.1 hc
                      refine lv_iconst (v := 0) hx hb (dk DX12_work 213 rfl) (by decide) ?_
                      refine lv_goto (tgt := 406) hx hb (dk DX12_work 214 rfl) (by decide) ?_
                      obtain ⟨hin, h⟩ := h
                      refine stM_24 X hP hD hS hin (dk DX12_work 230 rfl) (fun S15 eS15 H locs hP hD hS => ?_)
                      have h := h S15 eS15
                      obtain ⟨v16, ev16⟩ : ∃ y : Int32, y = x6 + 1 := ⟨_, rfl⟩
                      have h := h v16 ev16
                      refine lv_iinc (v := v16) (lv' := [(6, .int v16), (5, .int v6), (8, .int v5), (7, .int v4), (0, .ref (q 0)), (1, .int x1), (2, .int x2), (3, .int x3), (4, .int x4)]) hx hb (dk DX12_work 231 rfl) hl (k := 8) rfl (by rw [ev16]; rfl) (by decide) rfl (fun ls hl => ?_)
                      refine lv_goto (tgt := 47) hx hb (dk DX12_work 232 rfl) (by decide) ?_
                      exact hK0 x1 x2 x3 x4 v6 v16 S15 h _ _ hP hD hS ls (lv_sub hl [4, 5, 6, 7, 8, 1, 0] rfl)
                    · have h := h.2 hc
                      refine lv_iconst (v := 1) hx hb (dk DX12_work 211 rfl) (by decide) ?_
                      refine lv_goto (tgt := 406) hx hb (dk DX12_work 212 rfl) (by decide) ?_
                      obtain ⟨hin, h⟩ := h
                      refine stM_24 X hP hD hS hin (dk DX12_work 230 rfl) (fun S17 eS17 H locs hP hD hS => ?_)
                      have h := h S17 eS17
                      obtain ⟨v18, ev18⟩ : ∃ y : Int32, y = x6 + 1 := ⟨_, rfl⟩
                      have h := h v18 ev18
                      refine lv_iinc (v := v18) (lv' := [(6, .int v18), (5, .int v6), (8, .int v5), (7, .int v4), (0, .ref (q 0)), (1, .int x1), (2, .int x2), (3, .int x3), (4, .int x4)]) hx hb (dk DX12_work 231 rfl) hl (k := 8) rfl (by rw [ev18]; rfl) (by decide) rfl (fun ls hl => ?_)
                      refine lv_goto (tgt := 47) hx hb (dk DX12_work 232 rfl) (by decide) ?_
                      exact hK0 x1 x2 x3 x4 v6 v18 S17 h _ _ hP hD hS ls (lv_sub hl [4, 5, 6, 7, 8, 1, 0] rfl)
              · have h := h.2 hc
                obtain ⟨v19, ev19⟩ : ∃ y : Int32, y = x4 + (-1) := ⟨_, rfl⟩
                have h := h v19 ev19
                refine lv_iinc (v := v19) (lv' := [(4, .int v19), (8, .int v5), (7, .int v4), (0, .ref (q 0)), (1, .int x1), (2, .int x2), (3, .int x3), (5, .int x5), (6, .int x6)]) hx hb (dk DX12_work 165 rfl) hl (k := 6) rfl (by rw [ev19]; rfl) (by decide) rfl (fun ls hl => ?_)
                obtain ⟨v20, ev20⟩ : ∃ y : Int32, y = x5 + (-1) := ⟨_, rfl⟩
                have h := h v20 ev20
                refine lv_iinc (v := v20) (lv' := [(5, .int v20), (4, .int v19), (8, .int v5), (7, .int v4), (0, .ref (q 0)), (1, .int x1), (2, .int x2), (3, .int x3), (6, .int x6)]) hx hb (dk DX12_work 166 rfl) hl (k := 7) rfl (by rw [ev20]; rfl) (by decide) rfl (fun ls hl => ?_)
                refine lv_aload_n hx hb (dk DX12_work 167 rfl) rfl (lv_at hl 4 rfl) ?_
                refine gM X hP 23 (by decide) rfl lk35 (dk DX12_work 168 rfl) ?_
                refine lv_iload hx hb (dk DX12_work 169 rfl) (lv_at hl 1 rfl) ?_
                refine lv_iconst (v := 1) hx hb (dk DX12_work 170 rfl) (by decide) ?_
                refine lv_isub hx hb (dk DX12_work 171 rfl) ?_
                refine lv_aload_n hx hb (dk DX12_work 172 rfl) rfl (lv_at hl 4 rfl) ?_
                refine gM X hP 24 (by decide) rfl lk39 (dk DX12_work 173 rfl) ?_
                refine lv_iload hx hb (dk DX12_work 174 rfl) (lv_at hl 0 rfl) ?_
                obtain ⟨hin, h⟩ := h
                refine lzM X hP 8 rfl hin (dk DX12_work 175 rfl) ?_
                refine lv_if_eq (tgt := 320) hx hb (dk DX12_work 176 rfl) (by decide) (fun hc => ?_) (fun hc => ?_)
                · have h := h.1 hc
                  refine lv_aload_n hx hb (dk DX12_work 184 rfl) rfl (lv_at hl 4 rfl) ?_
                  refine gM X hP 23 (by decide) rfl lk35 (dk DX12_work 185 rfl) ?_
                  refine lv_iload hx hb (dk DX12_work 186 rfl) (lv_at hl 1 rfl) ?_
                  obtain ⟨hin, h⟩ := h
                  refine llM X hP 7 rfl hin (dk DX12_work 187 rfl) ?_
                  refine lv_topl (fun v21 ev21 => ?_)
                  have h := h v21 ev21
                  obtain ⟨hin, h⟩ := h
                  refine stM_23 X hP hD hS hin (dk DX12_work 188 rfl) (fun S22 eS22 H locs hP hD hS => ?_)
                  have h := h S22 eS22
                  refine lv_goto (tgt := 407) hx hb (dk DX12_work 189 rfl) (by decide) ?_
                  obtain ⟨v23, ev23⟩ : ∃ y : Int32, y = x6 + 1 := ⟨_, rfl⟩
                  have h := h v23 ev23
                  refine lv_iinc (v := v23) (lv' := [(6, .int v23), (5, .int v20), (4, .int v19), (8, .int v5), (7, .int v4), (0, .ref (q 0)), (1, .int x1), (2, .int x2), (3, .int x3)]) hx hb (dk DX12_work 231 rfl) hl (k := 8) rfl (by rw [ev23]; rfl) (by decide) rfl (fun ls hl => ?_)
                  refine lv_goto (tgt := 47) hx hb (dk DX12_work 232 rfl) (by decide) ?_
                  exact hK0 x1 x2 x3 v19 v20 v23 S22 h _ _ hP hD hS ls (lv_sub hl [5, 6, 7, 8, 2, 1, 0] rfl)
                · have h := h.2 hc
                  refine lv_aload_n hx hb (dk DX12_work 177 rfl) rfl (lv_at hl 4 rfl) ?_
                  refine gM X hP 23 (by decide) rfl lk35 (dk DX12_work 178 rfl) ?_
                  refine lv_iload hx hb (dk DX12_work 179 rfl) (lv_at hl 1 rfl) ?_
                  refine lv_iconst (v := 1) hx hb (dk DX12_work 180 rfl) (by decide) ?_
                  refine lv_isub hx hb (dk DX12_work 181 rfl) ?_
                  obtain ⟨hin, h⟩ := h
                  refine llM X hP 7 rfl hin (dk DX12_work 182 rfl) ?_
                  refine lv_goto (tgt := 327) hx hb (dk DX12_work 183 rfl) (by decide) ?_
                  refine lv_topl (fun v24 ev24 => ?_)
                  have h := h v24 ev24
                  obtain ⟨hin, h⟩ := h
                  refine stM_23 X hP hD hS hin (dk DX12_work 188 rfl) (fun S25 eS25 H locs hP hD hS => ?_)
                  have h := h S25 eS25
                  refine lv_goto (tgt := 407) hx hb (dk DX12_work 189 rfl) (by decide) ?_
                  obtain ⟨v26, ev26⟩ : ∃ y : Int32, y = x6 + 1 := ⟨_, rfl⟩
                  have h := h v26 ev26
                  refine lv_iinc (v := v26) (lv' := [(6, .int v26), (5, .int v20), (4, .int v19), (8, .int v5), (7, .int v4), (0, .ref (q 0)), (1, .int x1), (2, .int x2), (3, .int x3)]) hx hb (dk DX12_work 231 rfl) hl (k := 8) rfl (by rw [ev26]; rfl) (by decide) rfl (fun ls hl => ?_)
                  refine lv_goto (tgt := 47) hx hb (dk DX12_work 232 rfl) (by decide) ?_
                  exact hK0 x1 x2 x3 v19 v20 v26 S25 h _ _ hP hD hS ls (lv_sub hl [5, 6, 7, 8, 2, 1, 0] rfl)
            · have h := h.2 hc
              refine lv_aload_n hx hb (dk DX12_work 145 rfl) rfl (lv_at hl 2 rfl) ?_
              refine gM X hP 24 (by decide) rfl lk39 (dk DX12_work 146 rfl) ?_
              refine lv_iload hx hb (dk DX12_work 147 rfl) (lv_at hl 7 rfl) ?_
              refine lv_iconst (v := 1) hx hb (dk DX12_work 148 rfl) (by decide) ?_
              refine lv_isub hx hb (dk DX12_work 149 rfl) ?_
              refine lv_aload_n hx hb (dk DX12_work 150 rfl) rfl (lv_at hl 2 rfl) ?_
              refine gM X hP 24 (by decide) rfl lk39 (dk DX12_work 151 rfl) ?_
              refine lv_iload hx hb (dk DX12_work 152 rfl) (lv_at hl 7 rfl) ?_
              refine lv_iconst (v := 1) hx hb (dk DX12_work 153 rfl) (by decide) ?_
              refine lv_isub hx hb (dk DX12_work 154 rfl) ?_
              obtain ⟨hin, h⟩ := h
              refine lzM X hP 8 rfl hin (dk DX12_work 155 rfl) ?_
              refine lv_if_ne (tgt := 272) hx hb (dk DX12_work 156 rfl) (by decide) (fun hc => ?_) (fun hc => ?_)
              · have h := h.1 hc
                refine lv_iconst (v := 0) hx hb (dk DX12_work 159 rfl) (by decide) ?_
                obtain ⟨hin, h⟩ := h
                refine stM_24 X hP hD hS hin (dk DX12_work 160 rfl) (fun S27 eS27 H locs hP hD hS => ?_)
                have h := h S27 eS27
                refine lv_goto (tgt := 407) hx hb (dk DX12_work 161 rfl) (by decide) ?_
                obtain ⟨v28, ev28⟩ : ∃ y : Int32, y = x6 + 1 := ⟨_, rfl⟩
                have h := h v28 ev28
                refine lv_iinc (v := v28) (lv' := [(6, .int v28), (8, .int v5), (7, .int v4), (0, .ref (q 0)), (1, .int x1), (2, .int x2), (3, .int x3), (4, .int x4), (5, .int x5)]) hx hb (dk DX12_work 231 rfl) hl (k := 8) rfl (by rw [ev28]; rfl) (by decide) rfl (fun ls hl => ?_)
                refine lv_goto (tgt := 47) hx hb (dk DX12_work 232 rfl) (by decide) ?_
                exact hK0 x1 x2 x3 x4 x5 v28 S27 h _ _ hP hD hS ls (lv_sub hl [3, 4, 5, 6, 7, 8, 0] rfl)
              · have h := h.2 hc
                refine lv_iconst (v := 1) hx hb (dk DX12_work 157 rfl) (by decide) ?_
                refine lv_goto (tgt := 273) hx hb (dk DX12_work 158 rfl) (by decide) ?_
                obtain ⟨hin, h⟩ := h
                refine stM_24 X hP hD hS hin (dk DX12_work 160 rfl) (fun S29 eS29 H locs hP hD hS => ?_)
                have h := h S29 eS29
                refine lv_goto (tgt := 407) hx hb (dk DX12_work 161 rfl) (by decide) ?_
                obtain ⟨v30, ev30⟩ : ∃ y : Int32, y = x6 + 1 := ⟨_, rfl⟩
                have h := h v30 ev30
                refine lv_iinc (v := v30) (lv' := [(6, .int v30), (8, .int v5), (7, .int v4), (0, .ref (q 0)), (1, .int x1), (2, .int x2), (3, .int x3), (4, .int x4), (5, .int x5)]) hx hb (dk DX12_work 231 rfl) hl (k := 8) rfl (by rw [ev30]; rfl) (by decide) rfl (fun ls hl => ?_)
                refine lv_goto (tgt := 47) hx hb (dk DX12_work 232 rfl) (by decide) ?_
                exact hK0 x1 x2 x3 x4 x5 v30 S29 h _ _ hP hD hS ls (lv_sub hl [3, 4, 5, 6, 7, 8, 0] rfl)
          · have h := h.2 hc
            obtain ⟨v31, ev31⟩ : ∃ y : Int32, y = x4 + (-2) := ⟨_, rfl⟩
            have h := h v31 ev31
            refine lv_iinc (v := v31) (lv' := [(4, .int v31), (8, .int v5), (7, .int v4), (0, .ref (q 0)), (1, .int x1), (2, .int x2), (3, .int x3), (5, .int x5), (6, .int x6)]) hx hb (dk DX12_work 123 rfl) hl (k := 6) rfl (by rw [ev31]; rfl) (by decide) rfl (fun ls hl => ?_)
            refine lv_aload_n hx hb (dk DX12_work 124 rfl) rfl (lv_at hl 3 rfl) ?_
            refine gM X hP 24 (by decide) rfl lk39 (dk DX12_work 125 rfl) ?_
            refine lv_iload hx hb (dk DX12_work 126 rfl) (lv_at hl 7 rfl) ?_
            refine lv_iload hx hb (dk DX12_work 127 rfl) (lv_at hl 2 rfl) ?_
            refine lv_aload_n hx hb (dk DX12_work 128 rfl) rfl (lv_at hl 3 rfl) ?_
            refine gM X hP 23 (by decide) rfl lk35 (dk DX12_work 129 rfl) ?_
            refine lv_iload hx hb (dk DX12_work 130 rfl) (lv_at hl 0 rfl) ?_
            obtain ⟨hin, h⟩ := h
            refine llM X hP 7 rfl hin (dk DX12_work 131 rfl) ?_
            refine lv_aload_n hx hb (dk DX12_work 132 rfl) rfl (lv_at hl 3 rfl) ?_
            refine gM X hP 23 (by decide) rfl lk35 (dk DX12_work 133 rfl) ?_
            refine lv_iload hx hb (dk DX12_work 134 rfl) (lv_at hl 0 rfl) ?_
            refine lv_iconst (v := 1) hx hb (dk DX12_work 135 rfl) (by decide) ?_
            refine lv_iadd hx hb (dk DX12_work 136 rfl) ?_
            obtain ⟨hin, h⟩ := h
            refine llM X hP 7 rfl hin (dk DX12_work 137 rfl) ?_
            refine cSi (As := [.int v4, .long ((S.2.2.2) v31.toNatClampNeg), .long ((S.2.2.2) (v31 + 1).toNatClampNeg)]) (rest := [.int x5, .ref (q 8)]) ⟨X.1, X.2.1, X.2.2.1, X.2.2.2.1, X.2.2.2.2.1⟩ (m_isAsked (l := l) v4 ((S.2.2.2) v31.toNatClampNeg) ((S.2.2.2) (v31 + 1).toNatClampNeg) h) (va_cwS 3 X.2.2.2.2.1 (gwS 219 220 24 215 rfl rfl rfl rfl) rfl rfl rfl q_isAsked ⟨Nat.le_of_ble_eq_true rfl, Nat.le_of_ble_eq_true rfl⟩) rfl hl.1 rfl (Nat.le_of_ble_eq_true rfl) (dk DX12_work 138 rfl) (fun r32 h => ?_)
            obtain ⟨hin, h⟩ := h
            refine stM_24 X hP hD hS hin (dk DX12_work 139 rfl) (fun S33 eS33 H locs hP hD hS => ?_)
            have h := h S33 eS33
            obtain ⟨v34, ev34⟩ : ∃ y : Int32, y = x5 + 1 := ⟨_, rfl⟩
            have h := h v34 ev34
            refine lv_iinc (v := v34) (lv' := [(5, .int v34), (4, .int v31), (8, .int v5), (7, .int v4), (0, .ref (q 0)), (1, .int x1), (2, .int x2), (3, .int x3), (6, .int x6)]) hx hb (dk DX12_work 140 rfl) hl (k := 7) rfl (by rw [ev34]; rfl) (by decide) rfl (fun ls hl => ?_)
            refine lv_goto (tgt := 407) hx hb (dk DX12_work 141 rfl) (by decide) ?_
            obtain ⟨v35, ev35⟩ : ∃ y : Int32, y = x6 + 1 := ⟨_, rfl⟩
            have h := h v35 ev35
            refine lv_iinc (v := v35) (lv' := [(6, .int v35), (5, .int v34), (4, .int v31), (8, .int v5), (7, .int v4), (0, .ref (q 0)), (1, .int x1), (2, .int x2), (3, .int x3)]) hx hb (dk DX12_work 231 rfl) hl (k := 8) rfl (by rw [ev35]; rfl) (by decide) rfl (fun ls hl => ?_)
            refine lv_goto (tgt := 47) hx hb (dk DX12_work 232 rfl) (by decide) ?_
            exact hK0 x1 x2 x3 v31 v34 v35 S33 h _ _ hP hD hS ls (lv_sub hl [5, 6, 7, 8, 2, 1, 0] rfl)
        · have h := h.2 hc
          obtain ⟨v36, ev36⟩ : ∃ y : Int32, y = x4 + (-1) := ⟨_, rfl⟩
          have h := h v36 ev36
          refine lv_iinc (v := v36) (lv' := [(4, .int v36), (8, .int v5), (7, .int v4), (0, .ref (q 0)), (1, .int x1), (2, .int x2), (3, .int x3), (5, .int x5), (6, .int x6)]) hx hb (dk DX12_work 100 rfl) hl (k := 6) rfl (by rw [ev36]; rfl) (by decide) rfl (fun ls hl => ?_)
          refine lv_aload_n hx hb (dk DX12_work 101 rfl) rfl (lv_at hl 3 rfl) ?_
          refine gM X hP 23 (by decide) rfl lk35 (dk DX12_work 102 rfl) ?_
          refine lv_iload hx hb (dk DX12_work 103 rfl) (lv_at hl 0 rfl) ?_
          refine lv_iconst (v := 1) hx hb (dk DX12_work 104 rfl) (by decide) ?_
          refine lv_isub hx hb (dk DX12_work 105 rfl) ?_
          refine lv_iload hx hb (dk DX12_work 106 rfl) (lv_at hl 2 rfl) ?_
          refine lv_aload_n hx hb (dk DX12_work 107 rfl) rfl (lv_at hl 3 rfl) ?_
          refine gM X hP 23 (by decide) rfl lk35 (dk DX12_work 108 rfl) ?_
          refine lv_iload hx hb (dk DX12_work 109 rfl) (lv_at hl 0 rfl) ?_
          refine lv_iconst (v := 1) hx hb (dk DX12_work 110 rfl) (by decide) ?_
          refine lv_isub hx hb (dk DX12_work 111 rfl) ?_
          obtain ⟨hin, h⟩ := h
          refine llM X hP 7 rfl hin (dk DX12_work 112 rfl) ?_
          refine lv_aload_n hx hb (dk DX12_work 113 rfl) rfl (lv_at hl 3 rfl) ?_
          refine gM X hP 23 (by decide) rfl lk35 (dk DX12_work 114 rfl) ?_
          refine lv_iload hx hb (dk DX12_work 115 rfl) (lv_at hl 0 rfl) ?_
          obtain ⟨hin, h⟩ := h
          refine llM X hP 7 rfl hin (dk DX12_work 116 rfl) ?_
          refine cSl (As := [.int v4, .long ((S.2.2.2) (v36 - 1).toNatClampNeg), .long ((S.2.2.2) v36.toNatClampNeg)]) (rest := [.int (v36 - 1), .ref (q 7)]) ⟨X.1, X.2.1, X.2.2.1, X.2.2.2.1, X.2.2.2.2.1⟩ (m_two (l := l) v4 ((S.2.2.2) (v36 - 1).toNatClampNeg) ((S.2.2.2) v36.toNatClampNeg) h) (va_cwS 3 X.2.2.2.2.1 (gwS 217 218 24 212 rfl rfl rfl rfl) rfl rfl rfl q_two ⟨Nat.le_of_ble_eq_true rfl, Nat.le_of_ble_eq_true rfl⟩) rfl hl.1 rfl (Nat.le_of_ble_eq_true rfl) (dk DX12_work 117 rfl) (fun r37 h => ?_)
          obtain ⟨hin, h⟩ := h
          refine stM_23 X hP hD hS hin (dk DX12_work 118 rfl) (fun S38 eS38 H locs hP hD hS => ?_)
          have h := h S38 eS38
          refine lv_goto (tgt := 407) hx hb (dk DX12_work 119 rfl) (by decide) ?_
          obtain ⟨v39, ev39⟩ : ∃ y : Int32, y = x6 + 1 := ⟨_, rfl⟩
          have h := h v39 ev39
          refine lv_iinc (v := v39) (lv' := [(6, .int v39), (4, .int v36), (8, .int v5), (7, .int v4), (0, .ref (q 0)), (1, .int x1), (2, .int x2), (3, .int x3), (5, .int x5)]) hx hb (dk DX12_work 231 rfl) hl (k := 8) rfl (by rw [ev39]; rfl) (by decide) rfl (fun ls hl => ?_)
          refine lv_goto (tgt := 47) hx hb (dk DX12_work 232 rfl) (by decide) ?_
          exact hK0 x1 x2 x3 v36 x5 v39 S38 h _ _ hP hD hS ls (lv_sub hl [4, 5, 6, 7, 1, 8, 0] rfl)
      · have h := h.2 hc
        refine lv_aload_n hx hb (dk DX12_work 83 rfl) rfl (lv_at hl 2 rfl) ?_
        refine gM X hP 23 (by decide) rfl lk35 (dk DX12_work 84 rfl) ?_
        refine lv_iload hx hb (dk DX12_work 85 rfl) (lv_at hl 6 rfl) ?_
        refine lv_iconst (v := 1) hx hb (dk DX12_work 86 rfl) (by decide) ?_
        refine lv_isub hx hb (dk DX12_work 87 rfl) ?_
        refine lv_aload_n hx hb (dk DX12_work 88 rfl) rfl (lv_at hl 2 rfl) ?_
        refine gM X hP 23 (by decide) rfl lk35 (dk DX12_work 89 rfl) ?_
        refine lv_iload hx hb (dk DX12_work 90 rfl) (lv_at hl 6 rfl) ?_
        refine lv_iconst (v := 1) hx hb (dk DX12_work 91 rfl) (by decide) ?_
        refine lv_isub hx hb (dk DX12_work 92 rfl) ?_
        obtain ⟨hin, h⟩ := h
        refine llM X hP 7 rfl hin (dk DX12_work 93 rfl) ?_
        refine lv_lneg hx hb (dk DX12_work 94 rfl) ?_
        refine lv_topl (fun v40 ev40 => ?_)
        have h := h v40 ev40
        obtain ⟨hin, h⟩ := h
        refine stM_23 X hP hD hS hin (dk DX12_work 95 rfl) (fun S41 eS41 H locs hP hD hS => ?_)
        have h := h S41 eS41
        refine lv_goto (tgt := 407) hx hb (dk DX12_work 96 rfl) (by decide) ?_
        obtain ⟨v42, ev42⟩ : ∃ y : Int32, y = x6 + 1 := ⟨_, rfl⟩
        have h := h v42 ev42
        refine lv_iinc (v := v42) (lv' := [(6, .int v42), (8, .int v5), (7, .int v4), (0, .ref (q 0)), (1, .int x1), (2, .int x2), (3, .int x3), (4, .int x4), (5, .int x5)]) hx hb (dk DX12_work 231 rfl) hl (k := 8) rfl (by rw [ev42]; rfl) (by decide) rfl (fun ls hl => ?_)
        refine lv_goto (tgt := 47) hx hb (dk DX12_work 232 rfl) (by decide) ?_
        exact hK0 x1 x2 x3 x4 x5 v42 S41 h _ _ hP hD hS ls (lv_sub hl [3, 4, 5, 6, 7, 8, 0] rfl)
    · have h := h.2 hc
      refine lv_aload_n hx hb (dk DX12_work 64 rfl) rfl (lv_at hl 2 rfl) ?_
      refine gM X hP 23 (by decide) rfl lk35 (dk DX12_work 65 rfl) ?_
      refine lv_iload hx hb (dk DX12_work 66 rfl) (lv_at hl 6 rfl) ?_
      refine lv_iload hx hb (dk DX12_work 67 rfl) (lv_at hl 1 rfl) ?_
      refine lv_if_ne (tgt := 111) hx hb (dk DX12_work 68 rfl) (by decide) (fun hc => ?_) (fun hc => ?_)
      · have h := h.1 hc
        refine lv_aload_n hx hb (dk DX12_work 72 rfl) rfl (lv_at hl 2 rfl) ?_
        refine gM X hP 22 (by decide) rfl lk32 (dk DX12_work 73 rfl) ?_
        refine lv_iload hx hb (dk DX12_work 74 rfl) (lv_at hl 0 rfl) ?_
        obtain ⟨hin, h⟩ := h
        refine ldM X hP 6 rfl hin (dk DX12_work 75 rfl) ?_
        refine lv_i2l hx hb (dk DX12_work 76 rfl) rfl ?_
        refine lv_topl (fun v43 ev43 => ?_)
        have h := h v43 ev43
        obtain ⟨hin, h⟩ := h
        refine stM_23 X hP hD hS hin (dk DX12_work 77 rfl) (fun S44 eS44 H locs hP hD hS => ?_)
        have h := h S44 eS44
        obtain ⟨v45, ev45⟩ : ∃ y : Int32, y = x4 + 1 := ⟨_, rfl⟩
        have h := h v45 ev45
        refine lv_iinc (v := v45) (lv' := [(4, .int v45), (8, .int v5), (7, .int v4), (0, .ref (q 0)), (1, .int x1), (2, .int x2), (3, .int x3), (5, .int x5), (6, .int x6)]) hx hb (dk DX12_work 78 rfl) hl (k := 6) rfl (by rw [ev45]; rfl) (by decide) rfl (fun ls hl => ?_)
        refine lv_goto (tgt := 407) hx hb (dk DX12_work 79 rfl) (by decide) ?_
        obtain ⟨v46, ev46⟩ : ∃ y : Int32, y = x6 + 1 := ⟨_, rfl⟩
        have h := h v46 ev46
        refine lv_iinc (v := v46) (lv' := [(6, .int v46), (4, .int v45), (8, .int v5), (7, .int v4), (0, .ref (q 0)), (1, .int x1), (2, .int x2), (3, .int x3), (5, .int x5)]) hx hb (dk DX12_work 231 rfl) hl (k := 8) rfl (by rw [ev46]; rfl) (by decide) rfl (fun ls hl => ?_)
        refine lv_goto (tgt := 47) hx hb (dk DX12_work 232 rfl) (by decide) ?_
        exact hK0 x1 x2 x3 v45 x5 v46 S44 h _ _ hP hD hS ls (lv_sub hl [4, 5, 6, 7, 1, 8, 0] rfl)
      · have h := h.2 hc
        refine lv_iload hx hb (dk DX12_work 69 rfl) (lv_at hl 0 rfl) ?_
        refine lv_i2l hx hb (dk DX12_work 70 rfl) rfl ?_
        refine lv_goto (tgt := 119) hx hb (dk DX12_work 71 rfl) (by decide) ?_
        refine lv_topl (fun v47 ev47 => ?_)
        have h := h v47 ev47
        obtain ⟨hin, h⟩ := h
        refine stM_23 X hP hD hS hin (dk DX12_work 77 rfl) (fun S48 eS48 H locs hP hD hS => ?_)
        have h := h S48 eS48
        obtain ⟨v49, ev49⟩ : ∃ y : Int32, y = x4 + 1 := ⟨_, rfl⟩
        have h := h v49 ev49
        refine lv_iinc (v := v49) (lv' := [(4, .int v49), (8, .int v5), (7, .int v4), (0, .ref (q 0)), (1, .int x1), (2, .int x2), (3, .int x3), (5, .int x5), (6, .int x6)]) hx hb (dk DX12_work 78 rfl) hl (k := 6) rfl (by rw [ev49]; rfl) (by decide) rfl (fun ls hl => ?_)
        refine lv_goto (tgt := 407) hx hb (dk DX12_work 79 rfl) (by decide) ?_
        obtain ⟨v50, ev50⟩ : ∃ y : Int32, y = x6 + 1 := ⟨_, rfl⟩
        have h := h v50 ev50
        refine lv_iinc (v := v50) (lv' := [(6, .int v50), (4, .int v49), (8, .int v5), (7, .int v4), (0, .ref (q 0)), (1, .int x1), (2, .int x2), (3, .int x3), (5, .int x5)]) hx hb (dk DX12_work 231 rfl) hl (k := 8) rfl (by rw [ev50]; rfl) (by decide) rfl (fun ls hl => ?_)
        refine lv_goto (tgt := 47) hx hb (dk DX12_work 232 rfl) (by decide) ?_
        exact hK0 x1 x2 x3 v49 x5 v50 S48 h _ _ hP hD hS ls (lv_sub hl [4, 5, 6, 7, 1, 8, 0] rfl)
set_option maxHeartbeats 4000000 in
set_option maxRecDepth 100000 in
theorem m_work {l : Launch} {dC : Nat → ClassId} {dI : Nat → Nat → Nat} {q : Nat → Nat} {cI cJ cZ : ClassId} {sz : Nat} {Post : MS → Prop} (a0 : Int32) (S : MS) (h : VC_work Post a0 S) : Met l yX12_work ww_work ({ frames := 2, cells := 0, slots := 0, locals := 45 } : Room) (va_Pc [.ref (q 0), .int a0] (preM dC dI q cI cJ cZ S sz)) (va_Qv Post (atM dC dI q cI cJ cZ (va_A (wM q cI cJ cZ S) sz)) (va_A (wM q cI cJ cZ S) sz)) 0 0 (va_A (wM q cI cJ cZ S) sz) := by
  refine oM (cc := cX12_work) (maxL := 9) (ret := none) (Qc := fun A => va_Qv Post (atM dC dI q cI cJ cZ A) A) (by decide) rfl (fun w h => List.mem_cons_of_mem _ (List.mem_append_right _ h)) rfl (Nat.le_of_ble_eq_true rfl) (fun p e s m below meth c A ls X hr hlocks hP hD hS hl => ?_)
  have hx := X.1
  have hb := X.2.1
  have hl : lv_has ls 9 [(0, .ref (q 0)), (1, .int a0)] := hl
  have lk7 := X.2.2.2.2.1 (.fieldLink RX12 7 "BreathOnLoanModel" "a" "[I") (inW 5 rfl)
  have lk16 := X.2.2.2.2.1 (.fieldLink RX12 16 "BreathOnLoanModel" "texts" "[I") (inW 7 rfl)
  have lk39 := X.2.2.2.2.1 (.fieldLink RX12 39 "BreathOnLoanModel" "truth" "[Z") (inW 16 rfl)
  have lk35 := X.2.2.2.2.1 (.fieldLink RX12 35 "BreathOnLoanModel" "values" "[J") (inW 14 rfl)
  have lk32 := X.2.2.2.2.1 (.fieldLink RX12 32 "BreathOnLoanModel" "named" "[I") (inW 12 rfl)
  generalize hargs : ([.ref (q 0), .int a0] : List Value).toArray = args at X ⊢
  have h := h (fun hd S => match hd with | (x1, x2, x3, x4, x5, x6) => ∀ (H : Heap) (locs : List Loc), va_P (dC, dI) vwCl (wM q cI cJ cZ S) H → va_D A (wM q cI cJ cZ S) → va_S A s.heap H locs → ∀ ls : Array Slot, lv_has ls 9 [(0, .ref (q 0)), (1, .int x1), (2, .int x2), (3, .int x3), (4, .int x4), (5, .int x5), (6, .int x6)] → W p l e (headSpec ww_work ({ frames := 2, cells := 0, slots := 0, locals := 45 } : Room)).room s m args below meth c H locs 0 0 (MQ below (va_Qv Post (atM dC dI q cI cJ cZ A) A) args s 0 0 A) (F0 m 47 ls [])) ?_
  · skip
    refine lv_sipush (v := 680) hx hb (dk DX12_work 0 rfl) (by decide) ?_
    refine lv_aload_n hx hb (dk DX12_work 1 rfl) rfl (lv_at hl 0 rfl) ?_
    refine gM X hP 0 (by decide) rfl lk7 (dk DX12_work 2 rfl) ?_
    refine lv_iconst (v := 5) hx hb (dk DX12_work 3 rfl) (by decide) ?_
    obtain ⟨hin, h⟩ := h
    refine ldM X hP 1 rfl hin (dk DX12_work 4 rfl) ?_
    refine lv_imul hx hb (dk DX12_work 5 rfl) ?_
    refine lv_iconst (v := 1) hx hb (dk DX12_work 6 rfl) (by decide) ?_
    refine lv_iadd hx hb (dk DX12_work 7 rfl) ?_
    refine lv_iconst (v := 3) hx hb (dk DX12_work 8 rfl) (by decide) ?_
    refine lv_iload_n hx hb (dk DX12_work 9 rfl) rfl (lv_at hl 1 rfl) ?_
    refine lv_imul hx hb (dk DX12_work 10 rfl) ?_
    refine lv_iadd hx hb (dk DX12_work 11 rfl) ?_
    refine lv_topi (fun v1 ev1 => ?_)
    have h := h v1 ev1
    refine lv_istore_n (lv' := [(2, .int v1), (0, .ref (q 0)), (1, .int a0)]) hx hb (dk DX12_work 12 rfl) rfl hl (by decide) rfl (fun ls hl => ?_)
    refine lv_sipush (v := 680) hx hb (dk DX12_work 13 rfl) (by decide) ?_
    refine lv_aload_n hx hb (dk DX12_work 14 rfl) rfl (lv_at hl 1 rfl) ?_
    refine gM X hP 0 (by decide) rfl lk7 (dk DX12_work 15 rfl) ?_
    refine lv_iconst (v := 5) hx hb (dk DX12_work 16 rfl) (by decide) ?_
    obtain ⟨hin, h⟩ := h
    refine ldM X hP 1 rfl hin (dk DX12_work 17 rfl) ?_
    refine lv_imul hx hb (dk DX12_work 18 rfl) ?_
    refine lv_bipush (v := 75) hx hb (dk DX12_work 19 rfl) (by decide) ?_
    refine lv_iadd hx hb (dk DX12_work 20 rfl) ?_
    refine lv_topi (fun v2 ev2 => ?_)
    have h := h v2 ev2
    refine lv_istore_n (lv' := [(3, .int v2), (2, .int v1), (0, .ref (q 0)), (1, .int a0)]) hx hb (dk DX12_work 21 rfl) rfl hl (by decide) rfl (fun ls hl => ?_)
    refine lv_iconst (v := 0) hx hb (dk DX12_work 22 rfl) (by decide) ?_
    refine lv_istore (lv' := [(4, .int 0), (3, .int v2), (2, .int v1), (0, .ref (q 0)), (1, .int a0)]) hx hb (dk DX12_work 23 rfl) hl (by decide) rfl (fun ls hl => ?_)
    refine lv_iconst (v := 0) hx hb (dk DX12_work 24 rfl) (by decide) ?_
    refine lv_istore (lv' := [(5, .int 0), (4, .int 0), (3, .int v2), (2, .int v1), (0, .ref (q 0)), (1, .int a0)]) hx hb (dk DX12_work 25 rfl) hl (by decide) rfl (fun ls hl => ?_)
    refine lv_aload_n hx hb (dk DX12_work 26 rfl) rfl (lv_at hl 4 rfl) ?_
    refine gM X hP 2 (by decide) rfl lk16 (dk DX12_work 27 rfl) ?_
    refine lv_iload_n hx hb (dk DX12_work 28 rfl) rfl (lv_at hl 3 rfl) ?_
    refine lv_iconst (v := 1) hx hb (dk DX12_work 29 rfl) (by decide) ?_
    refine lv_iadd hx hb (dk DX12_work 30 rfl) ?_
    obtain ⟨hin, h⟩ := h
    refine ldM X hP 3 rfl hin (dk DX12_work 31 rfl) ?_
    refine lv_topi (fun v3 ev3 => ?_)
    have h := h v3 ev3
    refine lv_istore (lv' := [(6, .int v3), (5, .int 0), (4, .int 0), (3, .int v2), (2, .int v1), (0, .ref (q 0)), (1, .int a0)]) hx hb (dk DX12_work 32 rfl) hl (by decide) rfl (fun ls hl => ?_)
    exact h _ _ hP hD hS ls (lv_sub hl [5, 6, 4, 3, 2, 1, 0] rfl)
  · rintro ⟨x1, x2, x3, x4, x5, x6⟩ S hB
    exact h_work_0 X hr hlocks (hK0 := fun _ _ _ _ _ _ _ h => h) x1 x2 x3 x4 x5 x6 S hB

def ww_sumOf : List Cond := .code yX12_sumOf cX12_sumOf 5 (some .int) :: (WdM ++ wsX120)
theorem q_sumOf : yX12_sumOf.cls = RX12 ∧ yX12_sumOf.cls ≠ "java/lang/invoke/MethodHandle" ∧ yX12_sumOf.cls ≠ "java/lang/invoke/VarHandle" ∧ (parseMethodDescriptor yX12_sumOf.desc).map (fun d => d.parameters.length) = some 3 := by decide +kernel
abbrev Hd_sumOf : Type := (Int32 × Int32 × Int32 × Int32)
def B_sumOf (Post : Int32 → MS → Prop) (K : Hd_sumOf → MS → Prop) : Hd_sumOf → MS → Prop
  | (x1, x2, x3, x4), S => vp_in (5 : Int32) 3890 ∧ ((((S.2.2.1 0) (5 : Int32).toNatClampNeg) < 0 → Post x3 S) ∧ (¬ ((S.2.2.1 0) (5 : Int32).toNatClampNeg) < 0 → vp_in (5 : Int32) 3890 ∧ vp_in (680 * ((S.2.2.1 0) (5 : Int32).toNatClampNeg)) 2720 ∧ ((((S.2.2.1 2) (680 * ((S.2.2.1 0) (5 : Int32).toNatClampNeg)).toNatClampNeg) ≤ x4 → Post x3 S) ∧ (¬ ((S.2.2.1 2) (680 * ((S.2.2.1 0) (5 : Int32).toNatClampNeg)).toNatClampNeg) ≤ x4 → vp_in (5 : Int32) 3890 ∧ vp_in (((680 * ((S.2.2.1 0) (5 : Int32).toNatClampNeg)) + 1) + (3 * x4)) 2720 ∧ ((((S.2.2.1 2) (((680 * ((S.2.2.1 0) (5 : Int32).toNatClampNeg)) + 1) + (3 * x4)).toNatClampNeg) = x1 → VC_work (fun S1 => vp_in (0 : Int32) 330 ∧ VC_held (fun r2 => Post r2 S1) ((S1.2.2.2) (0 : Int32).toNatClampNeg) 0 x2) x4 S) ∧ (¬ ((S.2.2.1 2) (((680 * ((S.2.2.1 0) (5 : Int32).toNatClampNeg)) + 1) + (3 * x4)).toNatClampNeg) = x1 → ∀ v3 : Int32, v3 = x4 + 1 → K (x1, x2, x3, v3) S))))))
def VC_sumOf (Post : Int32 → MS → Prop) (a0 : Int32) (a1 : Int32) (a2 : Int32) (S : MS) : Prop := ∀ K : Hd_sumOf → MS → Prop, (∀ h S, B_sumOf Post K h S → K h S) → K (a0, a1, a2, 0) S
set_option maxHeartbeats 4000000 in
set_option maxRecDepth 100000 in
theorem h_sumOf_0 {p : Program} {l : Launch} {e : Env} {s : State} {m : MethodId} {below : List Frame} {meth : Method} {c : Code} {dC : Nat → ClassId} {dI : Nat → Nat → Nat} {q : Nat → Nat} {cI cJ cZ : ClassId} {A : Nat → Prop} {args : Array Value} {Post : Int32 → MS → Prop} {K : Hd_sumOf → MS → Prop} (X : XM p s m args c cX12_sumOf 5 ww_sumOf dC dI cI cJ cZ A) (hr : meth.sig.returnType = (some .int)) (hlocks : meth.locks = false) (hK0 : ∀ (x1 : Int32) (x2 : Int32) (x3 : Int32) (x4 : Int32) (S : MS), K (x1, x2, x3, x4) S → ∀ (H : Heap) (locs : List Loc), va_P (dC, dI) vwCl (wM q cI cJ cZ S) H → va_D A (wM q cI cJ cZ S) → va_S A s.heap H locs → ∀ ls : Array Slot, lv_has ls 5 [(0, .ref (q 0)), (1, .int x1), (2, .int x2), (3, .int x3), (4, .int x4)] → W p l e (headSpec ww_sumOf ({ frames := 3, cells := 0, slots := 0, locals := 73 } : Room)).room s m args below meth c H locs 0 0 (MQ below (va_Qi Post (atM dC dI q cI cJ cZ A) A) args s 0 0 A) (F0 m 3 ls [])) (x1 : Int32) (x2 : Int32) (x3 : Int32) (x4 : Int32) (S : MS) (h : B_sumOf Post K (x1, x2, x3, x4) S) : ∀ (H : Heap) (locs : List Loc), va_P (dC, dI) vwCl (wM q cI cJ cZ S) H → va_D A (wM q cI cJ cZ S) → va_S A s.heap H locs → ∀ ls : Array Slot, lv_has ls 5 [(0, .ref (q 0)), (1, .int x1), (2, .int x2), (3, .int x3), (4, .int x4)] → W p l e (headSpec ww_sumOf ({ frames := 3, cells := 0, slots := 0, locals := 73 } : Room)).room s m args below meth c H locs 0 0 (MQ below (va_Qi Post (atM dC dI q cI cJ cZ A) A) args s 0 0 A) (F0 m 3 ls []) := by
  have hx := X.1
  have hb := X.2.1
  intro H locs hP hD hS ls hl
  have lk7 := X.2.2.2.2.1 (.fieldLink RX12 7 "BreathOnLoanModel" "a" "[I") (inW 5 rfl)
  have lk16 := X.2.2.2.2.1 (.fieldLink RX12 16 "BreathOnLoanModel" "texts" "[I") (inW 7 rfl)
  have lk35 := X.2.2.2.2.1 (.fieldLink RX12 35 "BreathOnLoanModel" "values" "[J") (inW 14 rfl)
  dsimp only [B_sumOf] at h
  refine lv_aload_n hx hb (dk DX12_sumOf 2 rfl) rfl (lv_at hl 0 rfl) ?_
  refine gM X hP 0 (by decide) rfl lk7 (dk DX12_sumOf 3 rfl) ?_
  refine lv_iconst (v := 5) hx hb (dk DX12_sumOf 4 rfl) (by decide) ?_
  obtain ⟨hin, h⟩ := h
  refine ldM X hP 1 rfl hin (dk DX12_sumOf 5 rfl) ?_
  refine lv_if_lt (tgt := 85) hx hb (dk DX12_sumOf 6 rfl) (by decide) (fun hc => ?_) (fun hc => ?_)
  · have h := h.1 hc
    refine lv_iload_n hx hb (dk DX12_sumOf 49 rfl) rfl (lv_at hl 3 rfl) ?_
    exact W.iret (v := x3) hx hb hr (fun t ht hW => ⟨⟨_, _, rfl, h, by rw [ht]; exact hP, va_K.moved hW.alike X.2.2.2.2.2.2.1, hD⟩, hS.F ht⟩) hS.2.2 (dk DX12_sumOf 50 rfl)
  · have h := h.2 hc
    refine lv_iload hx hb (dk DX12_sumOf 7 rfl) (lv_at hl 4 rfl) ?_
    refine lv_aload_n hx hb (dk DX12_sumOf 8 rfl) rfl (lv_at hl 0 rfl) ?_
    refine gM X hP 2 (by decide) rfl lk16 (dk DX12_sumOf 9 rfl) ?_
    refine lv_sipush (v := 680) hx hb (dk DX12_sumOf 10 rfl) (by decide) ?_
    refine lv_aload_n hx hb (dk DX12_sumOf 11 rfl) rfl (lv_at hl 0 rfl) ?_
    refine gM X hP 0 (by decide) rfl lk7 (dk DX12_sumOf 12 rfl) ?_
    refine lv_iconst (v := 5) hx hb (dk DX12_sumOf 13 rfl) (by decide) ?_
    obtain ⟨hin, h⟩ := h
    refine ldM X hP 1 rfl hin (dk DX12_sumOf 14 rfl) ?_
    refine lv_imul hx hb (dk DX12_sumOf 15 rfl) ?_
    obtain ⟨hin, h⟩ := h
    refine ldM X hP 3 rfl hin (dk DX12_sumOf 16 rfl) ?_
    refine lv_icmp_ge (tgt := 85) hx hb (dk DX12_sumOf 17 rfl) (by decide) (fun hc => ?_) (fun hc => ?_)
    · have h := h.1 hc
      refine lv_iload_n hx hb (dk DX12_sumOf 49 rfl) rfl (lv_at hl 3 rfl) ?_
      exact W.iret (v := x3) hx hb hr (fun t ht hW => ⟨⟨_, _, rfl, h, by rw [ht]; exact hP, va_K.moved hW.alike X.2.2.2.2.2.2.1, hD⟩, hS.F ht⟩) hS.2.2 (dk DX12_sumOf 50 rfl)
    · have h := h.2 hc
      refine lv_aload_n hx hb (dk DX12_sumOf 18 rfl) rfl (lv_at hl 0 rfl) ?_
      refine gM X hP 2 (by decide) rfl lk16 (dk DX12_sumOf 19 rfl) ?_
      refine lv_sipush (v := 680) hx hb (dk DX12_sumOf 20 rfl) (by decide) ?_
      refine lv_aload_n hx hb (dk DX12_sumOf 21 rfl) rfl (lv_at hl 0 rfl) ?_
      refine gM X hP 0 (by decide) rfl lk7 (dk DX12_sumOf 22 rfl) ?_
      refine lv_iconst (v := 5) hx hb (dk DX12_sumOf 23 rfl) (by decide) ?_
      obtain ⟨hin, h⟩ := h
      refine ldM X hP 1 rfl hin (dk DX12_sumOf 24 rfl) ?_
      refine lv_imul hx hb (dk DX12_sumOf 25 rfl) ?_
      refine lv_iconst (v := 1) hx hb (dk DX12_sumOf 26 rfl) (by decide) ?_
      refine lv_iadd hx hb (dk DX12_sumOf 27 rfl) ?_
      refine lv_iconst (v := 3) hx hb (dk DX12_sumOf 28 rfl) (by decide) ?_
      refine lv_iload hx hb (dk DX12_sumOf 29 rfl) (lv_at hl 4 rfl) ?_
      refine lv_imul hx hb (dk DX12_sumOf 30 rfl) ?_
      refine lv_iadd hx hb (dk DX12_sumOf 31 rfl) ?_
      obtain ⟨hin, h⟩ := h
      refine ldM X hP 3 rfl hin (dk DX12_sumOf 32 rfl) ?_
      refine lv_iload_n hx hb (dk DX12_sumOf 33 rfl) rfl (lv_at hl 1 rfl) ?_
      refine lv_icmp_eq (tgt := 61) hx hb (dk DX12_sumOf 34 rfl) (by decide) (fun hc => ?_) (fun hc => ?_)
      · have h := h.1 hc
        refine lv_aload_n hx hb (dk DX12_sumOf 36 rfl) rfl (lv_at hl 0 rfl) ?_
        refine lv_iload hx hb (dk DX12_sumOf 37 rfl) (lv_at hl 4 rfl) ?_
        refine cMv (As := [.int x4]) (rest := []) X (m_work (l := l) (dC := dC) (dI := dI) (q := q) (cI := cI) (cJ := cJ) (cZ := cZ) (sz := _) x4 S h) (cwV 1 X.2.2.2.2.1 (gwV 222 223 224 24 216 rfl rfl rfl rfl rfl) rfl rfl rfl q_work ⟨Nat.le_of_ble_eq_true rfl, Nat.le_of_ble_eq_true rfl⟩) hP hD hS rfl hl.1 rfl (Nat.le_of_ble_eq_true rfl) (dk DX12_sumOf 38 rfl) (fun S1 H locs h hP hD hS => ?_)
        refine lv_aload_n hx hb (dk DX12_sumOf 39 rfl) rfl (lv_at hl 0 rfl) ?_
        refine gM X hP 23 (by decide) rfl lk35 (dk DX12_sumOf 40 rfl) ?_
        refine lv_iconst (v := 0) hx hb (dk DX12_sumOf 41 rfl) (by decide) ?_
        obtain ⟨hin, h⟩ := h
        refine llM X hP 7 rfl hin (dk DX12_sumOf 42 rfl) ?_
        refine lv_iconst (v := 0) hx hb (dk DX12_sumOf 43 rfl) (by decide) ?_
        refine lv_iload_n hx hb (dk DX12_sumOf 44 rfl) rfl (lv_at hl 2 rfl) ?_
        refine cSi (As := [.long ((S1.2.2.2) (0 : Int32).toNatClampNeg), .int 0, .int x2]) (rest := []) ⟨X.1, X.2.1, X.2.2.1, X.2.2.2.1, X.2.2.2.2.1⟩ (m_held (l := l) ((S1.2.2.2) (0 : Int32).toNatClampNeg) 0 x2 h) (va_cwS 3 X.2.2.2.2.1 (gwS 225 226 24 27 rfl rfl rfl rfl) rfl rfl rfl q_held ⟨Nat.le_of_ble_eq_true rfl, Nat.le_of_ble_eq_true rfl⟩) rfl hl.1 rfl (Nat.le_of_ble_eq_true rfl) (dk DX12_sumOf 45 rfl) (fun r2 h => ?_)
        exact W.iret (v := r2) hx hb hr (fun t ht hW => ⟨⟨_, _, rfl, h, by rw [ht]; exact hP, va_K.moved hW.alike X.2.2.2.2.2.2.1, hD⟩, hS.F ht⟩) hS.2.2 (dk DX12_sumOf 46 rfl)
      · have h := h.2 hc
        refine lv_goto (tgt := 79) hx hb (dk DX12_sumOf 35 rfl) (by decide) ?_
        obtain ⟨v3, ev3⟩ : ∃ y : Int32, y = x4 + 1 := ⟨_, rfl⟩
        have h := h v3 ev3
        refine lv_iinc (v := v3) (lv' := [(4, .int v3), (0, .ref (q 0)), (1, .int x1), (2, .int x2), (3, .int x3)]) hx hb (dk DX12_sumOf 47 rfl) hl (k := 4) rfl (by rw [ev3]; rfl) (by decide) rfl (fun ls hl => ?_)
        refine lv_goto (tgt := 3) hx hb (dk DX12_sumOf 48 rfl) (by decide) ?_
        exact hK0 x1 x2 x3 v3 S h _ _ hP hD hS ls (lv_sub hl [1, 2, 3, 4, 0] rfl)
set_option maxHeartbeats 4000000 in
set_option maxRecDepth 100000 in
theorem m_sumOf {l : Launch} {dC : Nat → ClassId} {dI : Nat → Nat → Nat} {q : Nat → Nat} {cI cJ cZ : ClassId} {sz : Nat} {Post : Int32 → MS → Prop} (a0 : Int32) (a1 : Int32) (a2 : Int32) (S : MS) (h : VC_sumOf Post a0 a1 a2 S) : Met l yX12_sumOf ww_sumOf ({ frames := 3, cells := 0, slots := 0, locals := 73 } : Room) (va_Pc [.ref (q 0), .int a0, .int a1, .int a2] (preM dC dI q cI cJ cZ S sz)) (va_Qi Post (atM dC dI q cI cJ cZ (va_A (wM q cI cJ cZ S) sz)) (va_A (wM q cI cJ cZ S) sz)) 0 0 (va_A (wM q cI cJ cZ S) sz) := by
  refine oM (cc := cX12_sumOf) (maxL := 5) (ret := (some .int)) (Qc := fun A => va_Qi Post (atM dC dI q cI cJ cZ A) A) (by decide) rfl (fun w h => List.mem_cons_of_mem _ (List.mem_append_right _ h)) rfl (Nat.le_of_ble_eq_true rfl) (fun p e s m below meth c A ls X hr hlocks hP hD hS hl => ?_)
  have hx := X.1
  have hb := X.2.1
  have hl : lv_has ls 5 [(0, .ref (q 0)), (1, .int a0), (2, .int a1), (3, .int a2)] := hl
  have lk7 := X.2.2.2.2.1 (.fieldLink RX12 7 "BreathOnLoanModel" "a" "[I") (inW 5 rfl)
  have lk16 := X.2.2.2.2.1 (.fieldLink RX12 16 "BreathOnLoanModel" "texts" "[I") (inW 7 rfl)
  have lk35 := X.2.2.2.2.1 (.fieldLink RX12 35 "BreathOnLoanModel" "values" "[J") (inW 14 rfl)
  generalize hargs : ([.ref (q 0), .int a0, .int a1, .int a2] : List Value).toArray = args at X ⊢
  have h := h (fun hd S => match hd with | (x1, x2, x3, x4) => ∀ (H : Heap) (locs : List Loc), va_P (dC, dI) vwCl (wM q cI cJ cZ S) H → va_D A (wM q cI cJ cZ S) → va_S A s.heap H locs → ∀ ls : Array Slot, lv_has ls 5 [(0, .ref (q 0)), (1, .int x1), (2, .int x2), (3, .int x3), (4, .int x4)] → W p l e (headSpec ww_sumOf ({ frames := 3, cells := 0, slots := 0, locals := 73 } : Room)).room s m args below meth c H locs 0 0 (MQ below (va_Qi Post (atM dC dI q cI cJ cZ A) A) args s 0 0 A) (F0 m 3 ls [])) ?_
  · skip
    refine lv_iconst (v := 0) hx hb (dk DX12_sumOf 0 rfl) (by decide) ?_
    refine lv_istore (lv' := [(4, .int 0), (0, .ref (q 0)), (1, .int a0), (2, .int a1), (3, .int a2)]) hx hb (dk DX12_sumOf 1 rfl) hl (by decide) rfl (fun ls hl => ?_)
    exact h _ _ hP hD hS ls (lv_sub hl [1, 2, 3, 4, 0] rfl)
  · rintro ⟨x1, x2, x3, x4⟩ S hB
    exact h_sumOf_0 X hr hlocks (hK0 := fun _ _ _ _ _ h => h) x1 x2 x3 x4 S hB

def ww_smokeIn : List Cond := .code yX12_smokeIn cX12_smokeIn 2 (some .int) :: (WdM ++ wsX120)
theorem q_smokeIn : yX12_smokeIn.cls = RX12 ∧ yX12_smokeIn.cls ≠ "java/lang/invoke/MethodHandle" ∧ yX12_smokeIn.cls ≠ "java/lang/invoke/VarHandle" ∧ (parseMethodDescriptor yX12_smokeIn.desc).map (fun d => d.parameters.length) = some 1 := by decide +kernel
def VC_smokeIn (Post : Int32 → MS → Prop) (a0 : Int32) (S : MS) : Prop := vp_in (0 : Int32) 11 ∧ ∀ S1 : MS, S1 = sF S 22 (upd (S.2.2.1 22) (0 : Int32).toNatClampNeg a0) → VC_sumOf (fun r3 S2 => Post r3 S2) 0 40 40 S1
set_option maxHeartbeats 4000000 in
set_option maxRecDepth 100000 in
theorem m_smokeIn {l : Launch} {dC : Nat → ClassId} {dI : Nat → Nat → Nat} {q : Nat → Nat} {cI cJ cZ : ClassId} {sz : Nat} {Post : Int32 → MS → Prop} (a0 : Int32) (S : MS) (h : VC_smokeIn Post a0 S) : Met l yX12_smokeIn ww_smokeIn ({ frames := 4, cells := 0, slots := 0, locals := 97 } : Room) (va_Pc [.ref (q 0), .int a0] (preM dC dI q cI cJ cZ S sz)) (va_Qi Post (atM dC dI q cI cJ cZ (va_A (wM q cI cJ cZ S) sz)) (va_A (wM q cI cJ cZ S) sz)) 0 0 (va_A (wM q cI cJ cZ S) sz) := by
  refine oM (cc := cX12_smokeIn) (maxL := 2) (ret := (some .int)) (Qc := fun A => va_Qi Post (atM dC dI q cI cJ cZ A) A) (by decide) rfl (fun w h => List.mem_cons_of_mem _ (List.mem_append_right _ h)) rfl (Nat.le_of_ble_eq_true rfl) (fun p e s m below meth c A ls X hr hlocks hP hD hS hl => ?_)
  have hx := X.1
  have hb := X.2.1
  have hl : lv_has ls 2 [(0, .ref (q 0)), (1, .int a0)] := hl
  have lk32 := X.2.2.2.2.1 (.fieldLink RX12 32 "BreathOnLoanModel" "named" "[I") (inW 12 rfl)
  dsimp only [VC_smokeIn] at h
  refine lv_aload_n hx hb (dk DX12_smokeIn 0 rfl) rfl (lv_at hl 0 rfl) ?_
  refine gM X hP 22 (by decide) rfl lk32 (dk DX12_smokeIn 1 rfl) ?_
  refine lv_iconst (v := 0) hx hb (dk DX12_smokeIn 2 rfl) (by decide) ?_
  refine lv_iload_n hx hb (dk DX12_smokeIn 3 rfl) rfl (lv_at hl 1 rfl) ?_
  obtain ⟨hin, h⟩ := h
  refine stM_22 X hP hD hS hin (dk DX12_smokeIn 4 rfl) (fun S1 eS1 H locs hP hD hS => ?_)
  have h := h S1 eS1
  refine lv_aload_n hx hb (dk DX12_smokeIn 5 rfl) rfl (lv_at hl 0 rfl) ?_
  refine lv_iconst (v := 0) hx hb (dk DX12_smokeIn 6 rfl) (by decide) ?_
  refine lv_bipush (v := 40) hx hb (dk DX12_smokeIn 7 rfl) (by decide) ?_
  refine lv_bipush (v := 40) hx hb (dk DX12_smokeIn 8 rfl) (by decide) ?_
  refine cMi (As := [.int 0, .int 40, .int 40]) (rest := []) X (m_sumOf (l := l) (dC := dC) (dI := dI) (q := q) (cI := cI) (cJ := cJ) (cZ := cZ) (sz := _) 0 40 40 S1 h) (cwV 3 X.2.2.2.2.1 (gwV 227 228 229 24 221 rfl rfl rfl rfl rfl) rfl rfl rfl q_sumOf ⟨Nat.le_of_ble_eq_true rfl, Nat.le_of_ble_eq_true rfl⟩) hP hD hS rfl hl.1 rfl (Nat.le_of_ble_eq_true rfl) (dk DX12_smokeIn 9 rfl) (fun r3 S2 H locs h hP hD hS => ?_)
  exact W.iret (v := r3) hx hb hr (fun t ht hW => ⟨⟨_, _, rfl, h, by rw [ht]; exact hP, va_K.moved hW.alike X.2.2.2.2.2.2.1, hD⟩, hS.F ht⟩) hS.2.2 (dk DX12_smokeIn 10 rfl)

