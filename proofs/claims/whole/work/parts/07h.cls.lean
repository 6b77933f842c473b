-- X2_join X2_obey_48 X2_nameBlower_48_1 X2_nameKind_48_1 X4_cellOf
def ww_X2_join : List Cond := .code yX2_join cX2_join 5 (some .long) :: (WdX ++ WsX)
theorem q_X2_join : yX2_join.cls ≠ "java/lang/invoke/MethodHandle" ∧ yX2_join.cls ≠ "java/lang/invoke/VarHandle" ∧ (parseMethodDescriptor yX2_join.desc).map (fun d => d.parameters.length) = some 3 := by decide +kernel
def VC_X2_join (Post : Int64 → Prop) (a0 : Int32) (a1 : Int64) (a2 : Int64) : Prop := ((a0 = 0 → ((0 ≤ (lg_cmp a1 a2) → Post 0) ∧ (¬ 0 ≤ (lg_cmp a1 a2) → Post 1))) ∧ (a0 = 1 → (((lg_cmp a1 a2) ≤ 0 → Post 0) ∧ (¬ (lg_cmp a1 a2) ≤ 0 → Post 1))) ∧ (a0 = 2 → ((¬ (lg_cmp a1 a2) = 0 → Post 0) ∧ ((lg_cmp a1 a2) = 0 → Post 1))) ∧ (a0 = 3 → (((lg_cmp a1 a2) = 0 → Post 0) ∧ (¬ (lg_cmp a1 a2) = 0 → Post 1))) ∧ (a0 = 4 → Post (a1 + a2)) ∧ (a0 = 5 → Post (a1 - a2)) ∧ (a0 = 6 → Post (a1 * a2)) ∧ (a0 = 7 → ((¬ (lg_cmp a2 0) = 0 → ¬ a2 = 0 ∧ Post (a1 / a2)) ∧ ((lg_cmp a2 0) = 0 → Post 0))) ∧ (a0 = 8 → Post 0) ∧ (a0 = 9 → Post 0) ∧ (a0 = 10 → Post 0) ∧ (a0 = 11 → Post 0) ∧ (a0 = 12 → Post 0) ∧ (a0 = 13 → ((0 < (lg_cmp a1 a2) → Post 0) ∧ (¬ 0 < (lg_cmp a1 a2) → Post 1))) ∧ (a0 = 14 → (((lg_cmp a1 a2) < 0 → Post 0) ∧ (¬ (lg_cmp a1 a2) < 0 → Post 1))) ∧ (a0 = 15 → Post 0) ∧ (a0 = 16 → Post 0) ∧ (a0 = 17 → Post 0) ∧ (a0 = 18 → Post 0) ∧ (a0 = 19 → Post 0) ∧ (a0 = 20 → Post 0) ∧ (a0 = 21 → Post 0) ∧ (a0 = 22 → Post 0) ∧ (a0 = 23 → Post 0) ∧ (a0 = 24 → Post 0) ∧ (a0 = 25 → Post 0) ∧ (a0 = 26 → Post 0) ∧ (a0 = 27 → Post 0) ∧ (a0 = 28 → Post 0) ∧ (a0 = 29 → Post 0) ∧ (a0 = 30 → Post 0) ∧ (a0 = 31 → Post 0) ∧ (a0 = 32 → Post 0) ∧ (a0 = 33 → Post 0) ∧ (a0 = 34 → Post 0) ∧ (a0 = 35 → Post 0) ∧ (a0 = 36 → Post 0) ∧ (a0 = 37 → Post 0) ∧ (a0 = 38 → Post 0) ∧ (a0 = 39 → Post 0) ∧ (a0 = 40 → Post 0) ∧ (a0 = 41 → Post 0) ∧ (a0 = 42 → Post 0) ∧ (a0 = 43 → Post (a1 ||| a2)) ∧ (a0 = 44 → Post (a1 &&& a2)) ∧ (¬ a0 = 0 → ¬ a0 = 1 → ¬ a0 = 2 → ¬ a0 = 3 → ¬ a0 = 4 → ¬ a0 = 5 → ¬ a0 = 6 → ¬ a0 = 7 → ¬ a0 = 8 → ¬ a0 = 9 → ¬ a0 = 10 → ¬ a0 = 11 → ¬ a0 = 12 → ¬ a0 = 13 → ¬ a0 = 14 → ¬ a0 = 15 → ¬ a0 = 16 → ¬ a0 = 17 → ¬ a0 = 18 → ¬ a0 = 19 → ¬ a0 = 20 → ¬ a0 = 21 → ¬ a0 = 22 → ¬ a0 = 23 → ¬ a0 = 24 → ¬ a0 = 25 → ¬ a0 = 26 → ¬ a0 = 27 → ¬ a0 = 28 → ¬ a0 = 29 → ¬ a0 = 30 → ¬ a0 = 31 → ¬ a0 = 32 → ¬ a0 = 33 → ¬ a0 = 34 → ¬ a0 = 35 → ¬ a0 = 36 → ¬ a0 = 37 → ¬ a0 = 38 → ¬ a0 = 39 → ¬ a0 = 40 → ¬ a0 = 41 → ¬ a0 = 42 → ¬ a0 = 43 → ¬ a0 = 44 → Post 0))
set_option maxHeartbeats 4000000 in
set_option maxRecDepth 100000 in
theorem m_X2_join {l : Launch} {Post : Int64 → Prop} (a0 : Int32) (a1 : Int64) (a2 : Int64) (h : VC_X2_join Post a0 a1 a2) : Met l yX2_join ww_X2_join ({ frames := 0, cells := 0, slots := 0, locals := 0 } : Room) (va_Pc [.int a0, .long a1, .long a2] (fun _ => True)) (vp_Sl Post) 0 0 (fun _ => False) := by
  refine oS (cc := cX2_join) (maxL := 5) (ret := (some .long)) (Qc := vp_Sl Post) (by decide) rfl (Nat.le_of_ble_eq_true rfl) (fun p e s m below meth c ls X hr hlocks hl => ?_)
  have hx := X.1
  have hb := X.2.1
  have hP := trivial
  have hD := trivial
  have hS := trivial
  have hl : lv_has ls 5 [(0, .int a0), (1, .long a1), (3, .long a2)] := hl
  dsimp only [VC_X2_join] at h
  refine lv_iload_n hx hb (dk DX2_join 0 rfl) rfl (lv_at hl 0 rfl) ?_
  by_cases hc0 : a0 = 0
  · have h := h.1 hc0
    refine lv_tableIn (off := 221) (tgt := 222) hx hb (dk DX2_join 1 rfl) (by rw [hc0]; decide) (by rw [hc0]; decide) (by rw [hc0]; decide) (by decide) ?_
    refine lv_lload_n hx hb (dk DX2_join 24 rfl) rfl (lv_at hl 1 rfl) ?_
    refine lv_lload_n hx hb (dk DX2_join 25 rfl) rfl (lv_at hl 2 rfl) ?_
    refine W.lcmp hx hb (dk DX2_join 26 rfl) ?_
    refine lv_if_ge (tgt := 232) hx hb (dk DX2_join 27 rfl) (by decide) (fun hc => ?_) (fun hc => ?_)
    · have h := h.1 hc
      refine lv_lconst (v := 0) hx hb (dk DX2_join 30 rfl) (by decide) ?_
      exact W.lret (v := 0) hx hb hr (fun t ht hW => ⟨_, rfl, h, ht⟩) (fun _ h => by cases h) (dk DX2_join 31 rfl)
    · have h := h.2 hc
      refine lv_lconst (v := 1) hx hb (dk DX2_join 28 rfl) (by decide) ?_
      refine lv_goto (tgt := 233) hx hb (dk DX2_join 29 rfl) (by decide) ?_
      exact W.lret (v := 1) hx hb hr (fun t ht hW => ⟨_, rfl, h, ht⟩) (fun _ h => by cases h) (dk DX2_join 31 rfl)
  have h := h.2
  by_cases hc1 : a0 = 1
  · have h := h.1 hc1
    refine lv_tableIn (off := 233) (tgt := 234) hx hb (dk DX2_join 1 rfl) (by rw [hc1]; decide) (by rw [hc1]; decide) (by rw [hc1]; decide) (by decide) ?_
    refine lv_lload_n hx hb (dk DX2_join 32 rfl) rfl (lv_at hl 1 rfl) ?_
    refine lv_lload_n hx hb (dk DX2_join 33 rfl) rfl (lv_at hl 2 rfl) ?_
    refine W.lcmp hx hb (dk DX2_join 34 rfl) ?_
    refine lv_if_le (tgt := 244) hx hb (dk DX2_join 35 rfl) (by decide) (fun hc => ?_) (fun hc => ?_)
    · have h := h.1 hc
      refine lv_lconst (v := 0) hx hb (dk DX2_join 38 rfl) (by decide) ?_
      exact W.lret (v := 0) hx hb hr (fun t ht hW => ⟨_, rfl, h, ht⟩) (fun _ h => by cases h) (dk DX2_join 39 rfl)
    · have h := h.2 hc
      refine lv_lconst (v := 1) hx hb (dk DX2_join 36 rfl) (by decide) ?_
      refine lv_goto (tgt := 245) hx hb (dk DX2_join 37 rfl) (by decide) ?_
      exact W.lret (v := 1) hx hb hr (fun t ht hW => ⟨_, rfl, h, ht⟩) (fun _ h => by cases h) (dk DX2_join 39 rfl)
  have h := h.2
  by_cases hc2 : a0 = 2
  · have h := h.1 hc2
    refine lv_tableIn (off := 245) (tgt := 246) hx hb (dk DX2_join 1 rfl) (by rw [hc2]; decide) (by rw [hc2]; decide) (by rw [hc2]; decide) (by decide) ?_
    refine lv_lload_n hx hb (dk DX2_join 40 rfl) rfl (lv_at hl 1 rfl) ?_
    refine lv_lload_n hx hb (dk DX2_join 41 rfl) rfl (lv_at hl 2 rfl) ?_
    refine W.lcmp hx hb (dk DX2_join 42 rfl) ?_
    refine lv_if_ne (tgt := 256) hx hb (dk DX2_join 43 rfl) (by decide) (fun hc => ?_) (fun hc => ?_)
    · have h := h.1 hc
      refine lv_lconst (v := 0) hx hb (dk DX2_join 46 rfl) (by decide) ?_
      exact W.lret (v := 0) hx hb hr (fun t ht hW => ⟨_, rfl, h, ht⟩) (fun _ h => by cases h) (dk DX2_join 47 rfl)
    · have h := h.2 hc
      refine lv_lconst (v := 1) hx hb (dk DX2_join 44 rfl) (by decide) ?_
      refine lv_goto (tgt := 257) hx hb (dk DX2_join 45 rfl) (by decide) ?_
      exact W.lret (v := 1) hx hb hr (fun t ht hW => ⟨_, rfl, h, ht⟩) (fun _ h => by cases h) (dk DX2_join 47 rfl)
  have h := h.2
  by_cases hc3 : a0 = 3
  · have h := h.1 hc3
    refine lv_tableIn (off := 257) (tgt := 258) hx hb (dk DX2_join 1 rfl) (by rw [hc3]; decide) (by rw [hc3]; decide) (by rw [hc3]; decide) (by decide) ?_
    refine lv_lload_n hx hb (dk DX2_join 48 rfl) rfl (lv_at hl 1 rfl) ?_
    refine lv_lload_n hx hb (dk DX2_join 49 rfl) rfl (lv_at hl 2 rfl) ?_
    refine W.lcmp hx hb (dk DX2_join 50 rfl) ?_
    refine lv_if_eq (tgt := 268) hx hb (dk DX2_join 51 rfl) (by decide) (fun hc => ?_) (fun hc => ?_)
    · have h := h.1 hc
      refine lv_lconst (v := 0) hx hb (dk DX2_join 54 rfl) (by decide) ?_
      exact W.lret (v := 0) hx hb hr (fun t ht hW => ⟨_, rfl, h, ht⟩) (fun _ h => by cases h) (dk DX2_join 55 rfl)
    · have h := h.2 hc
      refine lv_lconst (v := 1) hx hb (dk DX2_join 52 rfl) (by decide) ?_
      refine lv_goto (tgt := 269) hx hb (dk DX2_join 53 rfl) (by decide) ?_
      exact W.lret (v := 1) hx hb hr (fun t ht hW => ⟨_, rfl, h, ht⟩) (fun _ h => by cases h) (dk DX2_join 55 rfl)
  have h := h.2
  by_cases hc4 : a0 = 4
  · have h := h.1 hc4
    refine lv_tableIn (off := 195) (tgt := 196) hx hb (dk DX2_join 1 rfl) (by rw [hc4]; decide) (by rw [hc4]; decide) (by rw [hc4]; decide) (by decide) ?_
    refine lv_lload_n hx hb (dk DX2_join 2 rfl) rfl (lv_at hl 1 rfl) ?_
    refine lv_lload_n hx hb (dk DX2_join 3 rfl) rfl (lv_at hl 2 rfl) ?_
    refine lv_ladd hx hb (dk DX2_join 4 rfl) ?_
    exact W.lret (v := a1 + a2) hx hb hr (fun t ht hW => ⟨_, rfl, h, ht⟩) (fun _ h => by cases h) (dk DX2_join 5 rfl)
  have h := h.2
  by_cases hc5 : a0 = 5
  · have h := h.1 hc5
    refine lv_tableIn (off := 199) (tgt := 200) hx hb (dk DX2_join 1 rfl) (by rw [hc5]; decide) (by rw [hc5]; decide) (by rw [hc5]; decide) (by decide) ?_
    refine lv_lload_n hx hb (dk DX2_join 6 rfl) rfl (lv_at hl 1 rfl) ?_
    refine lv_lload_n hx hb (dk DX2_join 7 rfl) rfl (lv_at hl 2 rfl) ?_
    refine lv_lsub hx hb (dk DX2_join 8 rfl) ?_
    exact W.lret (v := a1 - a2) hx hb hr (fun t ht hW => ⟨_, rfl, h, ht⟩) (fun _ h => by cases h) (dk DX2_join 9 rfl)
  have h := h.2
  by_cases hc6 : a0 = 6
  · have h := h.1 hc6
    refine lv_tableIn (off := 203) (tgt := 204) hx hb (dk DX2_join 1 rfl) (by rw [hc6]; decide) (by rw [hc6]; decide) (by rw [hc6]; decide) (by decide) ?_
    refine lv_lload_n hx hb (dk DX2_join 10 rfl) rfl (lv_at hl 1 rfl) ?_
    refine lv_lload_n hx hb (dk DX2_join 11 rfl) rfl (lv_at hl 2 rfl) ?_
    refine lv_lmul hx hb (dk DX2_join 12 rfl) ?_
    exact W.lret (v := a1 * a2) hx hb hr (fun t ht hW => ⟨_, rfl, h, ht⟩) (fun _ h => by cases h) (dk DX2_join 13 rfl)
  have h := h.2
  by_cases hc7 : a0 = 7
  · have h := h.1 hc7
    refine lv_tableIn (off := 207) (tgt := 208) hx hb (dk DX2_join 1 rfl) (by rw [hc7]; decide) (by rw [hc7]; decide) (by rw [hc7]; decide) (by decide) ?_
    refine lv_lload_n hx hb (dk DX2_join 14 rfl) rfl (lv_at hl 2 rfl) ?_
    refine lv_lconst (v := 0) hx hb (dk DX2_join 15 rfl) (by decide) ?_
    refine W.lcmp hx hb (dk DX2_join 16 rfl) ?_
    refine lv_if_ne (tgt := 218) hx hb (dk DX2_join 17 rfl) (by decide) (fun hc => ?_) (fun hc => ?_)
    · have h := h.1 hc
      refine lv_lload_n hx hb (dk DX2_join 20 rfl) rfl (lv_at hl 1 rfl) ?_
      refine lv_lload_n hx hb (dk DX2_join 21 rfl) rfl (lv_at hl 2 rfl) ?_
      obtain ⟨hz, h⟩ := h
      refine lv_ldiv hx hb (dk DX2_join 22 rfl) hz ?_
      exact W.lret (v := a1 / a2) hx hb hr (fun t ht hW => ⟨_, rfl, h, ht⟩) (fun _ h => by cases h) (dk DX2_join 23 rfl)
    · have h := h.2 hc
      refine lv_lconst (v := 0) hx hb (dk DX2_join 18 rfl) (by decide) ?_
      refine lv_goto (tgt := 221) hx hb (dk DX2_join 19 rfl) (by decide) ?_
      exact W.lret (v := 0) hx hb hr (fun t ht hW => ⟨_, rfl, h, ht⟩) (fun _ h => by cases h) (dk DX2_join 23 rfl)
  have h := h.2
  by_cases hc8 : a0 = 8
  · have h := h.1 hc8
    refine lv_tableIn (off := 301) (tgt := 302) hx hb (dk DX2_join 1 rfl) (by rw [hc8]; decide) (by rw [hc8]; decide) (by rw [hc8]; decide) (by decide) ?_
    refine lv_lconst (v := 0) hx hb (dk DX2_join 80 rfl) (by decide) ?_
    exact W.lret (v := 0) hx hb hr (fun t ht hW => ⟨_, rfl, h, ht⟩) (fun _ h => by cases h) (dk DX2_join 81 rfl)
  have h := h.2
  by_cases hc9 : a0 = 9
  · have h := h.1 hc9
    refine lv_tableIn (off := 301) (tgt := 302) hx hb (dk DX2_join 1 rfl) (by rw [hc9]; decide) (by rw [hc9]; decide) (by rw [hc9]; decide) (by decide) ?_
    refine lv_lconst (v := 0) hx hb (dk DX2_join 80 rfl) (by decide) ?_
    exact W.lret (v := 0) hx hb hr (fun t ht hW => ⟨_, rfl, h, ht⟩) (fun _ h => by cases h) (dk DX2_join 81 rfl)
  have h := h.2
  by_cases hc10 : a0 = 10
  · have h := h.1 hc10
    refine lv_tableIn (off := 301) (tgt := 302) hx hb (dk DX2_join 1 rfl) (by rw [hc10]; decide) (by rw [hc10]; decide) (by rw [hc10]; decide) (by decide) ?_
    refine lv_lconst (v := 0) hx hb (dk DX2_join 80 rfl) (by decide) ?_
    exact W.lret (v := 0) hx hb hr (fun t ht hW => ⟨_, rfl, h, ht⟩) (fun _ h => by cases h) (dk DX2_join 81 rfl)
  have h := h.2
  by_cases hc11 : a0 = 11
  · have h := h.1 hc11
    refine lv_tableIn (off := 301) (tgt := 302) hx hb (dk DX2_join 1 rfl) (by rw [hc11]; decide) (by rw [hc11]; decide) (by rw [hc11]; decide) (by decide) ?_
    refine lv_lconst (v := 0) hx hb (dk DX2_join 80 rfl) (by decide) ?_
    exact W.lret (v := 0) hx hb hr (fun t ht hW => ⟨_, rfl, h, ht⟩) (fun _ h => by cases h) (dk DX2_join 81 rfl)
  have h := h.2
  by_cases hc12 : a0 = 12
  · have h := h.1 hc12
    refine lv_tableIn (off := 301) (tgt := 302) hx hb (dk DX2_join 1 rfl) (by rw [hc12]; decide) (by rw [hc12]; decide) (by rw [hc12]; decide) (by decide) ?_
    refine lv_lconst (v := 0) hx hb (dk DX2_join 80 rfl) (by decide) ?_
    exact W.lret (v := 0) hx hb hr (fun t ht hW => ⟨_, rfl, h, ht⟩) (fun _ h => by cases h) (dk DX2_join 81 rfl)
  have h := h.2
  by_cases hc13 : a0 = 13
  · have h := h.1 hc13
    refine lv_tableIn (off := 269) (tgt := 270) hx hb (dk DX2_join 1 rfl) (by rw [hc13]; decide) (by rw [hc13]; decide) (by rw [hc13]; decide) (by decide) ?_
    refine lv_lload_n hx hb (dk DX2_join 56 rfl) rfl (lv_at hl 1 rfl) ?_
    refine lv_lload_n hx hb (dk DX2_join 57 rfl) rfl (lv_at hl 2 rfl) ?_
    refine W.lcmp hx hb (dk DX2_join 58 rfl) ?_
    refine lv_if_gt (tgt := 280) hx hb (dk DX2_join 59 rfl) (by decide) (fun hc => ?_) (fun hc => ?_)
    · have h := h.1 hc
      refine lv_lconst (v := 0) hx hb (dk DX2_join 62 rfl) (by decide) ?_
      exact W.lret (v := 0) hx hb hr (fun t ht hW => ⟨_, rfl, h, ht⟩) (fun _ h => by cases h) (dk DX2_join 63 rfl)
    · have h := h.2 hc
      refine lv_lconst (v := 1) hx hb (dk DX2_join 60 rfl) (by decide) ?_
      refine lv_goto (tgt := 281) hx hb (dk DX2_join 61 rfl) (by decide) ?_
      exact W.lret (v := 1) hx hb hr (fun t ht hW => ⟨_, rfl, h, ht⟩) (fun _ h => by cases h) (dk DX2_join 63 rfl)
  have h := h.2
  by_cases hc14 : a0 = 14
  · have h := h.1 hc14
    refine lv_tableIn (off := 281) (tgt := 282) hx hb (dk DX2_join 1 rfl) (by rw [hc14]; decide) (by rw [hc14]; decide) (by rw [hc14]; decide) (by decide) ?_
    refine lv_lload_n hx hb (dk DX2_join 64 rfl) rfl (lv_at hl 1 rfl) ?_
    refine lv_lload_n hx hb (dk DX2_join 65 rfl) rfl (lv_at hl 2 rfl) ?_
    refine W.lcmp hx hb (dk DX2_join 66 rfl) ?_
    refine lv_if_lt (tgt := 292) hx hb (dk DX2_join 67 rfl) (by decide) (fun hc => ?_) (fun hc => ?_)
    · have h := h.1 hc
      refine lv_lconst (v := 0) hx hb (dk DX2_join 70 rfl) (by decide) ?_
      exact W.lret (v := 0) hx hb hr (fun t ht hW => ⟨_, rfl, h, ht⟩) (fun _ h => by cases h) (dk DX2_join 71 rfl)
    · have h := h.2 hc
      refine lv_lconst (v := 1) hx hb (dk DX2_join 68 rfl) (by decide) ?_
      refine lv_goto (tgt := 293) hx hb (dk DX2_join 69 rfl) (by decide) ?_
      exact W.lret (v := 1) hx hb hr (fun t ht hW => ⟨_, rfl, h, ht⟩) (fun _ h => by cases h) (dk DX2_join 71 rfl)
  have h := h.2
  by_cases hc15 : a0 = 15
  · have h := h.1 hc15
    refine lv_tableIn (off := 301) (tgt := 302) hx hb (dk DX2_join 1 rfl) (by rw [hc15]; decide) (by rw [hc15]; decide) (by rw [hc15]; decide) (by decide) ?_
    refine lv_lconst (v := 0) hx hb (dk DX2_join 80 rfl) (by decide) ?_
    exact W.lret (v := 0) hx hb hr (fun t ht hW => ⟨_, rfl, h, ht⟩) (fun _ h => by cases h) (dk DX2_join 81 rfl)
  have h := h.2
  by_cases hc16 : a0 = 16
  · have h := h.1 hc16
    refine lv_tableIn (off := 301) (tgt := 302) hx hb (dk DX2_join 1 rfl) (by rw [hc16]; decide) (by rw [hc16]; decide) (by rw [hc16]; decide) (by decide) ?_
    refine lv_lconst (v := 0) hx hb (dk DX2_join 80 rfl) (by decide) ?_
    exact W.lret (v := 0) hx hb hr (fun t ht hW => ⟨_, rfl, h, ht⟩) (fun _ h => by cases h) (dk DX2_join 81 rfl)
  have h := h.2
  by_cases hc17 : a0 = 17
  · have h := h.1 hc17
    refine lv_tableIn (off := 301) (tgt := 302) hx hb (dk DX2_join 1 rfl) (by rw [hc17]; decide) (by rw [hc17]; decide) (by rw [hc17]; decide) (by decide) ?_
    refine lv_lconst (v := 0) hx hb (dk DX2_join 80 rfl) (by decide) ?_
    exact W.lret (v := 0) hx hb hr (fun t ht hW => ⟨_, rfl, h, ht⟩) (fun _ h => by cases h) (dk DX2_join 81 rfl)
  have h := h.2
  by_cases hc18 : a0 = 18
  · have h := h.1 hc18
    refine lv_tableIn (off := 301) (tgt := 302) hx hb (dk DX2_join 1 rfl) (by rw [hc18]; decide) (by rw [hc18]; decide) (by rw [hc18]; decide) (by decide) ?_
    refine lv_lconst (v := 0) hx hb (dk DX2_join 80 rfl) (by decide) ?_
    exact W.lret (v := 0) hx hb hr (fun t ht hW => ⟨_, rfl, h, ht⟩) (fun _ h => by cases h) (dk DX2_join 81 rfl)
  have h := h.2
  by_cases hc19 : a0 = 19
  · have h := h.1 hc19
    refine lv_tableIn (off := 301) (tgt := 302) hx hb (dk DX2_join 1 rfl) (by rw [hc19]; decide) (by rw [hc19]; decide) (by rw [hc19]; decide) (by decide) ?_
    refine lv_lconst (v := 0) hx hb (dk DX2_join 80 rfl) (by decide) ?_
    exact W.lret (v := 0) hx hb hr (fun t ht hW => ⟨_, rfl, h, ht⟩) (fun _ h => by cases h) (dk DX2_join 81 rfl)
  have h := h.2
  by_cases hc20 : a0 = 20
  · have h := h.1 hc20
    refine lv_tableIn (off := 301) (tgt := 302) hx hb (dk DX2_join 1 rfl) (by rw [hc20]; decide) (by rw [hc20]; decide) (by rw [hc20]; decide) (by decide) ?_
    refine lv_lconst (v := 0) hx hb (dk DX2_join 80 rfl) (by decide) ?_
    exact W.lret (v := 0) hx hb hr (fun t ht hW => ⟨_, rfl, h, ht⟩) (fun _ h => by cases h) (dk DX2_join 81 rfl)
  have h := h.2
  by_cases hc21 : a0 = 21
  · have h := h.1 hc21
    refine lv_tableIn (off := 301) (tgt := 302) hx hb (dk DX2_join 1 rfl) (by rw [hc21]; decide) (by rw [hc21]; decide) (by rw [hc21]; decide) (by decide) ?_
    refine lv_lconst (v := 0) hx hb (dk DX2_join 80 rfl) (by decide) ?_
    exact W.lret (v := 0) hx hb hr (fun t ht hW => ⟨_, rfl, h, ht⟩) (fun _ h => by cases h) (dk DX2_join 81 rfl)
  have h := h.2
  by_cases hc22 : a0 = 22
  · have h := h.1 hc22
    refine lv_tableIn (off := 301) (tgt := 302) hx hb (dk DX2_join 1 rfl) (by rw [hc22]; decide) (by rw [hc22]; decide) (by rw [hc22]; decide) (by decide) ?_
    refine lv_lconst (v := 0) hx hb (dk DX2_join 80 rfl) (by decide) ?_
    exact W.lret (v := 0) hx hb hr (fun t ht hW => ⟨_, rfl, h, ht⟩) (fun _ h => by cases h) (dk DX2_join 81 rfl)
  have h := h.2
  by_cases hc23 : a0 = 23
  · have h := h.1 hc23
    refine lv_tableIn (off := 301) (tgt := 302) hx hb (dk DX2_join 1 rfl) (by rw [hc23]; decide) (by rw [hc23]; decide) (by rw [hc23]; decide) (by decide) ?_
    refine lv_lconst (v := 0) hx hb (dk DX2_join 80 rfl) (by decide) ?_
    exact W.lret (v := 0) hx hb hr (fun t ht hW => ⟨_, rfl, h, ht⟩) (fun _ h => by cases h) (dk DX2_join 81 rfl)
  have h := h.2
  by_cases hc24 : a0 = 24
  · have h := h.1 hc24
    refine lv_tableIn (off := 301) (tgt := 302) hx hb (dk DX2_join 1 rfl) (by rw [hc24]; decide) (by rw [hc24]; decide) (by rw [hc24]; decide) (by decide) ?_
    refine lv_lconst (v := 0) hx hb (dk DX2_join 80 rfl) (by decide) ?_
    exact W.lret (v := 0) hx hb hr (fun t ht hW => ⟨_, rfl, h, ht⟩) (fun _ h => by cases h) (dk DX2_join 81 rfl)
  have h := h.2
  by_cases hc25 : a0 = 25
  · have h := h.1 hc25
    refine lv_tableIn (off := 301) (tgt := 302) hx hb (dk DX2_join 1 rfl) (by rw [hc25]; decide) (by rw [hc25]; decide) (by rw [hc25]; decide) (by decide) ?_
    refine lv_lconst (v := 0) hx hb (dk DX2_join 80 rfl) (by decide) ?_
    exact W.lret (v := 0) hx hb hr (fun t ht hW => ⟨_, rfl, h, ht⟩) (fun _ h => by cases h) (dk DX2_join 81 rfl)
  have h := h.2
  by_cases hc26 : a0 = 26
  · have h := h.1 hc26
    refine lv_tableIn (off := 301) (tgt := 302) hx hb (dk DX2_join 1 rfl) (by rw [hc26]; decide) (by rw [hc26]; decide) (by rw [hc26]; decide) (by decide) ?_
    refine lv_lconst (v := 0) hx hb (dk DX2_join 80 rfl) (by decide) ?_
    exact W.lret (v := 0) hx hb hr (fun t ht hW => ⟨_, rfl, h, ht⟩) (fun _ h => by cases h) (dk DX2_join 81 rfl)
  have h := h.2
  by_cases hc27 : a0 = 27
  · have h := h.1 hc27
    refine lv_tableIn (off := 301) (tgt := 302) hx hb (dk DX2_join 1 rfl) (by rw [hc27]; decide) (by rw [hc27]; decide) (by rw [hc27]; decide) (by decide) ?_
    refine lv_lconst (v := 0) hx hb (dk DX2_join 80 rfl) (by decide) ?_
    exact W.lret (v := 0) hx hb hr (fun t ht hW => ⟨_, rfl, h, ht⟩) (fun _ h => by cases h) (dk DX2_join 81 rfl)
  have h := h.2
  by_cases hc28 : a0 = 28
  · have h := h.1 hc28
    refine lv_tableIn (off := 301) (tgt := 302) hx hb (dk DX2_join 1 rfl) (by rw [hc28]; decide) (by rw [hc28]; decide) (by rw [hc28]; decide) (by decide) ?_
    refine lv_lconst (v := 0) hx hb (dk DX2_join 80 rfl) (by decide) ?_
    exact W.lret (v := 0) hx hb hr (fun t ht hW => ⟨_, rfl, h, ht⟩) (fun _ h => by cases h) (dk DX2_join 81 rfl)
  have h := h.2
  by_cases hc29 : a0 = 29
  · have h := h.1 hc29
    refine lv_tableIn (off := 301) (tgt := 302) hx hb (dk DX2_join 1 rfl) (by rw [hc29]; decide) (by rw [hc29]; decide) (by rw [hc29]; decide) (by decide) ?_
    refine lv_lconst (v := 0) hx hb (dk DX2_join 80 rfl) (by decide) ?_
    exact W.lret (v := 0) hx hb hr (fun t ht hW => ⟨_, rfl, h, ht⟩) (fun _ h => by cases h) (dk DX2_join 81 rfl)
  have h := h.2
  by_cases hc30 : a0 = 30
  · have h := h.1 hc30
    refine lv_tableIn (off := 301) (tgt := 302) hx hb (dk DX2_join 1 rfl) (by rw [hc30]; decide) (by rw [hc30]; decide) (by rw [hc30]; decide) (by decide) ?_
    refine lv_lconst (v := 0) hx hb (dk DX2_join 80 rfl) (by decide) ?_
    exact W.lret (v := 0) hx hb hr (fun t ht hW => ⟨_, rfl, h, ht⟩) (fun _ h => by cases h) (dk DX2_join 81 rfl)
  have h := h.2
  by_cases hc31 : a0 = 31
  · have h := h.1 hc31
    refine lv_tableIn (off := 301) (tgt := 302) hx hb (dk DX2_join 1 rfl) (by rw [hc31]; decide) (by rw [hc31]; decide) (by rw [hc31]; decide) (by decide) ?_
    refine lv_lconst (v := 0) hx hb (dk DX2_join 80 rfl) (by decide) ?_
    exact W.lret (v := 0) hx hb hr (fun t ht hW => ⟨_, rfl, h, ht⟩) (fun _ h => by cases h) (dk DX2_join 81 rfl)
  have h := h.2
  by_cases hc32 : a0 = 32
  · have h := h.1 hc32
    refine lv_tableIn (off := 301) (tgt := 302) hx hb (dk DX2_join 1 rfl) (by rw [hc32]; decide) (by rw [hc32]; decide) (by rw [hc32]; decide) (by decide) ?_
    refine lv_lconst (v := 0) hx hb (dk DX2_join 80 rfl) (by decide) ?_
    exact W.lret (v := 0) hx hb hr (fun t ht hW => ⟨_, rfl, h, ht⟩) (fun _ h => by cases h) (dk DX2_join 81 rfl)
  have h := h.2
  by_cases hc33 : a0 = 33
  · have h := h.1 hc33
    refine lv_tableIn (off := 301) (tgt := 302) hx hb (dk DX2_join 1 rfl) (by rw [hc33]; decide) (by rw [hc33]; decide) (by rw [hc33]; decide) (by decide) ?_
    refine lv_lconst (v := 0) hx hb (dk DX2_join 80 rfl) (by decide) ?_
    exact W.lret (v := 0) hx hb hr (fun t ht hW => ⟨_, rfl, h, ht⟩) (fun _ h => by cases h) (dk DX2_join 81 rfl)
  have h := h.2
  by_cases hc34 : a0 = 34
  · have h := h.1 hc34
    refine lv_tableIn (off := 301) (tgt := 302) hx hb (dk DX2_join 1 rfl) (by rw [hc34]; decide) (by rw [hc34]; decide) (by rw [hc34]; decide) (by decide) ?_
    refine lv_lconst (v := 0) hx hb (dk DX2_join 80 rfl) (by decide) ?_
    exact W.lret (v := 0) hx hb hr (fun t ht hW => ⟨_, rfl, h, ht⟩) (fun _ h => by cases h) (dk DX2_join 81 rfl)
  have h := h.2
  by_cases hc35 : a0 = 35
  · have h := h.1 hc35
    refine lv_tableIn (off := 301) (tgt := 302) hx hb (dk DX2_join 1 rfl) (by rw [hc35]; decide) (by rw [hc35]; decide) (by rw [hc35]; decide) (by decide) ?_
    refine lv_lconst (v := 0) hx hb (dk DX2_join 80 rfl) (by decide) ?_
    exact W.lret (v := 0) hx hb hr (fun t ht hW => ⟨_, rfl, h, ht⟩) (fun _ h => by cases h) (dk DX2_join 81 rfl)
  have h := h.2
  by_cases hc36 : a0 = 36
  · have h := h.1 hc36
    refine lv_tableIn (off := 301) (tgt := 302) hx hb (dk DX2_join 1 rfl) (by rw [hc36]; decide) (by rw [hc36]; decide) (by rw [hc36]; decide) (by decide) ?_
    refine lv_lconst (v := 0) hx hb (dk DX2_join 80 rfl) (by decide) ?_
    exact W.lret (v := 0) hx hb hr (fun t ht hW => ⟨_, rfl, h, ht⟩) (fun _ h => by cases h) (dk DX2_join 81 rfl)
  have h := h.2
  by_cases hc37 : a0 = 37
  · have h := h.1 hc37
    refine lv_tableIn (off := 301) (tgt := 302) hx hb (dk DX2_join 1 rfl) (by rw [hc37]; decide) (by rw [hc37]; decide) (by rw [hc37]; decide) (by decide) ?_
    refine lv_lconst (v := 0) hx hb (dk DX2_join 80 rfl) (by decide) ?_
    exact W.lret (v := 0) hx hb hr (fun t ht hW => ⟨_, rfl, h, ht⟩) (fun _ h => by cases h) (dk DX2_join 81 rfl)
  have h := h.2
  by_cases hc38 : a0 = 38
  · have h := h.1 hc38
    refine lv_tableIn (off := 301) (tgt := 302) hx hb (dk DX2_join 1 rfl) (by rw [hc38]; decide) (by rw [hc38]; decide) (by rw [hc38]; decide) (by decide) ?_
    refine lv_lconst (v := 0) hx hb (dk DX2_join 80 rfl) (by decide) ?_
    exact W.lret (v := 0) hx hb hr (fun t ht hW => ⟨_, rfl, h, ht⟩) (fun _ h => by cases h) (dk DX2_join 81 rfl)
  have h := h.2
  by_cases hc39 : a0 = 39
  · have h := h.1 hc39
    refine lv_tableIn (off := 301) (tgt := 302) hx hb (dk DX2_join 1 rfl) (by rw [hc39]; decide) (by rw [hc39]; decide) (by rw [hc39]; decide) (by decide) ?_
    refine lv_lconst (v := 0) hx hb (dk DX2_join 80 rfl) (by decide) ?_
    exact W.lret (v := 0) hx hb hr (fun t ht hW => ⟨_, rfl, h, ht⟩) (fun _ h => by cases h) (dk DX2_join 81 rfl)
  have h := h.2
  by_cases hc40 : a0 = 40
  · have h := h.1 hc40
    refine lv_tableIn (off := 301) (tgt := 302) hx hb (dk DX2_join 1 rfl) (by rw [hc40]; decide) (by rw [hc40]; decide) (by rw [hc40]; decide) (by decide) ?_
    refine lv_lconst (v := 0) hx hb (dk DX2_join 80 rfl) (by decide) ?_
    exact W.lret (v := 0) hx hb hr (fun t ht hW => ⟨_, rfl, h, ht⟩) (fun _ h => by cases h) (dk DX2_join 81 rfl)
  have h := h.2
  by_cases hc41 : a0 = 41
  · have h := h.1 hc41
    refine lv_tableIn (off := 301) (tgt := 302) hx hb (dk DX2_join 1 rfl) (by rw [hc41]; decide) (by rw [hc41]; decide) (by rw [hc41]; decide) (by decide) ?_
    refine lv_lconst (v := 0) hx hb (dk DX2_join 80 rfl) (by decide) ?_
    exact W.lret (v := 0) hx hb hr (fun t ht hW => ⟨_, rfl, h, ht⟩) (fun _ h => by cases h) (dk DX2_join 81 rfl)
  have h := h.2
  by_cases hc42 : a0 = 42
  · have h := h.1 hc42
    refine lv_tableIn (off := 301) (tgt := 302) hx hb (dk DX2_join 1 rfl) (by rw [hc42]; decide) (by rw [hc42]; decide) (by rw [hc42]; decide) (by decide) ?_
    refine lv_lconst (v := 0) hx hb (dk DX2_join 80 rfl) (by decide) ?_
    exact W.lret (v := 0) hx hb hr (fun t ht hW => ⟨_, rfl, h, ht⟩) (fun _ h => by cases h) (dk DX2_join 81 rfl)
  have h := h.2
  by_cases hc43 : a0 = 43
  · have h := h.1 hc43
    refine lv_tableIn (off := 297) (tgt := 298) hx hb (dk DX2_join 1 rfl) (by rw [hc43]; decide) (by rw [hc43]; decide) (by rw [hc43]; decide) (by decide) ?_
    refine lv_lload_n hx hb (dk DX2_join 76 rfl) rfl (lv_at hl 1 rfl) ?_
    refine lv_lload_n hx hb (dk DX2_join 77 rfl) rfl (lv_at hl 2 rfl) ?_
    refine lv_lor hx hb (dk DX2_join 78 rfl) ?_
    exact W.lret (v := a1 ||| a2) hx hb hr (fun t ht hW => ⟨_, rfl, h, ht⟩) (fun _ h => by cases h) (dk DX2_join 79 rfl)
  have h := h.2
  by_cases hc44 : a0 = 44
  · have h := h.1 hc44
    refine lv_tableIn (off := 293) (tgt := 294) hx hb (dk DX2_join 1 rfl) (by rw [hc44]; decide) (by rw [hc44]; decide) (by rw [hc44]; decide) (by decide) ?_
    refine lv_lload_n hx hb (dk DX2_join 72 rfl) rfl (lv_at hl 1 rfl) ?_
    refine lv_lload_n hx hb (dk DX2_join 73 rfl) rfl (lv_at hl 2 rfl) ?_
    refine lv_land hx hb (dk DX2_join 74 rfl) ?_
    exact W.lret (v := a1 &&& a2) hx hb hr (fun t ht hW => ⟨_, rfl, h, ht⟩) (fun _ h => by cases h) (dk DX2_join 75 rfl)
  have h := h.2
  have h := h hc0 hc1 hc2 hc3 hc4 hc5 hc6 hc7 hc8 hc9 hc10 hc11 hc12 hc13 hc14 hc15 hc16 hc17 hc18 hc19 hc20 hc21 hc22 hc23 hc24 hc25 hc26 hc27 hc28 hc29 hc30 hc31 hc32 hc33 hc34 hc35 hc36 hc37 hc38 hc39 hc40 hc41 hc42 hc43 hc44
  refine lv_tableOut (tgt := 302) hx hb (dk DX2_join 1 rfl) (by have n0 := lv_neT hc0 (a := 0) (by decide); have n1 := lv_neT hc1 (a := 1) (by decide); have n2 := lv_neT hc2 (a := 2) (by decide); have n3 := lv_neT hc3 (a := 3) (by decide); have n4 := lv_neT hc4 (a := 4) (by decide); have n5 := lv_neT hc5 (a := 5) (by decide); have n6 := lv_neT hc6 (a := 6) (by decide); have n7 := lv_neT hc7 (a := 7) (by decide); have n8 := lv_neT hc8 (a := 8) (by decide); have n9 := lv_neT hc9 (a := 9) (by decide); have n10 := lv_neT hc10 (a := 10) (by decide); have n11 := lv_neT hc11 (a := 11) (by decide); have n12 := lv_neT hc12 (a := 12) (by decide); have n13 := lv_neT hc13 (a := 13) (by decide); have n14 := lv_neT hc14 (a := 14) (by decide); have n15 := lv_neT hc15 (a := 15) (by decide); have n16 := lv_neT hc16 (a := 16) (by decide); have n17 := lv_neT hc17 (a := 17) (by decide); have n18 := lv_neT hc18 (a := 18) (by decide); have n19 := lv_neT hc19 (a := 19) (by decide); have n20 := lv_neT hc20 (a := 20) (by decide); have n21 := lv_neT hc21 (a := 21) (by decide); have n22 := lv_neT hc22 (a := 22) (by decide); have n23 := lv_neT hc23 (a := 23) (by decide); have n24 := lv_neT hc24 (a := 24) (by decide); have n25 := lv_neT hc25 (a := 25) (by decide); have n26 := lv_neT hc26 (a := 26) (by decide); have n27 := lv_neT hc27 (a := 27) (by decide); have n28 := lv_neT hc28 (a := 28) (by decide); have n29 := lv_neT hc29 (a := 29) (by decide); have n30 := lv_neT hc30 (a := 30) (by decide); have n31 := lv_neT hc31 (a := 31) (by decide); have n32 := lv_neT hc32 (a := 32) (by decide); have n33 := lv_neT hc33 (a := 33) (by decide); have n34 := lv_neT hc34 (a := 34) (by decide); have n35 := lv_neT hc35 (a := 35) (by decide); have n36 := lv_neT hc36 (a := 36) (by decide); have n37 := lv_neT hc37 (a := 37) (by decide); have n38 := lv_neT hc38 (a := 38) (by decide); have n39 := lv_neT hc39 (a := 39) (by decide); have n40 := lv_neT hc40 (a := 40) (by decide); have n41 := lv_neT hc41 (a := 41) (by decide); have n42 := lv_neT hc42 (a := 42) (by decide); have n43 := lv_neT hc43 (a := 43) (by decide); have n44 := lv_neT hc44 (a := 44) (by decide); omega) (by decide) ?_
  refine lv_lconst (v := 0) hx hb (dk DX2_join 80 rfl) (by decide) ?_
  exact W.lret (v := 0) hx hb hr (fun t ht hW => ⟨_, rfl, h, ht⟩) (fun _ h => by cases h) (dk DX2_join 81 rfl)

def ww_X2_obey_48 : List Cond := .code yX2_obey cX2_obey 5 none :: (WdX ++ WsX)
theorem q_X2_obey_48 : yX2_obey.cls = RX2 ∧ yX2_obey.cls ≠ "java/lang/invoke/MethodHandle" ∧ yX2_obey.cls ≠ "java/lang/invoke/VarHandle" ∧ (parseMethodDescriptor yX2_obey.desc).map (fun d => d.parameters.length) = some 2 := by decide +kernel
abbrev Hd_X2_obey_48 : Type := (Int32 × Int32)
def B_X2_obey_48 (Post : XS → Prop) (K : Hd_X2_obey_48 → XS → Prop) : Hd_X2_obey_48 → XS → Prop
  | (x1, x2), S => VC_X2_put_48 (fun S16 => Post S16) 0 S
def VC_X2_obey_48 (Post : XS → Prop) (a0 : Int32) (a1 : Int32) (S : XS) : Prop := ∀ K : Hd_X2_obey_48 → XS → Prop, (∀ h S, B_X2_obey_48 Post K h S → K h S) → ((a0 = 45 → VC_X2_takeTop_48 (fun r2 S1 => VC_X2_put_48 (fun S3 => Post S3) (1 - r2) S1) S) ∧ (a0 = 60 → VC_X2_put_48 (fun S4 => Post S4) a1 S) ∧ (a0 = 61 → ((a1 < 0 → K (a0, a1) S) ∧ (¬ a1 < 0 → ((11 ≤ a1 → K (a0, a1) S) ∧ (¬ 11 ≤ a1 → vp_in a1 11 ∧ VC_X2_put_48 (fun S5 => Post S5) ((S.2.1 49) a1.toNatClampNeg) S))))) ∧ (a0 = 64 → VC_X2_takeTop_48 (fun r7 S6 => VC_X2_put_48 (fun S8 => Post S8) (-r7) S6) S) ∧ (¬ a0 = 45 → ¬ a0 = 60 → ¬ a0 = 61 → ¬ a0 = 64 → VC_X2_takeTop_48 (fun r10 S9 => VC_X2_takeTop_48 (fun r12 S11 => VC_X2_join (fun r13 => VC_X11_clamp (fun r14 => VC_X2_put_48 (fun S15 => Post S15) r14 S11) r13 (-1000000) (1000000)) a0 (r12.toInt64) (r10.toInt64)) S9) S))
set_option maxHeartbeats 4000000 in
set_option maxRecDepth 100000 in
theorem h_X2_obey_48_0 {p : Program} {l : Launch} {e : Env} {s : State} {m : MethodId} {below : List Frame} {meth : Method} {c : Code} {dC : Nat → ClassId} {dI : Nat → Nat → Nat} {q : Nat → Nat} {cI cT : ClassId} {en : Nat → Nat} {A : Nat → Prop} {args : Array Value} {Post : XS → Prop} {K : Hd_X2_obey_48 → XS → Prop} (X : XX p s m args c cX2_obey 5 ww_X2_obey_48 RX2 dC dI cI cT en A) (hr : meth.sig.returnType = none) (hlocks : meth.locks = false) (hK0 : ∀ (x1 : Int32) (x2 : Int32) (S : XS), K (x1, x2) S → ∀ (H : Heap) (locs : List Loc), va_P (dC, dI) vwCl (wX q cI cT S) H → va_D A (wX q cI cT S) → va_S A s.heap H locs → ∀ ls : Array Slot, lv_has ls 5 [(0, .ref (q 48)), (1, .int x1), (2, .int x2)] → W p l e (headSpec ww_X2_obey_48 ({ frames := 2, cells := 0, slots := 0, locals := 63 } : Room)).room s m args below meth c H locs 0 0 (MQ below (va_Qv Post (atX dC dI q cI cT A) A) args s 0 0 A) (F0 m 72 ls [.ref (q 48)])) (x1 : Int32) (x2 : Int32) (S : XS) (h : B_X2_obey_48 Post K (x1, x2) S) : ∀ (H : Heap) (locs : List Loc), va_P (dC, dI) vwCl (wX q cI cT S) H → va_D A (wX q cI cT S) → va_S A s.heap H locs → ∀ ls : Array Slot, lv_has ls 5 [(0, .ref (q 48)), (1, .int x1), (2, .int x2)] → W p l e (headSpec ww_X2_obey_48 ({ frames := 2, cells := 0, slots := 0, locals := 63 } : Room)).room s m args below meth c H locs 0 0 (MQ below (va_Qv Post (atX dC dI q cI cT A) A) args s 0 0 A) (F0 m 72 ls [.ref (q 48)]) := by
  have hx := X.1
  have hb := X.2.1
  intro H locs hP hD hS ls hl
  have lk9 := X.2.2.2.2.1 (.fieldLink RX2 9 "BreathOnLoan$Judge" "names" "[I") (inX 55 rfl)
  dsimp only [B_X2_obey_48] at h
  refine lv_iconst (v := 0) hx hb (dk DX2_obey 17 rfl) (by decide) ?_
  refine cXv (As := [.int 0]) (rest := []) X (m_X2_put_48 (l := l) (dC := dC) (dI := dI) (q := q) (cI := cI) (cT := cT) (en := en) (sz := _) 0 S h) (cwV 1 X.2.2.2.2.1 (gxV 92 93 94 95 81 rfl rfl rfl rfl rfl) rfl rfl rfl q_X2_put_48 ⟨Nat.le_of_ble_eq_true rfl, Nat.le_of_ble_eq_true rfl⟩) (rX_48 X hP) hP hD hS rfl hl.1 rfl (Nat.le_of_ble_eq_true rfl) (dk DX2_obey 18 rfl) (fun S16 H locs h hP hD hS => ?_)
  refine lv_goto (tgt := 135) hx hb (dk DX2_obey 19 rfl) (by decide) ?_
  exact W.vret hx hb hr (fun t ht hW => ⟨⟨_, rfl, h, by rw [ht]; exact hP, va_K.moved hW.alike X.2.2.2.2.2.2.1, hD⟩, hS.F ht⟩) hS.2.2 (dk DX2_obey 50 rfl)
set_option maxHeartbeats 4000000 in
set_option maxRecDepth 100000 in
theorem m_X2_obey_48 {l : Launch} {dC : Nat → ClassId} {dI : Nat → Nat → Nat} {q : Nat → Nat} {cI cT : ClassId} {en : Nat → Nat} {sz : Nat} {Post : XS → Prop} (a0 : Int32) (a1 : Int32) (S : XS) (h : VC_X2_obey_48 Post a0 a1 S) : Met l yX2_obey ww_X2_obey_48 ({ frames := 2, cells := 0, slots := 0, locals := 63 } : Room) (va_Pc [.ref (q 48), .int a0, .int a1] (preX dC dI q cI cT en S sz)) (va_Qv Post (atX dC dI q cI cT (va_A (wX q cI cT S) sz)) (va_A (wX q cI cT S) sz)) 0 0 (va_A (wX q cI cT S) sz) := by
  refine oX (cc := cX2_obey) (maxL := 5) (ret := none) (Qc := fun A => va_Qv Post (atX dC dI q cI cT A) A) (own := RX2) (by decide) rfl (fun w h => List.mem_cons_of_mem _ (List.mem_append_right _ h)) rfl (Nat.le_of_ble_eq_true rfl) (fun p e s m below meth c A ls X hr hlocks hP hD hS hl => ?_)
  have hx := X.1
  have hb := X.2.1
  have hl : lv_has ls 5 [(0, .ref (q 48)), (1, .int a0), (2, .int a1)] := hl
  have lk9 := X.2.2.2.2.1 (.fieldLink RX2 9 "BreathOnLoan$Judge" "names" "[I") (inX 55 rfl)
  generalize hargs : ([.ref (q 48), .int a0, .int a1] : List Value).toArray = args at X ⊢
  have h := h (fun hd S => match hd with | (x1, x2) => ∀ (H : Heap) (locs : List Loc), va_P (dC, dI) vwCl (wX q cI cT S) H → va_D A (wX q cI cT S) → va_S A s.heap H locs → ∀ ls : Array Slot, lv_has ls 5 [(0, .ref (q 48)), (1, .int x1), (2, .int x2)] → W p l e (headSpec ww_X2_obey_48 ({ frames := 2, cells := 0, slots := 0, locals := 63 } : Room)).room s m args below meth c H locs 0 0 (MQ below (va_Qv Post (atX dC dI q cI cT A) A) args s 0 0 A) (F0 m 72 ls [.ref (q 48)])) ?_
  · skip
    refine lv_iload_n hx hb (dk DX2_obey 0 rfl) rfl (lv_at hl 1 rfl) ?_
    by_cases hc45 : a0 = 45
    · have h := h.1 hc45
      refine lv_lookup (off := 90) (tgt := 91) hx hb (dk DX2_obey 1 rfl) (by decide) (by rw [hc45]; decide) (by decide) ?_
      refine lv_aload_n hx hb (dk DX2_obey 26 rfl) rfl (lv_at hl 0 rfl) ?_
      refine lv_iconst (v := 1) hx hb (dk DX2_obey 27 rfl) (by decide) ?_
      refine lv_aload_n hx hb (dk DX2_obey 28 rfl) rfl (lv_at hl 0 rfl) ?_
      refine cXi (As := []) (rest := [.int 1, .ref (q 48)]) X (m_X2_takeTop_48 (l := l) (dC := dC) (dI := dI) (q := q) (cI := cI) (cT := cT) (en := en) (sz := _) S h) (cwV 0 X.2.2.2.2.1 (gxV 96 97 98 95 79 rfl rfl rfl rfl rfl) rfl rfl rfl q_X2_takeTop_48 ⟨Nat.le_of_ble_eq_true rfl, Nat.le_of_ble_eq_true rfl⟩) (rX_48 X hP) hP hD hS rfl hl.1 rfl (Nat.le_of_ble_eq_true rfl) (dk DX2_obey 29 rfl) (fun r2 S1 H locs h hP hD hS => ?_)
      refine lv_isub hx hb (dk DX2_obey 30 rfl) ?_
      refine cXv (As := [.int (1 - r2)]) (rest := []) X (m_X2_put_48 (l := l) (dC := dC) (dI := dI) (q := q) (cI := cI) (cT := cT) (en := en) (sz := _) (1 - r2) S1 h) (cwV 1 X.2.2.2.2.1 (gxV 92 93 94 95 81 rfl rfl rfl rfl rfl) rfl rfl rfl q_X2_put_48 ⟨Nat.le_of_ble_eq_true rfl, Nat.le_of_ble_eq_true rfl⟩) (rX_48 X hP) hP hD hS rfl hl.1 rfl (Nat.le_of_ble_eq_true rfl) (dk DX2_obey 31 rfl) (fun S3 H locs h hP hD hS => ?_)
      refine lv_goto (tgt := 135) hx hb (dk DX2_obey 32 rfl) (by decide) ?_
      exact W.vret hx hb hr (fun t ht hW => ⟨⟨_, rfl, h, by rw [ht]; exact hP, va_K.moved hW.alike X.2.2.2.2.2.2.1, hD⟩, hS.F ht⟩) hS.2.2 (dk DX2_obey 50 rfl)
    have h := h.2
    by_cases hc60 : a0 = 60
    · have h := h.1 hc60
      refine lv_lookup (off := 43) (tgt := 44) hx hb (dk DX2_obey 1 rfl) (by decide) (by rw [hc60]; decide) (by decide) ?_
      refine lv_aload_n hx hb (dk DX2_obey 2 rfl) rfl (lv_at hl 0 rfl) ?_
      refine lv_iload_n hx hb (dk DX2_obey 3 rfl) rfl (lv_at hl 2 rfl) ?_
      refine cXv (As := [.int a1]) (rest := []) X (m_X2_put_48 (l := l) (dC := dC) (dI := dI) (q := q) (cI := cI) (cT := cT) (en := en) (sz := _) a1 S h) (cwV 1 X.2.2.2.2.1 (gxV 92 93 94 95 81 rfl rfl rfl rfl rfl) rfl rfl rfl q_X2_put_48 ⟨Nat.le_of_ble_eq_true rfl, Nat.le_of_ble_eq_true rfl⟩) (rX_48 X hP) hP hD hS rfl hl.1 rfl (Nat.le_of_ble_eq_true rfl) (dk DX2_obey 4 rfl) (fun S4 H locs h hP hD hS => ?_)
      refine lv_goto (tgt := 135) hx hb (dk DX2_obey 5 rfl) (by decide) ?_
      exact W.vret hx hb hr (fun t ht hW => ⟨⟨_, rfl, h, by rw [ht]; exact hP, va_K.moved hW.alike X.2.2.2.2.2.2.1, hD⟩, hS.F ht⟩) hS.2.2 (dk DX2_obey 50 rfl)
    have h := h.2
    by_cases hc61 : a0 = 61
    · have h := h.1 hc61
      refine lv_lookup (off := 51) (tgt := 52) hx hb (dk DX2_obey 1 rfl) (by decide) (by rw [hc61]; decide) (by decide) ?_
      refine lv_aload_n hx hb (dk DX2_obey 6 rfl) rfl (lv_at hl 0 rfl) ?_
      refine lv_iload_n hx hb (dk DX2_obey 7 rfl) rfl (lv_at hl 2 rfl) ?_
      refine lv_if_lt (tgt := 72) hx hb (dk DX2_obey 8 rfl) (by decide) (fun hc => ?_) (fun hc => ?_)
      · have h := h.1 hc
        exact h _ _ hP hD hS ls (lv_sub hl [0, 1, 2] rfl)
      · have h := h.2 hc
        refine lv_iload_n hx hb (dk DX2_obey 9 rfl) rfl (lv_at hl 2 rfl) ?_
        refine lv_bipush (v := 11) hx hb (dk DX2_obey 10 rfl) (by decide) ?_
        refine lv_icmp_ge (tgt := 72) hx hb (dk DX2_obey 11 rfl) (by decide) (fun hc => ?_) (fun hc => ?_)
        · have h := h.1 hc
          exact h _ _ hP hD hS ls (lv_sub hl [0, 1, 2] rfl)
        · have h := h.2 hc
          refine lv_aload_n hx hb (dk DX2_obey 12 rfl) rfl (lv_at hl 0 rfl) ?_
          refine gX_48 X hP 0 (by decide) rfl lk9 (dk DX2_obey 13 rfl) ?_
          refine lv_iload_n hx hb (dk DX2_obey 14 rfl) rfl (lv_at hl 2 rfl) ?_
          obtain ⟨hin, h⟩ := h
          refine ldX_49 X hP hin (dk DX2_obey 15 rfl) ?_
          refine lv_goto (tgt := 73) hx hb (dk DX2_obey 16 rfl) (by decide) ?_
          refine cXv (As := [.int ((S.2.1 49) a1.toNatClampNeg)]) (rest := []) X (m_X2_put_48 (l := l) (dC := dC) (dI := dI) (q := q) (cI := cI) (cT := cT) (en := en) (sz := _) ((S.2.1 49) a1.toNatClampNeg) S h) (cwV 1 X.2.2.2.2.1 (gxV 92 93 94 95 81 rfl rfl rfl rfl rfl) rfl rfl rfl q_X2_put_48 ⟨Nat.le_of_ble_eq_true rfl, Nat.le_of_ble_eq_true rfl⟩) (rX_48 X hP) hP hD hS rfl hl.1 rfl (Nat.le_of_ble_eq_true rfl) (dk DX2_obey 18 rfl) (fun S5 H locs h hP hD hS => ?_)
          refine lv_goto (tgt := 135) hx hb (dk DX2_obey 19 rfl) (by decide) ?_
          exact W.vret hx hb hr (fun t ht hW => ⟨⟨_, rfl, h, by rw [ht]; exact hP, va_K.moved hW.alike X.2.2.2.2.2.2.1, hD⟩, hS.F ht⟩) hS.2.2 (dk DX2_obey 50 rfl)
    have h := h.2
    by_cases hc64 : a0 = 64
    · have h := h.1 hc64
      refine lv_lookup (off := 78) (tgt := 79) hx hb (dk DX2_obey 1 rfl) (by decide) (by rw [hc64]; decide) (by decide) ?_
      refine lv_aload_n hx hb (dk DX2_obey 20 rfl) rfl (lv_at hl 0 rfl) ?_
      refine lv_aload_n hx hb (dk DX2_obey 21 rfl) rfl (lv_at hl 0 rfl) ?_
      refine cXi (As := []) (rest := [.ref (q 48)]) X (m_X2_takeTop_48 (l := l) (dC := dC) (dI := dI) (q := q) (cI := cI) (cT := cT) (en := en) (sz := _) S h) (cwV 0 X.2.2.2.2.1 (gxV 96 97 98 95 79 rfl rfl rfl rfl rfl) rfl rfl rfl q_X2_takeTop_48 ⟨Nat.le_of_ble_eq_true rfl, Nat.le_of_ble_eq_true rfl⟩) (rX_48 X hP) hP hD hS rfl hl.1 rfl (Nat.le_of_ble_eq_true rfl) (dk DX2_obey 22 rfl) (fun r7 S6 H locs h hP hD hS => ?_)
      refine lv_ineg hx hb (dk DX2_obey 23 rfl) ?_
      refine cXv (As := [.int (-r7)]) (rest := []) X (m_X2_put_48 (l := l) (dC := dC) (dI := dI) (q := q) (cI := cI) (cT := cT) (en := en) (sz := _) (-r7) S6 h) (cwV 1 X.2.2.2.2.1 (gxV 92 93 94 95 81 rfl rfl rfl rfl rfl) rfl rfl rfl q_X2_put_48 ⟨Nat.le_of_ble_eq_true rfl, Nat.le_of_ble_eq_true rfl⟩) (rX_48 X hP) hP hD hS rfl hl.1 rfl (Nat.le_of_ble_eq_true rfl) (dk DX2_obey 24 rfl) (fun S8 H locs h hP hD hS => ?_)
      refine lv_goto (tgt := 135) hx hb (dk DX2_obey 25 rfl) (by decide) ?_
      exact W.vret hx hb hr (fun t ht hW => ⟨⟨_, rfl, h, by rw [ht]; exact hP, va_K.moved hW.alike X.2.2.2.2.2.2.1, hD⟩, hS.F ht⟩) hS.2.2 (dk DX2_obey 50 rfl)
    have h := h.2
    have h := h hc45 hc60 hc61 hc64
    refine lv_lookup (off := 103) (tgt := 104) hx hb (dk DX2_obey 1 rfl) (by decide) (by show Op.lookupswitch.offset [(45, 90), (60, 43), (61, 51), (64, 78)] 103 _ = 103; rw [lv_osw hc45 (by decide), lv_osw hc60 (by decide), lv_osw hc61 (by decide), lv_osw hc64 (by decide)]; rfl) (by decide) ?_
    refine lv_aload_n hx hb (dk DX2_obey 33 rfl) rfl (lv_at hl 0 rfl) ?_
    refine cXi (As := []) (rest := []) X (m_X2_takeTop_48 (l := l) (dC := dC) (dI := dI) (q := q) (cI := cI) (cT := cT) (en := en) (sz := _) S h) (cwV 0 X.2.2.2.2.1 (gxV 96 97 98 95 79 rfl rfl rfl rfl rfl) rfl rfl rfl q_X2_takeTop_48 ⟨Nat.le_of_ble_eq_true rfl, Nat.le_of_ble_eq_true rfl⟩) (rX_48 X hP) hP hD hS rfl hl.1 rfl (Nat.le_of_ble_eq_true rfl) (dk DX2_obey 34 rfl) (fun r10 S9 H locs h hP hD hS => ?_)
    refine lv_istore_n (lv' := [(3, .int r10), (0, .ref (q 48)), (1, .int a0), (2, .int a1)]) hx hb (dk DX2_obey 35 rfl) rfl hl (by decide) rfl (fun ls hl => ?_)
    refine lv_aload_n hx hb (dk DX2_obey 36 rfl) rfl (lv_at hl 1 rfl) ?_
    refine cXi (As := []) (rest := []) X (m_X2_takeTop_48 (l := l) (dC := dC) (dI := dI) (q := q) (cI := cI) (cT := cT) (en := en) (sz := _) S9 h) (cwV 0 X.2.2.2.2.1 (gxV 96 97 98 95 79 rfl rfl rfl rfl rfl) rfl rfl rfl q_X2_takeTop_48 ⟨Nat.le_of_ble_eq_true rfl, Nat.le_of_ble_eq_true rfl⟩) (rX_48 X hP) hP hD hS rfl hl.1 rfl (Nat.le_of_ble_eq_true rfl) (dk DX2_obey 37 rfl) (fun r12 S11 H locs h hP hD hS => ?_)
    refine lv_istore (lv' := [(4, .int r12), (3, .int r10), (0, .ref (q 48)), (1, .int a0), (2, .int a1)]) hx hb (dk DX2_obey 38 rfl) hl (by decide) rfl (fun ls hl => ?_)
    refine lv_aload_n hx hb (dk DX2_obey 39 rfl) rfl (lv_at hl 2 rfl) ?_
    refine lv_iload_n hx hb (dk DX2_obey 40 rfl) rfl (lv_at hl 3 rfl) ?_
    refine lv_iload hx hb (dk DX2_obey 41 rfl) (lv_at hl 0 rfl) ?_
    refine lv_i2l hx hb (dk DX2_obey 42 rfl) rfl ?_
    refine lv_iload_n hx hb (dk DX2_obey 43 rfl) rfl (lv_at hl 1 rfl) ?_
    refine lv_i2l hx hb (dk DX2_obey 44 rfl) rfl ?_
    refine cSl (As := [.int a0, .long (r12.toInt64), .long (r10.toInt64)]) (rest := [.ref (q 48)]) ⟨X.1, X.2.1, X.2.2.1, X.2.2.2.1, X.2.2.2.2.1⟩ (m_X2_join (l := l) a0 (r12.toInt64) (r10.toInt64) h) (va_cwS 3 X.2.2.2.2.1 (gxS 99 100 95 82 rfl rfl rfl rfl) rfl rfl rfl q_X2_join ⟨Nat.le_of_ble_eq_true rfl, Nat.le_of_ble_eq_true rfl⟩) rfl hl.1 rfl (Nat.le_of_ble_eq_true rfl) (dk DX2_obey 45 rfl) (fun r13 h => ?_)
    refine lv_ldc (v := (-1000000)) hx hb X.2.2.2.1 (X.2.2.2.2.1 (.constant RX2 147 (-1000000)) (inX 90 rfl)) (dk DX2_obey 46 rfl) ?_
    refine lv_ldc (v := (1000000)) hx hb X.2.2.2.1 (X.2.2.2.2.1 (.constant RX2 148 (1000000)) (inX 91 rfl)) (dk DX2_obey 47 rfl) ?_
    refine cNi (As := [.long r13, .int (-1000000), .int (1000000)]) (rest := [.ref (q 48)]) ⟨X.1, X.2.1, X.2.2.1, X.2.2.2.1, X.2.2.2.2.1⟩ (m_X11_clamp (l := l) r13 (-1000000) (1000000) h) ⟨va_cnB (host := "BreathOnLoan") 3 X.2.2.2.2.1 (gxB (List.mem_of_getElem? (i := 83) rfl)) rfl rfl rfl (X.2.2.2.2.2.2.2.2.1.1 _ (List.mem_of_getElem? (i := 1) rfl)) (X.2.2.2.2.1 (.initialized RX11) (inX 16 rfl)) q_X11_clamp ⟨Nat.le_of_ble_eq_true rfl, Nat.le_of_ble_eq_true rfl⟩, X.2.2.2.2.1 (.static yX11_clamp) (inX 101 rfl), trivial⟩ rfl hl.1 rfl (Nat.le_of_ble_eq_true rfl) (dk DX2_obey 48 rfl) (fun r14 h => ?_)
    refine cXv (As := [.int r14]) (rest := []) X (m_X2_put_48 (l := l) (dC := dC) (dI := dI) (q := q) (cI := cI) (cT := cT) (en := en) (sz := _) r14 S11 h) (cwV 1 X.2.2.2.2.1 (gxV 92 93 94 95 81 rfl rfl rfl rfl rfl) rfl rfl rfl q_X2_put_48 ⟨Nat.le_of_ble_eq_true rfl, Nat.le_of_ble_eq_true rfl⟩) (rX_48 X hP) hP hD hS rfl hl.1 rfl (Nat.le_of_ble_eq_true rfl) (dk DX2_obey 49 rfl) (fun S15 H locs h hP hD hS => ?_)
    exact W.vret hx hb hr (fun t ht hW => ⟨⟨_, rfl, h, by rw [ht]; exact hP, va_K.moved hW.alike X.2.2.2.2.2.2.1, hD⟩, hS.F ht⟩) hS.2.2 (dk DX2_obey 50 rfl)
  · rintro ⟨x1, x2⟩ S hB
    exact h_X2_obey_48_0 X hr hlocks (hK0 := fun _ _ _ h => h) x1 x2 S hB

def ww_X2_nameBlower_48_1 : List Cond := .code yX2_nameBlower cX2_nameBlower 3 none :: (WdX ++ WsX)
theorem q_X2_nameBlower_48_1 : yX2_nameBlower.cls = RX2 ∧ yX2_nameBlower.cls ≠ "java/lang/invoke/MethodHandle" ∧ yX2_nameBlower.cls ≠ "java/lang/invoke/VarHandle" ∧ (parseMethodDescriptor yX2_nameBlower.desc).map (fun d => d.parameters.length) = some 2 := by decide +kernel
def VC_X2_nameBlower_48_1 (Post : XS → Prop) (a1 : Int32) (S : XS) : Prop := VC_X1_has_2 (fun r2 S1 => ((r2 = 0 → Post S1) ∧ (¬ r2 = 0 → vp_in (1 : Int32) 11 ∧ ∀ S3 : XS, S3 = xF S1 49 (upd (S1.2.1 49) (1 : Int32).toNatClampNeg a1) → vp_in a1 6 ∧ ∀ v4 : Int32, v4 = (S3.2.1 3) a1.toNatClampNeg → vp_in (2 : Int32) 11 ∧ ∀ S5 : XS, S5 = xF S3 49 (upd (S3.2.1 49) (2 : Int32).toNatClampNeg v4) → vp_in a1 6 ∧ ∀ v6 : Int32, v6 = (S5.2.1 4) a1.toNatClampNeg → vp_in (3 : Int32) 11 ∧ ∀ S7 : XS, S7 = xF S5 49 (upd (S5.2.1 49) (3 : Int32).toNatClampNeg v6) → vp_in a1 6 ∧ ∀ v8 : Int32, v8 = (S7.2.1 5) a1.toNatClampNeg → vp_in (4 : Int32) 11 ∧ ∀ S9 : XS, S9 = xF S7 49 (upd (S7.2.1 49) (4 : Int32).toNatClampNeg v8) → Post S9))) a1 S
set_option maxHeartbeats 4000000 in
set_option maxRecDepth 100000 in
theorem m_X2_nameBlower_48_1 {l : Launch} {dC : Nat → ClassId} {dI : Nat → Nat → Nat} {q : Nat → Nat} {cI cT : ClassId} {en : Nat → Nat} {sz : Nat} {Post : XS → Prop} (a1 : Int32) (S : XS) (h : VC_X2_nameBlower_48_1 Post a1 S) : Met l yX2_nameBlower ww_X2_nameBlower_48_1 ({ frames := 1, cells := 0, slots := 0, locals := 21 } : Room) (va_Pc [.ref (q 48), .ref (q 1), .int a1] (preX dC dI q cI cT en S sz)) (va_Qv Post (atX dC dI q cI cT (va_A (wX q cI cT S) sz)) (va_A (wX q cI cT S) sz)) 0 0 (va_A (wX q cI cT S) sz) := by
  refine oX (cc := cX2_nameBlower) (maxL := 3) (ret := none) (Qc := fun A => va_Qv Post (atX dC dI q cI cT A) A) (own := RX2) (by decide) rfl (fun w h => List.mem_cons_of_mem _ (List.mem_append_right _ h)) rfl (Nat.le_of_ble_eq_true rfl) (fun p e s m below meth c A ls X hr hlocks hP hD hS hl => ?_)
  have hx := X.1
  have hb := X.2.1
  have hl : lv_has ls 3 [(0, .ref (q 48)), (1, .ref (q 1)), (2, .int a1)] := hl
  have lk50 := X.2.2.2.2.1 (.fieldLink RX2 50 "BreathOnLoan$State" "crew" "LBreathOnLoan$Crew;") (inX 126 rfl)
  have lk9 := X.2.2.2.2.1 (.fieldLink RX2 9 "BreathOnLoan$Judge" "names" "[I") (inX 55 rfl)
  have lk87 := X.2.2.2.2.1 (.fieldLink RX2 87 "BreathOnLoan$Crew" "lungs" "[I") (inX 127 rfl)
  have lk90 := X.2.2.2.2.1 (.fieldLink RX2 90 "BreathOnLoan$Crew" "voice" "[I") (inX 128 rfl)
  have lk93 := X.2.2.2.2.1 (.fieldLink RX2 93 "BreathOnLoan$Crew" "beads" "[I") (inX 129 rfl)
  dsimp only [VC_X2_nameBlower_48_1] at h
  refine lv_aload_n hx hb (dk DX2_nameBlower 0 rfl) rfl (lv_at hl 1 rfl) ?_
  refine gX_1 X hP 0 (by decide) rfl lk50 (dk DX2_nameBlower 1 rfl) ?_
  refine lv_iload_n hx hb (dk DX2_nameBlower 2 rfl) rfl (lv_at hl 2 rfl) ?_
  refine cXi (As := [.int a1]) (rest := []) X (m_X1_has_2 (l := l) (dC := dC) (dI := dI) (q := q) (cI := cI) (cT := cT) (en := en) (sz := _) a1 S h) (cwV 1 X.2.2.2.2.1 (gxV 130 40 41 42 35 rfl rfl rfl rfl rfl) rfl rfl rfl q_X1_has_2 ⟨Nat.le_of_ble_eq_true rfl, Nat.le_of_ble_eq_true rfl⟩) (rX_2 X hP) hP hD hS rfl hl.1 rfl (Nat.le_of_ble_eq_true rfl) (dk DX2_nameBlower 3 rfl) (fun r2 S1 H locs h hP hD hS => ?_)
  refine lv_if_eq (tgt := 63) hx hb (dk DX2_nameBlower 4 rfl) (by decide) (fun hc => ?_) (fun hc => ?_)
  · have h := h.1 hc
    exact W.vret hx hb hr (fun t ht hW => ⟨⟨_, rfl, h, by rw [ht]; exact hP, va_K.moved hW.alike X.2.2.2.2.2.2.1, hD⟩, hS.F ht⟩) hS.2.2 (dk DX2_nameBlower 37 rfl)
  · have h := h.2 hc
    refine lv_aload_n hx hb (dk DX2_nameBlower 5 rfl) rfl (lv_at hl 0 rfl) ?_
    refine gX_48 X hP 0 (by decide) rfl lk9 (dk DX2_nameBlower 6 rfl) ?_
    refine lv_iconst (v := 1) hx hb (dk DX2_nameBlower 7 rfl) (by decide) ?_
    refine lv_iload_n hx hb (dk DX2_nameBlower 8 rfl) rfl (lv_at hl 2 rfl) ?_
    obtain ⟨hin, h⟩ := h
    refine stX_49 X hP hD hS hin (dk DX2_nameBlower 9 rfl) (fun S3 eS3 H locs hP hD hS => ?_)
    have h := h S3 eS3
    refine lv_aload_n hx hb (dk DX2_nameBlower 10 rfl) rfl (lv_at hl 0 rfl) ?_
    refine gX_48 X hP 0 (by decide) rfl lk9 (dk DX2_nameBlower 11 rfl) ?_
    refine lv_iconst (v := 2) hx hb (dk DX2_nameBlower 12 rfl) (by decide) ?_
    refine lv_aload_n hx hb (dk DX2_nameBlower 13 rfl) rfl (lv_at hl 1 rfl) ?_
    refine gX_1 X hP 0 (by decide) rfl lk50 (dk DX2_nameBlower 14 rfl) ?_
    refine gX_2 X hP 1 (by decide) rfl lk87 (dk DX2_nameBlower 15 rfl) ?_
    refine lv_iload_n hx hb (dk DX2_nameBlower 16 rfl) rfl (lv_at hl 2 rfl) ?_
    obtain ⟨hin, h⟩ := h
    refine ldX_3 X hP hin (dk DX2_nameBlower 17 rfl) ?_
    refine lv_topi (fun v4 ev4 => ?_)
    have h := h v4 ev4
    obtain ⟨hin, h⟩ := h
    refine stX_49 X hP hD hS hin (dk DX2_nameBlower 18 rfl) (fun S5 eS5 H locs hP hD hS => ?_)
    have h := h S5 eS5
    refine lv_aload_n hx hb (dk DX2_nameBlower 19 rfl) rfl (lv_at hl 0 rfl) ?_
    refine gX_48 X hP 0 (by decide) rfl lk9 (dk DX2_nameBlower 20 rfl) ?_
    refine lv_iconst (v := 3) hx hb (dk DX2_nameBlower 21 rfl) (by decide) ?_
    refine lv_aload_n hx hb (dk DX2_nameBlower 22 rfl) rfl (lv_at hl 1 rfl) ?_
    refine gX_1 X hP 0 (by decide) rfl lk50 (dk DX2_nameBlower 23 rfl) ?_
    refine gX_2 X hP 2 (by decide) rfl lk90 (dk DX2_nameBlower 24 rfl) ?_
    refine lv_iload_n hx hb (dk DX2_nameBlower 25 rfl) rfl (lv_at hl 2 rfl) ?_
    obtain ⟨hin, h⟩ := h
    refine ldX_4 X hP hin (dk DX2_nameBlower 26 rfl) ?_
    refine lv_topi (fun v6 ev6 => ?_)
    have h := h v6 ev6
    obtain ⟨hin, h⟩ := h
    refine stX_49 X hP hD hS hin (dk DX2_nameBlower 27 rfl) (fun S7 eS7 H locs hP hD hS => ?_)
    have h := h S7 eS7
    refine lv_aload_n hx hb (dk DX2_nameBlower 28 rfl) rfl (lv_at hl 0 rfl) ?_
    refine gX_48 X hP 0 (by decide) rfl lk9 (dk DX2_nameBlower 29 rfl) ?_
    refine lv_iconst (v := 4) hx hb (dk DX2_nameBlower 30 rfl) (by decide) ?_
    refine lv_aload_n hx hb (dk DX2_nameBlower 31 rfl) rfl (lv_at hl 1 rfl) ?_
    refine gX_1 X hP 0 (by decide) rfl lk50 (dk DX2_nameBlower 32 rfl) ?_
    refine gX_2 X hP 3 (by decide) rfl lk93 (dk DX2_nameBlower 33 rfl) ?_
    refine lv_iload_n hx hb (dk DX2_nameBlower 34 rfl) rfl (lv_at hl 2 rfl) ?_
    obtain ⟨hin, h⟩ := h
    refine ldX_5 X hP hin (dk DX2_nameBlower 35 rfl) ?_
    refine lv_topi (fun v8 ev8 => ?_)
    have h := h v8 ev8
    obtain ⟨hin, h⟩ := h
    refine stX_49 X hP hD hS hin (dk DX2_nameBlower 36 rfl) (fun S9 eS9 H locs hP hD hS => ?_)
    have h := h S9 eS9
    exact W.vret hx hb hr (fun t ht hW => ⟨⟨_, rfl, h, by rw [ht]; exact hP, va_K.moved hW.alike X.2.2.2.2.2.2.1, hD⟩, hS.F ht⟩) hS.2.2 (dk DX2_nameBlower 37 rfl)

def ww_X2_nameKind_48_1 : List Cond := .code yX2_nameKind cX2_nameKind 4 none :: (WdX ++ WsX)
theorem q_X2_nameKind_48_1 : yX2_nameKind.cls = RX2 ∧ yX2_nameKind.cls ≠ "java/lang/invoke/MethodHandle" ∧ yX2_nameKind.cls ≠ "java/lang/invoke/VarHandle" ∧ (parseMethodDescriptor yX2_nameKind.desc).map (fun d => d.parameters.length) = some 2 := by decide +kernel
def VC_X2_nameKind_48_1 (Post : XS → Prop) (a1 : Int32) (S : XS) : Prop := VC_X0_has_11 (fun r2 S1 => ((r2 = 0 → Post S1) ∧ (¬ r2 = 0 → vp_in a1 10 ∧ VC_X10_has_7 (fun r4 S3 => ((r4 = 0 → Post S3) ∧ (¬ r4 = 0 → vp_in a1 10 ∧ ∀ v5 : Int32, v5 = (S3.2.1 12) a1.toNatClampNeg → vp_in (5 : Int32) 11 ∧ ∀ S6 : XS, S6 = xF S3 49 (upd (S3.2.1 49) (5 : Int32).toNatClampNeg v5) → vp_in v5 6 ∧ ∀ v7 : Int32, v7 = (S6.2.1 8) v5.toNatClampNeg → vp_in (6 : Int32) 11 ∧ ∀ S8 : XS, S8 = xF S6 49 (upd (S6.2.1 49) (6 : Int32).toNatClampNeg v7) → vp_in v5 6 ∧ ∀ v9 : Int32, v9 = (S8.2.1 10) v5.toNatClampNeg → vp_in (7 : Int32) 11 ∧ ∀ S10 : XS, S10 = xF S8 49 (upd (S8.2.1 49) (7 : Int32).toNatClampNeg v9) → Post S10))) ((S1.2.1 12) a1.toNatClampNeg) S1))) a1 S
set_option maxHeartbeats 4000000 in
set_option maxRecDepth 100000 in
theorem m_X2_nameKind_48_1 {l : Launch} {dC : Nat → ClassId} {dI : Nat → Nat → Nat} {q : Nat → Nat} {cI cT : ClassId} {en : Nat → Nat} {sz : Nat} {Post : XS → Prop} (a1 : Int32) (S : XS) (h : VC_X2_nameKind_48_1 Post a1 S) : Met l yX2_nameKind ww_X2_nameKind_48_1 ({ frames := 1, cells := 0, slots := 0, locals := 21 } : Room) (va_Pc [.ref (q 48), .ref (q 1), .int a1] (preX dC dI q cI cT en S sz)) (va_Qv Post (atX dC dI q cI cT (va_A (wX q cI cT S) sz)) (va_A (wX q cI cT S) sz)) 0 0 (va_A (wX q cI cT S) sz) := by
  refine oX (cc := cX2_nameKind) (maxL := 4) (ret := none) (Qc := fun A => va_Qv Post (atX dC dI q cI cT A) A) (own := RX2) (by decide) rfl (fun w h => List.mem_cons_of_mem _ (List.mem_append_right _ h)) rfl (Nat.le_of_ble_eq_true rfl) (fun p e s m below meth c A ls X hr hlocks hP hD hS hl => ?_)
  have hx := X.1
  have hb := X.2.1
  have hl : lv_has ls 4 [(0, .ref (q 48)), (1, .ref (q 1)), (2, .int a1)] := hl
  have lk34 := X.2.2.2.2.1 (.fieldLink RX2 34 "BreathOnLoan$State" "bench" "LBreathOnLoan$Bench;") (inX 138 rfl)
  have lk97 := X.2.2.2.2.1 (.fieldLink RX2 97 "BreathOnLoan$State" "wares" "LBreathOnLoan$Wares;") (inX 139 rfl)
  have lk101 := X.2.2.2.2.1 (.fieldLink RX2 101 "BreathOnLoan$Bench" "kindOf" "[I") (inX 140 rfl)
  have lk9 := X.2.2.2.2.1 (.fieldLink RX2 9 "BreathOnLoan$Judge" "names" "[I") (inX 55 rfl)
  have lk107 := X.2.2.2.2.1 (.fieldLink RX2 107 "BreathOnLoan$Wares" "want" "[I") (inX 141 rfl)
  have lk110 := X.2.2.2.2.1 (.fieldLink RX2 110 "BreathOnLoan$Wares" "worth" "[I") (inX 142 rfl)
  dsimp only [VC_X2_nameKind_48_1] at h
  refine lv_aload_n hx hb (dk DX2_nameKind 0 rfl) rfl (lv_at hl 1 rfl) ?_
  refine gX_1 X hP 2 (by decide) rfl lk34 (dk DX2_nameKind 1 rfl) ?_
  refine lv_iload_n hx hb (dk DX2_nameKind 2 rfl) rfl (lv_at hl 2 rfl) ?_
  refine cXi (As := [.int a1]) (rest := []) X (m_X0_has_11 (l := l) (dC := dC) (dI := dI) (q := q) (cI := cI) (cT := cT) (en := en) (sz := _) a1 S h) (cwV 1 X.2.2.2.2.1 (gxV 143 144 145 146 8 rfl rfl rfl rfl rfl) rfl rfl rfl q_X0_has_11 ⟨Nat.le_of_ble_eq_true rfl, Nat.le_of_ble_eq_true rfl⟩) (rX_11 X hP) hP hD hS rfl hl.1 rfl (Nat.le_of_ble_eq_true rfl) (dk DX2_nameKind 3 rfl) (fun r2 S1 H locs h hP hD hS => ?_)
  refine lv_if_eq (tgt := 79) hx hb (dk DX2_nameKind 4 rfl) (by decide) (fun hc => ?_) (fun hc => ?_)
  · have h := h.1 hc
    exact W.vret hx hb hr (fun t ht hW => ⟨⟨_, rfl, h, by rw [ht]; exact hP, va_K.moved hW.alike X.2.2.2.2.2.2.1, hD⟩, hS.F ht⟩) hS.2.2 (dk DX2_nameKind 43 rfl)
  · have h := h.2 hc
    refine lv_aload_n hx hb (dk DX2_nameKind 5 rfl) rfl (lv_at hl 1 rfl) ?_
    refine gX_1 X hP 1 (by decide) rfl lk97 (dk DX2_nameKind 6 rfl) ?_
    refine lv_aload_n hx hb (dk DX2_nameKind 7 rfl) rfl (lv_at hl 1 rfl) ?_
    refine gX_1 X hP 2 (by decide) rfl lk34 (dk DX2_nameKind 8 rfl) ?_
    refine gX_11 X hP 2 (by decide) rfl lk101 (dk DX2_nameKind 9 rfl) ?_
    refine lv_iload_n hx hb (dk DX2_nameKind 10 rfl) rfl (lv_at hl 2 rfl) ?_
    obtain ⟨hin, h⟩ := h
    refine ldX_12 X hP hin (dk DX2_nameKind 11 rfl) ?_
    refine cXi (As := [.int ((S1.2.1 12) a1.toNatClampNeg)]) (rest := []) X (m_X10_has_7 (l := l) (dC := dC) (dI := dI) (q := q) (cI := cI) (cT := cT) (en := en) (sz := _) ((S1.2.1 12) a1.toNatClampNeg) S1 h) (cwV 1 X.2.2.2.2.1 (gxV 147 148 149 150 135 rfl rfl rfl rfl rfl) rfl rfl rfl q_X10_has_7 ⟨Nat.le_of_ble_eq_true rfl, Nat.le_of_ble_eq_true rfl⟩) (rX_7 X hP) hP hD hS rfl hl.1 rfl (Nat.le_of_ble_eq_true rfl) (dk DX2_nameKind 12 rfl) (fun r4 S3 H locs h hP hD hS => ?_)
    refine lv_if_eq (tgt := 79) hx hb (dk DX2_nameKind 13 rfl) (by decide) (fun hc => ?_) (fun hc => ?_)
    · have h := h.1 hc
      exact W.vret hx hb hr (fun t ht hW => ⟨⟨_, rfl, h, by rw [ht]; exact hP, va_K.moved hW.alike X.2.2.2.2.2.2.1, hD⟩, hS.F ht⟩) hS.2.2 (dk DX2_nameKind 43 rfl)
    · have h := h.2 hc
      refine lv_aload_n hx hb (dk DX2_nameKind 14 rfl) rfl (lv_at hl 1 rfl) ?_
      refine gX_1 X hP 2 (by decide) rfl lk34 (dk DX2_nameKind 15 rfl) ?_
      refine gX_11 X hP 2 (by decide) rfl lk101 (dk DX2_nameKind 16 rfl) ?_
      refine lv_iload_n hx hb (dk DX2_nameKind 17 rfl) rfl (lv_at hl 2 rfl) ?_
      obtain ⟨hin, h⟩ := h
      refine ldX_12 X hP hin (dk DX2_nameKind 18 rfl) ?_
      refine lv_topi (fun v5 ev5 => ?_)
      have h := h v5 ev5
      refine lv_istore_n (lv' := [(3, .int v5), (0, .ref (q 48)), (1, .ref (q 1)), (2, .int a1)]) hx hb (dk DX2_nameKind 19 rfl) rfl hl (by decide) rfl (fun ls hl => ?_)
      refine lv_aload_n hx hb (dk DX2_nameKind 20 rfl) rfl (lv_at hl 1 rfl) ?_
      refine gX_48 X hP 0 (by decide) rfl lk9 (dk DX2_nameKind 21 rfl) ?_
      refine lv_iconst (v := 5) hx hb (dk DX2_nameKind 22 rfl) (by decide) ?_
      refine lv_iload_n hx hb (dk DX2_nameKind 23 rfl) rfl (lv_at hl 0 rfl) ?_
      obtain ⟨hin, h⟩ := h
      refine stX_49 X hP hD hS hin (dk DX2_nameKind 24 rfl) (fun S6 eS6 H locs hP hD hS => ?_)
      have h := h S6 eS6
      refine lv_aload_n hx hb (dk DX2_nameKind 25 rfl) rfl (lv_at hl 1 rfl) ?_
      refine gX_48 X hP 0 (by decide) rfl lk9 (dk DX2_nameKind 26 rfl) ?_
      refine lv_bipush (v := 6) hx hb (dk DX2_nameKind 27 rfl) (by decide) ?_
      refine lv_aload_n hx hb (dk DX2_nameKind 28 rfl) rfl (lv_at hl 2 rfl) ?_
      refine gX_1 X hP 1 (by decide) rfl lk97 (dk DX2_nameKind 29 rfl) ?_
      refine gX_7 X hP 1 (by decide) rfl lk107 (dk DX2_nameKind 30 rfl) ?_
      refine lv_iload_n hx hb (dk DX2_nameKind 31 rfl) rfl (lv_at hl 0 rfl) ?_
      obtain ⟨hin, h⟩ := h
      refine ldX_8 X hP hin (dk DX2_nameKind 32 rfl) ?_
      refine lv_topi (fun v7 ev7 => ?_)
      have h := h v7 ev7
      obtain ⟨hin, h⟩ := h
      refine stX_49 X hP hD hS hin (dk DX2_nameKind 33 rfl) (fun S8 eS8 H locs hP hD hS => ?_)
      have h := h S8 eS8
      refine lv_aload_n hx hb (dk DX2_nameKind 34 rfl) rfl (lv_at hl 1 rfl) ?_
      refine gX_48 X hP 0 (by decide) rfl lk9 (dk DX2_nameKind 35 rfl) ?_
      refine lv_bipush (v := 7) hx hb (dk DX2_nameKind 36 rfl) (by decide) ?_
      refine lv_aload_n hx hb (dk DX2_nameKind 37 rfl) rfl (lv_at hl 2 rfl) ?_
      refine gX_1 X hP 1 (by decide) rfl lk97 (dk DX2_nameKind 38 rfl) ?_
      refine gX_7 X hP 3 (by decide) rfl lk110 (dk DX2_nameKind 39 rfl) ?_
      refine lv_iload_n hx hb (dk DX2_nameKind 40 rfl) rfl (lv_at hl 0 rfl) ?_
      obtain ⟨hin, h⟩ := h
      refine ldX_10 X hP hin (dk DX2_nameKind 41 rfl) ?_
      refine lv_topi (fun v9 ev9 => ?_)
      have h := h v9 ev9
      obtain ⟨hin, h⟩ := h
      refine stX_49 X hP hD hS hin (dk DX2_nameKind 42 rfl) (fun S10 eS10 H locs hP hD hS => ?_)
      have h := h S10 eS10
      exact W.vret hx hb hr (fun t ht hW => ⟨⟨_, rfl, h, by rw [ht]; exact hP, va_K.moved hW.alike X.2.2.2.2.2.2.1, hD⟩, hS.F ht⟩) hS.2.2 (dk DX2_nameKind 43 rfl)

def ww_X4_cellOf : List Cond := .code yX4_cellOf cX4_cellOf 2 (some .int) :: (WdX ++ WsX)
theorem q_X4_cellOf : yX4_cellOf.cls ≠ "java/lang/invoke/MethodHandle" ∧ yX4_cellOf.cls ≠ "java/lang/invoke/VarHandle" ∧ (parseMethodDescriptor yX4_cellOf.desc).map (fun d => d.parameters.length) = some 2 := by decide +kernel
def VC_X4_cellOf (Post : Int32 → Prop) (a0 : Int32) (a1 : Int32) : Prop := Post ((a0 * 25) + a1)
set_option maxHeartbeats 4000000 in
set_option maxRecDepth 100000 in
theorem m_X4_cellOf {l : Launch} {Post : Int32 → Prop} (a0 : Int32) (a1 : Int32) (h : VC_X4_cellOf Post a0 a1) : Met l yX4_cellOf ww_X4_cellOf ({ frames := 0, cells := 0, slots := 0, locals := 0 } : Room) (va_Pc [.int a0, .int a1] (fun _ => True)) (vp_Si Post) 0 0 (fun _ => False) := by
  refine oS (cc := cX4_cellOf) (maxL := 2) (ret := (some .int)) (Qc := vp_Si Post) (by decide) rfl (Nat.le_of_ble_eq_true rfl) (fun p e s m below meth c ls X hr hlocks hl => ?_)
  have hx := X.1
  have hb := X.2.1
  have hP := trivial
  have hD := trivial
  have hS := trivial
  have hl : lv_has ls 2 [(0, .int a0), (1, .int a1)] := hl
  dsimp only [VC_X4_cellOf] at h
  refine lv_iload_n hx hb (dk DX4_cellOf 0 rfl) rfl (lv_at hl 0 rfl) ?_
  refine lv_bipush (v := 25) hx hb (dk DX4_cellOf 1 rfl) (by decide) ?_
  refine lv_imul hx hb (dk DX4_cellOf 2 rfl) ?_
  refine lv_iload_n hx hb (dk DX4_cellOf 3 rfl) rfl (lv_at hl 1 rfl) ?_
  refine lv_iadd hx hb (dk DX4_cellOf 4 rfl) ?_
  exact W.iret (v := (a0 * 25) + a1) hx hb hr (fun t ht hW => ⟨_, rfl, h, ht⟩) (fun _ h => by cases h) (dk DX4_cellOf 5 rfl)

