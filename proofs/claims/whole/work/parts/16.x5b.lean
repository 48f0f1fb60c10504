/-! ### X5_again again(I)I -/
def rX5_again : Room := { frames := 5, cells := 0, slots := 0, locals := 116 }
def q_X5_again (g_n : Int32) (g_lines : Int32) (g_goods : Int32) (g_isKnown : Int32) (g_refusals : Nat → Int32) (g_set : Nat → Int32) (g_state : Nat → Int32) (g_good : Nat → Int32) (x1 : Int32) (Q : Int32 → Int32 → Int32 → (Nat → Int32) → (Nat → Int32) → (Nat → Int32) → Prop) : Prop :=
  q_X5_isLine g_lines x1 (fun b2 => (b2 = true → vp_in x1 40 ∧ (¬ (g_state (Int32.toNatClampNeg x1)) = 0 → q_X5_takes g_n g_goods g_isKnown g_set g_state g_good x1 (fun g_goods_6 g_isKnown_7 g_state_8 g_good_9 => (¬ (g_state_8 (Int32.toNatClampNeg x1)) = 0 → Q 0 g_goods_6 g_isKnown_7 g_refusals g_state_8 g_good_9) ∧ ((g_state_8 (Int32.toNatClampNeg x1)) = 0 → Q 1 g_goods_6 g_isKnown_7 g_refusals g_state_8 g_good_9))) ∧ ((g_state (Int32.toNatClampNeg x1)) = 0 → q_X5_refuse g_refusals ((-3) : Int32) (fun r12 g_refusals_11 => Q r12 g_goods g_isKnown g_refusals_11 g_state g_good))) ∧ (b2 = false → q_X5_refuse g_refusals ((-1) : Int32) (fun r14 g_refusals_13 => Q r14 g_goods g_isKnown g_refusals_13 g_state g_good)))
set_option maxRecDepth 100000 in
set_option maxHeartbeats 4000000 in
theorem c_X5_again (l : Launch) (dC : Nat → ClassId) (dI : Nat → Nat → Nat) (cI cZ : ClassId) (a_this a_refusals a_set a_state a_good : Nat) (z_weight z_all z_many z_trial z_always z_knot z_knots z_part z_parts : Value) (g_n : Int32) (g_lines : Int32) (g_goods : Int32) (g_isKnown : Int32) (g_refusals : Nat → Int32) (g_set : Nat → Int32) (g_state : Nat → Int32) (g_good : Nat → Int32) (x1 : Int32) (Q : Int32 → Int32 → Int32 → (Nat → Int32) → (Nat → Int32) → (Nat → Int32) → Prop) (h : q_X5_again g_n g_lines g_goods g_isKnown g_refusals g_set g_state g_good x1 Q) : MI l yX5_again wsX5_again rX5_again (dC, dI) [(cI, .int), (cZ, .boolean)] [.ref a_this, .int x1] [(a_this, .inr (5, [.ref a_refusals, .int g_n, .int g_lines, .ref a_set, .ref a_state, z_weight, z_all, .ref a_good, z_many, .int g_goods, z_trial, .int g_isKnown, z_always, z_knot, z_knots, z_part, z_parts])), (a_refusals, .inl (cI, 7, .inl g_refusals)), (a_set, .inl (cI, 40, .inl g_set)), (a_state, .inl (cI, 40, .inl g_state)), (a_good, .inl (cI, 40320, .inl g_good))] (fun (r : Int32) (u : Int32 × Int32 × (Nat → Int32) × (Nat → Int32) × (Nat → Int32)) => Q r u.1 u.2.1 u.2.2.1 u.2.2.2.1 u.2.2.2.2) (fun u : Int32 × Int32 × (Nat → Int32) × (Nat → Int32) × (Nat → Int32) => [(a_this, .inr (5, [.ref a_refusals, .int g_n, .int g_lines, .ref a_set, .ref a_state, z_weight, z_all, .ref a_good, z_many, .int u.1, z_trial, .int u.2.1, z_always, z_knot, z_knots, z_part, z_parts])), (a_refusals, .inl (cI, 7, .inl u.2.2.1)), (a_set, .inl (cI, 40, .inl g_set)), (a_state, .inl (cI, 40, .inl u.2.2.2.1)), (a_good, .inl (cI, 40320, .inl u.2.2.2.2))]) := by
  refine MI.of (cc := cX5_again) (maxL := 2) (by decide +kernel) rfl (Nat.le_of_ble_eq_true rfl) ?_
  intro p e s m args below meth c A QQ ls hx hb hml hown hts hA hK hP hD hS hNW ret hl
  have hl : lv_has ls 2 [(0, .ref a_this), (1, .int x1)] := hl
  have hown : s.vm.findClass RX5 = some m.cls := hown
  have in5 : ∀ w ∈ u_ws RX5 TX5 17, w ∈ wsX5_again := fun _ w9 => List.mem_cons_of_mem _ (List.mem_append_right _ w9)
  have f16 := hts (.fieldLink RX5 16 "OnesDeskModel" "state" "[I") (by decide +kernel)
  refine lv_aload_n hx hb dX5_again_0 rfl (lv_at hl 0 rfl) ?_
  refine lv_iload_n hx hb dX5_again_1 rfl (lv_at hl 1 rfl) ?_
  refine MI.callV (As := [.int x1]) (rest := []) (wr := [(a_refusals, .inl (cI, 7, .inl g_refusals)), (a_set, .inl (cI, 40, .inl g_set)), (a_state, .inl (cI, 40, .inl g_state)), (a_good, .inl (cI, 40320, .inl g_good))]) (ci := 5) (q0 := 0) (c_X5_isLine l dC dI cI cZ a_this (.ref a_refusals) (.int g_n) (.ref a_set) (.ref a_state) z_weight z_all (.ref a_good) z_many (.int g_goods) z_trial (.int g_isKnown) z_always z_knot z_knots z_part z_parts g_lines x1 _ h) ⟨hx, hb, hml, hown, hts⟩ (cwV 1 hts gX5_again_X5_isLine rfl rfl rfl (by decide +kernel) ⟨Nat.le_of_ble_eq_true rfl, Nat.le_of_ble_eq_true rfl⟩) hK hP hD hS hA hNW [0] [1, 2, 3, 4] rfl rfl (by decide) (by decide) (by decide) rfl rfl rfl rfl hl.1 rfl (Nat.le_of_ble_eq_true rfl) dX5_again_2 ⟨Nat.zero_le _, Nat.zero_le _⟩ (fun r1 u H locs hw hP hD hS => ?_)
  obtain ⟨b2, rfl, hw⟩ := hw
  have h := hw
  try dsimp only at h
  have hP : va_P (dC, dI) vwCl [(a_refusals, .inl (cI, 7, .inl g_refusals)), (a_set, .inl (cI, 40, .inl g_set)), (a_state, .inl (cI, 40, .inl g_state)), (a_good, .inl (cI, 40320, .inl g_good)), (a_this, .inr (5, [.ref a_refusals, .int g_n, .int g_lines, .ref a_set, .ref a_state, z_weight, z_all, .ref a_good, z_many, .int g_goods, z_trial, .int g_isKnown, z_always, z_knot, z_knots, z_part, z_parts]))] H := hP
  have hD : va_D A [(a_refusals, .inl (cI, 7, .inl g_refusals)), (a_set, .inl (cI, 40, .inl g_set)), (a_state, .inl (cI, 40, .inl g_state)), (a_good, .inl (cI, 40320, .inl g_good)), (a_this, .inr (5, [.ref a_refusals, .int g_n, .int g_lines, .ref a_set, .ref a_state, z_weight, z_all, .ref a_good, z_many, .int g_goods, z_trial, .int g_isKnown, z_always, z_knot, z_knots, z_part, z_parts]))] := hD
  refine lv_if_ne (tgt := 14) hx hb dX5_again_5 (by decide) (fun k3 => ?_) (fun k3 => ?_)
  · have h := h.1 (bI_1 k3)
    refine lv_aload_n hx hb dX5_again_14 rfl (lv_at hl 0 rfl) ?_
    refine va_get (D := (dC, dI)) (ci := 5) (v := .ref a_state) (C := RX5) (T := TX5) (N := 17) hx hb hts in5 hown hK hP 4 rfl rfl 4 (by decide) f16 (fun _ h9 => h9) rfl dX5_again_15 ?_
    refine lv_iload_n hx hb dX5_again_18 rfl (lv_at hl 1 rfl) ?_
    obtain ⟨hi4, h⟩ := h
    refine va_iald (D := (dC, dI)) hx hb hK hP 2 0 rfl rfl hi4 dX5_again_19 ?_
    refine lv_if_ne (tgt := 30) hx hb dX5_again_20 (by decide) (fun k5 => ?_) (fun k5 => ?_)
    · have h := h.1 k5
      refine lv_aload_n hx hb dX5_again_30 rfl (lv_at hl 0 rfl) ?_
      refine lv_iload_n hx hb dX5_again_31 rfl (lv_at hl 1 rfl) ?_
      refine MV.callV (As := [.int x1]) (rest := []) (wr := [(a_refusals, .inl (cI, 7, .inl g_refusals))]) (ci := 5) (q0 := 0) (c_X5_takes l dC dI cI cZ a_this a_set a_state a_good (.ref a_refusals) (.int g_lines) z_weight z_all z_many z_trial z_always z_knot z_knots z_part z_parts g_n g_goods g_isKnown g_set g_state g_good x1 _ h) ⟨hx, hb, hml, hown, hts⟩ (cwV 1 hts gX5_again_X5_takes rfl rfl rfl (by decide +kernel) ⟨Nat.le_of_ble_eq_true rfl, Nat.le_of_ble_eq_true rfl⟩) hK hP hD hS hA hNW [4, 1, 2, 3] [0] rfl rfl (by decide) (by decide) (by decide) rfl rfl rfl rfl hl.1 rfl (Nat.le_of_ble_eq_true rfl) dX5_again_32 ⟨Nat.zero_le _, Nat.zero_le _⟩ (fun u H locs hw hP hD hS => ?_)
      obtain ⟨g_goods_6, g_isKnown_7, g_state_8, g_good_9⟩ := u
      have h := hw
      try dsimp only at h
      have hP : va_P (dC, dI) vwCl [(a_refusals, .inl (cI, 7, .inl g_refusals)), (a_this, .inr (5, [.ref a_refusals, .int g_n, .int g_lines, .ref a_set, .ref a_state, z_weight, z_all, .ref a_good, z_many, .int g_goods_6, z_trial, .int g_isKnown_7, z_always, z_knot, z_knots, z_part, z_parts])), (a_set, .inl (cI, 40, .inl g_set)), (a_state, .inl (cI, 40, .inl g_state_8)), (a_good, .inl (cI, 40320, .inl g_good_9))] H := hP
      have hD : va_D A [(a_refusals, .inl (cI, 7, .inl g_refusals)), (a_this, .inr (5, [.ref a_refusals, .int g_n, .int g_lines, .ref a_set, .ref a_state, z_weight, z_all, .ref a_good, z_many, .int g_goods_6, z_trial, .int g_isKnown_7, z_always, z_knot, z_knots, z_part, z_parts])), (a_set, .inl (cI, 40, .inl g_set)), (a_state, .inl (cI, 40, .inl g_state_8)), (a_good, .inl (cI, 40320, .inl g_good_9))] := hD
      refine lv_aload_n hx hb dX5_again_35 rfl (lv_at hl 0 rfl) ?_
      refine va_get (D := (dC, dI)) (ci := 5) (v := .ref a_state) (C := RX5) (T := TX5) (N := 17) hx hb hts in5 hown hK hP 1 rfl rfl 4 (by decide) f16 (fun _ h9 => h9) rfl dX5_again_36 ?_
      refine lv_iload_n hx hb dX5_again_39 rfl (lv_at hl 1 rfl) ?_
      refine va_iald (D := (dC, dI)) hx hb hK hP 3 0 rfl rfl hi4 dX5_again_40 ?_
      refine lv_if_ne (tgt := 48) hx hb dX5_again_41 (by decide) (fun k10 => ?_) (fun k10 => ?_)
      · have h := h.1 k10
        refine lv_iconst (v := 0) hx hb dX5_again_48 (by decide) ?_
        exact ret _ _ _ _ 0 (g_goods_6, g_isKnown_7, g_refusals, g_state_8, g_good_9) dX5_again_49 h (reP hP [1, 0, 2, 3, 4] rfl) (hD.sub [1, 0, 2, 3, 4] (by decide) rfl) hS
      · have h := h.2 k10
        refine lv_iconst (v := 1) hx hb dX5_again_44 (by decide) ?_
        refine lv_goto (tgt := 49) hx hb dX5_again_45 (by decide) ?_
        exact ret _ _ _ _ 1 (g_goods_6, g_isKnown_7, g_refusals, g_state_8, g_good_9) dX5_again_49 h (reP hP [1, 0, 2, 3, 4] rfl) (hD.sub [1, 0, 2, 3, 4] (by decide) rfl) hS
    · have h := h.2 k5
      refine lv_aload_n hx hb dX5_again_23 rfl (lv_at hl 0 rfl) ?_
      refine lv_bipush (v := (-3)) hx hb dX5_again_24 (by decide) ?_
      refine MI.callV (As := [.int (-3)]) (rest := []) (wr := [(a_set, .inl (cI, 40, .inl g_set)), (a_state, .inl (cI, 40, .inl g_state)), (a_good, .inl (cI, 40320, .inl g_good))]) (ci := 5) (q0 := 0) (c_X5_refuse l dC dI cI cZ a_this a_refusals (.int g_n) (.int g_lines) (.ref a_set) (.ref a_state) z_weight z_all (.ref a_good) z_many (.int g_goods) z_trial (.int g_isKnown) z_always z_knot z_knots z_part z_parts g_refusals ((-3) : Int32) _ h) ⟨hx, hb, hml, hown, hts⟩ (cwV 1 hts gX5_again_X5_refuse rfl rfl rfl (by decide +kernel) ⟨Nat.le_of_ble_eq_true rfl, Nat.le_of_ble_eq_true rfl⟩) hK hP hD hS hA hNW [4, 0] [1, 2, 3] rfl rfl (by decide) (by decide) (by decide) rfl rfl rfl rfl hl.1 rfl (Nat.le_of_ble_eq_true rfl) dX5_again_26 ⟨Nat.zero_le _, Nat.zero_le _⟩ (fun r12 u H locs hw hP hD hS => ?_)
      obtain ⟨g_refusals_11, rfl⟩ : ∃ z, z = u := ⟨_, rfl⟩
      have h := hw
      try dsimp only at h
      have hP : va_P (dC, dI) vwCl [(a_set, .inl (cI, 40, .inl g_set)), (a_state, .inl (cI, 40, .inl g_state)), (a_good, .inl (cI, 40320, .inl g_good)), (a_this, .inr (5, [.ref a_refusals, .int g_n, .int g_lines, .ref a_set, .ref a_state, z_weight, z_all, .ref a_good, z_many, .int g_goods, z_trial, .int g_isKnown, z_always, z_knot, z_knots, z_part, z_parts])), (a_refusals, .inl (cI, 7, .inl g_refusals_11))] H := hP
      have hD : va_D A [(a_set, .inl (cI, 40, .inl g_set)), (a_state, .inl (cI, 40, .inl g_state)), (a_good, .inl (cI, 40320, .inl g_good)), (a_this, .inr (5, [.ref a_refusals, .int g_n, .int g_lines, .ref a_set, .ref a_state, z_weight, z_all, .ref a_good, z_many, .int g_goods, z_trial, .int g_isKnown, z_always, z_knot, z_knots, z_part, z_parts])), (a_refusals, .inl (cI, 7, .inl g_refusals_11))] := hD
      exact ret _ _ _ _ r12 (g_goods, g_isKnown, g_refusals_11, g_state, g_good) dX5_again_29 h (reP hP [3, 4, 0, 1, 2] rfl) (hD.sub [3, 4, 0, 1, 2] (by decide) rfl) hS
  · have h := h.2 (bI_0 k3)
    refine lv_aload_n hx hb dX5_again_8 rfl (lv_at hl 0 rfl) ?_
    refine lv_iconst (v := (-1)) hx hb dX5_again_9 (by decide) ?_
    refine MI.callV (As := [.int (-1)]) (rest := []) (wr := [(a_set, .inl (cI, 40, .inl g_set)), (a_state, .inl (cI, 40, .inl g_state)), (a_good, .inl (cI, 40320, .inl g_good))]) (ci := 5) (q0 := 0) (c_X5_refuse l dC dI cI cZ a_this a_refusals (.int g_n) (.int g_lines) (.ref a_set) (.ref a_state) z_weight z_all (.ref a_good) z_many (.int g_goods) z_trial (.int g_isKnown) z_always z_knot z_knots z_part z_parts g_refusals ((-1) : Int32) _ h) ⟨hx, hb, hml, hown, hts⟩ (cwV 1 hts gX5_again_X5_refuse rfl rfl rfl (by decide +kernel) ⟨Nat.le_of_ble_eq_true rfl, Nat.le_of_ble_eq_true rfl⟩) hK hP hD hS hA hNW [4, 0] [1, 2, 3] rfl rfl (by decide) (by decide) (by decide) rfl rfl rfl rfl hl.1 rfl (Nat.le_of_ble_eq_true rfl) dX5_again_10 ⟨Nat.zero_le _, Nat.zero_le _⟩ (fun r14 u H locs hw hP hD hS => ?_)
    obtain ⟨g_refusals_13, rfl⟩ : ∃ z, z = u := ⟨_, rfl⟩
    have h := hw
    try dsimp only at h
    have hP : va_P (dC, dI) vwCl [(a_set, .inl (cI, 40, .inl g_set)), (a_state, .inl (cI, 40, .inl g_state)), (a_good, .inl (cI, 40320, .inl g_good)), (a_this, .inr (5, [.ref a_refusals, .int g_n, .int g_lines, .ref a_set, .ref a_state, z_weight, z_all, .ref a_good, z_many, .int g_goods, z_trial, .int g_isKnown, z_always, z_knot, z_knots, z_part, z_parts])), (a_refusals, .inl (cI, 7, .inl g_refusals_13))] H := hP
    have hD : va_D A [(a_set, .inl (cI, 40, .inl g_set)), (a_state, .inl (cI, 40, .inl g_state)), (a_good, .inl (cI, 40320, .inl g_good)), (a_this, .inr (5, [.ref a_refusals, .int g_n, .int g_lines, .ref a_set, .ref a_state, z_weight, z_all, .ref a_good, z_many, .int g_goods, z_trial, .int g_isKnown, z_always, z_knot, z_knots, z_part, z_parts])), (a_refusals, .inl (cI, 7, .inl g_refusals_13))] := hD
    exact ret _ _ _ _ r14 (g_goods, g_isKnown, g_refusals_13, g_state, g_good) dX5_again_13 h (reP hP [3, 4, 0, 1, 2] rfl) (hD.sub [3, 4, 0, 1, 2] (by decide) rfl) hS
/-! ### X5_weight weight(II)I -/
def rX5_weight : Room := { frames := 2, cells := 0, slots := 0, locals := 42 }
def q_X5_weight (g_lines : Int32) (g_refusals : Nat → Int32) (g_weight : Nat → Int32) (x1 : Int32) (x2 : Int32) (Q : Int32 → (Nat → Int32) → (Nat → Int32) → Prop) : Prop :=
  q_X5_isLine g_lines x1 (fun b2 => (b2 = true → (0 ≤ x2 → (x2 ≤ 100 → vp_in x1 40 ∧ ∀ x3 : Int32, x3 = (g_weight (Int32.toNatClampNeg x1)) → Q x3 g_refusals (upd g_weight (Int32.toNatClampNeg x1) x2)) ∧ (¬ x2 ≤ 100 → q_X5_refuse g_refusals ((-6) : Int32) (fun r8 g_refusals_7 => Q r8 g_refusals_7 g_weight))) ∧ (¬ 0 ≤ x2 → q_X5_refuse g_refusals ((-4) : Int32) (fun r10 g_refusals_9 => Q r10 g_refusals_9 g_weight))) ∧ (b2 = false → q_X5_refuse g_refusals ((-1) : Int32) (fun r12 g_refusals_11 => Q r12 g_refusals_11 g_weight)))
set_option maxRecDepth 100000 in
set_option maxHeartbeats 4000000 in
theorem c_X5_weight (l : Launch) (dC : Nat → ClassId) (dI : Nat → Nat → Nat) (cI cZ : ClassId) (a_this a_refusals a_weight : Nat) (z_n z_set z_state z_all z_good z_many z_goods z_trial z_isKnown z_always z_knot z_knots z_part z_parts : Value) (g_lines : Int32) (g_refusals : Nat → Int32) (g_weight : Nat → Int32) (x1 : Int32) (x2 : Int32) (Q : Int32 → (Nat → Int32) → (Nat → Int32) → Prop) (h : q_X5_weight g_lines g_refusals g_weight x1 x2 Q) : MI l yX5_weight wsX5_weight rX5_weight (dC, dI) [(cI, .int), (cZ, .boolean)] [.ref a_this, .int x1, .int x2] [(a_this, .inr (5, [.ref a_refusals, z_n, .int g_lines, z_set, z_state, .ref a_weight, z_all, z_good, z_many, z_goods, z_trial, z_isKnown, z_always, z_knot, z_knots, z_part, z_parts])), (a_refusals, .inl (cI, 7, .inl g_refusals)), (a_weight, .inl (cI, 40, .inl g_weight))] (fun (r : Int32) (u : (Nat → Int32) × (Nat → Int32)) => Q r u.1 u.2) (fun u : (Nat → Int32) × (Nat → Int32) => [(a_this, .inr (5, [.ref a_refusals, z_n, .int g_lines, z_set, z_state, .ref a_weight, z_all, z_good, z_many, z_goods, z_trial, z_isKnown, z_always, z_knot, z_knots, z_part, z_parts])), (a_refusals, .inl (cI, 7, .inl u.1)), (a_weight, .inl (cI, 40, .inl u.2))]) := by
  refine MI.of (cc := cX5_weight) (maxL := 4) (by decide +kernel) rfl (Nat.le_of_ble_eq_true rfl) ?_
  intro p e s m args below meth c A QQ ls hx hb hml hown hts hA hK hP hD hS hNW ret hl
  have hl : lv_has ls 4 [(0, .ref a_this), (1, .int x1), (2, .int x2)] := hl
  have hown : s.vm.findClass RX5 = some m.cls := hown
  have in5 : ∀ w ∈ u_ws RX5 TX5 17, w ∈ wsX5_weight := fun _ w9 => List.mem_cons_of_mem _ (List.mem_append_right _ w9)
  have f19 := hts (.fieldLink RX5 19 "OnesDeskModel" "weight" "[I") (by decide +kernel)
  refine lv_aload_n hx hb dX5_weight_0 rfl (lv_at hl 0 rfl) ?_
  refine lv_iload_n hx hb dX5_weight_1 rfl (lv_at hl 1 rfl) ?_
  refine MI.callV (As := [.int x1]) (rest := []) (wr := [(a_refusals, .inl (cI, 7, .inl g_refusals)), (a_weight, .inl (cI, 40, .inl g_weight))]) (ci := 5) (q0 := 0) (c_X5_isLine l dC dI cI cZ a_this (.ref a_refusals) z_n z_set z_state (.ref a_weight) z_all z_good z_many z_goods z_trial z_isKnown z_always z_knot z_knots z_part z_parts g_lines x1 _ h) ⟨hx, hb, hml, hown, hts⟩ (cwV 1 hts gX5_weight_X5_isLine rfl rfl rfl (by decide +kernel) ⟨Nat.le_of_ble_eq_true rfl, Nat.le_of_ble_eq_true rfl⟩) hK hP hD hS hA hNW [0] [1, 2] rfl rfl (by decide) (by decide) (by decide) rfl rfl rfl rfl hl.1 rfl (Nat.le_of_ble_eq_true rfl) dX5_weight_2 ⟨Nat.zero_le _, Nat.zero_le _⟩ (fun r1 u H locs hw hP hD hS => ?_)
  obtain ⟨b2, rfl, hw⟩ := hw
  have h := hw
  try dsimp only at h
  have hP : va_P (dC, dI) vwCl [(a_refusals, .inl (cI, 7, .inl g_refusals)), (a_weight, .inl (cI, 40, .inl g_weight)), (a_this, .inr (5, [.ref a_refusals, z_n, .int g_lines, z_set, z_state, .ref a_weight, z_all, z_good, z_many, z_goods, z_trial, z_isKnown, z_always, z_knot, z_knots, z_part, z_parts]))] H := hP
  have hD : va_D A [(a_refusals, .inl (cI, 7, .inl g_refusals)), (a_weight, .inl (cI, 40, .inl g_weight)), (a_this, .inr (5, [.ref a_refusals, z_n, .int g_lines, z_set, z_state, .ref a_weight, z_all, z_good, z_many, z_goods, z_trial, z_isKnown, z_always, z_knot, z_knots, z_part, z_parts]))] := hD
  refine lv_if_ne (tgt := 14) hx hb dX5_weight_5 (by decide) (fun k3 => ?_) (fun k3 => ?_)
  · have h := h.1 (bI_1 k3)
    refine lv_iload_n hx hb dX5_weight_14 rfl (lv_at hl 2 rfl) ?_
    refine lv_if_ge (tgt := 25) hx hb dX5_weight_15 (by decide) (fun k4 => ?_) (fun k4 => ?_)
    · have h := h.1 k4
      refine lv_iload_n hx hb dX5_weight_25 rfl (lv_at hl 2 rfl) ?_
      refine lv_bipush (v := 100) hx hb dX5_weight_26 (by decide) ?_
      refine lv_icmp_le (tgt := 38) hx hb dX5_weight_28 (by decide) (fun k5 => ?_) (fun k5 => ?_)
      · have h := h.1 k5
        refine lv_aload_n hx hb dX5_weight_38 rfl (lv_at hl 0 rfl) ?_
        refine va_get (D := (dC, dI)) (ci := 5) (v := .ref a_weight) (C := RX5) (T := TX5) (N := 17) hx hb hts in5 hown hK hP 2 rfl rfl 5 (by decide) f19 (fun _ h9 => h9) rfl dX5_weight_39 ?_
        refine lv_iload_n hx hb dX5_weight_42 rfl (lv_at hl 1 rfl) ?_
        obtain ⟨hi6, h⟩ := h
        refine va_iald (D := (dC, dI)) hx hb hK hP 1 0 rfl rfl hi6 dX5_weight_43 ?_
        refine lv_topi (fun x3 ex3 => ?_)
        have h := h x3 ex3
        refine lv_istore_n (lv' := [(3, .int x3), (0, .ref a_this), (1, .int x1), (2, .int x2)]) hx hb dX5_weight_44 rfl hl (by decide) rfl (fun ls hl => ?_)
        refine lv_aload_n hx hb dX5_weight_45 rfl (lv_at hl 1 rfl) ?_
        refine va_get (D := (dC, dI)) (ci := 5) (v := .ref a_weight) (C := RX5) (T := TX5) (N := 17) hx hb hts in5 hown hK hP 2 rfl rfl 5 (by decide) f19 (fun _ h9 => h9) rfl dX5_weight_46 ?_
        refine lv_iload_n hx hb dX5_weight_49 rfl (lv_at hl 2 rfl) ?_
        refine lv_iload_n hx hb dX5_weight_50 rfl (lv_at hl 3 rfl) ?_
        refine va_iast (D := (dC, dI)) hx hb hK hP hD hS 1 0 rfl rfl hi6 dX5_weight_51 (fun H locs hP hD hS => ?_)
        have hP : va_P (dC, dI) vwCl [(a_refusals, .inl (cI, 7, .inl g_refusals)), (a_weight, .inl (cI, 40, .inl (upd g_weight (Int32.toNatClampNeg x1) x2))), (a_this, .inr (5, [.ref a_refusals, z_n, .int g_lines, z_set, z_state, .ref a_weight, z_all, z_good, z_many, z_goods, z_trial, z_isKnown, z_always, z_knot, z_knots, z_part, z_parts]))] H := hP
        have hD : va_D A [(a_refusals, .inl (cI, 7, .inl g_refusals)), (a_weight, .inl (cI, 40, .inl (upd g_weight (Int32.toNatClampNeg x1) x2))), (a_this, .inr (5, [.ref a_refusals, z_n, .int g_lines, z_set, z_state, .ref a_weight, z_all, z_good, z_many, z_goods, z_trial, z_isKnown, z_always, z_knot, z_knots, z_part, z_parts]))] := hD
        refine lv_iload_n hx hb dX5_weight_52 rfl (lv_at hl 0 rfl) ?_
        exact ret _ _ _ _ x3 (g_refusals, (upd g_weight (Int32.toNatClampNeg x1) x2)) dX5_weight_53 h (reP hP [2, 0, 1] rfl) (hD.sub [2, 0, 1] (by decide) rfl) hS
      · have h := h.2 k5
        refine lv_aload_n hx hb dX5_weight_31 rfl (lv_at hl 0 rfl) ?_
        refine lv_bipush (v := (-6)) hx hb dX5_weight_32 (by decide) ?_
        refine MI.callV (As := [.int (-6)]) (rest := []) (wr := [(a_weight, .inl (cI, 40, .inl g_weight))]) (ci := 5) (q0 := 0) (c_X5_refuse l dC dI cI cZ a_this a_refusals z_n (.int g_lines) z_set z_state (.ref a_weight) z_all z_good z_many z_goods z_trial z_isKnown z_always z_knot z_knots z_part z_parts g_refusals ((-6) : Int32) _ h) ⟨hx, hb, hml, hown, hts⟩ (cwV 1 hts gX5_weight_X5_refuse rfl rfl rfl (by decide +kernel) ⟨Nat.le_of_ble_eq_true rfl, Nat.le_of_ble_eq_true rfl⟩) hK hP hD hS hA hNW [2, 0] [1] rfl rfl (by decide) (by decide) (by decide) rfl rfl rfl rfl hl.1 rfl (Nat.le_of_ble_eq_true rfl) dX5_weight_34 ⟨Nat.zero_le _, Nat.zero_le _⟩ (fun r8 u H locs hw hP hD hS => ?_)
        obtain ⟨g_refusals_7, rfl⟩ : ∃ z, z = u := ⟨_, rfl⟩
        have h := hw
        try dsimp only at h
        have hP : va_P (dC, dI) vwCl [(a_weight, .inl (cI, 40, .inl g_weight)), (a_this, .inr (5, [.ref a_refusals, z_n, .int g_lines, z_set, z_state, .ref a_weight, z_all, z_good, z_many, z_goods, z_trial, z_isKnown, z_always, z_knot, z_knots, z_part, z_parts])), (a_refusals, .inl (cI, 7, .inl g_refusals_7))] H := hP
        have hD : va_D A [(a_weight, .inl (cI, 40, .inl g_weight)), (a_this, .inr (5, [.ref a_refusals, z_n, .int g_lines, z_set, z_state, .ref a_weight, z_all, z_good, z_many, z_goods, z_trial, z_isKnown, z_always, z_knot, z_knots, z_part, z_parts])), (a_refusals, .inl (cI, 7, .inl g_refusals_7))] := hD
        exact ret _ _ _ _ r8 (g_refusals_7, g_weight) dX5_weight_37 h (reP hP [1, 2, 0] rfl) (hD.sub [1, 2, 0] (by decide) rfl) hS
    · have h := h.2 k4
      refine lv_aload_n hx hb dX5_weight_18 rfl (lv_at hl 0 rfl) ?_
      refine lv_bipush (v := (-4)) hx hb dX5_weight_19 (by decide) ?_
      refine MI.callV (As := [.int (-4)]) (rest := []) (wr := [(a_weight, .inl (cI, 40, .inl g_weight))]) (ci := 5) (q0 := 0) (c_X5_refuse l dC dI cI cZ a_this a_refusals z_n (.int g_lines) z_set z_state (.ref a_weight) z_all z_good z_many z_goods z_trial z_isKnown z_always z_knot z_knots z_part z_parts g_refusals ((-4) : Int32) _ h) ⟨hx, hb, hml, hown, hts⟩ (cwV 1 hts gX5_weight_X5_refuse rfl rfl rfl (by decide +kernel) ⟨Nat.le_of_ble_eq_true rfl, Nat.le_of_ble_eq_true rfl⟩) hK hP hD hS hA hNW [2, 0] [1] rfl rfl (by decide) (by decide) (by decide) rfl rfl rfl rfl hl.1 rfl (Nat.le_of_ble_eq_true rfl) dX5_weight_21 ⟨Nat.zero_le _, Nat.zero_le _⟩ (fun r10 u H locs hw hP hD hS => ?_)
      obtain ⟨g_refusals_9, rfl⟩ : ∃ z, z = u := ⟨_, rfl⟩
      have h := hw
      try dsimp only at h
      have hP : va_P (dC, dI) vwCl [(a_weight, .inl (cI, 40, .inl g_weight)), (a_this, .inr (5, [.ref a_refusals, z_n, .int g_lines, z_set, z_state, .ref a_weight, z_all, z_good, z_many, z_goods, z_trial, z_isKnown, z_always, z_knot, z_knots, z_part, z_parts])), (a_refusals, .inl (cI, 7, .inl g_refusals_9))] H := hP
      have hD : va_D A [(a_weight, .inl (cI, 40, .inl g_weight)), (a_this, .inr (5, [.ref a_refusals, z_n, .int g_lines, z_set, z_state, .ref a_weight, z_all, z_good, z_many, z_goods, z_trial, z_isKnown, z_always, z_knot, z_knots, z_part, z_parts])), (a_refusals, .inl (cI, 7, .inl g_refusals_9))] := hD
      exact ret _ _ _ _ r10 (g_refusals_9, g_weight) dX5_weight_24 h (reP hP [1, 2, 0] rfl) (hD.sub [1, 2, 0] (by decide) rfl) hS
  · have h := h.2 (bI_0 k3)
    refine lv_aload_n hx hb dX5_weight_8 rfl (lv_at hl 0 rfl) ?_
    refine lv_iconst (v := (-1)) hx hb dX5_weight_9 (by decide) ?_
    refine MI.callV (As := [.int (-1)]) (rest := []) (wr := [(a_weight, .inl (cI, 40, .inl g_weight))]) (ci := 5) (q0 := 0) (c_X5_refuse l dC dI cI cZ a_this a_refusals z_n (.int g_lines) z_set z_state (.ref a_weight) z_all z_good z_many z_goods z_trial z_isKnown z_always z_knot z_knots z_part z_parts g_refusals ((-1) : Int32) _ h) ⟨hx, hb, hml, hown, hts⟩ (cwV 1 hts gX5_weight_X5_refuse rfl rfl rfl (by decide +kernel) ⟨Nat.le_of_ble_eq_true rfl, Nat.le_of_ble_eq_true rfl⟩) hK hP hD hS hA hNW [2, 0] [1] rfl rfl (by decide) (by decide) (by decide) rfl rfl rfl rfl hl.1 rfl (Nat.le_of_ble_eq_true rfl) dX5_weight_10 ⟨Nat.zero_le _, Nat.zero_le _⟩ (fun r12 u H locs hw hP hD hS => ?_)
    obtain ⟨g_refusals_11, rfl⟩ : ∃ z, z = u := ⟨_, rfl⟩
    have h := hw
    try dsimp only at h
    have hP : va_P (dC, dI) vwCl [(a_weight, .inl (cI, 40, .inl g_weight)), (a_this, .inr (5, [.ref a_refusals, z_n, .int g_lines, z_set, z_state, .ref a_weight, z_all, z_good, z_many, z_goods, z_trial, z_isKnown, z_always, z_knot, z_knots, z_part, z_parts])), (a_refusals, .inl (cI, 7, .inl g_refusals_11))] H := hP
    have hD : va_D A [(a_weight, .inl (cI, 40, .inl g_weight)), (a_this, .inr (5, [.ref a_refusals, z_n, .int g_lines, z_set, z_state, .ref a_weight, z_all, z_good, z_many, z_goods, z_trial, z_isKnown, z_always, z_knot, z_knots, z_part, z_parts])), (a_refusals, .inl (cI, 7, .inl g_refusals_11))] := hD
    exact ret _ _ _ _ r12 (g_refusals_11, g_weight) dX5_weight_13 h (reP hP [1, 2, 0] rfl) (hD.sub [1, 2, 0] (by decide) rfl) hS
/-! ### X5_bits bits(I)I -/
def rX5_bits : Room := { frames := 0, cells := 0, slots := 0, locals := 0 }
def q_X5_bits_L4 (Q : Int32 → Prop) : Nat → Int32 → Int32 → Prop
  | 0 => fun _ _ => False
  | n + 1 => fun x1 x2 => (x2 = 0 → Q x1) ∧ (¬ x2 = 0 → ∀ x2_2 : Int32, x2_2 = (x2 &&& (x2 - 1)) → (q_X5_bits_L4 Q n) (x1 + 1) x2_2)
def q_X5_bits (x0 : Int32) (Q : Int32 → Prop) : Prop :=
  ∃ N : Nat, q_X5_bits_L4 Q N 0 x0
set_option maxRecDepth 100000 in
set_option maxHeartbeats 4000000 in
theorem c_X5_bits (l : Launch) (dC : Nat → ClassId) (dI : Nat → Nat → Nat) (cI cZ : ClassId) (x0 : Int32) (Q : Int32 → Prop) (h : q_X5_bits x0 Q) : MI l yX5_bits wsX5_bits rX5_bits (dC, dI) [(cI, .int), (cZ, .boolean)] [.int x0] [] (fun (r : Int32) (u : Unit) => Q r) (fun u : Unit => []) := by
  refine MI.of (cc := cX5_bits) (maxL := 3) (by decide +kernel) rfl (Nat.le_of_ble_eq_true rfl) ?_
  intro p e s m args below meth c A QQ ls hx hb hml hown hts hA hK hP hD hS hNW ret hl
  have hl : lv_has ls 3 [(0, .int x0)] := hl
  have hown : s.vm.findClass RX5 = some m.cls := hown
  refine lv_iconst (v := 0) hx hb dX5_bits_0 (by decide) ?_
  refine lv_istore_n (lv' := [(1, .int 0), (0, .int x0)]) hx hb dX5_bits_1 rfl hl (by decide) rfl (fun ls hl => ?_)
  refine lv_iload_n hx hb dX5_bits_2 rfl (lv_at hl 1 rfl) ?_
  refine lv_istore_n (lv' := [(2, .int x0), (1, .int 0), (0, .int x0)]) hx hb dX5_bits_3 rfl hl (by decide) rfl (fun ls hl => ?_)
  have L4 : ∀ (n4 : Nat), ∀ (x1 : Int32) (x2 : Int32), q_X5_bits_L4 Q n4 x1 x2 → ∀ (H : Heap) (locs : List Loc) (ls : Array Slot), va_P (dC, dI) vwCl [] H → va_D A [] → va_S A s.heap H locs → lv_has ls 3 [(1, .int x1), (2, .int x2)] → W p l e rX5_bits s m args below meth c H locs 0 0 QQ (F0 m 4 ls []) := by
    intro n4
    induction n4 with
    | zero => intro x1 x2 h; exact False.elim h
    | succ n4 ih4 =>
      intro x1 x2 h H locs ls hP hD hS hl
      refine lv_iload_n hx hb dX5_bits_4 rfl (lv_at hl 1 rfl) ?_
      refine lv_if_eq (tgt := 20) hx hb dX5_bits_5 (by decide) (fun k1 => ?_) (fun k1 => ?_)
      · have h := h.1 k1
        refine lv_iload_n hx hb dX5_bits_20 rfl (lv_at hl 0 rfl) ?_
        exact ret _ _ _ _ x1 () dX5_bits_21 h (reP hP [] rfl) (hD.sub [] (by decide) rfl) hS
      · have h := h.2 k1
        refine lv_iinc (v := x1 + 1) (lv' := [(1, .int (x1 + 1)), (2, .int x2)]) hx hb dX5_bits_8 hl (k := 0) rfl rfl (by decide) rfl (fun ls hl => ?_)
        refine lv_iload_n hx hb dX5_bits_11 rfl (lv_at hl 1 rfl) ?_
        refine lv_iload_n hx hb dX5_bits_12 rfl (lv_at hl 1 rfl) ?_
        refine lv_iconst (v := 1) hx hb dX5_bits_13 (by decide) ?_
        refine lv_isub hx hb dX5_bits_14 ?_
        refine lv_iand hx hb dX5_bits_15 ?_
        refine lv_topi (fun x2_2 ex2_2 => ?_)
        have h := h x2_2 ex2_2
        refine lv_istore_n (lv' := [(2, .int x2_2), (1, .int (x1 + 1))]) hx hb dX5_bits_16 rfl hl (by decide) rfl (fun ls hl => ?_)
        refine lv_goto (tgt := 4) hx hb dX5_bits_17 (by decide) ?_
        exact ih4 (x1 + 1) x2_2 h _ _ _ (reP hP [] rfl) (hD.sub [] (by decide) rfl) hS (lv_sub hl [1, 0] rfl)
  obtain ⟨n, h⟩ := h
  exact L4 n 0 x0 h _ _ _ (reP hP [] rfl) (hD.sub [] (by decide) rfl) hS (lv_sub hl [1, 0] rfl)
/-! ### X5_lineOf lineOf(II)I -/
def rX5_lineOf : Room := { frames := 2, cells := 0, slots := 0, locals := 42 }
def q_X5_lineOf (g_lines : Int32) (g_refusals : Nat → Int32) (g_set : Nat → Int32) (g_state : Nat → Int32) (g_weight : Nat → Int32) (x1 : Int32) (x2 : Int32) (Q : Int32 → (Nat → Int32) → Prop) : Prop :=
  q_X5_isLine g_lines x1 (fun b2 => (b2 = true → (x2 = 0 → vp_in x1 40 ∧ Q (g_set (Int32.toNatClampNeg x1)) g_refusals) ∧ (x2 = 1 → vp_in x1 40 ∧ Q (g_state (Int32.toNatClampNeg x1)) g_refusals) ∧ (x2 = 2 → vp_in x1 40 ∧ Q (g_weight (Int32.toNatClampNeg x1)) g_refusals) ∧ (x2 = 3 → vp_in x1 40 ∧ q_X5_bits (g_set (Int32.toNatClampNeg x1)) (fun r8 => Q r8 g_refusals)) ∧ (¬ x2 = 0 ∧ ¬ x2 = 1 ∧ ¬ x2 = 2 ∧ ¬ x2 = 3 → q_X5_refuse g_refusals ((-2) : Int32) (fun r10 g_refusals_9 => Q r10 g_refusals_9))) ∧ (b2 = false → q_X5_refuse g_refusals ((-1) : Int32) (fun r12 g_refusals_11 => Q r12 g_refusals_11)))
set_option maxRecDepth 100000 in
set_option maxHeartbeats 4000000 in
theorem c_X5_lineOf (l : Launch) (dC : Nat → ClassId) (dI : Nat → Nat → Nat) (cI cZ : ClassId) (a_this a_refusals a_set a_state a_weight : Nat) (z_n z_all z_good z_many z_goods z_trial z_isKnown z_always z_knot z_knots z_part z_parts : Value) (g_lines : Int32) (g_refusals : Nat → Int32) (g_set : Nat → Int32) (g_state : Nat → Int32) (g_weight : Nat → Int32) (x1 : Int32) (x2 : Int32) (Q : Int32 → (Nat → Int32) → Prop) (h : q_X5_lineOf g_lines g_refusals g_set g_state g_weight x1 x2 Q) : MI l yX5_lineOf wsX5_lineOf rX5_lineOf (dC, dI) [(cI, .int), (cZ, .boolean)] [.ref a_this, .int x1, .int x2] [(a_this, .inr (5, [.ref a_refusals, z_n, .int g_lines, .ref a_set, .ref a_state, .ref a_weight, z_all, z_good, z_many, z_goods, z_trial, z_isKnown, z_always, z_knot, z_knots, z_part, z_parts])), (a_refusals, .inl (cI, 7, .inl g_refusals)), (a_set, .inl (cI, 40, .inl g_set)), (a_state, .inl (cI, 40, .inl g_state)), (a_weight, .inl (cI, 40, .inl g_weight))] (fun (r : Int32) (u : (Nat → Int32)) => Q r u) (fun u : (Nat → Int32) => [(a_this, .inr (5, [.ref a_refusals, z_n, .int g_lines, .ref a_set, .ref a_state, .ref a_weight, z_all, z_good, z_many, z_goods, z_trial, z_isKnown, z_always, z_knot, z_knots, z_part, z_parts])), (a_refusals, .inl (cI, 7, .inl u)), (a_set, .inl (cI, 40, .inl g_set)), (a_state, .inl (cI, 40, .inl g_state)), (a_weight, .inl (cI, 40, .inl g_weight))]) := by
  refine MI.of (cc := cX5_lineOf) (maxL := 3) (by decide +kernel) rfl (Nat.le_of_ble_eq_true rfl) ?_
  intro p e s m args below meth c A QQ ls hx hb hml hown hts hA hK hP hD hS hNW ret hl
  have hl : lv_has ls 3 [(0, .ref a_this), (1, .int x1), (2, .int x2)] := hl
  have hown : s.vm.findClass RX5 = some m.cls := hown
  have in5 : ∀ w ∈ u_ws RX5 TX5 17, w ∈ wsX5_lineOf := fun _ w9 => List.mem_cons_of_mem _ (List.mem_append_right _ w9)
  have f13 := hts (.fieldLink RX5 13 "OnesDeskModel" "set" "[I") (by decide +kernel)
  have f16 := hts (.fieldLink RX5 16 "OnesDeskModel" "state" "[I") (by decide +kernel)
  have f19 := hts (.fieldLink RX5 19 "OnesDeskModel" "weight" "[I") (by decide +kernel)
  refine lv_aload_n hx hb dX5_lineOf_0 rfl (lv_at hl 0 rfl) ?_
  refine lv_iload_n hx hb dX5_lineOf_1 rfl (lv_at hl 1 rfl) ?_
  refine MI.callV (As := [.int x1]) (rest := []) (wr := [(a_refusals, .inl (cI, 7, .inl g_refusals)), (a_set, .inl (cI, 40, .inl g_set)), (a_state, .inl (cI, 40, .inl g_state)), (a_weight, .inl (cI, 40, .inl g_weight))]) (ci := 5) (q0 := 0) (c_X5_isLine l dC dI cI cZ a_this (.ref a_refusals) z_n (.ref a_set) (.ref a_state) (.ref a_weight) z_all z_good z_many z_goods z_trial z_isKnown z_always z_knot z_knots z_part z_parts g_lines x1 _ h) ⟨hx, hb, hml, hown, hts⟩ (cwV 1 hts gX5_lineOf_X5_isLine rfl rfl rfl (by decide +kernel) ⟨Nat.le_of_ble_eq_true rfl, Nat.le_of_ble_eq_true rfl⟩) hK hP hD hS hA hNW [0] [1, 2, 3, 4] rfl rfl (by decide) (by decide) (by decide) rfl rfl rfl rfl hl.1 rfl (Nat.le_of_ble_eq_true rfl) dX5_lineOf_2 ⟨Nat.zero_le _, Nat.zero_le _⟩ (fun r1 u H locs hw hP hD hS => ?_)
  obtain ⟨b2, rfl, hw⟩ := hw
  have h := hw
  try dsimp only at h
  have hP : va_P (dC, dI) vwCl [(a_refusals, .inl (cI, 7, .inl g_refusals)), (a_set, .inl (cI, 40, .inl g_set)), (a_state, .inl (cI, 40, .inl g_state)), (a_weight, .inl (cI, 40, .inl g_weight)), (a_this, .inr (5, [.ref a_refusals, z_n, .int g_lines, .ref a_set, .ref a_state, .ref a_weight, z_all, z_good, z_many, z_goods, z_trial, z_isKnown, z_always, z_knot, z_knots, z_part, z_parts]))] H := hP
  have hD : va_D A [(a_refusals, .inl (cI, 7, .inl g_refusals)), (a_set, .inl (cI, 40, .inl g_set)), (a_state, .inl (cI, 40, .inl g_state)), (a_weight, .inl (cI, 40, .inl g_weight)), (a_this, .inr (5, [.ref a_refusals, z_n, .int g_lines, .ref a_set, .ref a_state, .ref a_weight, z_all, z_good, z_many, z_goods, z_trial, z_isKnown, z_always, z_knot, z_knots, z_part, z_parts]))] := hD
  refine lv_if_ne (tgt := 14) hx hb dX5_lineOf_5 (by decide) (fun k3 => ?_) (fun k3 => ?_)
  · have h := h.1 (bI_1 k3)
    refine lv_iload_n hx hb dX5_lineOf_14 rfl (lv_at hl 2 rfl) ?_
    obtain ⟨h0, h1, h2, h3, h⟩ := h
    by_cases e0 : x2 = 0
    · have h := h0 e0
      refine sw_in e0 hx hb dX5_lineOf_15 (by decide) (by decide) (off := 29) (tgt := 44) (by decide) (by decide) ?_
      refine lv_aload_n hx hb dX5_lineOf_44 rfl (lv_at hl 0 rfl) ?_
      refine va_get (D := (dC, dI)) (ci := 5) (v := .ref a_set) (C := RX5) (T := TX5) (N := 17) hx hb hts in5 hown hK hP 4 rfl rfl 3 (by decide) f13 (fun _ h9 => h9) rfl dX5_lineOf_45 ?_
      refine lv_iload_n hx hb dX5_lineOf_48 rfl (lv_at hl 1 rfl) ?_
      obtain ⟨hi4, h⟩ := h
      refine va_iald (D := (dC, dI)) hx hb hK hP 1 0 rfl rfl hi4 dX5_lineOf_49 ?_
      exact ret _ _ _ _ (g_set (Int32.toNatClampNeg x1)) g_refusals dX5_lineOf_50 h (reP hP [4, 0, 1, 2, 3] rfl) (hD.sub [4, 0, 1, 2, 3] (by decide) rfl) hS
    by_cases e1 : x2 = 1
    · have h := h1 e1
      refine sw_in e1 hx hb dX5_lineOf_15 (by decide) (by decide) (off := 36) (tgt := 51) (by decide) (by decide) ?_
      refine lv_aload_n hx hb dX5_lineOf_51 rfl (lv_at hl 0 rfl) ?_
      refine va_get (D := (dC, dI)) (ci := 5) (v := .ref a_state) (C := RX5) (T := TX5) (N := 17) hx hb hts in5 hown hK hP 4 rfl rfl 4 (by decide) f16 (fun _ h9 => h9) rfl dX5_lineOf_52 ?_
      refine lv_iload_n hx hb dX5_lineOf_55 rfl (lv_at hl 1 rfl) ?_
      obtain ⟨hi5, h⟩ := h
      refine va_iald (D := (dC, dI)) hx hb hK hP 2 0 rfl rfl hi5 dX5_lineOf_56 ?_
      exact ret _ _ _ _ (g_state (Int32.toNatClampNeg x1)) g_refusals dX5_lineOf_57 h (reP hP [4, 0, 1, 2, 3] rfl) (hD.sub [4, 0, 1, 2, 3] (by decide) rfl) hS
    by_cases e2 : x2 = 2
    · have h := h2 e2
      refine sw_in e2 hx hb dX5_lineOf_15 (by decide) (by decide) (off := 43) (tgt := 58) (by decide) (by decide) ?_
      refine lv_aload_n hx hb dX5_lineOf_58 rfl (lv_at hl 0 rfl) ?_
      refine va_get (D := (dC, dI)) (ci := 5) (v := .ref a_weight) (C := RX5) (T := TX5) (N := 17) hx hb hts in5 hown hK hP 4 rfl rfl 5 (by decide) f19 (fun _ h9 => h9) rfl dX5_lineOf_59 ?_
      refine lv_iload_n hx hb dX5_lineOf_62 rfl (lv_at hl 1 rfl) ?_
      obtain ⟨hi6, h⟩ := h
      refine va_iald (D := (dC, dI)) hx hb hK hP 3 0 rfl rfl hi6 dX5_lineOf_63 ?_
      exact ret _ _ _ _ (g_weight (Int32.toNatClampNeg x1)) g_refusals dX5_lineOf_64 h (reP hP [4, 0, 1, 2, 3] rfl) (hD.sub [4, 0, 1, 2, 3] (by decide) rfl) hS
    by_cases e3 : x2 = 3
    · have h := h3 e3
      refine sw_in e3 hx hb dX5_lineOf_15 (by decide) (by decide) (off := 50) (tgt := 65) (by decide) (by decide) ?_
      refine lv_aload_n hx hb dX5_lineOf_65 rfl (lv_at hl 0 rfl) ?_
      refine va_get (D := (dC, dI)) (ci := 5) (v := .ref a_set) (C := RX5) (T := TX5) (N := 17) hx hb hts in5 hown hK hP 4 rfl rfl 3 (by decide) f13 (fun _ h9 => h9) rfl dX5_lineOf_66 ?_
      refine lv_iload_n hx hb dX5_lineOf_69 rfl (lv_at hl 1 rfl) ?_
      obtain ⟨hi7, h⟩ := h
      refine va_iald (D := (dC, dI)) hx hb hK hP 1 0 rfl rfl hi7 dX5_lineOf_70 ?_
      refine MI.callS (As := [.int (g_set (Int32.toNatClampNeg x1))]) (rest := []) (wr := [(a_refusals, .inl (cI, 7, .inl g_refusals)), (a_set, .inl (cI, 40, .inl g_set)), (a_state, .inl (cI, 40, .inl g_state)), (a_weight, .inl (cI, 40, .inl g_weight)), (a_this, .inr (5, [.ref a_refusals, z_n, .int g_lines, .ref a_set, .ref a_state, .ref a_weight, z_all, z_good, z_many, z_goods, z_trial, z_isKnown, z_always, z_knot, z_knots, z_part, z_parts]))]) (c_X5_bits l dC dI cI cZ (g_set (Int32.toNatClampNeg x1)) _ h) ⟨hx, hb, hml, hown, hts⟩ (va_cwS 1 hts gX5_lineOf_X5_bits rfl rfl rfl (by decide +kernel) ⟨Nat.le_of_ble_eq_true rfl, Nat.le_of_ble_eq_true rfl⟩) hK hP hD hS hA hNW [] [0, 1, 2, 3, 4] rfl rfl (by decide) (by decide) (by decide) rfl hl.1 rfl (Nat.le_of_ble_eq_true rfl) dX5_lineOf_71 ⟨Nat.zero_le _, Nat.zero_le _⟩ (fun r8 u H locs hw hP hD hS => ?_)
      have h := hw
      try dsimp only at h
      have hP : va_P (dC, dI) vwCl [(a_refusals, .inl (cI, 7, .inl g_refusals)), (a_set, .inl (cI, 40, .inl g_set)), (a_state, .inl (cI, 40, .inl g_state)), (a_weight, .inl (cI, 40, .inl g_weight)), (a_this, .inr (5, [.ref a_refusals, z_n, .int g_lines, .ref a_set, .ref a_state, .ref a_weight, z_all, z_good, z_many, z_goods, z_trial, z_isKnown, z_always, z_knot, z_knots, z_part, z_parts]))] H := hP
      have hD : va_D A [(a_refusals, .inl (cI, 7, .inl g_refusals)), (a_set, .inl (cI, 40, .inl g_set)), (a_state, .inl (cI, 40, .inl g_state)), (a_weight, .inl (cI, 40, .inl g_weight)), (a_this, .inr (5, [.ref a_refusals, z_n, .int g_lines, .ref a_set, .ref a_state, .ref a_weight, z_all, z_good, z_many, z_goods, z_trial, z_isKnown, z_always, z_knot, z_knots, z_part, z_parts]))] := hD
      exact ret _ _ _ _ r8 g_refusals dX5_lineOf_74 h (reP hP [4, 0, 1, 2, 3] rfl) (hD.sub [4, 0, 1, 2, 3] (by decide) rfl) hS
    have h := h ⟨e0, e1, e2, e3⟩
    refine lv_tableOut (tgt := 75) hx hb dX5_lineOf_15 (by have i0 := lv_neT e0 (a := 0) rfl; have i1 := lv_neT e1 (a := 1) rfl; have i2 := lv_neT e2 (a := 2) rfl; have i3 := lv_neT e3 (a := 3) rfl; omega) (by decide) ?_
    refine lv_aload_n hx hb dX5_lineOf_75 rfl (lv_at hl 0 rfl) ?_
    refine lv_bipush (v := (-2)) hx hb dX5_lineOf_76 (by decide) ?_
    refine MI.callV (As := [.int (-2)]) (rest := []) (wr := [(a_set, .inl (cI, 40, .inl g_set)), (a_state, .inl (cI, 40, .inl g_state)), (a_weight, .inl (cI, 40, .inl g_weight))]) (ci := 5) (q0 := 0) (c_X5_refuse l dC dI cI cZ a_this a_refusals z_n (.int g_lines) (.ref a_set) (.ref a_state) (.ref a_weight) z_all z_good z_many z_goods z_trial z_isKnown z_always z_knot z_knots z_part z_parts g_refusals ((-2) : Int32) _ h) ⟨hx, hb, hml, hown, hts⟩ (cwV 1 hts gX5_lineOf_X5_refuse rfl rfl rfl (by decide +kernel) ⟨Nat.le_of_ble_eq_true rfl, Nat.le_of_ble_eq_true rfl⟩) hK hP hD hS hA hNW [4, 0] [1, 2, 3] rfl rfl (by decide) (by decide) (by decide) rfl rfl rfl rfl hl.1 rfl (Nat.le_of_ble_eq_true rfl) dX5_lineOf_78 ⟨Nat.zero_le _, Nat.zero_le _⟩ (fun r10 u H locs hw hP hD hS => ?_)
    obtain ⟨g_refusals_9, rfl⟩ : ∃ z, z = u := ⟨_, rfl⟩
    have h := hw
    try dsimp only at h
    have hP : va_P (dC, dI) vwCl [(a_set, .inl (cI, 40, .inl g_set)), (a_state, .inl (cI, 40, .inl g_state)), (a_weight, .inl (cI, 40, .inl g_weight)), (a_this, .inr (5, [.ref a_refusals, z_n, .int g_lines, .ref a_set, .ref a_state, .ref a_weight, z_all, z_good, z_many, z_goods, z_trial, z_isKnown, z_always, z_knot, z_knots, z_part, z_parts])), (a_refusals, .inl (cI, 7, .inl g_refusals_9))] H := hP
    have hD : va_D A [(a_set, .inl (cI, 40, .inl g_set)), (a_state, .inl (cI, 40, .inl g_state)), (a_weight, .inl (cI, 40, .inl g_weight)), (a_this, .inr (5, [.ref a_refusals, z_n, .int g_lines, .ref a_set, .ref a_state, .ref a_weight, z_all, z_good, z_many, z_goods, z_trial, z_isKnown, z_always, z_knot, z_knots, z_part, z_parts])), (a_refusals, .inl (cI, 7, .inl g_refusals_9))] := hD
    exact ret _ _ _ _ r10 g_refusals_9 dX5_lineOf_81 h (reP hP [3, 4, 0, 1, 2] rfl) (hD.sub [3, 4, 0, 1, 2] (by decide) rfl) hS
  · have h := h.2 (bI_0 k3)
    refine lv_aload_n hx hb dX5_lineOf_8 rfl (lv_at hl 0 rfl) ?_
    refine lv_iconst (v := (-1)) hx hb dX5_lineOf_9 (by decide) ?_
    refine MI.callV (As := [.int (-1)]) (rest := []) (wr := [(a_set, .inl (cI, 40, .inl g_set)), (a_state, .inl (cI, 40, .inl g_state)), (a_weight, .inl (cI, 40, .inl g_weight))]) (ci := 5) (q0 := 0) (c_X5_refuse l dC dI cI cZ a_this a_refusals z_n (.int g_lines) (.ref a_set) (.ref a_state) (.ref a_weight) z_all z_good z_many z_goods z_trial z_isKnown z_always z_knot z_knots z_part z_parts g_refusals ((-1) : Int32) _ h) ⟨hx, hb, hml, hown, hts⟩ (cwV 1 hts gX5_lineOf_X5_refuse rfl rfl rfl (by decide +kernel) ⟨Nat.le_of_ble_eq_true rfl, Nat.le_of_ble_eq_true rfl⟩) hK hP hD hS hA hNW [4, 0] [1, 2, 3] rfl rfl (by decide) (by decide) (by decide) rfl rfl rfl rfl hl.1 rfl (Nat.le_of_ble_eq_true rfl) dX5_lineOf_10 ⟨Nat.zero_le _, Nat.zero_le _⟩ (fun r12 u H locs hw hP hD hS => ?_)
    obtain ⟨g_refusals_11, rfl⟩ : ∃ z, z = u := ⟨_, rfl⟩
    have h := hw
    try dsimp only at h
    have hP : va_P (dC, dI) vwCl [(a_set, .inl (cI, 40, .inl g_set)), (a_state, .inl (cI, 40, .inl g_state)), (a_weight, .inl (cI, 40, .inl g_weight)), (a_this, .inr (5, [.ref a_refusals, z_n, .int g_lines, .ref a_set, .ref a_state, .ref a_weight, z_all, z_good, z_many, z_goods, z_trial, z_isKnown, z_always, z_knot, z_knots, z_part, z_parts])), (a_refusals, .inl (cI, 7, .inl g_refusals_11))] H := hP
    have hD : va_D A [(a_set, .inl (cI, 40, .inl g_set)), (a_state, .inl (cI, 40, .inl g_state)), (a_weight, .inl (cI, 40, .inl g_weight)), (a_this, .inr (5, [.ref a_refusals, z_n, .int g_lines, .ref a_set, .ref a_state, .ref a_weight, z_all, z_good, z_many, z_goods, z_trial, z_isKnown, z_always, z_knot, z_knots, z_part, z_parts])), (a_refusals, .inl (cI, 7, .inl g_refusals_11))] := hD
    exact ret _ _ _ _ r12 g_refusals_11 dX5_lineOf_13 h (reP hP [3, 4, 0, 1, 2] rfl) (hD.sub [3, 4, 0, 1, 2] (by decide) rfl) hS
/-! ### X5_why why(I)I -/
def rX5_why : Room := { frames := 4, cells := 0, slots := 0, locals := 95 }
def q_X5_why_L80 (g_n : Int32) (g_lines : Int32) (g_refusals : Nat → Int32) (g_set : Nat → Int32) (g_state : Nat → Int32) (Q : Int32 → (Nat → Int32) → (Nat → Int32) → Prop) : Nat → Int32 → Int32 → (Nat → Int32) → Prop
  | 0 => fun _ _ _ => False
  | n + 1 => fun x2 x3 g_trial => (g_lines ≤ x3 → Q (-9) g_refusals g_trial) ∧ (¬ g_lines ≤ x3 → vp_in x3 40 ∧ ((g_state (Int32.toNatClampNeg x3)) = 0 → q_X5_filter g_n g_trial x2 (g_set (Int32.toNatClampNeg x3)) (fun r5 g_trial_4 => (¬ r5 = 0 → (q_X5_why_L80 g_n g_lines g_refusals g_set g_state Q n) r5 (x3 + 1) g_trial_4) ∧ (r5 = 0 → Q x3 g_refusals g_trial_4))) ∧ (¬ (g_state (Int32.toNatClampNeg x3)) = 0 → (q_X5_why_L80 g_n g_lines g_refusals g_set g_state Q n) x2 (x3 + 1) g_trial))
def q_X5_why_J59 (x1 : Int32) (g_n : Int32) (g_lines : Int32) (g_many : Int32) (g_refusals : Nat → Int32) (g_set : Nat → Int32) (g_state : Nat → Int32) (g_trial : Nat → Int32) (Q : Int32 → (Nat → Int32) → (Nat → Int32) → Prop) : Prop :=
  vp_in x1 40 ∧ q_X5_filter g_n g_trial g_many (g_set (Int32.toNatClampNeg x1)) (fun r3 g_trial_2 => ∃ N : Nat, q_X5_why_L80 g_n g_lines g_refusals g_set g_state Q N r3 0 g_trial_2)
def q_X5_why_L33 (x1 : Int32) (g_n : Int32) (g_lines : Int32) (g_many : Int32) (g_refusals : Nat → Int32) (g_set : Nat → Int32) (g_state : Nat → Int32) (g_all : Nat → Int32) (Q : Int32 → (Nat → Int32) → (Nat → Int32) → Prop) : Nat → Int32 → (Nat → Int32) → Prop
  | 0 => fun _ _ => False
  | n + 1 => fun x2 g_trial => (g_many ≤ x2 → q_X5_why_J59 x1 g_n g_lines g_many g_refusals g_set g_state g_trial Q) ∧ (¬ g_many ≤ x2 → vp_in x2 40320 ∧ (q_X5_why_L33 x1 g_n g_lines g_many g_refusals g_set g_state g_all Q n) (x2 + 1) (upd g_trial (Int32.toNatClampNeg x2) (g_all (Int32.toNatClampNeg x2))))
def q_X5_why (g_n : Int32) (g_lines : Int32) (g_many : Int32) (g_refusals : Nat → Int32) (g_set : Nat → Int32) (g_state : Nat → Int32) (g_all : Nat → Int32) (g_trial : Nat → Int32) (x1 : Int32) (Q : Int32 → (Nat → Int32) → (Nat → Int32) → Prop) : Prop :=
  q_X5_isLine g_lines x1 (fun b2 => (b2 = true → vp_in x1 40 ∧ ((g_state (Int32.toNatClampNeg x1)) = 1 → ∃ N : Nat, q_X5_why_L33 x1 g_n g_lines g_many g_refusals g_set g_state g_all Q N 0 g_trial) ∧ (¬ (g_state (Int32.toNatClampNeg x1)) = 1 → q_X5_refuse g_refusals ((-3) : Int32) (fun r7 g_refusals_6 => Q r7 g_refusals_6 g_trial))) ∧ (b2 = false → q_X5_refuse g_refusals ((-1) : Int32) (fun r9 g_refusals_8 => Q r9 g_refusals_8 g_trial)))
set_option maxRecDepth 100000 in
set_option maxHeartbeats 4000000 in
theorem c_X5_why (l : Launch) (dC : Nat → ClassId) (dI : Nat → Nat → Nat) (cI cZ : ClassId) (a_this a_refusals a_set a_state a_all a_trial : Nat) (z_weight z_good z_goods z_isKnown z_always z_knot z_knots z_part z_parts : Value) (g_n : Int32) (g_lines : Int32) (g_many : Int32) (g_refusals : Nat → Int32) (g_set : Nat → Int32) (g_state : Nat → Int32) (g_all : Nat → Int32) (g_trial : Nat → Int32) (x1 : Int32) (Q : Int32 → (Nat → Int32) → (Nat → Int32) → Prop) (h : q_X5_why g_n g_lines g_many g_refusals g_set g_state g_all g_trial x1 Q) : MI l yX5_why wsX5_why rX5_why (dC, dI) [(cI, .int), (cZ, .boolean)] [.ref a_this, .int x1] [(a_this, .inr (5, [.ref a_refusals, .int g_n, .int g_lines, .ref a_set, .ref a_state, z_weight, .ref a_all, z_good, .int g_many, z_goods, .ref a_trial, z_isKnown, z_always, z_knot, z_knots, z_part, z_parts])), (a_refusals, .inl (cI, 7, .inl g_refusals)), (a_set, .inl (cI, 40, .inl g_set)), (a_state, .inl (cI, 40, .inl g_state)), (a_all, .inl (cI, 40320, .inl g_all)), (a_trial, .inl (cI, 40320, .inl g_trial))] (fun (r : Int32) (u : (Nat → Int32) × (Nat → Int32)) => Q r u.1 u.2) (fun u : (Nat → Int32) × (Nat → Int32) => [(a_this, .inr (5, [.ref a_refusals, .int g_n, .int g_lines, .ref a_set, .ref a_state, z_weight, .ref a_all, z_good, .int g_many, z_goods, .ref a_trial, z_isKnown, z_always, z_knot, z_knots, z_part, z_parts])), (a_refusals, .inl (cI, 7, .inl u.1)), (a_set, .inl (cI, 40, .inl g_set)), (a_state, .inl (cI, 40, .inl g_state)), (a_all, .inl (cI, 40320, .inl g_all)), (a_trial, .inl (cI, 40320, .inl u.2))]) := by
  refine MI.of (cc := cX5_why) (maxL := 4) (by decide +kernel) rfl (Nat.le_of_ble_eq_true rfl) ?_
  intro p e s m args below meth c A QQ ls hx hb hml hown hts hA hK hP hD hS hNW ret hl
  have hl : lv_has ls 4 [(0, .ref a_this), (1, .int x1)] := hl
  have hown : s.vm.findClass RX5 = some m.cls := hown
  have in5 : ∀ w ∈ u_ws RX5 TX5 17, w ∈ wsX5_why := fun _ w9 => List.mem_cons_of_mem _ (List.mem_append_right _ w9)
  have f13 := hts (.fieldLink RX5 13 "OnesDeskModel" "set" "[I") (by decide +kernel)
  have f16 := hts (.fieldLink RX5 16 "OnesDeskModel" "state" "[I") (by decide +kernel)
  have f23 := hts (.fieldLink RX5 23 "OnesDeskModel" "all" "[I") (by decide +kernel)
  have f29 := hts (.fieldLink RX5 29 "OnesDeskModel" "trial" "[I") (by decide +kernel)
  have f50 := hts (.fieldLink RX5 50 "OnesDeskModel" "lines" "I") (by decide +kernel)
  have f53 := hts (.fieldLink RX5 53 "OnesDeskModel" "many" "I") (by decide +kernel)
  refine lv_aload_n hx hb dX5_why_0 rfl (lv_at hl 0 rfl) ?_
  refine lv_iload_n hx hb dX5_why_1 rfl (lv_at hl 1 rfl) ?_
  refine MI.callV (As := [.int x1]) (rest := []) (wr := [(a_refusals, .inl (cI, 7, .inl g_refusals)), (a_set, .inl (cI, 40, .inl g_set)), (a_state, .inl (cI, 40, .inl g_state)), (a_all, .inl (cI, 40320, .inl g_all)), (a_trial, .inl (cI, 40320, .inl g_trial))]) (ci := 5) (q0 := 0) (c_X5_isLine l dC dI cI cZ a_this (.ref a_refusals) (.int g_n) (.ref a_set) (.ref a_state) z_weight (.ref a_all) z_good (.int g_many) z_goods (.ref a_trial) z_isKnown z_always z_knot z_knots z_part z_parts g_lines x1 _ h) ⟨hx, hb, hml, hown, hts⟩ (cwV 1 hts gX5_why_X5_isLine rfl rfl rfl (by decide +kernel) ⟨Nat.le_of_ble_eq_true rfl, Nat.le_of_ble_eq_true rfl⟩) hK hP hD hS hA hNW [0] [1, 2, 3, 4, 5] rfl rfl (by decide) (by decide) (by decide) rfl rfl rfl rfl hl.1 rfl (Nat.le_of_ble_eq_true rfl) dX5_why_2 ⟨Nat.zero_le _, Nat.zero_le _⟩ (fun r1 u H locs hw hP hD hS => ?_)
  obtain ⟨b2, rfl, hw⟩ := hw
  have h := hw
  try dsimp only at h
  have hP : va_P (dC, dI) vwCl [(a_refusals, .inl (cI, 7, .inl g_refusals)), (a_set, .inl (cI, 40, .inl g_set)), (a_state, .inl (cI, 40, .inl g_state)), (a_all, .inl (cI, 40320, .inl g_all)), (a_trial, .inl (cI, 40320, .inl g_trial)), (a_this, .inr (5, [.ref a_refusals, .int g_n, .int g_lines, .ref a_set, .ref a_state, z_weight, .ref a_all, z_good, .int g_many, z_goods, .ref a_trial, z_isKnown, z_always, z_knot, z_knots, z_part, z_parts]))] H := hP
  have hD : va_D A [(a_refusals, .inl (cI, 7, .inl g_refusals)), (a_set, .inl (cI, 40, .inl g_set)), (a_state, .inl (cI, 40, .inl g_state)), (a_all, .inl (cI, 40320, .inl g_all)), (a_trial, .inl (cI, 40320, .inl g_trial)), (a_this, .inr (5, [.ref a_refusals, .int g_n, .int g_lines, .ref a_set, .ref a_state, z_weight, .ref a_all, z_good, .int g_many, z_goods, .ref a_trial, z_isKnown, z_always, z_knot, z_knots, z_part, z_parts]))] := hD
  refine lv_if_ne (tgt := 14) hx hb dX5_why_5 (by decide) (fun k3 => ?_) (fun k3 => ?_)
  · have h := h.1 (bI_1 k3)
    refine lv_aload_n hx hb dX5_why_14 rfl (lv_at hl 0 rfl) ?_
    refine va_get (D := (dC, dI)) (ci := 5) (v := .ref a_state) (C := RX5) (T := TX5) (N := 17) hx hb hts in5 hown hK hP 5 rfl rfl 4 (by decide) f16 (fun _ h9 => h9) rfl dX5_why_15 ?_
    refine lv_iload_n hx hb dX5_why_18 rfl (lv_at hl 1 rfl) ?_
    obtain ⟨hi4, h⟩ := h
    refine va_iald (D := (dC, dI)) hx hb hK hP 2 0 rfl rfl hi4 dX5_why_19 ?_
    refine lv_iconst (v := 1) hx hb dX5_why_20 (by decide) ?_
    refine lv_icmp_eq (tgt := 31) hx hb dX5_why_21 (by decide) (fun k5 => ?_) (fun k5 => ?_)
    · have h := h.1 k5
      refine lv_iconst (v := 0) hx hb dX5_why_31 (by decide) ?_
      refine lv_istore_n (lv' := [(2, .int 0), (0, .ref a_this), (1, .int x1)]) hx hb dX5_why_32 rfl hl (by decide) rfl (fun ls hl => ?_)
      have L33 : ∀ (n33 : Nat), ∀ (x2 : Int32) (g_trial : Nat → Int32), q_X5_why_L33 x1 g_n g_lines g_many g_refusals g_set g_state g_all Q n33 x2 g_trial → ∀ (H : Heap) (locs : List Loc) (ls : Array Slot), va_P (dC, dI) vwCl [(a_this, .inr (5, [.ref a_refusals, .int g_n, .int g_lines, .ref a_set, .ref a_state, z_weight, .ref a_all, z_good, .int g_many, z_goods, .ref a_trial, z_isKnown, z_always, z_knot, z_knots, z_part, z_parts])), (a_refusals, .inl (cI, 7, .inl g_refusals)), (a_set, .inl (cI, 40, .inl g_set)), (a_state, .inl (cI, 40, .inl g_state)), (a_all, .inl (cI, 40320, .inl g_all)), (a_trial, .inl (cI, 40320, .inl g_trial))] H → va_D A [(a_this, .inr (5, [.ref a_refusals, .int g_n, .int g_lines, .ref a_set, .ref a_state, z_weight, .ref a_all, z_good, .int g_many, z_goods, .ref a_trial, z_isKnown, z_always, z_knot, z_knots, z_part, z_parts])), (a_refusals, .inl (cI, 7, .inl g_refusals)), (a_set, .inl (cI, 40, .inl g_set)), (a_state, .inl (cI, 40, .inl g_state)), (a_all, .inl (cI, 40320, .inl g_all)), (a_trial, .inl (cI, 40320, .inl g_trial))] → va_S A s.heap H locs → lv_has ls 4 [(0, .ref a_this), (1, .int x1), (2, .int x2)] → W p l e rX5_why s m args below meth c H locs 0 0 QQ (F0 m 33 ls []) := by
        intro n33
        induction n33 with
        | zero => intro x2 g_trial h; exact False.elim h
        | succ n33 ih33 =>
          intro x2 g_trial h H locs ls hP hD hS hl
          refine lv_iload_n hx hb dX5_why_33 rfl (lv_at hl 2 rfl) ?_
          refine lv_aload_n hx hb dX5_why_34 rfl (lv_at hl 0 rfl) ?_
          refine va_get (D := (dC, dI)) (ci := 5) (v := .int g_many) (C := RX5) (T := TX5) (N := 17) hx hb hts in5 hown hK hP 0 rfl rfl 8 (by decide) f53 (fun _ h9 => h9) rfl dX5_why_35 ?_
          refine lv_icmp_ge (tgt := 59) hx hb dX5_why_38 (by decide) (fun k1 => ?_) (fun k1 => ?_)
          · have h := h.1 k1
            have J59 : q_X5_why_J59 x1 g_n g_lines g_many g_refusals g_set g_state g_trial Q → ∀ (H : Heap) (locs : List Loc) (ls : Array Slot), va_P (dC, dI) vwCl [(a_this, .inr (5, [.ref a_refusals, .int g_n, .int g_lines, .ref a_set, .ref a_state, z_weight, .ref a_all, z_good, .int g_many, z_goods, .ref a_trial, z_isKnown, z_always, z_knot, z_knots, z_part, z_parts])), (a_refusals, .inl (cI, 7, .inl g_refusals)), (a_set, .inl (cI, 40, .inl g_set)), (a_state, .inl (cI, 40, .inl g_state)), (a_all, .inl (cI, 40320, .inl g_all)), (a_trial, .inl (cI, 40320, .inl g_trial))] H → va_D A [(a_this, .inr (5, [.ref a_refusals, .int g_n, .int g_lines, .ref a_set, .ref a_state, z_weight, .ref a_all, z_good, .int g_many, z_goods, .ref a_trial, z_isKnown, z_always, z_knot, z_knots, z_part, z_parts])), (a_refusals, .inl (cI, 7, .inl g_refusals)), (a_set, .inl (cI, 40, .inl g_set)), (a_state, .inl (cI, 40, .inl g_state)), (a_all, .inl (cI, 40320, .inl g_all)), (a_trial, .inl (cI, 40320, .inl g_trial))] → va_S A s.heap H locs → lv_has ls 4 [(0, .ref a_this), (1, .int x1)] → W p l e rX5_why s m args below meth c H locs 0 0 QQ (F0 m 59 ls []) := by
              intro  h H locs ls hP hD hS hl
              refine lv_aload_n hx hb dX5_why_59 rfl (lv_at hl 0 rfl) ?_
              refine lv_aload_n hx hb dX5_why_60 rfl (lv_at hl 0 rfl) ?_
              refine va_get (D := (dC, dI)) (ci := 5) (v := .ref a_trial) (C := RX5) (T := TX5) (N := 17) hx hb hts in5 hown hK hP 0 rfl rfl 10 (by decide) f29 (fun _ h9 => h9) rfl dX5_why_61 ?_
              refine lv_aload_n hx hb dX5_why_64 rfl (lv_at hl 0 rfl) ?_
              refine va_get (D := (dC, dI)) (ci := 5) (v := .int g_many) (C := RX5) (T := TX5) (N := 17) hx hb hts in5 hown hK hP 0 rfl rfl 8 (by decide) f53 (fun _ h9 => h9) rfl dX5_why_65 ?_
              refine lv_aload_n hx hb dX5_why_68 rfl (lv_at hl 0 rfl) ?_
              refine va_get (D := (dC, dI)) (ci := 5) (v := .ref a_set) (C := RX5) (T := TX5) (N := 17) hx hb hts in5 hown hK hP 0 rfl rfl 3 (by decide) f13 (fun _ h9 => h9) rfl dX5_why_69 ?_
              refine lv_iload_n hx hb dX5_why_72 rfl (lv_at hl 1 rfl) ?_
              obtain ⟨hi1, h⟩ := h
              refine va_iald (D := (dC, dI)) hx hb hK hP 2 0 rfl rfl hi1 dX5_why_73 ?_
              refine MI.callV (As := [.ref a_trial, .int g_many, .int (g_set (Int32.toNatClampNeg x1))]) (rest := []) (wr := [(a_refusals, .inl (cI, 7, .inl g_refusals)), (a_set, .inl (cI, 40, .inl g_set)), (a_state, .inl (cI, 40, .inl g_state)), (a_all, .inl (cI, 40320, .inl g_all))]) (ci := 5) (q0 := 0) (c_X5_filter l dC dI cI cZ a_this a_trial (.ref a_refusals) (.int g_lines) (.ref a_set) (.ref a_state) z_weight (.ref a_all) z_good (.int g_many) z_goods (.ref a_trial) z_isKnown z_always z_knot z_knots z_part z_parts g_n g_trial g_many (g_set (Int32.toNatClampNeg x1)) _ h) ⟨hx, hb, hml, hown, hts⟩ (cwV 3 hts gX5_why_X5_filter rfl rfl rfl (by decide +kernel) ⟨Nat.le_of_ble_eq_true rfl, Nat.le_of_ble_eq_true rfl⟩) hK hP hD hS hA hNW [0, 5] [1, 2, 3, 4] rfl rfl (by decide) (by decide) (by decide) rfl rfl rfl rfl hl.1 rfl (Nat.le_of_ble_eq_true rfl) dX5_why_74 ⟨Nat.zero_le _, Nat.zero_le _⟩ (fun r3 u H locs hw hP hD hS => ?_)
              obtain ⟨g_trial_2, rfl⟩ : ∃ z, z = u := ⟨_, rfl⟩
              have h := hw
              try dsimp only at h
              have hP : va_P (dC, dI) vwCl [(a_refusals, .inl (cI, 7, .inl g_refusals)), (a_set, .inl (cI, 40, .inl g_set)), (a_state, .inl (cI, 40, .inl g_state)), (a_all, .inl (cI, 40320, .inl g_all)), (a_this, .inr (5, [.ref a_refusals, .int g_n, .int g_lines, .ref a_set, .ref a_state, z_weight, .ref a_all, z_good, .int g_many, z_goods, .ref a_trial, z_isKnown, z_always, z_knot, z_knots, z_part, z_parts])), (a_trial, .inl (cI, 40320, .inl g_trial_2))] H := hP
              have hD : va_D A [(a_refusals, .inl (cI, 7, .inl g_refusals)), (a_set, .inl (cI, 40, .inl g_set)), (a_state, .inl (cI, 40, .inl g_state)), (a_all, .inl (cI, 40320, .inl g_all)), (a_this, .inr (5, [.ref a_refusals, .int g_n, .int g_lines, .ref a_set, .ref a_state, z_weight, .ref a_all, z_good, .int g_many, z_goods, .ref a_trial, z_isKnown, z_always, z_knot, z_knots, z_part, z_parts])), (a_trial, .inl (cI, 40320, .inl g_trial_2))] := hD
              refine lv_istore_n (lv' := [(2, .int r3), (0, .ref a_this), (1, .int x1)]) hx hb dX5_why_77 rfl hl (by decide) rfl (fun ls hl => ?_)
              refine lv_iconst (v := 0) hx hb dX5_why_78 (by decide) ?_
              refine lv_istore_n (lv' := [(3, .int 0), (2, .int r3), (0, .ref a_this), (1, .int x1)]) hx hb dX5_why_79 rfl hl (by decide) rfl (fun ls hl => ?_)
              have L80 : ∀ (n80 : Nat), ∀ (x2 : Int32) (x3 : Int32) (g_trial : Nat → Int32), q_X5_why_L80 g_n g_lines g_refusals g_set g_state Q n80 x2 x3 g_trial → ∀ (H : Heap) (locs : List Loc) (ls : Array Slot), va_P (dC, dI) vwCl [(a_this, .inr (5, [.ref a_refusals, .int g_n, .int g_lines, .ref a_set, .ref a_state, z_weight, .ref a_all, z_good, .int g_many, z_goods, .ref a_trial, z_isKnown, z_always, z_knot, z_knots, z_part, z_parts])), (a_refusals, .inl (cI, 7, .inl g_refusals)), (a_set, .inl (cI, 40, .inl g_set)), (a_state, .inl (cI, 40, .inl g_state)), (a_all, .inl (cI, 40320, .inl g_all)), (a_trial, .inl (cI, 40320, .inl g_trial))] H → va_D A [(a_this, .inr (5, [.ref a_refusals, .int g_n, .int g_lines, .ref a_set, .ref a_state, z_weight, .ref a_all, z_good, .int g_many, z_goods, .ref a_trial, z_isKnown, z_always, z_knot, z_knots, z_part, z_parts])), (a_refusals, .inl (cI, 7, .inl g_refusals)), (a_set, .inl (cI, 40, .inl g_set)), (a_state, .inl (cI, 40, .inl g_state)), (a_all, .inl (cI, 40320, .inl g_all)), (a_trial, .inl (cI, 40320, .inl g_trial))] → va_S A s.heap H locs → lv_has ls 4 [(0, .ref a_this), (2, .int x2), (3, .int x3)] → W p l e rX5_why s m args below meth c H locs 0 0 QQ (F0 m 80 ls []) := by
                intro n80
                induction n80 with
                | zero => intro x2 x3 g_trial h; exact False.elim h
                | succ n80 ih80 =>
                  intro x2 x3 g_trial h H locs ls hP hD hS hl
                  refine lv_iload_n hx hb dX5_why_80 rfl (lv_at hl 2 rfl) ?_
                  refine lv_aload_n hx hb dX5_why_81 rfl (lv_at hl 0 rfl) ?_
                  refine va_get (D := (dC, dI)) (ci := 5) (v := .int g_lines) (C := RX5) (T := TX5) (N := 17) hx hb hts in5 hown hK hP 0 rfl rfl 2 (by decide) f50 (fun _ h9 => h9) rfl dX5_why_82 ?_
                  refine lv_icmp_ge (tgt := 128) hx hb dX5_why_85 (by decide) (fun k1 => ?_) (fun k1 => ?_)
                  · have h := h.1 k1
                    refine lv_bipush (v := (-9)) hx hb dX5_why_128 (by decide) ?_
                    exact ret _ _ _ _ (-9) (g_refusals, g_trial) dX5_why_130 h (reP hP [0, 1, 2, 3, 4, 5] rfl) (hD.sub [0, 1, 2, 3, 4, 5] (by decide) rfl) hS
                  · have h := h.2 k1
                    refine lv_aload_n hx hb dX5_why_88 rfl (lv_at hl 0 rfl) ?_
                    refine va_get (D := (dC, dI)) (ci := 5) (v := .ref a_state) (C := RX5) (T := TX5) (N := 17) hx hb hts in5 hown hK hP 0 rfl rfl 4 (by decide) f16 (fun _ h9 => h9) rfl dX5_why_89 ?_
                    refine lv_iload_n hx hb dX5_why_92 rfl (lv_at hl 2 rfl) ?_
                    obtain ⟨hi2, h⟩ := h
                    refine va_iald (D := (dC, dI)) hx hb hK hP 3 0 rfl rfl hi2 dX5_why_93 ?_
                    refine lv_if_eq (tgt := 100) hx hb dX5_why_94 (by decide) (fun k3 => ?_) (fun k3 => ?_)
                    · have h := h.1 k3
                      refine lv_aload_n hx hb dX5_why_100 rfl (lv_at hl 0 rfl) ?_
                      refine lv_aload_n hx hb dX5_why_101 rfl (lv_at hl 0 rfl) ?_
                      refine va_get (D := (dC, dI)) (ci := 5) (v := .ref a_trial) (C := RX5) (T := TX5) (N := 17) hx hb hts in5 hown hK hP 0 rfl rfl 10 (by decide) f29 (fun _ h9 => h9) rfl dX5_why_102 ?_
                      refine lv_iload_n hx hb dX5_why_105 rfl (lv_at hl 1 rfl) ?_
                      refine lv_aload_n hx hb dX5_why_106 rfl (lv_at hl 0 rfl) ?_
                      refine va_get (D := (dC, dI)) (ci := 5) (v := .ref a_set) (C := RX5) (T := TX5) (N := 17) hx hb hts in5 hown hK hP 0 rfl rfl 3 (by decide) f13 (fun _ h9 => h9) rfl dX5_why_107 ?_
                      refine lv_iload_n hx hb dX5_why_110 rfl (lv_at hl 2 rfl) ?_
                      refine va_iald (D := (dC, dI)) hx hb hK hP 2 0 rfl rfl hi2 dX5_why_111 ?_
                      refine MI.callV (As := [.ref a_trial, .int x2, .int (g_set (Int32.toNatClampNeg x3))]) (rest := []) (wr := [(a_refusals, .inl (cI, 7, .inl g_refusals)), (a_set, .inl (cI, 40, .inl g_set)), (a_state, .inl (cI, 40, .inl g_state)), (a_all, .inl (cI, 40320, .inl g_all))]) (ci := 5) (q0 := 0) (c_X5_filter l dC dI cI cZ a_this a_trial (.ref a_refusals) (.int g_lines) (.ref a_set) (.ref a_state) z_weight (.ref a_all) z_good (.int g_many) z_goods (.ref a_trial) z_isKnown z_always z_knot z_knots z_part z_parts g_n g_trial x2 (g_set (Int32.toNatClampNeg x3)) _ h) ⟨hx, hb, hml, hown, hts⟩ (cwV 3 hts gX5_why_X5_filter rfl rfl rfl (by decide +kernel) ⟨Nat.le_of_ble_eq_true rfl, Nat.le_of_ble_eq_true rfl⟩) hK hP hD hS hA hNW [0, 5] [1, 2, 3, 4] rfl rfl (by decide) (by decide) (by decide) rfl rfl rfl rfl hl.1 rfl (Nat.le_of_ble_eq_true rfl) dX5_why_112 ⟨Nat.zero_le _, Nat.zero_le _⟩ (fun r5 u H locs hw hP hD hS => ?_)
                      obtain ⟨g_trial_4, rfl⟩ : ∃ z, z = u := ⟨_, rfl⟩
                      have h := hw
                      try dsimp only at h
                      have hP : va_P (dC, dI) vwCl [(a_refusals, .inl (cI, 7, .inl g_refusals)), (a_set, .inl (cI, 40, .inl g_set)), (a_state, .inl (cI, 40, .inl g_state)), (a_all, .inl (cI, 40320, .inl g_all)), (a_this, .inr (5, [.ref a_refusals, .int g_n, .int g_lines, .ref a_set, .ref a_state, z_weight, .ref a_all, z_good, .int g_many, z_goods, .ref a_trial, z_isKnown, z_always, z_knot, z_knots, z_part, z_parts])), (a_trial, .inl (cI, 40320, .inl g_trial_4))] H := hP
                      have hD : va_D A [(a_refusals, .inl (cI, 7, .inl g_refusals)), (a_set, .inl (cI, 40, .inl g_set)), (a_state, .inl (cI, 40, .inl g_state)), (a_all, .inl (cI, 40320, .inl g_all)), (a_this, .inr (5, [.ref a_refusals, .int g_n, .int g_lines, .ref a_set, .ref a_state, z_weight, .ref a_all, z_good, .int g_many, z_goods, .ref a_trial, z_isKnown, z_always, z_knot, z_knots, z_part, z_parts])), (a_trial, .inl (cI, 40320, .inl g_trial_4))] := hD
                      refine lv_istore_n (lv' := [(2, .int r5), (0, .ref a_this), (3, .int x3)]) hx hb dX5_why_115 rfl hl (by decide) rfl (fun ls hl => ?_)
                      refine lv_iload_n hx hb dX5_why_116 rfl (lv_at hl 0 rfl) ?_
                      refine lv_if_ne (tgt := 122) hx hb dX5_why_117 (by decide) (fun k6 => ?_) (fun k6 => ?_)
                      · have h := h.1 k6
                        refine lv_iinc (v := x3 + 1) (lv' := [(3, .int (x3 + 1)), (2, .int r5), (0, .ref a_this)]) hx hb dX5_why_122 hl (k := 2) rfl rfl (by decide) rfl (fun ls hl => ?_)
                        refine lv_goto (tgt := 80) hx hb dX5_why_125 (by decide) ?_
                        exact ih80 r5 (x3 + 1) g_trial_4 h _ _ _ (reP hP [4, 0, 1, 2, 3, 5] rfl) (hD.sub [4, 0, 1, 2, 3, 5] (by decide) rfl) hS (lv_sub hl [2, 1, 0] rfl)
                      · have h := h.2 k6
                        refine lv_iload_n hx hb dX5_why_120 rfl (lv_at hl 2 rfl) ?_
                        exact ret _ _ _ _ x3 (g_refusals, g_trial_4) dX5_why_121 h (reP hP [4, 0, 1, 2, 3, 5] rfl) (hD.sub [4, 0, 1, 2, 3, 5] (by decide) rfl) hS
                    · have h := h.2 k3
                      refine lv_goto (tgt := 122) hx hb dX5_why_97 (by decide) ?_
                      refine lv_iinc (v := x3 + 1) (lv' := [(3, .int (x3 + 1)), (0, .ref a_this), (2, .int x2)]) hx hb dX5_why_122 hl (k := 2) rfl rfl (by decide) rfl (fun ls hl => ?_)
                      refine lv_goto (tgt := 80) hx hb dX5_why_125 (by decide) ?_
                      exact ih80 x2 (x3 + 1) g_trial h _ _ _ (reP hP [0, 1, 2, 3, 4, 5] rfl) (hD.sub [0, 1, 2, 3, 4, 5] (by decide) rfl) hS (lv_sub hl [1, 2, 0] rfl)
              obtain ⟨n, h⟩ := h
              exact L80 n r3 0 g_trial_2 h _ _ _ (reP hP [4, 0, 1, 2, 3, 5] rfl) (hD.sub [4, 0, 1, 2, 3, 5] (by decide) rfl) hS (lv_sub hl [2, 1, 0] rfl)
            exact J59 h _ _ _ (reP hP [0, 1, 2, 3, 4, 5] rfl) (hD.sub [0, 1, 2, 3, 4, 5] (by decide) rfl) hS (lv_sub hl [0, 1] rfl)
          · have h := h.2 k1
            refine lv_aload_n hx hb dX5_why_41 rfl (lv_at hl 0 rfl) ?_
            refine va_get (D := (dC, dI)) (ci := 5) (v := .ref a_trial) (C := RX5) (T := TX5) (N := 17) hx hb hts in5 hown hK hP 0 rfl rfl 10 (by decide) f29 (fun _ h9 => h9) rfl dX5_why_42 ?_
            refine lv_iload_n hx hb dX5_why_45 rfl (lv_at hl 2 rfl) ?_
            refine lv_aload_n hx hb dX5_why_46 rfl (lv_at hl 0 rfl) ?_
            refine va_get (D := (dC, dI)) (ci := 5) (v := .ref a_all) (C := RX5) (T := TX5) (N := 17) hx hb hts in5 hown hK hP 0 rfl rfl 6 (by decide) f23 (fun _ h9 => h9) rfl dX5_why_47 ?_
            refine lv_iload_n hx hb dX5_why_50 rfl (lv_at hl 2 rfl) ?_
            obtain ⟨hi2, h⟩ := h
            refine va_iald (D := (dC, dI)) hx hb hK hP 4 0 rfl rfl hi2 dX5_why_51 ?_
            refine va_iast (D := (dC, dI)) hx hb hK hP hD hS 5 0 rfl rfl hi2 dX5_why_52 (fun H locs hP hD hS => ?_)
            have hP : va_P (dC, dI) vwCl [(a_this, .inr (5, [.ref a_refusals, .int g_n, .int g_lines, .ref a_set, .ref a_state, z_weight, .ref a_all, z_good, .int g_many, z_goods, .ref a_trial, z_isKnown, z_always, z_knot, z_knots, z_part, z_parts])), (a_refusals, .inl (cI, 7, .inl g_refusals)), (a_set, .inl (cI, 40, .inl g_set)), (a_state, .inl (cI, 40, .inl g_state)), (a_all, .inl (cI, 40320, .inl g_all)), (a_trial, .inl (cI, 40320, .inl (upd g_trial (Int32.toNatClampNeg x2) (g_all (Int32.toNatClampNeg x2)))))] H := hP
            have hD : va_D A [(a_this, .inr (5, [.ref a_refusals, .int g_n, .int g_lines, .ref a_set, .ref a_state, z_weight, .ref a_all, z_good, .int g_many, z_goods, .ref a_trial, z_isKnown, z_always, z_knot, z_knots, z_part, z_parts])), (a_refusals, .inl (cI, 7, .inl g_refusals)), (a_set, .inl (cI, 40, .inl g_set)), (a_state, .inl (cI, 40, .inl g_state)), (a_all, .inl (cI, 40320, .inl g_all)), (a_trial, .inl (cI, 40320, .inl (upd g_trial (Int32.toNatClampNeg x2) (g_all (Int32.toNatClampNeg x2)))))] := hD
            refine lv_iinc (v := x2 + 1) (lv' := [(2, .int (x2 + 1)), (0, .ref a_this), (1, .int x1)]) hx hb dX5_why_53 hl (k := 2) rfl rfl (by decide) rfl (fun ls hl => ?_)
            refine lv_goto (tgt := 33) hx hb dX5_why_56 (by decide) ?_
            exact ih33 (x2 + 1) (upd g_trial (Int32.toNatClampNeg x2) (g_all (Int32.toNatClampNeg x2))) h _ _ _ (reP hP [0, 1, 2, 3, 4, 5] rfl) (hD.sub [0, 1, 2, 3, 4, 5] (by decide) rfl) hS (lv_sub hl [1, 2, 0] rfl)
      obtain ⟨n, h⟩ := h
      exact L33 n 0 g_trial h _ _ _ (reP hP [5, 0, 1, 2, 3, 4] rfl) (hD.sub [5, 0, 1, 2, 3, 4] (by decide) rfl) hS (lv_sub hl [1, 2, 0] rfl)
    · have h := h.2 k5
      refine lv_aload_n hx hb dX5_why_24 rfl (lv_at hl 0 rfl) ?_
      refine lv_bipush (v := (-3)) hx hb dX5_why_25 (by decide) ?_
      refine MI.callV (As := [.int (-3)]) (rest := []) (wr := [(a_set, .inl (cI, 40, .inl g_set)), (a_state, .inl (cI, 40, .inl g_state)), (a_all, .inl (cI, 40320, .inl g_all)), (a_trial, .inl (cI, 40320, .inl g_trial))]) (ci := 5) (q0 := 0) (c_X5_refuse l dC dI cI cZ a_this a_refusals (.int g_n) (.int g_lines) (.ref a_set) (.ref a_state) z_weight (.ref a_all) z_good (.int g_many) z_goods (.ref a_trial) z_isKnown z_always z_knot z_knots z_part z_parts g_refusals ((-3) : Int32) _ h) ⟨hx, hb, hml, hown, hts⟩ (cwV 1 hts gX5_why_X5_refuse rfl rfl rfl (by decide +kernel) ⟨Nat.le_of_ble_eq_true rfl, Nat.le_of_ble_eq_true rfl⟩) hK hP hD hS hA hNW [5, 0] [1, 2, 3, 4] rfl rfl (by decide) (by decide) (by decide) rfl rfl rfl rfl hl.1 rfl (Nat.le_of_ble_eq_true rfl) dX5_why_27 ⟨Nat.zero_le _, Nat.zero_le _⟩ (fun r7 u H locs hw hP hD hS => ?_)
      obtain ⟨g_refusals_6, rfl⟩ : ∃ z, z = u := ⟨_, rfl⟩
      have h := hw
      try dsimp only at h
      have hP : va_P (dC, dI) vwCl [(a_set, .inl (cI, 40, .inl g_set)), (a_state, .inl (cI, 40, .inl g_state)), (a_all, .inl (cI, 40320, .inl g_all)), (a_trial, .inl (cI, 40320, .inl g_trial)), (a_this, .inr (5, [.ref a_refusals, .int g_n, .int g_lines, .ref a_set, .ref a_state, z_weight, .ref a_all, z_good, .int g_many, z_goods, .ref a_trial, z_isKnown, z_always, z_knot, z_knots, z_part, z_parts])), (a_refusals, .inl (cI, 7, .inl g_refusals_6))] H := hP
      have hD : va_D A [(a_set, .inl (cI, 40, .inl g_set)), (a_state, .inl (cI, 40, .inl g_state)), (a_all, .inl (cI, 40320, .inl g_all)), (a_trial, .inl (cI, 40320, .inl g_trial)), (a_this, .inr (5, [.ref a_refusals, .int g_n, .int g_lines, .ref a_set, .ref a_state, z_weight, .ref a_all, z_good, .int g_many, z_goods, .ref a_trial, z_isKnown, z_always, z_knot, z_knots, z_part, z_parts])), (a_refusals, .inl (cI, 7, .inl g_refusals_6))] := hD
      exact ret _ _ _ _ r7 (g_refusals_6, g_trial) dX5_why_30 h (reP hP [4, 5, 0, 1, 2, 3] rfl) (hD.sub [4, 5, 0, 1, 2, 3] (by decide) rfl) hS
  · have h := h.2 (bI_0 k3)
    refine lv_aload_n hx hb dX5_why_8 rfl (lv_at hl 0 rfl) ?_
    refine lv_iconst (v := (-1)) hx hb dX5_why_9 (by decide) ?_
    refine MI.callV (As := [.int (-1)]) (rest := []) (wr := [(a_set, .inl (cI, 40, .inl g_set)), (a_state, .inl (cI, 40, .inl g_state)), (a_all, .inl (cI, 40320, .inl g_all)), (a_trial, .inl (cI, 40320, .inl g_trial))]) (ci := 5) (q0 := 0) (c_X5_refuse l dC dI cI cZ a_this a_refusals (.int g_n) (.int g_lines) (.ref a_set) (.ref a_state) z_weight (.ref a_all) z_good (.int g_many) z_goods (.ref a_trial) z_isKnown z_always z_knot z_knots z_part z_parts g_refusals ((-1) : Int32) _ h) ⟨hx, hb, hml, hown, hts⟩ (cwV 1 hts gX5_why_X5_refuse rfl rfl rfl (by decide +kernel) ⟨Nat.le_of_ble_eq_true rfl, Nat.le_of_ble_eq_true rfl⟩) hK hP hD hS hA hNW [5, 0] [1, 2, 3, 4] rfl rfl (by decide) (by decide) (by decide) rfl rfl rfl rfl hl.1 rfl (Nat.le_of_ble_eq_true rfl) dX5_why_10 ⟨Nat.zero_le _, Nat.zero_le _⟩ (fun r9 u H locs hw hP hD hS => ?_)
    obtain ⟨g_refusals_8, rfl⟩ : ∃ z, z = u := ⟨_, rfl⟩
    have h := hw
    try dsimp only at h
    have hP : va_P (dC, dI) vwCl [(a_set, .inl (cI, 40, .inl g_set)), (a_state, .inl (cI, 40, .inl g_state)), (a_all, .inl (cI, 40320, .inl g_all)), (a_trial, .inl (cI, 40320, .inl g_trial)), (a_this, .inr (5, [.ref a_refusals, .int g_n, .int g_lines, .ref a_set, .ref a_state, z_weight, .ref a_all, z_good, .int g_many, z_goods, .ref a_trial, z_isKnown, z_always, z_knot, z_knots, z_part, z_parts])), (a_refusals, .inl (cI, 7, .inl g_refusals_8))] H := hP
    have hD : va_D A [(a_set, .inl (cI, 40, .inl g_set)), (a_state, .inl (cI, 40, .inl g_state)), (a_all, .inl (cI, 40320, .inl g_all)), (a_trial, .inl (cI, 40320, .inl g_trial)), (a_this, .inr (5, [.ref a_refusals, .int g_n, .int g_lines, .ref a_set, .ref a_state, z_weight, .ref a_all, z_good, .int g_many, z_goods, .ref a_trial, z_isKnown, z_always, z_knot, z_knots, z_part, z_parts])), (a_refusals, .inl (cI, 7, .inl g_refusals_8))] := hD
    exact ret _ _ _ _ r9 (g_refusals_8, g_trial) dX5_why_13 h (reP hP [4, 5, 0, 1, 2, 3] rfl) (hD.sub [4, 5, 0, 1, 2, 3] (by decide) rfl) hS
/-! ### X5_rows rows()I -/
def rX5_rows : Room := { frames := 0, cells := 0, slots := 0, locals := 0 }
def q_X5_rows (g_goods : Int32) (Q : Int32 → Prop) : Prop :=
  Q g_goods
set_option maxRecDepth 100000 in
set_option maxHeartbeats 4000000 in
theorem c_X5_rows (l : Launch) (dC : Nat → ClassId) (dI : Nat → Nat → Nat) (cI cZ : ClassId) (a_this : Nat) (z_refusals z_n z_lines z_set z_state z_weight z_all z_good z_many z_trial z_isKnown z_always z_knot z_knots z_part z_parts : Value) (g_goods : Int32) (Q : Int32 → Prop) (h : q_X5_rows g_goods Q) : MI l yX5_rows wsX5_rows rX5_rows (dC, dI) [(cI, .int), (cZ, .boolean)] [.ref a_this] [(a_this, .inr (5, [z_refusals, z_n, z_lines, z_set, z_state, z_weight, z_all, z_good, z_many, .int g_goods, z_trial, z_isKnown, z_always, z_knot, z_knots, z_part, z_parts]))] (fun (r : Int32) (u : Unit) => Q r) (fun u : Unit => [(a_this, .inr (5, [z_refusals, z_n, z_lines, z_set, z_state, z_weight, z_all, z_good, z_many, .int g_goods, z_trial, z_isKnown, z_always, z_knot, z_knots, z_part, z_parts]))]) := by
  refine MI.of (cc := cX5_rows) (maxL := 1) (by decide +kernel) rfl (Nat.le_of_ble_eq_true rfl) ?_
  intro p e s m args below meth c A QQ ls hx hb hml hown hts hA hK hP hD hS hNW ret hl
  have hl : lv_has ls 1 [(0, .ref a_this)] := hl
  have hown : s.vm.findClass RX5 = some m.cls := hown
  have in5 : ∀ w ∈ u_ws RX5 TX5 17, w ∈ wsX5_rows := fun _ w9 => List.mem_cons_of_mem _ (List.mem_append_right _ w9)
  have f60 := hts (.fieldLink RX5 60 "OnesDeskModel" "goods" "I") (by decide +kernel)
  refine lv_aload_n hx hb dX5_rows_0 rfl (lv_at hl 0 rfl) ?_
  refine va_get (D := (dC, dI)) (ci := 5) (v := .int g_goods) (C := RX5) (T := TX5) (N := 17) hx hb hts in5 hown hK hP 0 rfl rfl 9 (by decide) f60 (fun _ h9 => h9) rfl dX5_rows_1 ?_
  exact ret _ _ _ _ g_goods () dX5_rows_4 h (reP hP [0] rfl) (hD.sub [0] (by decide) rfl) hS
/-! ### X5_row row(II)I -/
def rX5_row : Room := { frames := 1, cells := 0, slots := 0, locals := 22 }
def q_X5_row (g_n : Int32) (g_goods : Int32) (g_refusals : Nat → Int32) (g_good : Nat → Int32) (x1 : Int32) (x2 : Int32) (Q : Int32 → (Nat → Int32) → Prop) : Prop :=
  q_X5_isIn x1 g_goods (fun b2 => (b2 = true → (0 ≤ x2 → (x2 < g_n → vp_in x1 40320 ∧ q_X5_columnAt g_n (g_good (Int32.toNatClampNeg x1)) x2 (fun r7 => Q r7 g_refusals)) ∧ (¬ x2 < g_n → q_X5_refuse g_refusals ((-6) : Int32) (fun r9 g_refusals_8 => Q r9 g_refusals_8))) ∧ (¬ 0 ≤ x2 → q_X5_refuse g_refusals ((-4) : Int32) (fun r11 g_refusals_10 => Q r11 g_refusals_10))) ∧ (b2 = false → q_X5_refuse g_refusals ((-1) : Int32) (fun r13 g_refusals_12 => Q r13 g_refusals_12)))
set_option maxRecDepth 100000 in
set_option maxHeartbeats 4000000 in
theorem c_X5_row (l : Launch) (dC : Nat → ClassId) (dI : Nat → Nat → Nat) (cI cZ : ClassId) (a_this a_refusals a_good : Nat) (z_lines z_set z_state z_weight z_all z_many z_trial z_isKnown z_always z_knot z_knots z_part z_parts : Value) (g_n : Int32) (g_goods : Int32) (g_refusals : Nat → Int32) (g_good : Nat → Int32) (x1 : Int32) (x2 : Int32) (Q : Int32 → (Nat → Int32) → Prop) (h : q_X5_row g_n g_goods g_refusals g_good x1 x2 Q) : MI l yX5_row wsX5_row rX5_row (dC, dI) [(cI, .int), (cZ, .boolean)] [.ref a_this, .int x1, .int x2] [(a_this, .inr (5, [.ref a_refusals, .int g_n, z_lines, z_set, z_state, z_weight, z_all, .ref a_good, z_many, .int g_goods, z_trial, z_isKnown, z_always, z_knot, z_knots, z_part, z_parts])), (a_refusals, .inl (cI, 7, .inl g_refusals)), (a_good, .inl (cI, 40320, .inl g_good))] (fun (r : Int32) (u : (Nat → Int32)) => Q r u) (fun u : (Nat → Int32) => [(a_this, .inr (5, [.ref a_refusals, .int g_n, z_lines, z_set, z_state, z_weight, z_all, .ref a_good, z_many, .int g_goods, z_trial, z_isKnown, z_always, z_knot, z_knots, z_part, z_parts])), (a_refusals, .inl (cI, 7, .inl u)), (a_good, .inl (cI, 40320, .inl g_good))]) := by
  refine MI.of (cc := cX5_row) (maxL := 3) (by decide +kernel) rfl (Nat.le_of_ble_eq_true rfl) ?_
  intro p e s m args below meth c A QQ ls hx hb hml hown hts hA hK hP hD hS hNW ret hl
  have hl : lv_has ls 3 [(0, .ref a_this), (1, .int x1), (2, .int x2)] := hl
  have hown : s.vm.findClass RX5 = some m.cls := hown
  have in5 : ∀ w ∈ u_ws RX5 TX5 17, w ∈ wsX5_row := fun _ w9 => List.mem_cons_of_mem _ (List.mem_append_right _ w9)
  have f26 := hts (.fieldLink RX5 26 "OnesDeskModel" "good" "[I") (by decide +kernel)
  have f46 := hts (.fieldLink RX5 46 "OnesDeskModel" "n" "I") (by decide +kernel)
  have f60 := hts (.fieldLink RX5 60 "OnesDeskModel" "goods" "I") (by decide +kernel)
  refine lv_iload_n hx hb dX5_row_0 rfl (lv_at hl 1 rfl) ?_
  refine lv_aload_n hx hb dX5_row_1 rfl (lv_at hl 0 rfl) ?_
  refine va_get (D := (dC, dI)) (ci := 5) (v := .int g_goods) (C := RX5) (T := TX5) (N := 17) hx hb hts in5 hown hK hP 0 rfl rfl 9 (by decide) f60 (fun _ h9 => h9) rfl dX5_row_2 ?_
  refine MI.callS (As := [.int x1, .int g_goods]) (rest := []) (wr := [(a_this, .inr (5, [.ref a_refusals, .int g_n, z_lines, z_set, z_state, z_weight, z_all, .ref a_good, z_many, .int g_goods, z_trial, z_isKnown, z_always, z_knot, z_knots, z_part, z_parts])), (a_refusals, .inl (cI, 7, .inl g_refusals)), (a_good, .inl (cI, 40320, .inl g_good))]) (c_X5_isIn l dC dI cI cZ x1 g_goods _ h) ⟨hx, hb, hml, hown, hts⟩ (va_cwS 2 hts gX5_row_X5_isIn rfl rfl rfl (by decide +kernel) ⟨Nat.le_of_ble_eq_true rfl, Nat.le_of_ble_eq_true rfl⟩) hK hP hD hS hA hNW [] [0, 1, 2] rfl rfl (by decide) (by decide) (by decide) rfl hl.1 rfl (Nat.le_of_ble_eq_true rfl) dX5_row_5 ⟨Nat.zero_le _, Nat.zero_le _⟩ (fun r1 u H locs hw hP hD hS => ?_)
  obtain ⟨b2, rfl, hw⟩ := hw
  have h := hw
  try dsimp only at h
  have hP : va_P (dC, dI) vwCl [(a_this, .inr (5, [.ref a_refusals, .int g_n, z_lines, z_set, z_state, z_weight, z_all, .ref a_good, z_many, .int g_goods, z_trial, z_isKnown, z_always, z_knot, z_knots, z_part, z_parts])), (a_refusals, .inl (cI, 7, .inl g_refusals)), (a_good, .inl (cI, 40320, .inl g_good))] H := hP
  have hD : va_D A [(a_this, .inr (5, [.ref a_refusals, .int g_n, z_lines, z_set, z_state, z_weight, z_all, .ref a_good, z_many, .int g_goods, z_trial, z_isKnown, z_always, z_knot, z_knots, z_part, z_parts])), (a_refusals, .inl (cI, 7, .inl g_refusals)), (a_good, .inl (cI, 40320, .inl g_good))] := hD
  refine lv_if_ne (tgt := 17) hx hb dX5_row_8 (by decide) (fun k3 => ?_) (fun k3 => ?_)
  · have h := h.1 (bI_1 k3)
    refine lv_iload_n hx hb dX5_row_17 rfl (lv_at hl 2 rfl) ?_
    refine lv_if_ge (tgt := 28) hx hb dX5_row_18 (by decide) (fun k4 => ?_) (fun k4 => ?_)
    · have h := h.1 k4
      refine lv_iload_n hx hb dX5_row_28 rfl (lv_at hl 2 rfl) ?_
      refine lv_aload_n hx hb dX5_row_29 rfl (lv_at hl 0 rfl) ?_
      refine va_get (D := (dC, dI)) (ci := 5) (v := .int g_n) (C := RX5) (T := TX5) (N := 17) hx hb hts in5 hown hK hP 0 rfl rfl 1 (by decide) f46 (fun _ h9 => h9) rfl dX5_row_30 ?_
      refine lv_icmp_lt (tgt := 45) hx hb dX5_row_33 (by decide) (fun k5 => ?_) (fun k5 => ?_)
      · have h := h.1 k5
        refine lv_aload_n hx hb dX5_row_45 rfl (lv_at hl 0 rfl) ?_
        refine lv_aload_n hx hb dX5_row_46 rfl (lv_at hl 0 rfl) ?_
        refine va_get (D := (dC, dI)) (ci := 5) (v := .ref a_good) (C := RX5) (T := TX5) (N := 17) hx hb hts in5 hown hK hP 0 rfl rfl 7 (by decide) f26 (fun _ h9 => h9) rfl dX5_row_47 ?_
        refine lv_iload_n hx hb dX5_row_50 rfl (lv_at hl 1 rfl) ?_
        obtain ⟨hi6, h⟩ := h
        refine va_iald (D := (dC, dI)) hx hb hK hP 2 0 rfl rfl hi6 dX5_row_51 ?_
        refine lv_iload_n hx hb dX5_row_52 rfl (lv_at hl 2 rfl) ?_
        refine MI.callV (As := [.int (g_good (Int32.toNatClampNeg x1)), .int x2]) (rest := []) (wr := [(a_refusals, .inl (cI, 7, .inl g_refusals)), (a_good, .inl (cI, 40320, .inl g_good))]) (ci := 5) (q0 := 0) (c_X5_columnAt l dC dI cI cZ a_this (.ref a_refusals) z_lines z_set z_state z_weight z_all (.ref a_good) z_many (.int g_goods) z_trial z_isKnown z_always z_knot z_knots z_part z_parts g_n (g_good (Int32.toNatClampNeg x1)) x2 _ h) ⟨hx, hb, hml, hown, hts⟩ (cwV 2 hts gX5_row_X5_columnAt rfl rfl rfl (by decide +kernel) ⟨Nat.le_of_ble_eq_true rfl, Nat.le_of_ble_eq_true rfl⟩) hK hP hD hS hA hNW [0] [1, 2] rfl rfl (by decide) (by decide) (by decide) rfl rfl rfl rfl hl.1 rfl (Nat.le_of_ble_eq_true rfl) dX5_row_53 ⟨Nat.zero_le _, Nat.zero_le _⟩ (fun r7 u H locs hw hP hD hS => ?_)
        have h := hw
        try dsimp only at h
        have hP : va_P (dC, dI) vwCl [(a_refusals, .inl (cI, 7, .inl g_refusals)), (a_good, .inl (cI, 40320, .inl g_good)), (a_this, .inr (5, [.ref a_refusals, .int g_n, z_lines, z_set, z_state, z_weight, z_all, .ref a_good, z_many, .int g_goods, z_trial, z_isKnown, z_always, z_knot, z_knots, z_part, z_parts]))] H := hP
        have hD : va_D A [(a_refusals, .inl (cI, 7, .inl g_refusals)), (a_good, .inl (cI, 40320, .inl g_good)), (a_this, .inr (5, [.ref a_refusals, .int g_n, z_lines, z_set, z_state, z_weight, z_all, .ref a_good, z_many, .int g_goods, z_trial, z_isKnown, z_always, z_knot, z_knots, z_part, z_parts]))] := hD
        exact ret _ _ _ _ r7 g_refusals dX5_row_56 h (reP hP [2, 0, 1] rfl) (hD.sub [2, 0, 1] (by decide) rfl) hS
      · have h := h.2 k5
        refine lv_aload_n hx hb dX5_row_36 rfl (lv_at hl 0 rfl) ?_
        refine lv_bipush (v := (-6)) hx hb dX5_row_37 (by decide) ?_
        refine MI.callV (As := [.int (-6)]) (rest := []) (wr := [(a_good, .inl (cI, 40320, .inl g_good))]) (ci := 5) (q0 := 0) (c_X5_refuse l dC dI cI cZ a_this a_refusals (.int g_n) z_lines z_set z_state z_weight z_all (.ref a_good) z_many (.int g_goods) z_trial z_isKnown z_always z_knot z_knots z_part z_parts g_refusals ((-6) : Int32) _ h) ⟨hx, hb, hml, hown, hts⟩ (cwV 1 hts gX5_row_X5_refuse rfl rfl rfl (by decide +kernel) ⟨Nat.le_of_ble_eq_true rfl, Nat.le_of_ble_eq_true rfl⟩) hK hP hD hS hA hNW [0, 1] [2] rfl rfl (by decide) (by decide) (by decide) rfl rfl rfl rfl hl.1 rfl (Nat.le_of_ble_eq_true rfl) dX5_row_39 ⟨Nat.zero_le _, Nat.zero_le _⟩ (fun r9 u H locs hw hP hD hS => ?_)
        obtain ⟨g_refusals_8, rfl⟩ : ∃ z, z = u := ⟨_, rfl⟩
        have h := hw
        try dsimp only at h
        have hP : va_P (dC, dI) vwCl [(a_good, .inl (cI, 40320, .inl g_good)), (a_this, .inr (5, [.ref a_refusals, .int g_n, z_lines, z_set, z_state, z_weight, z_all, .ref a_good, z_many, .int g_goods, z_trial, z_isKnown, z_always, z_knot, z_knots, z_part, z_parts])), (a_refusals, .inl (cI, 7, .inl g_refusals_8))] H := hP
        have hD : va_D A [(a_good, .inl (cI, 40320, .inl g_good)), (a_this, .inr (5, [.ref a_refusals, .int g_n, z_lines, z_set, z_state, z_weight, z_all, .ref a_good, z_many, .int g_goods, z_trial, z_isKnown, z_always, z_knot, z_knots, z_part, z_parts])), (a_refusals, .inl (cI, 7, .inl g_refusals_8))] := hD
        refine lv_goto (tgt := 56) hx hb dX5_row_42 (by decide) ?_
        exact ret _ _ _ _ r9 g_refusals_8 dX5_row_56 h (reP hP [1, 2, 0] rfl) (hD.sub [1, 2, 0] (by decide) rfl) hS
    · have h := h.2 k4
      refine lv_aload_n hx hb dX5_row_21 rfl (lv_at hl 0 rfl) ?_
      refine lv_bipush (v := (-4)) hx hb dX5_row_22 (by decide) ?_
      refine MI.callV (As := [.int (-4)]) (rest := []) (wr := [(a_good, .inl (cI, 40320, .inl g_good))]) (ci := 5) (q0 := 0) (c_X5_refuse l dC dI cI cZ a_this a_refusals (.int g_n) z_lines z_set z_state z_weight z_all (.ref a_good) z_many (.int g_goods) z_trial z_isKnown z_always z_knot z_knots z_part z_parts g_refusals ((-4) : Int32) _ h) ⟨hx, hb, hml, hown, hts⟩ (cwV 1 hts gX5_row_X5_refuse rfl rfl rfl (by decide +kernel) ⟨Nat.le_of_ble_eq_true rfl, Nat.le_of_ble_eq_true rfl⟩) hK hP hD hS hA hNW [0, 1] [2] rfl rfl (by decide) (by decide) (by decide) rfl rfl rfl rfl hl.1 rfl (Nat.le_of_ble_eq_true rfl) dX5_row_24 ⟨Nat.zero_le _, Nat.zero_le _⟩ (fun r11 u H locs hw hP hD hS => ?_)
      obtain ⟨g_refusals_10, rfl⟩ : ∃ z, z = u := ⟨_, rfl⟩
      have h := hw
      try dsimp only at h
      have hP : va_P (dC, dI) vwCl [(a_good, .inl (cI, 40320, .inl g_good)), (a_this, .inr (5, [.ref a_refusals, .int g_n, z_lines, z_set, z_state, z_weight, z_all, .ref a_good, z_many, .int g_goods, z_trial, z_isKnown, z_always, z_knot, z_knots, z_part, z_parts])), (a_refusals, .inl (cI, 7, .inl g_refusals_10))] H := hP
      have hD : va_D A [(a_good, .inl (cI, 40320, .inl g_good)), (a_this, .inr (5, [.ref a_refusals, .int g_n, z_lines, z_set, z_state, z_weight, z_all, .ref a_good, z_many, .int g_goods, z_trial, z_isKnown, z_always, z_knot, z_knots, z_part, z_parts])), (a_refusals, .inl (cI, 7, .inl g_refusals_10))] := hD
      exact ret _ _ _ _ r11 g_refusals_10 dX5_row_27 h (reP hP [1, 2, 0] rfl) (hD.sub [1, 2, 0] (by decide) rfl) hS
  · have h := h.2 (bI_0 k3)
    refine lv_aload_n hx hb dX5_row_11 rfl (lv_at hl 0 rfl) ?_
    refine lv_iconst (v := (-1)) hx hb dX5_row_12 (by decide) ?_
    refine MI.callV (As := [.int (-1)]) (rest := []) (wr := [(a_good, .inl (cI, 40320, .inl g_good))]) (ci := 5) (q0 := 0) (c_X5_refuse l dC dI cI cZ a_this a_refusals (.int g_n) z_lines z_set z_state z_weight z_all (.ref a_good) z_many (.int g_goods) z_trial z_isKnown z_always z_knot z_knots z_part z_parts g_refusals ((-1) : Int32) _ h) ⟨hx, hb, hml, hown, hts⟩ (cwV 1 hts gX5_row_X5_refuse rfl rfl rfl (by decide +kernel) ⟨Nat.le_of_ble_eq_true rfl, Nat.le_of_ble_eq_true rfl⟩) hK hP hD hS hA hNW [0, 1] [2] rfl rfl (by decide) (by decide) (by decide) rfl rfl rfl rfl hl.1 rfl (Nat.le_of_ble_eq_true rfl) dX5_row_13 ⟨Nat.zero_le _, Nat.zero_le _⟩ (fun r13 u H locs hw hP hD hS => ?_)
    obtain ⟨g_refusals_12, rfl⟩ : ∃ z, z = u := ⟨_, rfl⟩
    have h := hw
    try dsimp only at h
    have hP : va_P (dC, dI) vwCl [(a_good, .inl (cI, 40320, .inl g_good)), (a_this, .inr (5, [.ref a_refusals, .int g_n, z_lines, z_set, z_state, z_weight, z_all, .ref a_good, z_many, .int g_goods, z_trial, z_isKnown, z_always, z_knot, z_knots, z_part, z_parts])), (a_refusals, .inl (cI, 7, .inl g_refusals_12))] H := hP
    have hD : va_D A [(a_good, .inl (cI, 40320, .inl g_good)), (a_this, .inr (5, [.ref a_refusals, .int g_n, z_lines, z_set, z_state, z_weight, z_all, .ref a_good, z_many, .int g_goods, z_trial, z_isKnown, z_always, z_knot, z_knots, z_part, z_parts])), (a_refusals, .inl (cI, 7, .inl g_refusals_12))] := hD
    exact ret _ _ _ _ r13 g_refusals_12 dX5_row_16 h (reP hP [1, 2, 0] rfl) (hD.sub [1, 2, 0] (by decide) rfl) hS
/-! ### X5_rank rank(I)I -/
def rX5_rank : Room := { frames := 0, cells := 0, slots := 0, locals := 0 }
def q_X5_rank_L2 (x1 : Int32) (g_goods : Int32) (g_good : Nat → Int32) (Q : Int32 → Prop) : Nat → Int32 → Prop
  | 0 => fun _ => False
  | n + 1 => fun x2 => (g_goods ≤ x2 → Q (-9)) ∧ (¬ g_goods ≤ x2 → vp_in x2 40320 ∧ (¬ (g_good (Int32.toNatClampNeg x2)) = x1 → (q_X5_rank_L2 x1 g_goods g_good Q n) (x2 + 1)) ∧ ((g_good (Int32.toNatClampNeg x2)) = x1 → Q x2))
def q_X5_rank (g_goods : Int32) (g_good : Nat → Int32) (x1 : Int32) (Q : Int32 → Prop) : Prop :=
  ∃ N : Nat, q_X5_rank_L2 x1 g_goods g_good Q N 0
set_option maxRecDepth 100000 in
set_option maxHeartbeats 4000000 in
theorem c_X5_rank (l : Launch) (dC : Nat → ClassId) (dI : Nat → Nat → Nat) (cI cZ : ClassId) (a_this a_good : Nat) (z_refusals z_n z_lines z_set z_state z_weight z_all z_many z_trial z_isKnown z_always z_knot z_knots z_part z_parts : Value) (g_goods : Int32) (g_good : Nat → Int32) (x1 : Int32) (Q : Int32 → Prop) (h : q_X5_rank g_goods g_good x1 Q) : MI l yX5_rank wsX5_rank rX5_rank (dC, dI) [(cI, .int), (cZ, .boolean)] [.ref a_this, .int x1] [(a_this, .inr (5, [z_refusals, z_n, z_lines, z_set, z_state, z_weight, z_all, .ref a_good, z_many, .int g_goods, z_trial, z_isKnown, z_always, z_knot, z_knots, z_part, z_parts])), (a_good, .inl (cI, 40320, .inl g_good))] (fun (r : Int32) (u : Unit) => Q r) (fun u : Unit => [(a_this, .inr (5, [z_refusals, z_n, z_lines, z_set, z_state, z_weight, z_all, .ref a_good, z_many, .int g_goods, z_trial, z_isKnown, z_always, z_knot, z_knots, z_part, z_parts])), (a_good, .inl (cI, 40320, .inl g_good))]) := by
  refine MI.of (cc := cX5_rank) (maxL := 3) (by decide +kernel) rfl (Nat.le_of_ble_eq_true rfl) ?_
  intro p e s m args below meth c A QQ ls hx hb hml hown hts hA hK hP hD hS hNW ret hl
  have hl : lv_has ls 3 [(0, .ref a_this), (1, .int x1)] := hl
  have hown : s.vm.findClass RX5 = some m.cls := hown
  have in5 : ∀ w ∈ u_ws RX5 TX5 17, w ∈ wsX5_rank := fun _ w9 => List.mem_cons_of_mem _ (List.mem_append_right _ w9)
  have f26 := hts (.fieldLink RX5 26 "OnesDeskModel" "good" "[I") (by decide +kernel)
  have f60 := hts (.fieldLink RX5 60 "OnesDeskModel" "goods" "I") (by decide +kernel)
  refine lv_iconst (v := 0) hx hb dX5_rank_0 (by decide) ?_
  refine lv_istore_n (lv' := [(2, .int 0), (0, .ref a_this), (1, .int x1)]) hx hb dX5_rank_1 rfl hl (by decide) rfl (fun ls hl => ?_)
  have L2 : ∀ (n2 : Nat), ∀ (x2 : Int32), q_X5_rank_L2 x1 g_goods g_good Q n2 x2 → ∀ (H : Heap) (locs : List Loc) (ls : Array Slot), va_P (dC, dI) vwCl [(a_this, .inr (5, [z_refusals, z_n, z_lines, z_set, z_state, z_weight, z_all, .ref a_good, z_many, .int g_goods, z_trial, z_isKnown, z_always, z_knot, z_knots, z_part, z_parts])), (a_good, .inl (cI, 40320, .inl g_good))] H → va_D A [(a_this, .inr (5, [z_refusals, z_n, z_lines, z_set, z_state, z_weight, z_all, .ref a_good, z_many, .int g_goods, z_trial, z_isKnown, z_always, z_knot, z_knots, z_part, z_parts])), (a_good, .inl (cI, 40320, .inl g_good))] → va_S A s.heap H locs → lv_has ls 3 [(0, .ref a_this), (1, .int x1), (2, .int x2)] → W p l e rX5_rank s m args below meth c H locs 0 0 QQ (F0 m 2 ls []) := by
    intro n2
    induction n2 with
    | zero => intro x2 h; exact False.elim h
    | succ n2 ih2 =>
      intro x2 h H locs ls hP hD hS hl
      refine lv_iload_n hx hb dX5_rank_2 rfl (lv_at hl 2 rfl) ?_
      refine lv_aload_n hx hb dX5_rank_3 rfl (lv_at hl 0 rfl) ?_
      refine va_get (D := (dC, dI)) (ci := 5) (v := .int g_goods) (C := RX5) (T := TX5) (N := 17) hx hb hts in5 hown hK hP 0 rfl rfl 9 (by decide) f60 (fun _ h9 => h9) rfl dX5_rank_4 ?_
      refine lv_icmp_ge (tgt := 28) hx hb dX5_rank_7 (by decide) (fun k1 => ?_) (fun k1 => ?_)
      · have h := h.1 k1
        refine lv_bipush (v := (-9)) hx hb dX5_rank_28 (by decide) ?_
        exact ret _ _ _ _ (-9) () dX5_rank_30 h (reP hP [0, 1] rfl) (hD.sub [0, 1] (by decide) rfl) hS
      · have h := h.2 k1
        refine lv_aload_n hx hb dX5_rank_10 rfl (lv_at hl 0 rfl) ?_
        refine va_get (D := (dC, dI)) (ci := 5) (v := .ref a_good) (C := RX5) (T := TX5) (N := 17) hx hb hts in5 hown hK hP 0 rfl rfl 7 (by decide) f26 (fun _ h9 => h9) rfl dX5_rank_11 ?_
        refine lv_iload_n hx hb dX5_rank_14 rfl (lv_at hl 2 rfl) ?_
        obtain ⟨hi2, h⟩ := h
        refine va_iald (D := (dC, dI)) hx hb hK hP 1 0 rfl rfl hi2 dX5_rank_15 ?_
        refine lv_iload_n hx hb dX5_rank_16 rfl (lv_at hl 1 rfl) ?_
        refine lv_icmp_ne (tgt := 22) hx hb dX5_rank_17 (by decide) (fun k3 => ?_) (fun k3 => ?_)
        · have h := h.1 k3
          refine lv_iinc (v := x2 + 1) (lv' := [(2, .int (x2 + 1)), (0, .ref a_this), (1, .int x1)]) hx hb dX5_rank_22 hl (k := 2) rfl rfl (by decide) rfl (fun ls hl => ?_)
          refine lv_goto (tgt := 2) hx hb dX5_rank_25 (by decide) ?_
          exact ih2 (x2 + 1) h _ _ _ (reP hP [0, 1] rfl) (hD.sub [0, 1] (by decide) rfl) hS (lv_sub hl [1, 2, 0] rfl)
        · have h := h.2 k3
          refine lv_iload_n hx hb dX5_rank_20 rfl (lv_at hl 2 rfl) ?_
          exact ret _ _ _ _ x2 () dX5_rank_21 h (reP hP [0, 1] rfl) (hD.sub [0, 1] (by decide) rfl) hS
  obtain ⟨n, h⟩ := h
  exact L2 n 0 h _ _ _ (reP hP [0, 1] rfl) (hD.sub [0, 1] (by decide) rfl) hS (lv_sub hl [1, 2, 0] rfl)
/-! ### X5_told told(I)I -/
def rX5_told : Room := { frames := 0, cells := 0, slots := 0, locals := 0 }
def q_X5_told (g_goods : Int32) (x1 : Int32) (Q : Int32 → Prop) : Prop :=
  (¬ x1 = g_goods → (x1 ≤ 0 → Q 0) ∧ (¬ x1 ≤ 0 → Q 1)) ∧ (x1 = g_goods → Q 2)
set_option maxRecDepth 100000 in
set_option maxHeartbeats 4000000 in
theorem c_X5_told (l : Launch) (dC : Nat → ClassId) (dI : Nat → Nat → Nat) (cI cZ : ClassId) (a_this : Nat) (z_refusals z_n z_lines z_set z_state z_weight z_all z_good z_many z_trial z_isKnown z_always z_knot z_knots z_part z_parts : Value) (g_goods : Int32) (x1 : Int32) (Q : Int32 → Prop) (h : q_X5_told g_goods x1 Q) : MI l yX5_told wsX5_told rX5_told (dC, dI) [(cI, .int), (cZ, .boolean)] [.ref a_this, .int x1] [(a_this, .inr (5, [z_refusals, z_n, z_lines, z_set, z_state, z_weight, z_all, z_good, z_many, .int g_goods, z_trial, z_isKnown, z_always, z_knot, z_knots, z_part, z_parts]))] (fun (r : Int32) (u : Unit) => Q r) (fun u : Unit => [(a_this, .inr (5, [z_refusals, z_n, z_lines, z_set, z_state, z_weight, z_all, z_good, z_many, .int g_goods, z_trial, z_isKnown, z_always, z_knot, z_knots, z_part, z_parts]))]) := by
  refine MI.of (cc := cX5_told) (maxL := 2) (by decide +kernel) rfl (Nat.le_of_ble_eq_true rfl) ?_
  intro p e s m args below meth c A QQ ls hx hb hml hown hts hA hK hP hD hS hNW ret hl
  have hl : lv_has ls 2 [(0, .ref a_this), (1, .int x1)] := hl
  have hown : s.vm.findClass RX5 = some m.cls := hown
  have in5 : ∀ w ∈ u_ws RX5 TX5 17, w ∈ wsX5_told := fun _ w9 => List.mem_cons_of_mem _ (List.mem_append_right _ w9)
  have f60 := hts (.fieldLink RX5 60 "OnesDeskModel" "goods" "I") (by decide +kernel)
  refine lv_iload_n hx hb dX5_told_0 rfl (lv_at hl 1 rfl) ?_
  refine lv_aload_n hx hb dX5_told_1 rfl (lv_at hl 0 rfl) ?_
  refine va_get (D := (dC, dI)) (ci := 5) (v := .int g_goods) (C := RX5) (T := TX5) (N := 17) hx hb hts in5 hown hK hP 0 rfl rfl 9 (by decide) f60 (fun _ h9 => h9) rfl dX5_told_2 ?_
  refine lv_icmp_ne (tgt := 12) hx hb dX5_told_5 (by decide) (fun k1 => ?_) (fun k1 => ?_)
  · have h := h.1 k1
    refine lv_iload_n hx hb dX5_told_12 rfl (lv_at hl 1 rfl) ?_
    refine lv_if_le (tgt := 20) hx hb dX5_told_13 (by decide) (fun k2 => ?_) (fun k2 => ?_)
    · have h := h.1 k2
      refine lv_iconst (v := 0) hx hb dX5_told_20 (by decide) ?_
      exact ret _ _ _ _ 0 () dX5_told_21 h (reP hP [0] rfl) (hD.sub [0] (by decide) rfl) hS
    · have h := h.2 k2
      refine lv_iconst (v := 1) hx hb dX5_told_16 (by decide) ?_
      refine lv_goto (tgt := 21) hx hb dX5_told_17 (by decide) ?_
      exact ret _ _ _ _ 1 () dX5_told_21 h (reP hP [0] rfl) (hD.sub [0] (by decide) rfl) hS
  · have h := h.2 k1
    refine lv_iconst (v := 2) hx hb dX5_told_8 (by decide) ?_
    refine lv_goto (tgt := 21) hx hb dX5_told_9 (by decide) ?_
    exact ret _ _ _ _ 2 () dX5_told_21 h (reP hP [0] rfl) (hD.sub [0] (by decide) rfl) hS
/-! ### X5_together together(I)I -/
def rX5_together : Room := { frames := 3, cells := 0, slots := 0, locals := 70 }
def q_X5_together_J55 (x2 : Int32) (g_goods : Int32) (g_refusals : Nat → Int32) (Q : Int32 → (Nat → Int32) → Prop) : Prop :=
  q_X5_told g_goods x2 (fun r1 => Q r1 g_refusals)
def q_X5_together_L19 (x1 : Int32) (g_n : Int32) (g_goods : Int32) (g_refusals : Nat → Int32) (g_good : Nat → Int32) (Q : Int32 → (Nat → Int32) → Prop) : Nat → Int32 → Int32 → Prop
  | 0 => fun _ _ => False
  | n + 1 => fun x2 x3 => (g_goods ≤ x3 → q_X5_together_J55 x2 g_goods g_refusals Q) ∧ (¬ g_goods ≤ x3 → vp_in x3 40320 ∧ q_X5_isTogether g_n (g_good (Int32.toNatClampNeg x3)) x1 (fun b4 => ∀ t7 : Int32, t7 = (if (bI b4) = 0 then 0 else 1) → ∀ x2_8 : Int32, x2_8 = (x2 + t7) → (q_X5_together_L19 x1 g_n g_goods g_refusals g_good Q n) x2_8 (x3 + 1)))
def q_X5_together (g_n : Int32) (g_goods : Int32) (g_refusals : Nat → Int32) (g_good : Nat → Int32) (x1 : Int32) (Q : Int32 → (Nat → Int32) → Prop) : Prop :=
  q_X5_isSet g_n x1 (fun b2 => (b2 = true → ∃ N : Nat, q_X5_together_L19 x1 g_n g_goods g_refusals g_good Q N 0 0) ∧ (b2 = false → q_X5_refuse g_refusals ((-2) : Int32) (fun r5 g_refusals_4 => Q r5 g_refusals_4)))
set_option maxRecDepth 100000 in
set_option maxHeartbeats 4000000 in
theorem c_X5_together (l : Launch) (dC : Nat → ClassId) (dI : Nat → Nat → Nat) (cI cZ : ClassId) (a_this a_refusals a_good : Nat) (z_lines z_set z_state z_weight z_all z_many z_trial z_isKnown z_always z_knot z_knots z_part z_parts : Value) (g_n : Int32) (g_goods : Int32) (g_refusals : Nat → Int32) (g_good : Nat → Int32) (x1 : Int32) (Q : Int32 → (Nat → Int32) → Prop) (h : q_X5_together g_n g_goods g_refusals g_good x1 Q) : MI l yX5_together wsX5_together rX5_together (dC, dI) [(cI, .int), (cZ, .boolean)] [.ref a_this, .int x1] [(a_this, .inr (5, [.ref a_refusals, .int g_n, z_lines, z_set, z_state, z_weight, z_all, .ref a_good, z_many, .int g_goods, z_trial, z_isKnown, z_always, z_knot, z_knots, z_part, z_parts])), (a_refusals, .inl (cI, 7, .inl g_refusals)), (a_good, .inl (cI, 40320, .inl g_good))] (fun (r : Int32) (u : (Nat → Int32)) => Q r u) (fun u : (Nat → Int32) => [(a_this, .inr (5, [.ref a_refusals, .int g_n, z_lines, z_set, z_state, z_weight, z_all, .ref a_good, z_many, .int g_goods, z_trial, z_isKnown, z_always, z_knot, z_knots, z_part, z_parts])), (a_refusals, .inl (cI, 7, .inl u)), (a_good, .inl (cI, 40320, .inl g_good))]) := by
  refine MI.of (cc := cX5_together) (maxL := 4) (by decide +kernel) rfl (Nat.le_of_ble_eq_true rfl) ?_
  intro p e s m args below meth c A QQ ls hx hb hml hown hts hA hK hP hD hS hNW ret hl
  have hl : lv_has ls 4 [(0, .ref a_this), (1, .int x1)] := hl
  have hown : s.vm.findClass RX5 = some m.cls := hown
  have in5 : ∀ w ∈ u_ws RX5 TX5 17, w ∈ wsX5_together := fun _ w9 => List.mem_cons_of_mem _ (List.mem_append_right _ w9)
  have f26 := hts (.fieldLink RX5 26 "OnesDeskModel" "good" "[I") (by decide +kernel)
  have f60 := hts (.fieldLink RX5 60 "OnesDeskModel" "goods" "I") (by decide +kernel)
  refine lv_aload_n hx hb dX5_together_0 rfl (lv_at hl 0 rfl) ?_
  refine lv_iload_n hx hb dX5_together_1 rfl (lv_at hl 1 rfl) ?_
  refine MI.callV (As := [.int x1]) (rest := []) (wr := [(a_refusals, .inl (cI, 7, .inl g_refusals)), (a_good, .inl (cI, 40320, .inl g_good))]) (ci := 5) (q0 := 0) (c_X5_isSet l dC dI cI cZ a_this (.ref a_refusals) z_lines z_set z_state z_weight z_all (.ref a_good) z_many (.int g_goods) z_trial z_isKnown z_always z_knot z_knots z_part z_parts g_n x1 _ h) ⟨hx, hb, hml, hown, hts⟩ (cwV 1 hts gX5_together_X5_isSet rfl rfl rfl (by decide +kernel) ⟨Nat.le_of_ble_eq_true rfl, Nat.le_of_ble_eq_true rfl⟩) hK hP hD hS hA hNW [0] [1, 2] rfl rfl (by decide) (by decide) (by decide) rfl rfl rfl rfl hl.1 rfl (Nat.le_of_ble_eq_true rfl) dX5_together_2 ⟨Nat.zero_le _, Nat.zero_le _⟩ (fun r1 u H locs hw hP hD hS => ?_)
  obtain ⟨b2, rfl, hw⟩ := hw
  have h := hw
  try dsimp only at h
  have hP : va_P (dC, dI) vwCl [(a_refusals, .inl (cI, 7, .inl g_refusals)), (a_good, .inl (cI, 40320, .inl g_good)), (a_this, .inr (5, [.ref a_refusals, .int g_n, z_lines, z_set, z_state, z_weight, z_all, .ref a_good, z_many, .int g_goods, z_trial, z_isKnown, z_always, z_knot, z_knots, z_part, z_parts]))] H := hP
  have hD : va_D A [(a_refusals, .inl (cI, 7, .inl g_refusals)), (a_good, .inl (cI, 40320, .inl g_good)), (a_this, .inr (5, [.ref a_refusals, .int g_n, z_lines, z_set, z_state, z_weight, z_all, .ref a_good, z_many, .int g_goods, z_trial, z_isKnown, z_always, z_knot, z_knots, z_part, z_parts]))] := hD
  refine lv_if_ne (tgt := 15) hx hb dX5_together_5 (by decide) (fun k3 => ?_) (fun k3 => ?_)
  · have h := h.1 (bI_1 k3)
    refine lv_iconst (v := 0) hx hb dX5_together_15 (by decide) ?_
    refine lv_istore_n (lv' := [(2, .int 0), (0, .ref a_this), (1, .int x1)]) hx hb dX5_together_16 rfl hl (by decide) rfl (fun ls hl => ?_)
    refine lv_iconst (v := 0) hx hb dX5_together_17 (by decide) ?_
    refine lv_istore_n (lv' := [(3, .int 0), (2, .int 0), (0, .ref a_this), (1, .int x1)]) hx hb dX5_together_18 rfl hl (by decide) rfl (fun ls hl => ?_)
    have L19 : ∀ (n19 : Nat), ∀ (x2 : Int32) (x3 : Int32), q_X5_together_L19 x1 g_n g_goods g_refusals g_good Q n19 x2 x3 → ∀ (H : Heap) (locs : List Loc) (ls : Array Slot), va_P (dC, dI) vwCl [(a_this, .inr (5, [.ref a_refusals, .int g_n, z_lines, z_set, z_state, z_weight, z_all, .ref a_good, z_many, .int g_goods, z_trial, z_isKnown, z_always, z_knot, z_knots, z_part, z_parts])), (a_refusals, .inl (cI, 7, .inl g_refusals)), (a_good, .inl (cI, 40320, .inl g_good))] H → va_D A [(a_this, .inr (5, [.ref a_refusals, .int g_n, z_lines, z_set, z_state, z_weight, z_all, .ref a_good, z_many, .int g_goods, z_trial, z_isKnown, z_always, z_knot, z_knots, z_part, z_parts])), (a_refusals, .inl (cI, 7, .inl g_refusals)), (a_good, .inl (cI, 40320, .inl g_good))] → va_S A s.heap H locs → lv_has ls 4 [(0, .ref a_this), (1, .int x1), (2, .int x2), (3, .int x3)] → W p l e rX5_together s m args below meth c H locs 0 0 QQ (F0 m 19 ls []) := by
      intro n19
      induction n19 with
      | zero => intro x2 x3 h; exact False.elim h
      | succ n19 ih19 =>
        intro x2 x3 h H locs ls hP hD hS hl
        refine lv_iload_n hx hb dX5_together_19 rfl (lv_at hl 3 rfl) ?_
        refine lv_aload_n hx hb dX5_together_20 rfl (lv_at hl 0 rfl) ?_
        refine va_get (D := (dC, dI)) (ci := 5) (v := .int g_goods) (C := RX5) (T := TX5) (N := 17) hx hb hts in5 hown hK hP 0 rfl rfl 9 (by decide) f60 (fun _ h9 => h9) rfl dX5_together_21 ?_
        refine lv_icmp_ge (tgt := 55) hx hb dX5_together_24 (by decide) (fun k1 => ?_) (fun k1 => ?_)
        · have h := h.1 k1
          have J55 : q_X5_together_J55 x2 g_goods g_refusals Q → ∀ (H : Heap) (locs : List Loc) (ls : Array Slot), va_P (dC, dI) vwCl [(a_this, .inr (5, [.ref a_refusals, .int g_n, z_lines, z_set, z_state, z_weight, z_all, .ref a_good, z_many, .int g_goods, z_trial, z_isKnown, z_always, z_knot, z_knots, z_part, z_parts])), (a_refusals, .inl (cI, 7, .inl g_refusals)), (a_good, .inl (cI, 40320, .inl g_good))] H → va_D A [(a_this, .inr (5, [.ref a_refusals, .int g_n, z_lines, z_set, z_state, z_weight, z_all, .ref a_good, z_many, .int g_goods, z_trial, z_isKnown, z_always, z_knot, z_knots, z_part, z_parts])), (a_refusals, .inl (cI, 7, .inl g_refusals)), (a_good, .inl (cI, 40320, .inl g_good))] → va_S A s.heap H locs → lv_has ls 4 [(0, .ref a_this), (2, .int x2)] → W p l e rX5_together s m args below meth c H locs 0 0 QQ (F0 m 55 ls []) := by
            intro  h H locs ls hP hD hS hl
            refine lv_aload_n hx hb dX5_together_55 rfl (lv_at hl 0 rfl) ?_
            refine lv_iload_n hx hb dX5_together_56 rfl (lv_at hl 1 rfl) ?_
            refine MI.callV (As := [.int x2]) (rest := []) (wr := [(a_refusals, .inl (cI, 7, .inl g_refusals)), (a_good, .inl (cI, 40320, .inl g_good))]) (ci := 5) (q0 := 0) (c_X5_told l dC dI cI cZ a_this (.ref a_refusals) (.int g_n) z_lines z_set z_state z_weight z_all (.ref a_good) z_many z_trial z_isKnown z_always z_knot z_knots z_part z_parts g_goods x2 _ h) ⟨hx, hb, hml, hown, hts⟩ (cwV 1 hts gX5_together_X5_told rfl rfl rfl (by decide +kernel) ⟨Nat.le_of_ble_eq_true rfl, Nat.le_of_ble_eq_true rfl⟩) hK hP hD hS hA hNW [0] [1, 2] rfl rfl (by decide) (by decide) (by decide) rfl rfl rfl rfl hl.1 rfl (Nat.le_of_ble_eq_true rfl) dX5_together_57 ⟨Nat.zero_le _, Nat.zero_le _⟩ (fun r1 u H locs hw hP hD hS => ?_)
            have h := hw
            try dsimp only at h
            have hP : va_P (dC, dI) vwCl [(a_refusals, .inl (cI, 7, .inl g_refusals)), (a_good, .inl (cI, 40320, .inl g_good)), (a_this, .inr (5, [.ref a_refusals, .int g_n, z_lines, z_set, z_state, z_weight, z_all, .ref a_good, z_many, .int g_goods, z_trial, z_isKnown, z_always, z_knot, z_knots, z_part, z_parts]))] H := hP
            have hD : va_D A [(a_refusals, .inl (cI, 7, .inl g_refusals)), (a_good, .inl (cI, 40320, .inl g_good)), (a_this, .inr (5, [.ref a_refusals, .int g_n, z_lines, z_set, z_state, z_weight, z_all, .ref a_good, z_many, .int g_goods, z_trial, z_isKnown, z_always, z_knot, z_knots, z_part, z_parts]))] := hD
            exact ret _ _ _ _ r1 g_refusals dX5_together_60 h (reP hP [2, 0, 1] rfl) (hD.sub [2, 0, 1] (by decide) rfl) hS
          exact J55 h _ _ _ (reP hP [0, 1, 2] rfl) (hD.sub [0, 1, 2] (by decide) rfl) hS (lv_sub hl [0, 2] rfl)
        · have h := h.2 k1
          refine lv_iload_n hx hb dX5_together_27 rfl (lv_at hl 2 rfl) ?_
          refine lv_aload_n hx hb dX5_together_28 rfl (lv_at hl 0 rfl) ?_
          refine lv_aload_n hx hb dX5_together_29 rfl (lv_at hl 0 rfl) ?_
          refine va_get (D := (dC, dI)) (ci := 5) (v := .ref a_good) (C := RX5) (T := TX5) (N := 17) hx hb hts in5 hown hK hP 0 rfl rfl 7 (by decide) f26 (fun _ h9 => h9) rfl dX5_together_30 ?_
          refine lv_iload_n hx hb dX5_together_33 rfl (lv_at hl 3 rfl) ?_
          obtain ⟨hi2, h⟩ := h
          refine va_iald (D := (dC, dI)) hx hb hK hP 2 0 rfl rfl hi2 dX5_together_34 ?_
          refine lv_iload_n hx hb dX5_together_35 rfl (lv_at hl 1 rfl) ?_
          refine MI.callV (As := [.int (g_good (Int32.toNatClampNeg x3)), .int x1]) (rest := [.int x2]) (wr := [(a_refusals, .inl (cI, 7, .inl g_refusals)), (a_good, .inl (cI, 40320, .inl g_good))]) (ci := 5) (q0 := 0) (c_X5_isTogether l dC dI cI cZ a_this (.ref a_refusals) z_lines z_set z_state z_weight z_all (.ref a_good) z_many (.int g_goods) z_trial z_isKnown z_always z_knot z_knots z_part z_parts g_n (g_good (Int32.toNatClampNeg x3)) x1 _ h) ⟨hx, hb, hml, hown, hts⟩ (cwV 2 hts gX5_together_X5_isTogether rfl rfl rfl (by decide +kernel) ⟨Nat.le_of_ble_eq_true rfl, Nat.le_of_ble_eq_true rfl⟩) hK hP hD hS hA hNW [0] [1, 2] rfl rfl (by decide) (by decide) (by decide) rfl rfl rfl rfl hl.1 rfl (Nat.le_of_ble_eq_true rfl) dX5_together_36 ⟨Nat.zero_le _, Nat.zero_le _⟩ (fun r3 u H locs hw hP hD hS => ?_)
          obtain ⟨b4, rfl, hw⟩ := hw
          have h := hw
          try dsimp only at h
          have hP : va_P (dC, dI) vwCl [(a_refusals, .inl (cI, 7, .inl g_refusals)), (a_good, .inl (cI, 40320, .inl g_good)), (a_this, .inr (5, [.ref a_refusals, .int g_n, z_lines, z_set, z_state, z_weight, z_all, .ref a_good, z_many, .int g_goods, z_trial, z_isKnown, z_always, z_knot, z_knots, z_part, z_parts]))] H := hP
          have hD : va_D A [(a_refusals, .inl (cI, 7, .inl g_refusals)), (a_good, .inl (cI, 40320, .inl g_good)), (a_this, .inr (5, [.ref a_refusals, .int g_n, z_lines, z_set, z_state, z_weight, z_all, .ref a_good, z_many, .int g_goods, z_trial, z_isKnown, z_always, z_knot, z_knots, z_part, z_parts]))] := hD
          have K5 : ∀ t7 : Int32, t7 = (if (bI b4) = 0 then 0 else 1) → W p l e rX5_together s m args below meth c H locs 0 0 QQ (F0 m 47 ls [.int t7, .int x2]) := by
            intro t7 et7
            have h := h t7 et7
            refine lv_iadd hx hb dX5_together_47 ?_
            refine lv_topi (fun x2_8 ex2_8 => ?_)
            have h := h x2_8 ex2_8
            refine lv_istore_n (lv' := [(2, .int x2_8), (0, .ref a_this), (1, .int x1), (3, .int x3)]) hx hb dX5_together_48 rfl hl (by decide) rfl (fun ls hl => ?_)
            refine lv_iinc (v := x3 + 1) (lv' := [(3, .int (x3 + 1)), (2, .int x2_8), (0, .ref a_this), (1, .int x1)]) hx hb dX5_together_49 hl (k := 3) rfl rfl (by decide) rfl (fun ls hl => ?_)
            refine lv_goto (tgt := 19) hx hb dX5_together_52 (by decide) ?_
            exact ih19 x2_8 (x3 + 1) h _ _ _ (reP hP [2, 0, 1] rfl) (hD.sub [2, 0, 1] (by decide) rfl) hS (lv_sub hl [2, 3, 1, 0] rfl)
          refine lv_if_eq (tgt := 46) hx hb dX5_together_39 (by decide) (fun k6 => ?_) (fun k6 => ?_)
          · refine lv_iconst (v := 0) hx hb dX5_together_46 (by decide) ?_
            exact K5 _ (by rw [if_pos k6])
          · refine lv_iconst (v := 1) hx hb dX5_together_42 (by decide) ?_
            refine lv_goto (tgt := 47) hx hb dX5_together_43 (by decide) ?_
            exact K5 _ (by rw [if_neg k6])
    obtain ⟨n, h⟩ := h
    exact L19 n 0 0 h _ _ _ (reP hP [2, 0, 1] rfl) (hD.sub [2, 0, 1] (by decide) rfl) hS (lv_sub hl [2, 3, 1, 0] rfl)
  · have h := h.2 (bI_0 k3)
    refine lv_aload_n hx hb dX5_together_8 rfl (lv_at hl 0 rfl) ?_
    refine lv_bipush (v := (-2)) hx hb dX5_together_9 (by decide) ?_
    refine MI.callV (As := [.int (-2)]) (rest := []) (wr := [(a_good, .inl (cI, 40320, .inl g_good))]) (ci := 5) (q0 := 0) (c_X5_refuse l dC dI cI cZ a_this a_refusals (.int g_n) z_lines z_set z_state z_weight z_all (.ref a_good) z_many (.int g_goods) z_trial z_isKnown z_always z_knot z_knots z_part z_parts g_refusals ((-2) : Int32) _ h) ⟨hx, hb, hml, hown, hts⟩ (cwV 1 hts gX5_together_X5_refuse rfl rfl rfl (by decide +kernel) ⟨Nat.le_of_ble_eq_true rfl, Nat.le_of_ble_eq_true rfl⟩) hK hP hD hS hA hNW [2, 0] [1] rfl rfl (by decide) (by decide) (by decide) rfl rfl rfl rfl hl.1 rfl (Nat.le_of_ble_eq_true rfl) dX5_together_11 ⟨Nat.zero_le _, Nat.zero_le _⟩ (fun r5 u H locs hw hP hD hS => ?_)
    obtain ⟨g_refusals_4, rfl⟩ : ∃ z, z = u := ⟨_, rfl⟩
    have h := hw
    try dsimp only at h
    have hP : va_P (dC, dI) vwCl [(a_good, .inl (cI, 40320, .inl g_good)), (a_this, .inr (5, [.ref a_refusals, .int g_n, z_lines, z_set, z_state, z_weight, z_all, .ref a_good, z_many, .int g_goods, z_trial, z_isKnown, z_always, z_knot, z_knots, z_part, z_parts])), (a_refusals, .inl (cI, 7, .inl g_refusals_4))] H := hP
    have hD : va_D A [(a_good, .inl (cI, 40320, .inl g_good)), (a_this, .inr (5, [.ref a_refusals, .int g_n, z_lines, z_set, z_state, z_weight, z_all, .ref a_good, z_many, .int g_goods, z_trial, z_isKnown, z_always, z_knot, z_knots, z_part, z_parts])), (a_refusals, .inl (cI, 7, .inl g_refusals_4))] := hD
    exact ret _ _ _ _ r5 g_refusals_4 dX5_together_14 h (reP hP [1, 2, 0] rfl) (hD.sub [1, 2, 0] (by decide) rfl) hS
/-! ### X5_round round(I)I -/
def rX5_round : Room := { frames := 3, cells := 0, slots := 0, locals := 70 }
def q_X5_round_J86 (x3 : Int32) (g_goods : Int32) (g_refusals : Nat → Int32) (Q : Int32 → (Nat → Int32) → Prop) : Prop :=
  q_X5_told g_goods x3 (fun r1 => Q r1 g_refusals)
def q_X5_round_L33 (x1 : Int32) (x2 : Int32) (g_n : Int32) (g_goods : Int32) (g_refusals : Nat → Int32) (g_good : Nat → Int32) (Q : Int32 → (Nat → Int32) → Prop) : Nat → Int32 → Int32 → Prop
  | 0 => fun _ _ => False
  | n + 1 => fun x3 x4 => (g_goods ≤ x4 → q_X5_round_J86 x3 g_goods g_refusals Q) ∧ (¬ g_goods ≤ x4 → vp_in x4 40320 ∧ q_X5_isTogether g_n (g_good (Int32.toNatClampNeg x4)) x1 (fun b4 => (b4 = true → ∀ x3_6 : Int32, x3_6 = (x3 + 1) → (q_X5_round_L33 x1 x2 g_n g_goods g_refusals g_good Q n) x3_6 (x4 + 1)) ∧ (b4 = false → q_X5_isTogether g_n (g_good (Int32.toNatClampNeg x4)) x2 (fun b8 => (b8 = false → ∀ x3_10 : Int32, x3_10 = (x3 + 0) → (q_X5_round_L33 x1 x2 g_n g_goods g_refusals g_good Q n) x3_10 (x4 + 1)) ∧ (b8 = true → ∀ x3_11 : Int32, x3_11 = (x3 + 1) → (q_X5_round_L33 x1 x2 g_n g_goods g_refusals g_good Q n) x3_11 (x4 + 1))))))
def q_X5_round (g_n : Int32) (g_goods : Int32) (g_refusals : Nat → Int32) (g_good : Nat → Int32) (x1 : Int32) (Q : Int32 → (Nat → Int32) → Prop) : Prop :=
  q_X5_isSet g_n x1 (fun b2 => (b2 = true → ∀ x2 : Int32, x2 = (((1 <<< (g_n &&& 31)) - 1) &&& (x1 ^^^ (-1))) → ∃ N : Nat, q_X5_round_L33 x1 x2 g_n g_goods g_refusals g_good Q N 0 0) ∧ (b2 = false → q_X5_refuse g_refusals ((-2) : Int32) (fun r5 g_refusals_4 => Q r5 g_refusals_4)))
set_option maxRecDepth 100000 in
set_option maxHeartbeats 4000000 in
theorem c_X5_round (l : Launch) (dC : Nat → ClassId) (dI : Nat → Nat → Nat) (cI cZ : ClassId) (a_this a_refusals a_good : Nat) (z_lines z_set z_state z_weight z_all z_many z_trial z_isKnown z_always z_knot z_knots z_part z_parts : Value) (g_n : Int32) (g_goods : Int32) (g_refusals : Nat → Int32) (g_good : Nat → Int32) (x1 : Int32) (Q : Int32 → (Nat → Int32) → Prop) (h : q_X5_round g_n g_goods g_refusals g_good x1 Q) : MI l yX5_round wsX5_round rX5_round (dC, dI) [(cI, .int), (cZ, .boolean)] [.ref a_this, .int x1] [(a_this, .inr (5, [.ref a_refusals, .int g_n, z_lines, z_set, z_state, z_weight, z_all, .ref a_good, z_many, .int g_goods, z_trial, z_isKnown, z_always, z_knot, z_knots, z_part, z_parts])), (a_refusals, .inl (cI, 7, .inl g_refusals)), (a_good, .inl (cI, 40320, .inl g_good))] (fun (r : Int32) (u : (Nat → Int32)) => Q r u) (fun u : (Nat → Int32) => [(a_this, .inr (5, [.ref a_refusals, .int g_n, z_lines, z_set, z_state, z_weight, z_all, .ref a_good, z_many, .int g_goods, z_trial, z_isKnown, z_always, z_knot, z_knots, z_part, z_parts])), (a_refusals, .inl (cI, 7, .inl u)), (a_good, .inl (cI, 40320, .inl g_good))]) := by
  refine MI.of (cc := cX5_round) (maxL := 5) (by decide +kernel) rfl (Nat.le_of_ble_eq_true rfl) ?_
  intro p e s m args below meth c A QQ ls hx hb hml hown hts hA hK hP hD hS hNW ret hl
  have hl : lv_has ls 5 [(0, .ref a_this), (1, .int x1)] := hl
  have hown : s.vm.findClass RX5 = some m.cls := hown
  have in5 : ∀ w ∈ u_ws RX5 TX5 17, w ∈ wsX5_round := fun _ w9 => List.mem_cons_of_mem _ (List.mem_append_right _ w9)
  have f26 := hts (.fieldLink RX5 26 "OnesDeskModel" "good" "[I") (by decide +kernel)
  have f46 := hts (.fieldLink RX5 46 "OnesDeskModel" "n" "I") (by decide +kernel)
  have f60 := hts (.fieldLink RX5 60 "OnesDeskModel" "goods" "I") (by decide +kernel)
  refine lv_aload_n hx hb dX5_round_0 rfl (lv_at hl 0 rfl) ?_
  refine lv_iload_n hx hb dX5_round_1 rfl (lv_at hl 1 rfl) ?_
  refine MI.callV (As := [.int x1]) (rest := []) (wr := [(a_refusals, .inl (cI, 7, .inl g_refusals)), (a_good, .inl (cI, 40320, .inl g_good))]) (ci := 5) (q0 := 0) (c_X5_isSet l dC dI cI cZ a_this (.ref a_refusals) z_lines z_set z_state z_weight z_all (.ref a_good) z_many (.int g_goods) z_trial z_isKnown z_always z_knot z_knots z_part z_parts g_n x1 _ h) ⟨hx, hb, hml, hown, hts⟩ (cwV 1 hts gX5_round_X5_isSet rfl rfl rfl (by decide +kernel) ⟨Nat.le_of_ble_eq_true rfl, Nat.le_of_ble_eq_true rfl⟩) hK hP hD hS hA hNW [0] [1, 2] rfl rfl (by decide) (by decide) (by decide) rfl rfl rfl rfl hl.1 rfl (Nat.le_of_ble_eq_true rfl) dX5_round_2 ⟨Nat.zero_le _, Nat.zero_le _⟩ (fun r1 u H locs hw hP hD hS => ?_)
  obtain ⟨b2, rfl, hw⟩ := hw
  have h := hw
  try dsimp only at h
  have hP : va_P (dC, dI) vwCl [(a_refusals, .inl (cI, 7, .inl g_refusals)), (a_good, .inl (cI, 40320, .inl g_good)), (a_this, .inr (5, [.ref a_refusals, .int g_n, z_lines, z_set, z_state, z_weight, z_all, .ref a_good, z_many, .int g_goods, z_trial, z_isKnown, z_always, z_knot, z_knots, z_part, z_parts]))] H := hP
  have hD : va_D A [(a_refusals, .inl (cI, 7, .inl g_refusals)), (a_good, .inl (cI, 40320, .inl g_good)), (a_this, .inr (5, [.ref a_refusals, .int g_n, z_lines, z_set, z_state, z_weight, z_all, .ref a_good, z_many, .int g_goods, z_trial, z_isKnown, z_always, z_knot, z_knots, z_part, z_parts]))] := hD
  refine lv_if_ne (tgt := 15) hx hb dX5_round_5 (by decide) (fun k3 => ?_) (fun k3 => ?_)
  · have h := h.1 (bI_1 k3)
    refine lv_iconst (v := 1) hx hb dX5_round_15 (by decide) ?_
    refine lv_aload_n hx hb dX5_round_16 rfl (lv_at hl 0 rfl) ?_
    refine va_get (D := (dC, dI)) (ci := 5) (v := .int g_n) (C := RX5) (T := TX5) (N := 17) hx hb hts in5 hown hK hP 2 rfl rfl 1 (by decide) f46 (fun _ h9 => h9) rfl dX5_round_17 ?_
    refine lv_ishl hx hb dX5_round_20 ?_
    refine lv_iconst (v := 1) hx hb dX5_round_21 (by decide) ?_
    refine lv_isub hx hb dX5_round_22 ?_
    refine lv_iload_n hx hb dX5_round_23 rfl (lv_at hl 1 rfl) ?_
    refine lv_iconst (v := (-1)) hx hb dX5_round_24 (by decide) ?_
    refine lv_ixor hx hb dX5_round_25 ?_
    refine lv_iand hx hb dX5_round_26 ?_
    refine lv_topi (fun x2 ex2 => ?_)
    have h := h x2 ex2
    refine lv_istore_n (lv' := [(2, .int x2), (0, .ref a_this), (1, .int x1)]) hx hb dX5_round_27 rfl hl (by decide) rfl (fun ls hl => ?_)
    refine lv_iconst (v := 0) hx hb dX5_round_28 (by decide) ?_
    refine lv_istore_n (lv' := [(3, .int 0), (2, .int x2), (0, .ref a_this), (1, .int x1)]) hx hb dX5_round_29 rfl hl (by decide) rfl (fun ls hl => ?_)
    refine lv_iconst (v := 0) hx hb dX5_round_30 (by decide) ?_
    refine lv_istore (lv' := [(4, .int 0), (3, .int 0), (2, .int x2), (0, .ref a_this), (1, .int x1)]) hx hb dX5_round_31 hl (by decide) rfl (fun ls hl => ?_)
    have L33 : ∀ (n33 : Nat), ∀ (x3 : Int32) (x4 : Int32), q_X5_round_L33 x1 x2 g_n g_goods g_refusals g_good Q n33 x3 x4 → ∀ (H : Heap) (locs : List Loc) (ls : Array Slot), va_P (dC, dI) vwCl [(a_this, .inr (5, [.ref a_refusals, .int g_n, z_lines, z_set, z_state, z_weight, z_all, .ref a_good, z_many, .int g_goods, z_trial, z_isKnown, z_always, z_knot, z_knots, z_part, z_parts])), (a_refusals, .inl (cI, 7, .inl g_refusals)), (a_good, .inl (cI, 40320, .inl g_good))] H → va_D A [(a_this, .inr (5, [.ref a_refusals, .int g_n, z_lines, z_set, z_state, z_weight, z_all, .ref a_good, z_many, .int g_goods, z_trial, z_isKnown, z_always, z_knot, z_knots, z_part, z_parts])), (a_refusals, .inl (cI, 7, .inl g_refusals)), (a_good, .inl (cI, 40320, .inl g_good))] → va_S A s.heap H locs → lv_has ls 5 [(0, .ref a_this), (1, .int x1), (2, .int x2), (3, .int x3), (4, .int x4)] → W p l e rX5_round s m args below meth c H locs 0 0 QQ (F0 m 33 ls []) := by
      intro n33
      induction n33 with
      | zero => intro x3 x4 h; exact False.elim h
      | succ n33 ih33 =>
        intro x3 x4 h H locs ls hP hD hS hl
        refine lv_iload hx hb dX5_round_33 (lv_at hl 4 rfl) ?_
        refine lv_aload_n hx hb dX5_round_35 rfl (lv_at hl 0 rfl) ?_
        refine va_get (D := (dC, dI)) (ci := 5) (v := .int g_goods) (C := RX5) (T := TX5) (N := 17) hx hb hts in5 hown hK hP 0 rfl rfl 9 (by decide) f60 (fun _ h9 => h9) rfl dX5_round_36 ?_
        refine lv_icmp_ge (tgt := 86) hx hb dX5_round_39 (by decide) (fun k1 => ?_) (fun k1 => ?_)
        · have h := h.1 k1
          have J86 : q_X5_round_J86 x3 g_goods g_refusals Q → ∀ (H : Heap) (locs : List Loc) (ls : Array Slot), va_P (dC, dI) vwCl [(a_this, .inr (5, [.ref a_refusals, .int g_n, z_lines, z_set, z_state, z_weight, z_all, .ref a_good, z_many, .int g_goods, z_trial, z_isKnown, z_always, z_knot, z_knots, z_part, z_parts])), (a_refusals, .inl (cI, 7, .inl g_refusals)), (a_good, .inl (cI, 40320, .inl g_good))] H → va_D A [(a_this, .inr (5, [.ref a_refusals, .int g_n, z_lines, z_set, z_state, z_weight, z_all, .ref a_good, z_many, .int g_goods, z_trial, z_isKnown, z_always, z_knot, z_knots, z_part, z_parts])), (a_refusals, .inl (cI, 7, .inl g_refusals)), (a_good, .inl (cI, 40320, .inl g_good))] → va_S A s.heap H locs → lv_has ls 5 [(0, .ref a_this), (3, .int x3)] → W p l e rX5_round s m args below meth c H locs 0 0 QQ (F0 m 86 ls []) := by
            intro  h H locs ls hP hD hS hl
            refine lv_aload_n hx hb dX5_round_86 rfl (lv_at hl 0 rfl) ?_
            refine lv_iload_n hx hb dX5_round_87 rfl (lv_at hl 1 rfl) ?_
            refine MI.callV (As := [.int x3]) (rest := []) (wr := [(a_refusals, .inl (cI, 7, .inl g_refusals)), (a_good, .inl (cI, 40320, .inl g_good))]) (ci := 5) (q0 := 0) (c_X5_told l dC dI cI cZ a_this (.ref a_refusals) (.int g_n) z_lines z_set z_state z_weight z_all (.ref a_good) z_many z_trial z_isKnown z_always z_knot z_knots z_part z_parts g_goods x3 _ h) ⟨hx, hb, hml, hown, hts⟩ (cwV 1 hts gX5_round_X5_told rfl rfl rfl (by decide +kernel) ⟨Nat.le_of_ble_eq_true rfl, Nat.le_of_ble_eq_true rfl⟩) hK hP hD hS hA hNW [0] [1, 2] rfl rfl (by decide) (by decide) (by decide) rfl rfl rfl rfl hl.1 rfl (Nat.le_of_ble_eq_true rfl) dX5_round_88 ⟨Nat.zero_le _, Nat.zero_le _⟩ (fun r1 u H locs hw hP hD hS => ?_)
            have h := hw
            try dsimp only at h
            have hP : va_P (dC, dI) vwCl [(a_refusals, .inl (cI, 7, .inl g_refusals)), (a_good, .inl (cI, 40320, .inl g_good)), (a_this, .inr (5, [.ref a_refusals, .int g_n, z_lines, z_set, z_state, z_weight, z_all, .ref a_good, z_many, .int g_goods, z_trial, z_isKnown, z_always, z_knot, z_knots, z_part, z_parts]))] H := hP
            have hD : va_D A [(a_refusals, .inl (cI, 7, .inl g_refusals)), (a_good, .inl (cI, 40320, .inl g_good)), (a_this, .inr (5, [.ref a_refusals, .int g_n, z_lines, z_set, z_state, z_weight, z_all, .ref a_good, z_many, .int g_goods, z_trial, z_isKnown, z_always, z_knot, z_knots, z_part, z_parts]))] := hD
            exact ret _ _ _ _ r1 g_refusals dX5_round_91 h (reP hP [2, 0, 1] rfl) (hD.sub [2, 0, 1] (by decide) rfl) hS
          exact J86 h _ _ _ (reP hP [0, 1, 2] rfl) (hD.sub [0, 1, 2] (by decide) rfl) hS (lv_sub hl [0, 3] rfl)
        · have h := h.2 k1
          refine lv_iload_n hx hb dX5_round_42 rfl (lv_at hl 3 rfl) ?_
          refine lv_aload_n hx hb dX5_round_43 rfl (lv_at hl 0 rfl) ?_
          refine lv_aload_n hx hb dX5_round_44 rfl (lv_at hl 0 rfl) ?_
          refine va_get (D := (dC, dI)) (ci := 5) (v := .ref a_good) (C := RX5) (T := TX5) (N := 17) hx hb hts in5 hown hK hP 0 rfl rfl 7 (by decide) f26 (fun _ h9 => h9) rfl dX5_round_45 ?_
          refine lv_iload hx hb dX5_round_48 (lv_at hl 4 rfl) ?_
          obtain ⟨hi2, h⟩ := h
          refine va_iald (D := (dC, dI)) hx hb hK hP 2 0 rfl rfl hi2 dX5_round_50 ?_
          refine lv_iload_n hx hb dX5_round_51 rfl (lv_at hl 1 rfl) ?_
          refine MI.callV (As := [.int (g_good (Int32.toNatClampNeg x4)), .int x1]) (rest := [.int x3]) (wr := [(a_refusals, .inl (cI, 7, .inl g_refusals)), (a_good, .inl (cI, 40320, .inl g_good))]) (ci := 5) (q0 := 0) (c_X5_isTogether l dC dI cI cZ a_this (.ref a_refusals) z_lines z_set z_state z_weight z_all (.ref a_good) z_many (.int g_goods) z_trial z_isKnown z_always z_knot z_knots z_part z_parts g_n (g_good (Int32.toNatClampNeg x4)) x1 _ h) ⟨hx, hb, hml, hown, hts⟩ (cwV 2 hts gX5_round_X5_isTogether rfl rfl rfl (by decide +kernel) ⟨Nat.le_of_ble_eq_true rfl, Nat.le_of_ble_eq_true rfl⟩) hK hP hD hS hA hNW [0] [1, 2] rfl rfl (by decide) (by decide) (by decide) rfl rfl rfl rfl hl.1 rfl (Nat.le_of_ble_eq_true rfl) dX5_round_52 ⟨Nat.zero_le _, Nat.zero_le _⟩ (fun r3 u H locs hw hP hD hS => ?_)
          obtain ⟨b4, rfl, hw⟩ := hw
          have h := hw
          try dsimp only at h
          have hP : va_P (dC, dI) vwCl [(a_refusals, .inl (cI, 7, .inl g_refusals)), (a_good, .inl (cI, 40320, .inl g_good)), (a_this, .inr (5, [.ref a_refusals, .int g_n, z_lines, z_set, z_state, z_weight, z_all, .ref a_good, z_many, .int g_goods, z_trial, z_isKnown, z_always, z_knot, z_knots, z_part, z_parts]))] H := hP
          have hD : va_D A [(a_refusals, .inl (cI, 7, .inl g_refusals)), (a_good, .inl (cI, 40320, .inl g_good)), (a_this, .inr (5, [.ref a_refusals, .int g_n, z_lines, z_set, z_state, z_weight, z_all, .ref a_good, z_many, .int g_goods, z_trial, z_isKnown, z_always, z_knot, z_knots, z_part, z_parts]))] := hD
          refine lv_if_ne (tgt := 73) hx hb dX5_round_55 (by decide) (fun k5 => ?_) (fun k5 => ?_)
          · have h := h.1 (bI_1 k5)
            refine lv_iconst (v := 1) hx hb dX5_round_73 (by decide) ?_
            refine lv_goto (tgt := 78) hx hb dX5_round_74 (by decide) ?_
            refine lv_iadd hx hb dX5_round_78 ?_
            refine lv_topi (fun x3_6 ex3_6 => ?_)
            have h := h x3_6 ex3_6
            refine lv_istore_n (lv' := [(3, .int x3_6), (0, .ref a_this), (1, .int x1), (2, .int x2), (4, .int x4)]) hx hb dX5_round_79 rfl hl (by decide) rfl (fun ls hl => ?_)
            refine lv_iinc (v := x4 + 1) (lv' := [(4, .int (x4 + 1)), (3, .int x3_6), (0, .ref a_this), (1, .int x1), (2, .int x2)]) hx hb dX5_round_80 hl (k := 4) rfl rfl (by decide) rfl (fun ls hl => ?_)
            refine lv_goto (tgt := 33) hx hb dX5_round_83 (by decide) ?_
            exact ih33 x3_6 (x4 + 1) h _ _ _ (reP hP [2, 0, 1] rfl) (hD.sub [2, 0, 1] (by decide) rfl) hS (lv_sub hl [2, 3, 4, 1, 0] rfl)
          · have h := h.2 (bI_0 k5)
            refine lv_aload_n hx hb dX5_round_58 rfl (lv_at hl 0 rfl) ?_
            refine lv_aload_n hx hb dX5_round_59 rfl (lv_at hl 0 rfl) ?_
            refine va_get (D := (dC, dI)) (ci := 5) (v := .ref a_good) (C := RX5) (T := TX5) (N := 17) hx hb hts in5 hown hK hP 2 rfl rfl 7 (by decide) f26 (fun _ h9 => h9) rfl dX5_round_60 ?_
            refine lv_iload hx hb dX5_round_63 (lv_at hl 4 rfl) ?_
            refine va_iald (D := (dC, dI)) hx hb hK hP 1 0 rfl rfl hi2 dX5_round_65 ?_
            refine lv_iload_n hx hb dX5_round_66 rfl (lv_at hl 2 rfl) ?_
            refine MI.callV (As := [.int (g_good (Int32.toNatClampNeg x4)), .int x2]) (rest := [.int x3]) (wr := [(a_refusals, .inl (cI, 7, .inl g_refusals)), (a_good, .inl (cI, 40320, .inl g_good))]) (ci := 5) (q0 := 0) (c_X5_isTogether l dC dI cI cZ a_this (.ref a_refusals) z_lines z_set z_state z_weight z_all (.ref a_good) z_many (.int g_goods) z_trial z_isKnown z_always z_knot z_knots z_part z_parts g_n (g_good (Int32.toNatClampNeg x4)) x2 _ h) ⟨hx, hb, hml, hown, hts⟩ (cwV 2 hts gX5_round_X5_isTogether rfl rfl rfl (by decide +kernel) ⟨Nat.le_of_ble_eq_true rfl, Nat.le_of_ble_eq_true rfl⟩) hK hP hD hS hA hNW [2] [0, 1] rfl rfl (by decide) (by decide) (by decide) rfl rfl rfl rfl hl.1 rfl (Nat.le_of_ble_eq_true rfl) dX5_round_67 ⟨Nat.zero_le _, Nat.zero_le _⟩ (fun r7 u H locs hw hP hD hS => ?_)
            obtain ⟨b8, rfl, hw⟩ := hw
            have h := hw
            try dsimp only at h
            have hP : va_P (dC, dI) vwCl [(a_refusals, .inl (cI, 7, .inl g_refusals)), (a_good, .inl (cI, 40320, .inl g_good)), (a_this, .inr (5, [.ref a_refusals, .int g_n, z_lines, z_set, z_state, z_weight, z_all, .ref a_good, z_many, .int g_goods, z_trial, z_isKnown, z_always, z_knot, z_knots, z_part, z_parts]))] H := hP
            have hD : va_D A [(a_refusals, .inl (cI, 7, .inl g_refusals)), (a_good, .inl (cI, 40320, .inl g_good)), (a_this, .inr (5, [.ref a_refusals, .int g_n, z_lines, z_set, z_state, z_weight, z_all, .ref a_good, z_many, .int g_goods, z_trial, z_isKnown, z_always, z_knot, z_knots, z_part, z_parts]))] := hD
            refine lv_if_eq (tgt := 77) hx hb dX5_round_70 (by decide) (fun k9 => ?_) (fun k9 => ?_)
            · have h := h.1 (bI_0 k9)
              refine lv_iconst (v := 0) hx hb dX5_round_77 (by decide) ?_
              refine lv_iadd hx hb dX5_round_78 ?_
              refine lv_topi (fun x3_10 ex3_10 => ?_)
              have h := h x3_10 ex3_10
              refine lv_istore_n (lv' := [(3, .int x3_10), (0, .ref a_this), (1, .int x1), (2, .int x2), (4, .int x4)]) hx hb dX5_round_79 rfl hl (by decide) rfl (fun ls hl => ?_)
              refine lv_iinc (v := x4 + 1) (lv' := [(4, .int (x4 + 1)), (3, .int x3_10), (0, .ref a_this), (1, .int x1), (2, .int x2)]) hx hb dX5_round_80 hl (k := 4) rfl rfl (by decide) rfl (fun ls hl => ?_)
              refine lv_goto (tgt := 33) hx hb dX5_round_83 (by decide) ?_
              exact ih33 x3_10 (x4 + 1) h _ _ _ (reP hP [2, 0, 1] rfl) (hD.sub [2, 0, 1] (by decide) rfl) hS (lv_sub hl [2, 3, 4, 1, 0] rfl)
            · have h := h.2 (bI_1 k9)
              refine lv_iconst (v := 1) hx hb dX5_round_73 (by decide) ?_
              refine lv_goto (tgt := 78) hx hb dX5_round_74 (by decide) ?_
              refine lv_iadd hx hb dX5_round_78 ?_
              refine lv_topi (fun x3_11 ex3_11 => ?_)
              have h := h x3_11 ex3_11
              refine lv_istore_n (lv' := [(3, .int x3_11), (0, .ref a_this), (1, .int x1), (2, .int x2), (4, .int x4)]) hx hb dX5_round_79 rfl hl (by decide) rfl (fun ls hl => ?_)
              refine lv_iinc (v := x4 + 1) (lv' := [(4, .int (x4 + 1)), (3, .int x3_11), (0, .ref a_this), (1, .int x1), (2, .int x2)]) hx hb dX5_round_80 hl (k := 4) rfl rfl (by decide) rfl (fun ls hl => ?_)
              refine lv_goto (tgt := 33) hx hb dX5_round_83 (by decide) ?_
              exact ih33 x3_11 (x4 + 1) h _ _ _ (reP hP [2, 0, 1] rfl) (hD.sub [2, 0, 1] (by decide) rfl) hS (lv_sub hl [2, 3, 4, 1, 0] rfl)
    obtain ⟨n, h⟩ := h
    exact L33 n 0 0 h _ _ _ (reP hP [2, 0, 1] rfl) (hD.sub [2, 0, 1] (by decide) rfl) hS (lv_sub hl [3, 4, 2, 1, 0] rfl)
  · have h := h.2 (bI_0 k3)
    refine lv_aload_n hx hb dX5_round_8 rfl (lv_at hl 0 rfl) ?_
    refine lv_bipush (v := (-2)) hx hb dX5_round_9 (by decide) ?_
    refine MI.callV (As := [.int (-2)]) (rest := []) (wr := [(a_good, .inl (cI, 40320, .inl g_good))]) (ci := 5) (q0 := 0) (c_X5_refuse l dC dI cI cZ a_this a_refusals (.int g_n) z_lines z_set z_state z_weight z_all (.ref a_good) z_many (.int g_goods) z_trial z_isKnown z_always z_knot z_knots z_part z_parts g_refusals ((-2) : Int32) _ h) ⟨hx, hb, hml, hown, hts⟩ (cwV 1 hts gX5_round_X5_refuse rfl rfl rfl (by decide +kernel) ⟨Nat.le_of_ble_eq_true rfl, Nat.le_of_ble_eq_true rfl⟩) hK hP hD hS hA hNW [2, 0] [1] rfl rfl (by decide) (by decide) (by decide) rfl rfl rfl rfl hl.1 rfl (Nat.le_of_ble_eq_true rfl) dX5_round_11 ⟨Nat.zero_le _, Nat.zero_le _⟩ (fun r5 u H locs hw hP hD hS => ?_)
    obtain ⟨g_refusals_4, rfl⟩ : ∃ z, z = u := ⟨_, rfl⟩
    have h := hw
    try dsimp only at h
    have hP : va_P (dC, dI) vwCl [(a_good, .inl (cI, 40320, .inl g_good)), (a_this, .inr (5, [.ref a_refusals, .int g_n, z_lines, z_set, z_state, z_weight, z_all, .ref a_good, z_many, .int g_goods, z_trial, z_isKnown, z_always, z_knot, z_knots, z_part, z_parts])), (a_refusals, .inl (cI, 7, .inl g_refusals_4))] H := hP
    have hD : va_D A [(a_good, .inl (cI, 40320, .inl g_good)), (a_this, .inr (5, [.ref a_refusals, .int g_n, z_lines, z_set, z_state, z_weight, z_all, .ref a_good, z_many, .int g_goods, z_trial, z_isKnown, z_always, z_knot, z_knots, z_part, z_parts])), (a_refusals, .inl (cI, 7, .inl g_refusals_4))] := hD
    exact ret _ _ _ _ r5 g_refusals_4 dX5_round_14 h (reP hP [1, 2, 0] rfl) (hD.sub [1, 2, 0] (by decide) rfl) hS
/-! ### X5_isColumn isColumn(I)Z -/
def rX5_isColumn : Room := { frames := 1, cells := 0, slots := 0, locals := 21 }
def q_X5_isColumn (g_n : Int32) (x1 : Int32) (Q : Bool → Prop) : Prop :=
  q_X5_isIn x1 g_n (fun b2 => Q b2)
set_option maxRecDepth 100000 in
set_option maxHeartbeats 4000000 in
theorem c_X5_isColumn (l : Launch) (dC : Nat → ClassId) (dI : Nat → Nat → Nat) (cI cZ : ClassId) (a_this : Nat) (z_refusals z_lines z_set z_state z_weight z_all z_good z_many z_goods z_trial z_isKnown z_always z_knot z_knots z_part z_parts : Value) (g_n : Int32) (x1 : Int32) (Q : Bool → Prop) (h : q_X5_isColumn g_n x1 Q) : MB l yX5_isColumn wsX5_isColumn rX5_isColumn (dC, dI) [(cI, .int), (cZ, .boolean)] [.ref a_this, .int x1] [(a_this, .inr (5, [z_refusals, .int g_n, z_lines, z_set, z_state, z_weight, z_all, z_good, z_many, z_goods, z_trial, z_isKnown, z_always, z_knot, z_knots, z_part, z_parts]))] (fun (r : Bool) (u : Unit) => Q r) (fun u : Unit => [(a_this, .inr (5, [z_refusals, .int g_n, z_lines, z_set, z_state, z_weight, z_all, z_good, z_many, z_goods, z_trial, z_isKnown, z_always, z_knot, z_knots, z_part, z_parts]))]) := by
  refine MB.of (cc := cX5_isColumn) (maxL := 2) (by decide +kernel) rfl (Nat.le_of_ble_eq_true rfl) ?_
  intro p e s m args below meth c A QQ ls hx hb hml hown hts hA hK hP hD hS hNW ret hl
  have hl : lv_has ls 2 [(0, .ref a_this), (1, .int x1)] := hl
  have hown : s.vm.findClass RX5 = some m.cls := hown
  have in5 : ∀ w ∈ u_ws RX5 TX5 17, w ∈ wsX5_isColumn := fun _ w9 => List.mem_cons_of_mem _ (List.mem_append_right _ w9)
  have f46 := hts (.fieldLink RX5 46 "OnesDeskModel" "n" "I") (by decide +kernel)
  refine lv_iload_n hx hb dX5_isColumn_0 rfl (lv_at hl 1 rfl) ?_
  refine lv_aload_n hx hb dX5_isColumn_1 rfl (lv_at hl 0 rfl) ?_
  refine va_get (D := (dC, dI)) (ci := 5) (v := .int g_n) (C := RX5) (T := TX5) (N := 17) hx hb hts in5 hown hK hP 0 rfl rfl 1 (by decide) f46 (fun _ h9 => h9) rfl dX5_isColumn_2 ?_
  refine MI.callS (As := [.int x1, .int g_n]) (rest := []) (wr := [(a_this, .inr (5, [z_refusals, .int g_n, z_lines, z_set, z_state, z_weight, z_all, z_good, z_many, z_goods, z_trial, z_isKnown, z_always, z_knot, z_knots, z_part, z_parts]))]) (c_X5_isIn l dC dI cI cZ x1 g_n _ h) ⟨hx, hb, hml, hown, hts⟩ (va_cwS 2 hts gX5_isColumn_X5_isIn rfl rfl rfl (by decide +kernel) ⟨Nat.le_of_ble_eq_true rfl, Nat.le_of_ble_eq_true rfl⟩) hK hP hD hS hA hNW [] [0] rfl rfl (by decide) (by decide) (by decide) rfl hl.1 rfl (Nat.le_of_ble_eq_true rfl) dX5_isColumn_5 ⟨Nat.zero_le _, Nat.zero_le _⟩ (fun r1 u H locs hw hP hD hS => ?_)
  obtain ⟨b2, rfl, hw⟩ := hw
  have h := hw
  try dsimp only at h
  have hP : va_P (dC, dI) vwCl [(a_this, .inr (5, [z_refusals, .int g_n, z_lines, z_set, z_state, z_weight, z_all, z_good, z_many, z_goods, z_trial, z_isKnown, z_always, z_knot, z_knots, z_part, z_parts]))] H := hP
  have hD : va_D A [(a_this, .inr (5, [z_refusals, .int g_n, z_lines, z_set, z_state, z_weight, z_all, z_good, z_many, z_goods, z_trial, z_isKnown, z_always, z_knot, z_knots, z_part, z_parts]))] := hD
  exact ret _ _ _ _ b2 () dX5_isColumn_8 h (reP hP [0] rfl) (hD.sub [0] (by decide) rfl) hS
/-! ### X5_between between(III)I -/
def rX5_between : Room := { frames := 2, cells := 0, slots := 0, locals := 45 }
def q_X5_between_J146 (x4 : Int32) (g_goods : Int32) (g_refusals : Nat → Int32) (Q : Int32 → (Nat → Int32) → Prop) : Prop :=
  q_X5_told g_goods x4 (fun r1 => Q r1 g_refusals)
def q_X5_between_L51 (x1 : Int32) (x2 : Int32) (x3 : Int32) (g_n : Int32) (g_goods : Int32) (g_refusals : Nat → Int32) (g_good : Nat → Int32) (Q : Int32 → (Nat → Int32) → Prop) : Nat → Int32 → Int32 → Prop
  | 0 => fun _ _ => False
  | n + 1 => fun x4 x5 => (g_goods ≤ x5 → q_X5_between_J146 x4 g_goods g_refusals Q) ∧ (¬ g_goods ≤ x5 → vp_in x5 40320 ∧ q_X5_placeOf g_n (g_good (Int32.toNatClampNeg x5)) x1 (fun r3 => q_X5_placeOf g_n (g_good (Int32.toNatClampNeg x5)) x2 (fun r4 => q_X5_placeOf g_n (g_good (Int32.toNatClampNeg x5)) x3 (fun r5 => ∀ t13 : Int32, t13 = (if r4 ≤ r3 then (if r4 ≤ r5 then 0 else (if r3 ≤ r4 then 0 else 1)) else (if r4 < r5 then 1 else (if r4 ≤ r5 then 0 else (if r3 ≤ r4 then 0 else 1)))) → ∀ x4_14 : Int32, x4_14 = (x4 + t13) → (q_X5_between_L51 x1 x2 x3 g_n g_goods g_refusals g_good Q n) x4_14 (x5 + 1)))))
def q_X5_between (g_n : Int32) (g_goods : Int32) (g_refusals : Nat → Int32) (g_good : Nat → Int32) (x1 : Int32) (x2 : Int32) (x3 : Int32) (Q : Int32 → (Nat → Int32) → Prop) : Prop :=
  q_X5_isColumn g_n x1 (fun b2 => (b2 = false → q_X5_refuse g_refusals ((-1) : Int32) (fun r5 g_refusals_4 => Q r5 g_refusals_4)) ∧ (b2 = true → q_X5_isColumn g_n x2 (fun b7 => (b7 = false → q_X5_refuse g_refusals ((-1) : Int32) (fun r10 g_refusals_9 => Q r10 g_refusals_9)) ∧ (b7 = true → q_X5_isColumn g_n x3 (fun b12 => (b12 = false → q_X5_refuse g_refusals ((-1) : Int32) (fun r15 g_refusals_14 => Q r15 g_refusals_14)) ∧ (b12 = true → (x1 = x2 → q_X5_refuse g_refusals ((-1) : Int32) (fun r18 g_refusals_17 => Q r18 g_refusals_17)) ∧ (¬ x1 = x2 → (x2 = x3 → q_X5_refuse g_refusals ((-1) : Int32) (fun r21 g_refusals_20 => Q r21 g_refusals_20)) ∧ (¬ x2 = x3 → (¬ x1 = x3 → ∃ N : Nat, q_X5_between_L51 x1 x2 x3 g_n g_goods g_refusals g_good Q N 0 0) ∧ (x1 = x3 → q_X5_refuse g_refusals ((-1) : Int32) (fun r24 g_refusals_23 => Q r24 g_refusals_23))))))))))
set_option maxRecDepth 100000 in
set_option maxHeartbeats 4000000 in
theorem c_X5_between (l : Launch) (dC : Nat → ClassId) (dI : Nat → Nat → Nat) (cI cZ : ClassId) (a_this a_refusals a_good : Nat) (z_lines z_set z_state z_weight z_all z_many z_trial z_isKnown z_always z_knot z_knots z_part z_parts : Value) (g_n : Int32) (g_goods : Int32) (g_refusals : Nat → Int32) (g_good : Nat → Int32) (x1 : Int32) (x2 : Int32) (x3 : Int32) (Q : Int32 → (Nat → Int32) → Prop) (h : q_X5_between g_n g_goods g_refusals g_good x1 x2 x3 Q) : MI l yX5_between wsX5_between rX5_between (dC, dI) [(cI, .int), (cZ, .boolean)] [.ref a_this, .int x1, .int x2, .int x3] [(a_this, .inr (5, [.ref a_refusals, .int g_n, z_lines, z_set, z_state, z_weight, z_all, .ref a_good, z_many, .int g_goods, z_trial, z_isKnown, z_always, z_knot, z_knots, z_part, z_parts])), (a_refusals, .inl (cI, 7, .inl g_refusals)), (a_good, .inl (cI, 40320, .inl g_good))] (fun (r : Int32) (u : (Nat → Int32)) => Q r u) (fun u : (Nat → Int32) => [(a_this, .inr (5, [.ref a_refusals, .int g_n, z_lines, z_set, z_state, z_weight, z_all, .ref a_good, z_many, .int g_goods, z_trial, z_isKnown, z_always, z_knot, z_knots, z_part, z_parts])), (a_refusals, .inl (cI, 7, .inl u)), (a_good, .inl (cI, 40320, .inl g_good))]) := by
  refine MI.of (cc := cX5_between) (maxL := 9) (by decide +kernel) rfl (Nat.le_of_ble_eq_true rfl) ?_
  intro p e s m args below meth c A QQ ls hx hb hml hown hts hA hK hP hD hS hNW ret hl
  have hl : lv_has ls 9 [(0, .ref a_this), (1, .int x1), (2, .int x2), (3, .int x3)] := hl
  have hown : s.vm.findClass RX5 = some m.cls := hown
  have in5 : ∀ w ∈ u_ws RX5 TX5 17, w ∈ wsX5_between := fun _ w9 => List.mem_cons_of_mem _ (List.mem_append_right _ w9)
  have f26 := hts (.fieldLink RX5 26 "OnesDeskModel" "good" "[I") (by decide +kernel)
  have f60 := hts (.fieldLink RX5 60 "OnesDeskModel" "goods" "I") (by decide +kernel)
  refine lv_aload_n hx hb dX5_between_0 rfl (lv_at hl 0 rfl) ?_
  refine lv_iload_n hx hb dX5_between_1 rfl (lv_at hl 1 rfl) ?_
  refine MI.callV (As := [.int x1]) (rest := []) (wr := [(a_refusals, .inl (cI, 7, .inl g_refusals)), (a_good, .inl (cI, 40320, .inl g_good))]) (ci := 5) (q0 := 0) (c_X5_isColumn l dC dI cI cZ a_this (.ref a_refusals) z_lines z_set z_state z_weight z_all (.ref a_good) z_many (.int g_goods) z_trial z_isKnown z_always z_knot z_knots z_part z_parts g_n x1 _ h) ⟨hx, hb, hml, hown, hts⟩ (cwV 1 hts gX5_between_X5_isColumn rfl rfl rfl (by decide +kernel) ⟨Nat.le_of_ble_eq_true rfl, Nat.le_of_ble_eq_true rfl⟩) hK hP hD hS hA hNW [0] [1, 2] rfl rfl (by decide) (by decide) (by decide) rfl rfl rfl rfl hl.1 rfl (Nat.le_of_ble_eq_true rfl) dX5_between_2 ⟨Nat.zero_le _, Nat.zero_le _⟩ (fun r1 u H locs hw hP hD hS => ?_)
  obtain ⟨b2, rfl, hw⟩ := hw
  have h := hw
  try dsimp only at h
  have hP : va_P (dC, dI) vwCl [(a_refusals, .inl (cI, 7, .inl g_refusals)), (a_good, .inl (cI, 40320, .inl g_good)), (a_this, .inr (5, [.ref a_refusals, .int g_n, z_lines, z_set, z_state, z_weight, z_all, .ref a_good, z_many, .int g_goods, z_trial, z_isKnown, z_always, z_knot, z_knots, z_part, z_parts]))] H := hP
  have hD : va_D A [(a_refusals, .inl (cI, 7, .inl g_refusals)), (a_good, .inl (cI, 40320, .inl g_good)), (a_this, .inr (5, [.ref a_refusals, .int g_n, z_lines, z_set, z_state, z_weight, z_all, .ref a_good, z_many, .int g_goods, z_trial, z_isKnown, z_always, z_knot, z_knots, z_part, z_parts]))] := hD
  refine lv_if_eq (tgt := 39) hx hb dX5_between_5 (by decide) (fun k3 => ?_) (fun k3 => ?_)
  · have h := h.1 (bI_0 k3)
    refine lv_aload_n hx hb dX5_between_39 rfl (lv_at hl 0 rfl) ?_
    refine lv_iconst (v := (-1)) hx hb dX5_between_40 (by decide) ?_
    refine MI.callV (As := [.int (-1)]) (rest := []) (wr := [(a_good, .inl (cI, 40320, .inl g_good))]) (ci := 5) (q0 := 0) (c_X5_refuse l dC dI cI cZ a_this a_refusals (.int g_n) z_lines z_set z_state z_weight z_all (.ref a_good) z_many (.int g_goods) z_trial z_isKnown z_always z_knot z_knots z_part z_parts g_refusals ((-1) : Int32) _ h) ⟨hx, hb, hml, hown, hts⟩ (cwV 1 hts gX5_between_X5_refuse rfl rfl rfl (by decide +kernel) ⟨Nat.le_of_ble_eq_true rfl, Nat.le_of_ble_eq_true rfl⟩) hK hP hD hS hA hNW [2, 0] [1] rfl rfl (by decide) (by decide) (by decide) rfl rfl rfl rfl hl.1 rfl (Nat.le_of_ble_eq_true rfl) dX5_between_41 ⟨Nat.zero_le _, Nat.zero_le _⟩ (fun r5 u H locs hw hP hD hS => ?_)
    obtain ⟨g_refusals_4, rfl⟩ : ∃ z, z = u := ⟨_, rfl⟩
    have h := hw
    try dsimp only at h
    have hP : va_P (dC, dI) vwCl [(a_good, .inl (cI, 40320, .inl g_good)), (a_this, .inr (5, [.ref a_refusals, .int g_n, z_lines, z_set, z_state, z_weight, z_all, .ref a_good, z_many, .int g_goods, z_trial, z_isKnown, z_always, z_knot, z_knots, z_part, z_parts])), (a_refusals, .inl (cI, 7, .inl g_refusals_4))] H := hP
    have hD : va_D A [(a_good, .inl (cI, 40320, .inl g_good)), (a_this, .inr (5, [.ref a_refusals, .int g_n, z_lines, z_set, z_state, z_weight, z_all, .ref a_good, z_many, .int g_goods, z_trial, z_isKnown, z_always, z_knot, z_knots, z_part, z_parts])), (a_refusals, .inl (cI, 7, .inl g_refusals_4))] := hD
    exact ret _ _ _ _ r5 g_refusals_4 dX5_between_44 h (reP hP [1, 2, 0] rfl) (hD.sub [1, 2, 0] (by decide) rfl) hS
  · have h := h.2 (bI_1 k3)
    refine lv_aload_n hx hb dX5_between_8 rfl (lv_at hl 0 rfl) ?_
    refine lv_iload_n hx hb dX5_between_9 rfl (lv_at hl 2 rfl) ?_
    refine MI.callV (As := [.int x2]) (rest := []) (wr := [(a_refusals, .inl (cI, 7, .inl g_refusals)), (a_good, .inl (cI, 40320, .inl g_good))]) (ci := 5) (q0 := 0) (c_X5_isColumn l dC dI cI cZ a_this (.ref a_refusals) z_lines z_set z_state z_weight z_all (.ref a_good) z_many (.int g_goods) z_trial z_isKnown z_always z_knot z_knots z_part z_parts g_n x2 _ h) ⟨hx, hb, hml, hown, hts⟩ (cwV 1 hts gX5_between_X5_isColumn rfl rfl rfl (by decide +kernel) ⟨Nat.le_of_ble_eq_true rfl, Nat.le_of_ble_eq_true rfl⟩) hK hP hD hS hA hNW [2] [0, 1] rfl rfl (by decide) (by decide) (by decide) rfl rfl rfl rfl hl.1 rfl (Nat.le_of_ble_eq_true rfl) dX5_between_10 ⟨Nat.zero_le _, Nat.zero_le _⟩ (fun r6 u H locs hw hP hD hS => ?_)
    obtain ⟨b7, rfl, hw⟩ := hw
    have h := hw
    try dsimp only at h
    have hP : va_P (dC, dI) vwCl [(a_refusals, .inl (cI, 7, .inl g_refusals)), (a_good, .inl (cI, 40320, .inl g_good)), (a_this, .inr (5, [.ref a_refusals, .int g_n, z_lines, z_set, z_state, z_weight, z_all, .ref a_good, z_many, .int g_goods, z_trial, z_isKnown, z_always, z_knot, z_knots, z_part, z_parts]))] H := hP
    have hD : va_D A [(a_refusals, .inl (cI, 7, .inl g_refusals)), (a_good, .inl (cI, 40320, .inl g_good)), (a_this, .inr (5, [.ref a_refusals, .int g_n, z_lines, z_set, z_state, z_weight, z_all, .ref a_good, z_many, .int g_goods, z_trial, z_isKnown, z_always, z_knot, z_knots, z_part, z_parts]))] := hD
    refine lv_if_eq (tgt := 39) hx hb dX5_between_13 (by decide) (fun k8 => ?_) (fun k8 => ?_)
    · have h := h.1 (bI_0 k8)
      refine lv_aload_n hx hb dX5_between_39 rfl (lv_at hl 0 rfl) ?_
      refine lv_iconst (v := (-1)) hx hb dX5_between_40 (by decide) ?_
      refine MI.callV (As := [.int (-1)]) (rest := []) (wr := [(a_good, .inl (cI, 40320, .inl g_good))]) (ci := 5) (q0 := 0) (c_X5_refuse l dC dI cI cZ a_this a_refusals (.int g_n) z_lines z_set z_state z_weight z_all (.ref a_good) z_many (.int g_goods) z_trial z_isKnown z_always z_knot z_knots z_part z_parts g_refusals ((-1) : Int32) _ h) ⟨hx, hb, hml, hown, hts⟩ (cwV 1 hts gX5_between_X5_refuse rfl rfl rfl (by decide +kernel) ⟨Nat.le_of_ble_eq_true rfl, Nat.le_of_ble_eq_true rfl⟩) hK hP hD hS hA hNW [2, 0] [1] rfl rfl (by decide) (by decide) (by decide) rfl rfl rfl rfl hl.1 rfl (Nat.le_of_ble_eq_true rfl) dX5_between_41 ⟨Nat.zero_le _, Nat.zero_le _⟩ (fun r10 u H locs hw hP hD hS => ?_)
      obtain ⟨g_refusals_9, rfl⟩ : ∃ z, z = u := ⟨_, rfl⟩
      have h := hw
      try dsimp only at h
      have hP : va_P (dC, dI) vwCl [(a_good, .inl (cI, 40320, .inl g_good)), (a_this, .inr (5, [.ref a_refusals, .int g_n, z_lines, z_set, z_state, z_weight, z_all, .ref a_good, z_many, .int g_goods, z_trial, z_isKnown, z_always, z_knot, z_knots, z_part, z_parts])), (a_refusals, .inl (cI, 7, .inl g_refusals_9))] H := hP
      have hD : va_D A [(a_good, .inl (cI, 40320, .inl g_good)), (a_this, .inr (5, [.ref a_refusals, .int g_n, z_lines, z_set, z_state, z_weight, z_all, .ref a_good, z_many, .int g_goods, z_trial, z_isKnown, z_always, z_knot, z_knots, z_part, z_parts])), (a_refusals, .inl (cI, 7, .inl g_refusals_9))] := hD
      exact ret _ _ _ _ r10 g_refusals_9 dX5_between_44 h (reP hP [1, 2, 0] rfl) (hD.sub [1, 2, 0] (by decide) rfl) hS
    · have h := h.2 (bI_1 k8)
      refine lv_aload_n hx hb dX5_between_16 rfl (lv_at hl 0 rfl) ?_
      refine lv_iload_n hx hb dX5_between_17 rfl (lv_at hl 3 rfl) ?_
      refine MI.callV (As := [.int x3]) (rest := []) (wr := [(a_refusals, .inl (cI, 7, .inl g_refusals)), (a_good, .inl (cI, 40320, .inl g_good))]) (ci := 5) (q0 := 0) (c_X5_isColumn l dC dI cI cZ a_this (.ref a_refusals) z_lines z_set z_state z_weight z_all (.ref a_good) z_many (.int g_goods) z_trial z_isKnown z_always z_knot z_knots z_part z_parts g_n x3 _ h) ⟨hx, hb, hml, hown, hts⟩ (cwV 1 hts gX5_between_X5_isColumn rfl rfl rfl (by decide +kernel) ⟨Nat.le_of_ble_eq_true rfl, Nat.le_of_ble_eq_true rfl⟩) hK hP hD hS hA hNW [2] [0, 1] rfl rfl (by decide) (by decide) (by decide) rfl rfl rfl rfl hl.1 rfl (Nat.le_of_ble_eq_true rfl) dX5_between_18 ⟨Nat.zero_le _, Nat.zero_le _⟩ (fun r11 u H locs hw hP hD hS => ?_)
      obtain ⟨b12, rfl, hw⟩ := hw
      have h := hw
      try dsimp only at h
      have hP : va_P (dC, dI) vwCl [(a_refusals, .inl (cI, 7, .inl g_refusals)), (a_good, .inl (cI, 40320, .inl g_good)), (a_this, .inr (5, [.ref a_refusals, .int g_n, z_lines, z_set, z_state, z_weight, z_all, .ref a_good, z_many, .int g_goods, z_trial, z_isKnown, z_always, z_knot, z_knots, z_part, z_parts]))] H := hP
      have hD : va_D A [(a_refusals, .inl (cI, 7, .inl g_refusals)), (a_good, .inl (cI, 40320, .inl g_good)), (a_this, .inr (5, [.ref a_refusals, .int g_n, z_lines, z_set, z_state, z_weight, z_all, .ref a_good, z_many, .int g_goods, z_trial, z_isKnown, z_always, z_knot, z_knots, z_part, z_parts]))] := hD
      refine lv_if_eq (tgt := 39) hx hb dX5_between_21 (by decide) (fun k13 => ?_) (fun k13 => ?_)
      · have h := h.1 (bI_0 k13)
        refine lv_aload_n hx hb dX5_between_39 rfl (lv_at hl 0 rfl) ?_
        refine lv_iconst (v := (-1)) hx hb dX5_between_40 (by decide) ?_
        refine MI.callV (As := [.int (-1)]) (rest := []) (wr := [(a_good, .inl (cI, 40320, .inl g_good))]) (ci := 5) (q0 := 0) (c_X5_refuse l dC dI cI cZ a_this a_refusals (.int g_n) z_lines z_set z_state z_weight z_all (.ref a_good) z_many (.int g_goods) z_trial z_isKnown z_always z_knot z_knots z_part z_parts g_refusals ((-1) : Int32) _ h) ⟨hx, hb, hml, hown, hts⟩ (cwV 1 hts gX5_between_X5_refuse rfl rfl rfl (by decide +kernel) ⟨Nat.le_of_ble_eq_true rfl, Nat.le_of_ble_eq_true rfl⟩) hK hP hD hS hA hNW [2, 0] [1] rfl rfl (by decide) (by decide) (by decide) rfl rfl rfl rfl hl.1 rfl (Nat.le_of_ble_eq_true rfl) dX5_between_41 ⟨Nat.zero_le _, Nat.zero_le _⟩ (fun r15 u H locs hw hP hD hS => ?_)
        obtain ⟨g_refusals_14, rfl⟩ : ∃ z, z = u := ⟨_, rfl⟩
        have h := hw
        try dsimp only at h
        have hP : va_P (dC, dI) vwCl [(a_good, .inl (cI, 40320, .inl g_good)), (a_this, .inr (5, [.ref a_refusals, .int g_n, z_lines, z_set, z_state, z_weight, z_all, .ref a_good, z_many, .int g_goods, z_trial, z_isKnown, z_always, z_knot, z_knots, z_part, z_parts])), (a_refusals, .inl (cI, 7, .inl g_refusals_14))] H := hP
        have hD : va_D A [(a_good, .inl (cI, 40320, .inl g_good)), (a_this, .inr (5, [.ref a_refusals, .int g_n, z_lines, z_set, z_state, z_weight, z_all, .ref a_good, z_many, .int g_goods, z_trial, z_isKnown, z_always, z_knot, z_knots, z_part, z_parts])), (a_refusals, .inl (cI, 7, .inl g_refusals_14))] := hD
        exact ret _ _ _ _ r15 g_refusals_14 dX5_between_44 h (reP hP [1, 2, 0] rfl) (hD.sub [1, 2, 0] (by decide) rfl) hS
      · have h := h.2 (bI_1 k13)
        refine lv_iload_n hx hb dX5_between_24 rfl (lv_at hl 1 rfl) ?_
        refine lv_iload_n hx hb dX5_between_25 rfl (lv_at hl 2 rfl) ?_
        refine lv_icmp_eq (tgt := 39) hx hb dX5_between_26 (by decide) (fun k16 => ?_) (fun k16 => ?_)
        · have h := h.1 k16
          refine lv_aload_n hx hb dX5_between_39 rfl (lv_at hl 0 rfl) ?_
          refine lv_iconst (v := (-1)) hx hb dX5_between_40 (by decide) ?_
          refine MI.callV (As := [.int (-1)]) (rest := []) (wr := [(a_good, .inl (cI, 40320, .inl g_good))]) (ci := 5) (q0 := 0) (c_X5_refuse l dC dI cI cZ a_this a_refusals (.int g_n) z_lines z_set z_state z_weight z_all (.ref a_good) z_many (.int g_goods) z_trial z_isKnown z_always z_knot z_knots z_part z_parts g_refusals ((-1) : Int32) _ h) ⟨hx, hb, hml, hown, hts⟩ (cwV 1 hts gX5_between_X5_refuse rfl rfl rfl (by decide +kernel) ⟨Nat.le_of_ble_eq_true rfl, Nat.le_of_ble_eq_true rfl⟩) hK hP hD hS hA hNW [2, 0] [1] rfl rfl (by decide) (by decide) (by decide) rfl rfl rfl rfl hl.1 rfl (Nat.le_of_ble_eq_true rfl) dX5_between_41 ⟨Nat.zero_le _, Nat.zero_le _⟩ (fun r18 u H locs hw hP hD hS => ?_)
          obtain ⟨g_refusals_17, rfl⟩ : ∃ z, z = u := ⟨_, rfl⟩
          have h := hw
          try dsimp only at h
          have hP : va_P (dC, dI) vwCl [(a_good, .inl (cI, 40320, .inl g_good)), (a_this, .inr (5, [.ref a_refusals, .int g_n, z_lines, z_set, z_state, z_weight, z_all, .ref a_good, z_many, .int g_goods, z_trial, z_isKnown, z_always, z_knot, z_knots, z_part, z_parts])), (a_refusals, .inl (cI, 7, .inl g_refusals_17))] H := hP
          have hD : va_D A [(a_good, .inl (cI, 40320, .inl g_good)), (a_this, .inr (5, [.ref a_refusals, .int g_n, z_lines, z_set, z_state, z_weight, z_all, .ref a_good, z_many, .int g_goods, z_trial, z_isKnown, z_always, z_knot, z_knots, z_part, z_parts])), (a_refusals, .inl (cI, 7, .inl g_refusals_17))] := hD
          exact ret _ _ _ _ r18 g_refusals_17 dX5_between_44 h (reP hP [1, 2, 0] rfl) (hD.sub [1, 2, 0] (by decide) rfl) hS
        · have h := h.2 k16
          refine lv_iload_n hx hb dX5_between_29 rfl (lv_at hl 2 rfl) ?_
          refine lv_iload_n hx hb dX5_between_30 rfl (lv_at hl 3 rfl) ?_
          refine lv_icmp_eq (tgt := 39) hx hb dX5_between_31 (by decide) (fun k19 => ?_) (fun k19 => ?_)
          · have h := h.1 k19
            refine lv_aload_n hx hb dX5_between_39 rfl (lv_at hl 0 rfl) ?_
            refine lv_iconst (v := (-1)) hx hb dX5_between_40 (by decide) ?_
            refine MI.callV (As := [.int (-1)]) (rest := []) (wr := [(a_good, .inl (cI, 40320, .inl g_good))]) (ci := 5) (q0 := 0) (c_X5_refuse l dC dI cI cZ a_this a_refusals (.int g_n) z_lines z_set z_state z_weight z_all (.ref a_good) z_many (.int g_goods) z_trial z_isKnown z_always z_knot z_knots z_part z_parts g_refusals ((-1) : Int32) _ h) ⟨hx, hb, hml, hown, hts⟩ (cwV 1 hts gX5_between_X5_refuse rfl rfl rfl (by decide +kernel) ⟨Nat.le_of_ble_eq_true rfl, Nat.le_of_ble_eq_true rfl⟩) hK hP hD hS hA hNW [2, 0] [1] rfl rfl (by decide) (by decide) (by decide) rfl rfl rfl rfl hl.1 rfl (Nat.le_of_ble_eq_true rfl) dX5_between_41 ⟨Nat.zero_le _, Nat.zero_le _⟩ (fun r21 u H locs hw hP hD hS => ?_)
            obtain ⟨g_refusals_20, rfl⟩ : ∃ z, z = u := ⟨_, rfl⟩
            have h := hw
            try dsimp only at h
            have hP : va_P (dC, dI) vwCl [(a_good, .inl (cI, 40320, .inl g_good)), (a_this, .inr (5, [.ref a_refusals, .int g_n, z_lines, z_set, z_state, z_weight, z_all, .ref a_good, z_many, .int g_goods, z_trial, z_isKnown, z_always, z_knot, z_knots, z_part, z_parts])), (a_refusals, .inl (cI, 7, .inl g_refusals_20))] H := hP
            have hD : va_D A [(a_good, .inl (cI, 40320, .inl g_good)), (a_this, .inr (5, [.ref a_refusals, .int g_n, z_lines, z_set, z_state, z_weight, z_all, .ref a_good, z_many, .int g_goods, z_trial, z_isKnown, z_always, z_knot, z_knots, z_part, z_parts])), (a_refusals, .inl (cI, 7, .inl g_refusals_20))] := hD
            exact ret _ _ _ _ r21 g_refusals_20 dX5_between_44 h (reP hP [1, 2, 0] rfl) (hD.sub [1, 2, 0] (by decide) rfl) hS
          · have h := h.2 k19
            refine lv_iload_n hx hb dX5_between_34 rfl (lv_at hl 1 rfl) ?_
            refine lv_iload_n hx hb dX5_between_35 rfl (lv_at hl 3 rfl) ?_
            refine lv_icmp_ne (tgt := 45) hx hb dX5_between_36 (by decide) (fun k22 => ?_) (fun k22 => ?_)
            · have h := h.1 k22
              refine lv_iconst (v := 0) hx hb dX5_between_45 (by decide) ?_
              refine lv_istore (lv' := [(4, .int 0), (0, .ref a_this), (1, .int x1), (2, .int x2), (3, .int x3)]) hx hb dX5_between_46 hl (by decide) rfl (fun ls hl => ?_)
              refine lv_iconst (v := 0) hx hb dX5_between_48 (by decide) ?_
              refine lv_istore (lv' := [(5, .int 0), (4, .int 0), (0, .ref a_this), (1, .int x1), (2, .int x2), (3, .int x3)]) hx hb dX5_between_49 hl (by decide) rfl (fun ls hl => ?_)
              have L51 : ∀ (n51 : Nat), ∀ (x4 : Int32) (x5 : Int32), q_X5_between_L51 x1 x2 x3 g_n g_goods g_refusals g_good Q n51 x4 x5 → ∀ (H : Heap) (locs : List Loc) (ls : Array Slot), va_P (dC, dI) vwCl [(a_this, .inr (5, [.ref a_refusals, .int g_n, z_lines, z_set, z_state, z_weight, z_all, .ref a_good, z_many, .int g_goods, z_trial, z_isKnown, z_always, z_knot, z_knots, z_part, z_parts])), (a_refusals, .inl (cI, 7, .inl g_refusals)), (a_good, .inl (cI, 40320, .inl g_good))] H → va_D A [(a_this, .inr (5, [.ref a_refusals, .int g_n, z_lines, z_set, z_state, z_weight, z_all, .ref a_good, z_many, .int g_goods, z_trial, z_isKnown, z_always, z_knot, z_knots, z_part, z_parts])), (a_refusals, .inl (cI, 7, .inl g_refusals)), (a_good, .inl (cI, 40320, .inl g_good))] → va_S A s.heap H locs → lv_has ls 9 [(0, .ref a_this), (1, .int x1), (2, .int x2), (3, .int x3), (4, .int x4), (5, .int x5)] → W p l e rX5_between s m args below meth c H locs 0 0 QQ (F0 m 51 ls []) := by
                intro n51
                induction n51 with
                | zero => intro x4 x5 h; exact False.elim h
                | succ n51 ih51 =>
                  intro x4 x5 h H locs ls hP hD hS hl
                  refine lv_iload hx hb dX5_between_51 (lv_at hl 5 rfl) ?_
                  refine lv_aload_n hx hb dX5_between_53 rfl (lv_at hl 0 rfl) ?_
                  refine va_get (D := (dC, dI)) (ci := 5) (v := .int g_goods) (C := RX5) (T := TX5) (N := 17) hx hb hts in5 hown hK hP 0 rfl rfl 9 (by decide) f60 (fun _ h9 => h9) rfl dX5_between_54 ?_
                  refine lv_icmp_ge (tgt := 146) hx hb dX5_between_57 (by decide) (fun k1 => ?_) (fun k1 => ?_)
                  · have h := h.1 k1
                    have J146 : q_X5_between_J146 x4 g_goods g_refusals Q → ∀ (H : Heap) (locs : List Loc) (ls : Array Slot), va_P (dC, dI) vwCl [(a_this, .inr (5, [.ref a_refusals, .int g_n, z_lines, z_set, z_state, z_weight, z_all, .ref a_good, z_many, .int g_goods, z_trial, z_isKnown, z_always, z_knot, z_knots, z_part, z_parts])), (a_refusals, .inl (cI, 7, .inl g_refusals)), (a_good, .inl (cI, 40320, .inl g_good))] H → va_D A [(a_this, .inr (5, [.ref a_refusals, .int g_n, z_lines, z_set, z_state, z_weight, z_all, .ref a_good, z_many, .int g_goods, z_trial, z_isKnown, z_always, z_knot, z_knots, z_part, z_parts])), (a_refusals, .inl (cI, 7, .inl g_refusals)), (a_good, .inl (cI, 40320, .inl g_good))] → va_S A s.heap H locs → lv_has ls 9 [(0, .ref a_this), (4, .int x4)] → W p l e rX5_between s m args below meth c H locs 0 0 QQ (F0 m 146 ls []) := by
                      intro  h H locs ls hP hD hS hl
                      refine lv_aload_n hx hb dX5_between_146 rfl (lv_at hl 0 rfl) ?_
                      refine lv_iload hx hb dX5_between_147 (lv_at hl 1 rfl) ?_
                      refine MI.callV (As := [.int x4]) (rest := []) (wr := [(a_refusals, .inl (cI, 7, .inl g_refusals)), (a_good, .inl (cI, 40320, .inl g_good))]) (ci := 5) (q0 := 0) (c_X5_told l dC dI cI cZ a_this (.ref a_refusals) (.int g_n) z_lines z_set z_state z_weight z_all (.ref a_good) z_many z_trial z_isKnown z_always z_knot z_knots z_part z_parts g_goods x4 _ h) ⟨hx, hb, hml, hown, hts⟩ (cwV 1 hts gX5_between_X5_told rfl rfl rfl (by decide +kernel) ⟨Nat.le_of_ble_eq_true rfl, Nat.le_of_ble_eq_true rfl⟩) hK hP hD hS hA hNW [0] [1, 2] rfl rfl (by decide) (by decide) (by decide) rfl rfl rfl rfl hl.1 rfl (Nat.le_of_ble_eq_true rfl) dX5_between_149 ⟨Nat.zero_le _, Nat.zero_le _⟩ (fun r1 u H locs hw hP hD hS => ?_)
                      have h := hw
                      try dsimp only at h
                      have hP : va_P (dC, dI) vwCl [(a_refusals, .inl (cI, 7, .inl g_refusals)), (a_good, .inl (cI, 40320, .inl g_good)), (a_this, .inr (5, [.ref a_refusals, .int g_n, z_lines, z_set, z_state, z_weight, z_all, .ref a_good, z_many, .int g_goods, z_trial, z_isKnown, z_always, z_knot, z_knots, z_part, z_parts]))] H := hP
                      have hD : va_D A [(a_refusals, .inl (cI, 7, .inl g_refusals)), (a_good, .inl (cI, 40320, .inl g_good)), (a_this, .inr (5, [.ref a_refusals, .int g_n, z_lines, z_set, z_state, z_weight, z_all, .ref a_good, z_many, .int g_goods, z_trial, z_isKnown, z_always, z_knot, z_knots, z_part, z_parts]))] := hD
                      exact ret _ _ _ _ r1 g_refusals dX5_between_152 h (reP hP [2, 0, 1] rfl) (hD.sub [2, 0, 1] (by decide) rfl) hS
                    exact J146 h _ _ _ (reP hP [0, 1, 2] rfl) (hD.sub [0, 1, 2] (by decide) rfl) hS (lv_sub hl [0, 4] rfl)
                  · have h := h.2 k1
                    refine lv_aload_n hx hb dX5_between_60 rfl (lv_at hl 0 rfl) ?_
                    refine lv_aload_n hx hb dX5_between_61 rfl (lv_at hl 0 rfl) ?_
                    refine va_get (D := (dC, dI)) (ci := 5) (v := .ref a_good) (C := RX5) (T := TX5) (N := 17) hx hb hts in5 hown hK hP 0 rfl rfl 7 (by decide) f26 (fun _ h9 => h9) rfl dX5_between_62 ?_
                    refine lv_iload hx hb dX5_between_65 (lv_at hl 5 rfl) ?_
                    obtain ⟨hi2, h⟩ := h
                    refine va_iald (D := (dC, dI)) hx hb hK hP 2 0 rfl rfl hi2 dX5_between_67 ?_
                    refine lv_iload_n hx hb dX5_between_68 rfl (lv_at hl 1 rfl) ?_
                    refine MI.callV (As := [.int (g_good (Int32.toNatClampNeg x5)), .int x1]) (rest := []) (wr := [(a_refusals, .inl (cI, 7, .inl g_refusals)), (a_good, .inl (cI, 40320, .inl g_good))]) (ci := 5) (q0 := 0) (c_X5_placeOf l dC dI cI cZ a_this (.ref a_refusals) z_lines z_set z_state z_weight z_all (.ref a_good) z_many (.int g_goods) z_trial z_isKnown z_always z_knot z_knots z_part z_parts g_n (g_good (Int32.toNatClampNeg x5)) x1 _ h) ⟨hx, hb, hml, hown, hts⟩ (cwV 2 hts gX5_between_X5_placeOf rfl rfl rfl (by decide +kernel) ⟨Nat.le_of_ble_eq_true rfl, Nat.le_of_ble_eq_true rfl⟩) hK hP hD hS hA hNW [0] [1, 2] rfl rfl (by decide) (by decide) (by decide) rfl rfl rfl rfl hl.1 rfl (Nat.le_of_ble_eq_true rfl) dX5_between_69 ⟨Nat.zero_le _, Nat.zero_le _⟩ (fun r3 u H locs hw hP hD hS => ?_)
                    have h := hw
                    try dsimp only at h
                    have hP : va_P (dC, dI) vwCl [(a_refusals, .inl (cI, 7, .inl g_refusals)), (a_good, .inl (cI, 40320, .inl g_good)), (a_this, .inr (5, [.ref a_refusals, .int g_n, z_lines, z_set, z_state, z_weight, z_all, .ref a_good, z_many, .int g_goods, z_trial, z_isKnown, z_always, z_knot, z_knots, z_part, z_parts]))] H := hP
                    have hD : va_D A [(a_refusals, .inl (cI, 7, .inl g_refusals)), (a_good, .inl (cI, 40320, .inl g_good)), (a_this, .inr (5, [.ref a_refusals, .int g_n, z_lines, z_set, z_state, z_weight, z_all, .ref a_good, z_many, .int g_goods, z_trial, z_isKnown, z_always, z_knot, z_knots, z_part, z_parts]))] := hD
                    refine lv_istore (lv' := [(6, .int r3), (0, .ref a_this), (1, .int x1), (2, .int x2), (3, .int x3), (4, .int x4), (5, .int x5)]) hx hb dX5_between_72 hl (by decide) rfl (fun ls hl => ?_)
                    refine lv_aload_n hx hb dX5_between_74 rfl (lv_at hl 1 rfl) ?_
                    refine lv_aload_n hx hb dX5_between_75 rfl (lv_at hl 1 rfl) ?_
                    refine va_get (D := (dC, dI)) (ci := 5) (v := .ref a_good) (C := RX5) (T := TX5) (N := 17) hx hb hts in5 hown hK hP 2 rfl rfl 7 (by decide) f26 (fun _ h9 => h9) rfl dX5_between_76 ?_
                    refine lv_iload hx hb dX5_between_79 (lv_at hl 6 rfl) ?_
                    refine va_iald (D := (dC, dI)) hx hb hK hP 1 0 rfl rfl hi2 dX5_between_81 ?_
                    refine lv_iload_n hx hb dX5_between_82 rfl (lv_at hl 3 rfl) ?_
                    refine MI.callV (As := [.int (g_good (Int32.toNatClampNeg x5)), .int x2]) (rest := []) (wr := [(a_refusals, .inl (cI, 7, .inl g_refusals)), (a_good, .inl (cI, 40320, .inl g_good))]) (ci := 5) (q0 := 0) (c_X5_placeOf l dC dI cI cZ a_this (.ref a_refusals) z_lines z_set z_state z_weight z_all (.ref a_good) z_many (.int g_goods) z_trial z_isKnown z_always z_knot z_knots z_part z_parts g_n (g_good (Int32.toNatClampNeg x5)) x2 _ h) ⟨hx, hb, hml, hown, hts⟩ (cwV 2 hts gX5_between_X5_placeOf rfl rfl rfl (by decide +kernel) ⟨Nat.le_of_ble_eq_true rfl, Nat.le_of_ble_eq_true rfl⟩) hK hP hD hS hA hNW [2] [0, 1] rfl rfl (by decide) (by decide) (by decide) rfl rfl rfl rfl hl.1 rfl (Nat.le_of_ble_eq_true rfl) dX5_between_83 ⟨Nat.zero_le _, Nat.zero_le _⟩ (fun r4 u H locs hw hP hD hS => ?_)
                    have h := hw
                    try dsimp only at h
                    have hP : va_P (dC, dI) vwCl [(a_refusals, .inl (cI, 7, .inl g_refusals)), (a_good, .inl (cI, 40320, .inl g_good)), (a_this, .inr (5, [.ref a_refusals, .int g_n, z_lines, z_set, z_state, z_weight, z_all, .ref a_good, z_many, .int g_goods, z_trial, z_isKnown, z_always, z_knot, z_knots, z_part, z_parts]))] H := hP
                    have hD : va_D A [(a_refusals, .inl (cI, 7, .inl g_refusals)), (a_good, .inl (cI, 40320, .inl g_good)), (a_this, .inr (5, [.ref a_refusals, .int g_n, z_lines, z_set, z_state, z_weight, z_all, .ref a_good, z_many, .int g_goods, z_trial, z_isKnown, z_always, z_knot, z_knots, z_part, z_parts]))] := hD
                    refine lv_istore (lv' := [(7, .int r4), (6, .int r3), (0, .ref a_this), (1, .int x1), (2, .int x2), (3, .int x3), (4, .int x4), (5, .int x5)]) hx hb dX5_between_86 hl (by decide) rfl (fun ls hl => ?_)
                    refine lv_aload_n hx hb dX5_between_88 rfl (lv_at hl 2 rfl) ?_
                    refine lv_aload_n hx hb dX5_between_89 rfl (lv_at hl 2 rfl) ?_
                    refine va_get (D := (dC, dI)) (ci := 5) (v := .ref a_good) (C := RX5) (T := TX5) (N := 17) hx hb hts in5 hown hK hP 2 rfl rfl 7 (by decide) f26 (fun _ h9 => h9) rfl dX5_between_90 ?_
                    refine lv_iload hx hb dX5_between_93 (lv_at hl 7 rfl) ?_
                    refine va_iald (D := (dC, dI)) hx hb hK hP 1 0 rfl rfl hi2 dX5_between_95 ?_
                    refine lv_iload_n hx hb dX5_between_96 rfl (lv_at hl 5 rfl) ?_
                    refine MI.callV (As := [.int (g_good (Int32.toNatClampNeg x5)), .int x3]) (rest := []) (wr := [(a_refusals, .inl (cI, 7, .inl g_refusals)), (a_good, .inl (cI, 40320, .inl g_good))]) (ci := 5) (q0 := 0) (c_X5_placeOf l dC dI cI cZ a_this (.ref a_refusals) z_lines z_set z_state z_weight z_all (.ref a_good) z_many (.int g_goods) z_trial z_isKnown z_always z_knot z_knots z_part z_parts g_n (g_good (Int32.toNatClampNeg x5)) x3 _ h) ⟨hx, hb, hml, hown, hts⟩ (cwV 2 hts gX5_between_X5_placeOf rfl rfl rfl (by decide +kernel) ⟨Nat.le_of_ble_eq_true rfl, Nat.le_of_ble_eq_true rfl⟩) hK hP hD hS hA hNW [2] [0, 1] rfl rfl (by decide) (by decide) (by decide) rfl rfl rfl rfl hl.1 rfl (Nat.le_of_ble_eq_true rfl) dX5_between_97 ⟨Nat.zero_le _, Nat.zero_le _⟩ (fun r5 u H locs hw hP hD hS => ?_)
                    have h := hw
                    try dsimp only at h
                    have hP : va_P (dC, dI) vwCl [(a_refusals, .inl (cI, 7, .inl g_refusals)), (a_good, .inl (cI, 40320, .inl g_good)), (a_this, .inr (5, [.ref a_refusals, .int g_n, z_lines, z_set, z_state, z_weight, z_all, .ref a_good, z_many, .int g_goods, z_trial, z_isKnown, z_always, z_knot, z_knots, z_part, z_parts]))] H := hP
                    have hD : va_D A [(a_refusals, .inl (cI, 7, .inl g_refusals)), (a_good, .inl (cI, 40320, .inl g_good)), (a_this, .inr (5, [.ref a_refusals, .int g_n, z_lines, z_set, z_state, z_weight, z_all, .ref a_good, z_many, .int g_goods, z_trial, z_isKnown, z_always, z_knot, z_knots, z_part, z_parts]))] := hD
                    refine lv_istore (lv' := [(8, .int r5), (7, .int r4), (6, .int r3), (0, .ref a_this), (1, .int x1), (2, .int x2), (3, .int x3), (4, .int x4), (5, .int x5)]) hx hb dX5_between_100 hl (by decide) rfl (fun ls hl => ?_)
                    refine lv_iload hx hb dX5_between_102 (lv_at hl 7 rfl) ?_
                    refine lv_iload hx hb dX5_between_104 (lv_at hl 2 rfl) ?_
                    refine lv_iload hx hb dX5_between_106 (lv_at hl 1 rfl) ?_
                    have K6 : ∀ t13 : Int32, t13 = (if r4 ≤ r3 then (if r4 ≤ r5 then 0 else (if r3 ≤ r4 then 0 else 1)) else (if r4 < r5 then 1 else (if r4 ≤ r5 then 0 else (if r3 ≤ r4 then 0 else 1)))) → W p l e rX5_between s m args below meth c H locs 0 0 QQ (F0 m 137 ls [.int t13, .int x4]) := by
                      intro t13 et13
                      have h := h t13 et13
                      refine lv_iadd hx hb dX5_between_137 ?_
                      refine lv_topi (fun x4_14 ex4_14 => ?_)
                      have h := h x4_14 ex4_14
                      refine lv_istore (lv' := [(4, .int x4_14), (8, .int r5), (7, .int r4), (6, .int r3), (0, .ref a_this), (1, .int x1), (2, .int x2), (3, .int x3), (5, .int x5)]) hx hb dX5_between_138 hl (by decide) rfl (fun ls hl => ?_)
                      refine lv_iinc (v := x5 + 1) (lv' := [(5, .int (x5 + 1)), (4, .int x4_14), (8, .int r5), (7, .int r4), (6, .int r3), (0, .ref a_this), (1, .int x1), (2, .int x2), (3, .int x3)]) hx hb dX5_between_140 hl (k := 8) rfl rfl (by decide) rfl (fun ls hl => ?_)
                      refine lv_goto (tgt := 51) hx hb dX5_between_143 (by decide) ?_
                      exact ih51 x4_14 (x5 + 1) h _ _ _ (reP hP [2, 0, 1] rfl) (hD.sub [2, 0, 1] (by decide) rfl) hS (lv_sub hl [5, 6, 7, 8, 1, 0] rfl)
                    refine lv_icmp_ge (tgt := 118) hx hb dX5_between_108 (by decide) (fun k7 => ?_) (fun k7 => ?_)
                    · refine lv_iload hx hb dX5_between_118 (lv_at hl 0 rfl) ?_
                      refine lv_iload hx hb dX5_between_120 (lv_at hl 1 rfl) ?_
                      refine lv_icmp_ge (tgt := 136) hx hb dX5_between_122 (by decide) (fun k8 => ?_) (fun k8 => ?_)
                      · refine lv_iconst (v := 0) hx hb dX5_between_136 (by decide) ?_
                        exact K6 _ (by rw [if_pos k7, if_pos k8])
                      · refine lv_iload hx hb dX5_between_125 (lv_at hl 1 rfl) ?_
                        refine lv_iload hx hb dX5_between_127 (lv_at hl 2 rfl) ?_
                        refine lv_icmp_ge (tgt := 136) hx hb dX5_between_129 (by decide) (fun k9 => ?_) (fun k9 => ?_)
                        · refine lv_iconst (v := 0) hx hb dX5_between_136 (by decide) ?_
                          exact K6 _ (by rw [if_pos k7, if_neg k8, if_pos k9])
                        · refine lv_iconst (v := 1) hx hb dX5_between_132 (by decide) ?_
                          refine lv_goto (tgt := 137) hx hb dX5_between_133 (by decide) ?_
                          exact K6 _ (by rw [if_pos k7, if_neg k8, if_neg k9])
                    · refine lv_iload hx hb dX5_between_111 (lv_at hl 1 rfl) ?_
                      refine lv_iload hx hb dX5_between_113 (lv_at hl 0 rfl) ?_
                      refine lv_icmp_lt (tgt := 132) hx hb dX5_between_115 (by decide) (fun k10 => ?_) (fun k10 => ?_)
                      · refine lv_iconst (v := 1) hx hb dX5_between_132 (by decide) ?_
                        refine lv_goto (tgt := 137) hx hb dX5_between_133 (by decide) ?_
                        exact K6 _ (by rw [if_neg k7, if_pos k10])
                      · refine lv_iload hx hb dX5_between_118 (lv_at hl 0 rfl) ?_
                        refine lv_iload hx hb dX5_between_120 (lv_at hl 1 rfl) ?_
                        refine lv_icmp_ge (tgt := 136) hx hb dX5_between_122 (by decide) (fun k11 => ?_) (fun k11 => ?_)
                        · refine lv_iconst (v := 0) hx hb dX5_between_136 (by decide) ?_
                          exact K6 _ (by rw [if_neg k7, if_neg k10, if_pos k11])
                        · refine lv_iload hx hb dX5_between_125 (lv_at hl 1 rfl) ?_
                          refine lv_iload hx hb dX5_between_127 (lv_at hl 2 rfl) ?_
                          refine lv_icmp_ge (tgt := 136) hx hb dX5_between_129 (by decide) (fun k12 => ?_) (fun k12 => ?_)
                          · refine lv_iconst (v := 0) hx hb dX5_between_136 (by decide) ?_
                            exact K6 _ (by rw [if_neg k7, if_neg k10, if_neg k11, if_pos k12])
                          · refine lv_iconst (v := 1) hx hb dX5_between_132 (by decide) ?_
                            refine lv_goto (tgt := 137) hx hb dX5_between_133 (by decide) ?_
                            exact K6 _ (by rw [if_neg k7, if_neg k10, if_neg k11, if_neg k12])
              obtain ⟨n, h⟩ := h
              exact L51 n 0 0 h _ _ _ (reP hP [2, 0, 1] rfl) (hD.sub [2, 0, 1] (by decide) rfl) hS (lv_sub hl [2, 3, 4, 5, 1, 0] rfl)
            · have h := h.2 k22
              refine lv_aload_n hx hb dX5_between_39 rfl (lv_at hl 0 rfl) ?_
              refine lv_iconst (v := (-1)) hx hb dX5_between_40 (by decide) ?_
              refine MI.callV (As := [.int (-1)]) (rest := []) (wr := [(a_good, .inl (cI, 40320, .inl g_good))]) (ci := 5) (q0 := 0) (c_X5_refuse l dC dI cI cZ a_this a_refusals (.int g_n) z_lines z_set z_state z_weight z_all (.ref a_good) z_many (.int g_goods) z_trial z_isKnown z_always z_knot z_knots z_part z_parts g_refusals ((-1) : Int32) _ h) ⟨hx, hb, hml, hown, hts⟩ (cwV 1 hts gX5_between_X5_refuse rfl rfl rfl (by decide +kernel) ⟨Nat.le_of_ble_eq_true rfl, Nat.le_of_ble_eq_true rfl⟩) hK hP hD hS hA hNW [2, 0] [1] rfl rfl (by decide) (by decide) (by decide) rfl rfl rfl rfl hl.1 rfl (Nat.le_of_ble_eq_true rfl) dX5_between_41 ⟨Nat.zero_le _, Nat.zero_le _⟩ (fun r24 u H locs hw hP hD hS => ?_)
              obtain ⟨g_refusals_23, rfl⟩ : ∃ z, z = u := ⟨_, rfl⟩
              have h := hw
              try dsimp only at h
              have hP : va_P (dC, dI) vwCl [(a_good, .inl (cI, 40320, .inl g_good)), (a_this, .inr (5, [.ref a_refusals, .int g_n, z_lines, z_set, z_state, z_weight, z_all, .ref a_good, z_many, .int g_goods, z_trial, z_isKnown, z_always, z_knot, z_knots, z_part, z_parts])), (a_refusals, .inl (cI, 7, .inl g_refusals_23))] H := hP
              have hD : va_D A [(a_good, .inl (cI, 40320, .inl g_good)), (a_this, .inr (5, [.ref a_refusals, .int g_n, z_lines, z_set, z_state, z_weight, z_all, .ref a_good, z_many, .int g_goods, z_trial, z_isKnown, z_always, z_knot, z_knots, z_part, z_parts])), (a_refusals, .inl (cI, 7, .inl g_refusals_23))] := hD
              exact ret _ _ _ _ r24 g_refusals_23 dX5_between_44 h (reP hP [1, 2, 0] rfl) (hD.sub [1, 2, 0] (by decide) rfl) hS
/-! ### X5_next next(II)I -/
def rX5_next : Room := { frames := 4, cells := 0, slots := 0, locals := 93 }
def q_X5_next (g_n : Int32) (g_goods : Int32) (g_refusals : Nat → Int32) (g_good : Nat → Int32) (x1 : Int32) (x2 : Int32) (Q : Int32 → (Nat → Int32) → Prop) : Prop :=
  q_X5_isColumn g_n x1 (fun b2 => (b2 = false → q_X5_refuse g_refusals ((-1) : Int32) (fun r5 g_refusals_4 => Q r5 g_refusals_4)) ∧ (b2 = true → q_X5_isColumn g_n x2 (fun b7 => (b7 = false → q_X5_refuse g_refusals ((-1) : Int32) (fun r10 g_refusals_9 => Q r10 g_refusals_9)) ∧ (b7 = true → (¬ x1 = x2 → q_X5_together g_n g_goods g_refusals g_good ((1 <<< (x1 &&& 31)) ||| (1 <<< (x2 &&& 31))) (fun r13 g_refusals_12 => Q r13 g_refusals_12)) ∧ (x1 = x2 → q_X5_refuse g_refusals ((-1) : Int32) (fun r15 g_refusals_14 => Q r15 g_refusals_14))))))
set_option maxRecDepth 100000 in
set_option maxHeartbeats 4000000 in
theorem c_X5_next (l : Launch) (dC : Nat → ClassId) (dI : Nat → Nat → Nat) (cI cZ : ClassId) (a_this a_refusals a_good : Nat) (z_lines z_set z_state z_weight z_all z_many z_trial z_isKnown z_always z_knot z_knots z_part z_parts : Value) (g_n : Int32) (g_goods : Int32) (g_refusals : Nat → Int32) (g_good : Nat → Int32) (x1 : Int32) (x2 : Int32) (Q : Int32 → (Nat → Int32) → Prop) (h : q_X5_next g_n g_goods g_refusals g_good x1 x2 Q) : MI l yX5_next wsX5_next rX5_next (dC, dI) [(cI, .int), (cZ, .boolean)] [.ref a_this, .int x1, .int x2] [(a_this, .inr (5, [.ref a_refusals, .int g_n, z_lines, z_set, z_state, z_weight, z_all, .ref a_good, z_many, .int g_goods, z_trial, z_isKnown, z_always, z_knot, z_knots, z_part, z_parts])), (a_refusals, .inl (cI, 7, .inl g_refusals)), (a_good, .inl (cI, 40320, .inl g_good))] (fun (r : Int32) (u : (Nat → Int32)) => Q r u) (fun u : (Nat → Int32) => [(a_this, .inr (5, [.ref a_refusals, .int g_n, z_lines, z_set, z_state, z_weight, z_all, .ref a_good, z_many, .int g_goods, z_trial, z_isKnown, z_always, z_knot, z_knots, z_part, z_parts])), (a_refusals, .inl (cI, 7, .inl u)), (a_good, .inl (cI, 40320, .inl g_good))]) := by
  refine MI.of (cc := cX5_next) (maxL := 3) (by decide +kernel) rfl (Nat.le_of_ble_eq_true rfl) ?_
  intro p e s m args below meth c A QQ ls hx hb hml hown hts hA hK hP hD hS hNW ret hl
  have hl : lv_has ls 3 [(0, .ref a_this), (1, .int x1), (2, .int x2)] := hl
  have hown : s.vm.findClass RX5 = some m.cls := hown
  refine lv_aload_n hx hb dX5_next_0 rfl (lv_at hl 0 rfl) ?_
  refine lv_iload_n hx hb dX5_next_1 rfl (lv_at hl 1 rfl) ?_
  refine MI.callV (As := [.int x1]) (rest := []) (wr := [(a_refusals, .inl (cI, 7, .inl g_refusals)), (a_good, .inl (cI, 40320, .inl g_good))]) (ci := 5) (q0 := 0) (c_X5_isColumn l dC dI cI cZ a_this (.ref a_refusals) z_lines z_set z_state z_weight z_all (.ref a_good) z_many (.int g_goods) z_trial z_isKnown z_always z_knot z_knots z_part z_parts g_n x1 _ h) ⟨hx, hb, hml, hown, hts⟩ (cwV 1 hts gX5_next_X5_isColumn rfl rfl rfl (by decide +kernel) ⟨Nat.le_of_ble_eq_true rfl, Nat.le_of_ble_eq_true rfl⟩) hK hP hD hS hA hNW [0] [1, 2] rfl rfl (by decide) (by decide) (by decide) rfl rfl rfl rfl hl.1 rfl (Nat.le_of_ble_eq_true rfl) dX5_next_2 ⟨Nat.zero_le _, Nat.zero_le _⟩ (fun r1 u H locs hw hP hD hS => ?_)
  obtain ⟨b2, rfl, hw⟩ := hw
  have h := hw
  try dsimp only at h
  have hP : va_P (dC, dI) vwCl [(a_refusals, .inl (cI, 7, .inl g_refusals)), (a_good, .inl (cI, 40320, .inl g_good)), (a_this, .inr (5, [.ref a_refusals, .int g_n, z_lines, z_set, z_state, z_weight, z_all, .ref a_good, z_many, .int g_goods, z_trial, z_isKnown, z_always, z_knot, z_knots, z_part, z_parts]))] H := hP
  have hD : va_D A [(a_refusals, .inl (cI, 7, .inl g_refusals)), (a_good, .inl (cI, 40320, .inl g_good)), (a_this, .inr (5, [.ref a_refusals, .int g_n, z_lines, z_set, z_state, z_weight, z_all, .ref a_good, z_many, .int g_goods, z_trial, z_isKnown, z_always, z_knot, z_knots, z_part, z_parts]))] := hD
  refine lv_if_eq (tgt := 21) hx hb dX5_next_5 (by decide) (fun k3 => ?_) (fun k3 => ?_)
  · have h := h.1 (bI_0 k3)
    refine lv_aload_n hx hb dX5_next_21 rfl (lv_at hl 0 rfl) ?_
    refine lv_iconst (v := (-1)) hx hb dX5_next_22 (by decide) ?_
    refine MI.callV (As := [.int (-1)]) (rest := []) (wr := [(a_good, .inl (cI, 40320, .inl g_good))]) (ci := 5) (q0 := 0) (c_X5_refuse l dC dI cI cZ a_this a_refusals (.int g_n) z_lines z_set z_state z_weight z_all (.ref a_good) z_many (.int g_goods) z_trial z_isKnown z_always z_knot z_knots z_part z_parts g_refusals ((-1) : Int32) _ h) ⟨hx, hb, hml, hown, hts⟩ (cwV 1 hts gX5_next_X5_refuse rfl rfl rfl (by decide +kernel) ⟨Nat.le_of_ble_eq_true rfl, Nat.le_of_ble_eq_true rfl⟩) hK hP hD hS hA hNW [2, 0] [1] rfl rfl (by decide) (by decide) (by decide) rfl rfl rfl rfl hl.1 rfl (Nat.le_of_ble_eq_true rfl) dX5_next_23 ⟨Nat.zero_le _, Nat.zero_le _⟩ (fun r5 u H locs hw hP hD hS => ?_)
    obtain ⟨g_refusals_4, rfl⟩ : ∃ z, z = u := ⟨_, rfl⟩
    have h := hw
    try dsimp only at h
    have hP : va_P (dC, dI) vwCl [(a_good, .inl (cI, 40320, .inl g_good)), (a_this, .inr (5, [.ref a_refusals, .int g_n, z_lines, z_set, z_state, z_weight, z_all, .ref a_good, z_many, .int g_goods, z_trial, z_isKnown, z_always, z_knot, z_knots, z_part, z_parts])), (a_refusals, .inl (cI, 7, .inl g_refusals_4))] H := hP
    have hD : va_D A [(a_good, .inl (cI, 40320, .inl g_good)), (a_this, .inr (5, [.ref a_refusals, .int g_n, z_lines, z_set, z_state, z_weight, z_all, .ref a_good, z_many, .int g_goods, z_trial, z_isKnown, z_always, z_knot, z_knots, z_part, z_parts])), (a_refusals, .inl (cI, 7, .inl g_refusals_4))] := hD
    exact ret _ _ _ _ r5 g_refusals_4 dX5_next_26 h (reP hP [1, 2, 0] rfl) (hD.sub [1, 2, 0] (by decide) rfl) hS
  · have h := h.2 (bI_1 k3)
    refine lv_aload_n hx hb dX5_next_8 rfl (lv_at hl 0 rfl) ?_
    refine lv_iload_n hx hb dX5_next_9 rfl (lv_at hl 2 rfl) ?_
    refine MI.callV (As := [.int x2]) (rest := []) (wr := [(a_refusals, .inl (cI, 7, .inl g_refusals)), (a_good, .inl (cI, 40320, .inl g_good))]) (ci := 5) (q0 := 0) (c_X5_isColumn l dC dI cI cZ a_this (.ref a_refusals) z_lines z_set z_state z_weight z_all (.ref a_good) z_many (.int g_goods) z_trial z_isKnown z_always z_knot z_knots z_part z_parts g_n x2 _ h) ⟨hx, hb, hml, hown, hts⟩ (cwV 1 hts gX5_next_X5_isColumn rfl rfl rfl (by decide +kernel) ⟨Nat.le_of_ble_eq_true rfl, Nat.le_of_ble_eq_true rfl⟩) hK hP hD hS hA hNW [2] [0, 1] rfl rfl (by decide) (by decide) (by decide) rfl rfl rfl rfl hl.1 rfl (Nat.le_of_ble_eq_true rfl) dX5_next_10 ⟨Nat.zero_le _, Nat.zero_le _⟩ (fun r6 u H locs hw hP hD hS => ?_)
    obtain ⟨b7, rfl, hw⟩ := hw
    have h := hw
    try dsimp only at h
    have hP : va_P (dC, dI) vwCl [(a_refusals, .inl (cI, 7, .inl g_refusals)), (a_good, .inl (cI, 40320, .inl g_good)), (a_this, .inr (5, [.ref a_refusals, .int g_n, z_lines, z_set, z_state, z_weight, z_all, .ref a_good, z_many, .int g_goods, z_trial, z_isKnown, z_always, z_knot, z_knots, z_part, z_parts]))] H := hP
    have hD : va_D A [(a_refusals, .inl (cI, 7, .inl g_refusals)), (a_good, .inl (cI, 40320, .inl g_good)), (a_this, .inr (5, [.ref a_refusals, .int g_n, z_lines, z_set, z_state, z_weight, z_all, .ref a_good, z_many, .int g_goods, z_trial, z_isKnown, z_always, z_knot, z_knots, z_part, z_parts]))] := hD
    refine lv_if_eq (tgt := 21) hx hb dX5_next_13 (by decide) (fun k8 => ?_) (fun k8 => ?_)
    · have h := h.1 (bI_0 k8)
      refine lv_aload_n hx hb dX5_next_21 rfl (lv_at hl 0 rfl) ?_
      refine lv_iconst (v := (-1)) hx hb dX5_next_22 (by decide) ?_
      refine MI.callV (As := [.int (-1)]) (rest := []) (wr := [(a_good, .inl (cI, 40320, .inl g_good))]) (ci := 5) (q0 := 0) (c_X5_refuse l dC dI cI cZ a_this a_refusals (.int g_n) z_lines z_set z_state z_weight z_all (.ref a_good) z_many (.int g_goods) z_trial z_isKnown z_always z_knot z_knots z_part z_parts g_refusals ((-1) : Int32) _ h) ⟨hx, hb, hml, hown, hts⟩ (cwV 1 hts gX5_next_X5_refuse rfl rfl rfl (by decide +kernel) ⟨Nat.le_of_ble_eq_true rfl, Nat.le_of_ble_eq_true rfl⟩) hK hP hD hS hA hNW [2, 0] [1] rfl rfl (by decide) (by decide) (by decide) rfl rfl rfl rfl hl.1 rfl (Nat.le_of_ble_eq_true rfl) dX5_next_23 ⟨Nat.zero_le _, Nat.zero_le _⟩ (fun r10 u H locs hw hP hD hS => ?_)
      obtain ⟨g_refusals_9, rfl⟩ : ∃ z, z = u := ⟨_, rfl⟩
      have h := hw
      try dsimp only at h
      have hP : va_P (dC, dI) vwCl [(a_good, .inl (cI, 40320, .inl g_good)), (a_this, .inr (5, [.ref a_refusals, .int g_n, z_lines, z_set, z_state, z_weight, z_all, .ref a_good, z_many, .int g_goods, z_trial, z_isKnown, z_always, z_knot, z_knots, z_part, z_parts])), (a_refusals, .inl (cI, 7, .inl g_refusals_9))] H := hP
      have hD : va_D A [(a_good, .inl (cI, 40320, .inl g_good)), (a_this, .inr (5, [.ref a_refusals, .int g_n, z_lines, z_set, z_state, z_weight, z_all, .ref a_good, z_many, .int g_goods, z_trial, z_isKnown, z_always, z_knot, z_knots, z_part, z_parts])), (a_refusals, .inl (cI, 7, .inl g_refusals_9))] := hD
      exact ret _ _ _ _ r10 g_refusals_9 dX5_next_26 h (reP hP [1, 2, 0] rfl) (hD.sub [1, 2, 0] (by decide) rfl) hS
    · have h := h.2 (bI_1 k8)
      refine lv_iload_n hx hb dX5_next_16 rfl (lv_at hl 1 rfl) ?_
      refine lv_iload_n hx hb dX5_next_17 rfl (lv_at hl 2 rfl) ?_
      refine lv_icmp_ne (tgt := 27) hx hb dX5_next_18 (by decide) (fun k11 => ?_) (fun k11 => ?_)
      · have h := h.1 k11
        refine lv_aload_n hx hb dX5_next_27 rfl (lv_at hl 0 rfl) ?_
        refine lv_iconst (v := 1) hx hb dX5_next_28 (by decide) ?_
        refine lv_iload_n hx hb dX5_next_29 rfl (lv_at hl 1 rfl) ?_
        refine lv_ishl hx hb dX5_next_30 ?_
        refine lv_iconst (v := 1) hx hb dX5_next_31 (by decide) ?_
        refine lv_iload_n hx hb dX5_next_32 rfl (lv_at hl 2 rfl) ?_
        refine lv_ishl hx hb dX5_next_33 ?_
        refine lv_ior hx hb dX5_next_34 ?_
        refine MI.callV (As := [.int ((1 <<< (x1 &&& 31)) ||| (1 <<< (x2 &&& 31)))]) (rest := []) (wr := []) (ci := 5) (q0 := 0) (c_X5_together l dC dI cI cZ a_this a_refusals a_good z_lines z_set z_state z_weight z_all z_many z_trial z_isKnown z_always z_knot z_knots z_part z_parts g_n g_goods g_refusals g_good ((1 <<< (x1 &&& 31)) ||| (1 <<< (x2 &&& 31))) _ h) ⟨hx, hb, hml, hown, hts⟩ (cwV 1 hts gX5_next_X5_together rfl rfl rfl (by decide +kernel) ⟨Nat.le_of_ble_eq_true rfl, Nat.le_of_ble_eq_true rfl⟩) hK hP hD hS hA hNW [2, 0, 1] [] rfl rfl (by decide) (by decide) (by decide) rfl rfl rfl rfl hl.1 rfl (Nat.le_of_ble_eq_true rfl) dX5_next_35 ⟨Nat.zero_le _, Nat.zero_le _⟩ (fun r13 u H locs hw hP hD hS => ?_)
        obtain ⟨g_refusals_12, rfl⟩ : ∃ z, z = u := ⟨_, rfl⟩
        have h := hw
        try dsimp only at h
        have hP : va_P (dC, dI) vwCl [(a_this, .inr (5, [.ref a_refusals, .int g_n, z_lines, z_set, z_state, z_weight, z_all, .ref a_good, z_many, .int g_goods, z_trial, z_isKnown, z_always, z_knot, z_knots, z_part, z_parts])), (a_refusals, .inl (cI, 7, .inl g_refusals_12)), (a_good, .inl (cI, 40320, .inl g_good))] H := hP
        have hD : va_D A [(a_this, .inr (5, [.ref a_refusals, .int g_n, z_lines, z_set, z_state, z_weight, z_all, .ref a_good, z_many, .int g_goods, z_trial, z_isKnown, z_always, z_knot, z_knots, z_part, z_parts])), (a_refusals, .inl (cI, 7, .inl g_refusals_12)), (a_good, .inl (cI, 40320, .inl g_good))] := hD
        exact ret _ _ _ _ r13 g_refusals_12 dX5_next_38 h (reP hP [0, 1, 2] rfl) (hD.sub [0, 1, 2] (by decide) rfl) hS
      · have h := h.2 k11
        refine lv_aload_n hx hb dX5_next_21 rfl (lv_at hl 0 rfl) ?_
        refine lv_iconst (v := (-1)) hx hb dX5_next_22 (by decide) ?_
        refine MI.callV (As := [.int (-1)]) (rest := []) (wr := [(a_good, .inl (cI, 40320, .inl g_good))]) (ci := 5) (q0 := 0) (c_X5_refuse l dC dI cI cZ a_this a_refusals (.int g_n) z_lines z_set z_state z_weight z_all (.ref a_good) z_many (.int g_goods) z_trial z_isKnown z_always z_knot z_knots z_part z_parts g_refusals ((-1) : Int32) _ h) ⟨hx, hb, hml, hown, hts⟩ (cwV 1 hts gX5_next_X5_refuse rfl rfl rfl (by decide +kernel) ⟨Nat.le_of_ble_eq_true rfl, Nat.le_of_ble_eq_true rfl⟩) hK hP hD hS hA hNW [2, 0] [1] rfl rfl (by decide) (by decide) (by decide) rfl rfl rfl rfl hl.1 rfl (Nat.le_of_ble_eq_true rfl) dX5_next_23 ⟨Nat.zero_le _, Nat.zero_le _⟩ (fun r15 u H locs hw hP hD hS => ?_)
        obtain ⟨g_refusals_14, rfl⟩ : ∃ z, z = u := ⟨_, rfl⟩
        have h := hw
        try dsimp only at h
        have hP : va_P (dC, dI) vwCl [(a_good, .inl (cI, 40320, .inl g_good)), (a_this, .inr (5, [.ref a_refusals, .int g_n, z_lines, z_set, z_state, z_weight, z_all, .ref a_good, z_many, .int g_goods, z_trial, z_isKnown, z_always, z_knot, z_knots, z_part, z_parts])), (a_refusals, .inl (cI, 7, .inl g_refusals_14))] H := hP
        have hD : va_D A [(a_good, .inl (cI, 40320, .inl g_good)), (a_this, .inr (5, [.ref a_refusals, .int g_n, z_lines, z_set, z_state, z_weight, z_all, .ref a_good, z_many, .int g_goods, z_trial, z_isKnown, z_always, z_knot, z_knots, z_part, z_parts])), (a_refusals, .inl (cI, 7, .inl g_refusals_14))] := hD
        exact ret _ _ _ _ r15 g_refusals_14 dX5_next_26 h (reP hP [1, 2, 0] rfl) (hD.sub [1, 2, 0] (by decide) rfl) hS
/-! ### X5_ends ends(I)I -/
def rX5_ends : Room := { frames := 2, cells := 0, slots := 0, locals := 42 }
def q_X5_ends_J75 (x2 : Int32) (g_goods : Int32) (g_refusals : Nat → Int32) (Q : Int32 → (Nat → Int32) → Prop) : Prop :=
  q_X5_told g_goods x2 (fun r1 => Q r1 g_refusals)
def q_X5_ends_L18 (x1 : Int32) (g_n : Int32) (g_goods : Int32) (g_refusals : Nat → Int32) (g_good : Nat → Int32) (Q : Int32 → (Nat → Int32) → Prop) : Nat → Int32 → Int32 → Prop
  | 0 => fun _ _ => False
  | n + 1 => fun x2 x3 => (g_goods ≤ x3 → q_X5_ends_J75 x2 g_goods g_refusals Q) ∧ (¬ g_goods ≤ x3 → vp_in x3 40320 ∧ q_X5_columnAt g_n (g_good (Int32.toNatClampNeg x3)) (0 : Int32) (fun r3 => (r3 = x1 → ∀ x2_5 : Int32, x2_5 = (x2 + 1) → (q_X5_ends_L18 x1 g_n g_goods g_refusals g_good Q n) x2_5 (x3 + 1)) ∧ (¬ r3 = x1 → q_X5_columnAt g_n (g_good (Int32.toNatClampNeg x3)) (g_n - 1) (fun r6 => (¬ r6 = x1 → ∀ x2_8 : Int32, x2_8 = (x2 + 0) → (q_X5_ends_L18 x1 g_n g_goods g_refusals g_good Q n) x2_8 (x3 + 1)) ∧ (r6 = x1 → ∀ x2_9 : Int32, x2_9 = (x2 + 1) → (q_X5_ends_L18 x1 g_n g_goods g_refusals g_good Q n) x2_9 (x3 + 1))))))
def q_X5_ends (g_n : Int32) (g_goods : Int32) (g_refusals : Nat → Int32) (g_good : Nat → Int32) (x1 : Int32) (Q : Int32 → (Nat → Int32) → Prop) : Prop :=
  q_X5_isColumn g_n x1 (fun b2 => (b2 = true → ∃ N : Nat, q_X5_ends_L18 x1 g_n g_goods g_refusals g_good Q N 0 0) ∧ (b2 = false → q_X5_refuse g_refusals ((-1) : Int32) (fun r5 g_refusals_4 => Q r5 g_refusals_4)))
set_option maxRecDepth 100000 in
set_option maxHeartbeats 4000000 in
theorem c_X5_ends (l : Launch) (dC : Nat → ClassId) (dI : Nat → Nat → Nat) (cI cZ : ClassId) (a_this a_refusals a_good : Nat) (z_lines z_set z_state z_weight z_all z_many z_trial z_isKnown z_always z_knot z_knots z_part z_parts : Value) (g_n : Int32) (g_goods : Int32) (g_refusals : Nat → Int32) (g_good : Nat → Int32) (x1 : Int32) (Q : Int32 → (Nat → Int32) → Prop) (h : q_X5_ends g_n g_goods g_refusals g_good x1 Q) : MI l yX5_ends wsX5_ends rX5_ends (dC, dI) [(cI, .int), (cZ, .boolean)] [.ref a_this, .int x1] [(a_this, .inr (5, [.ref a_refusals, .int g_n, z_lines, z_set, z_state, z_weight, z_all, .ref a_good, z_many, .int g_goods, z_trial, z_isKnown, z_always, z_knot, z_knots, z_part, z_parts])), (a_refusals, .inl (cI, 7, .inl g_refusals)), (a_good, .inl (cI, 40320, .inl g_good))] (fun (r : Int32) (u : (Nat → Int32)) => Q r u) (fun u : (Nat → Int32) => [(a_this, .inr (5, [.ref a_refusals, .int g_n, z_lines, z_set, z_state, z_weight, z_all, .ref a_good, z_many, .int g_goods, z_trial, z_isKnown, z_always, z_knot, z_knots, z_part, z_parts])), (a_refusals, .inl (cI, 7, .inl u)), (a_good, .inl (cI, 40320, .inl g_good))]) := by
  refine MI.of (cc := cX5_ends) (maxL := 4) (by decide +kernel) rfl (Nat.le_of_ble_eq_true rfl) ?_
  intro p e s m args below meth c A QQ ls hx hb hml hown hts hA hK hP hD hS hNW ret hl
  have hl : lv_has ls 4 [(0, .ref a_this), (1, .int x1)] := hl
  have hown : s.vm.findClass RX5 = some m.cls := hown
  have in5 : ∀ w ∈ u_ws RX5 TX5 17, w ∈ wsX5_ends := fun _ w9 => List.mem_cons_of_mem _ (List.mem_append_right _ w9)
  have f26 := hts (.fieldLink RX5 26 "OnesDeskModel" "good" "[I") (by decide +kernel)
  have f46 := hts (.fieldLink RX5 46 "OnesDeskModel" "n" "I") (by decide +kernel)
  have f60 := hts (.fieldLink RX5 60 "OnesDeskModel" "goods" "I") (by decide +kernel)
  refine lv_aload_n hx hb dX5_ends_0 rfl (lv_at hl 0 rfl) ?_
  refine lv_iload_n hx hb dX5_ends_1 rfl (lv_at hl 1 rfl) ?_
  refine MI.callV (As := [.int x1]) (rest := []) (wr := [(a_refusals, .inl (cI, 7, .inl g_refusals)), (a_good, .inl (cI, 40320, .inl g_good))]) (ci := 5) (q0 := 0) (c_X5_isColumn l dC dI cI cZ a_this (.ref a_refusals) z_lines z_set z_state z_weight z_all (.ref a_good) z_many (.int g_goods) z_trial z_isKnown z_always z_knot z_knots z_part z_parts g_n x1 _ h) ⟨hx, hb, hml, hown, hts⟩ (cwV 1 hts gX5_ends_X5_isColumn rfl rfl rfl (by decide +kernel) ⟨Nat.le_of_ble_eq_true rfl, Nat.le_of_ble_eq_true rfl⟩) hK hP hD hS hA hNW [0] [1, 2] rfl rfl (by decide) (by decide) (by decide) rfl rfl rfl rfl hl.1 rfl (Nat.le_of_ble_eq_true rfl) dX5_ends_2 ⟨Nat.zero_le _, Nat.zero_le _⟩ (fun r1 u H locs hw hP hD hS => ?_)
  obtain ⟨b2, rfl, hw⟩ := hw
  have h := hw
  try dsimp only at h
  have hP : va_P (dC, dI) vwCl [(a_refusals, .inl (cI, 7, .inl g_refusals)), (a_good, .inl (cI, 40320, .inl g_good)), (a_this, .inr (5, [.ref a_refusals, .int g_n, z_lines, z_set, z_state, z_weight, z_all, .ref a_good, z_many, .int g_goods, z_trial, z_isKnown, z_always, z_knot, z_knots, z_part, z_parts]))] H := hP
  have hD : va_D A [(a_refusals, .inl (cI, 7, .inl g_refusals)), (a_good, .inl (cI, 40320, .inl g_good)), (a_this, .inr (5, [.ref a_refusals, .int g_n, z_lines, z_set, z_state, z_weight, z_all, .ref a_good, z_many, .int g_goods, z_trial, z_isKnown, z_always, z_knot, z_knots, z_part, z_parts]))] := hD
  refine lv_if_ne (tgt := 14) hx hb dX5_ends_5 (by decide) (fun k3 => ?_) (fun k3 => ?_)
  · have h := h.1 (bI_1 k3)
    refine lv_iconst (v := 0) hx hb dX5_ends_14 (by decide) ?_
    refine lv_istore_n (lv' := [(2, .int 0), (0, .ref a_this), (1, .int x1)]) hx hb dX5_ends_15 rfl hl (by decide) rfl (fun ls hl => ?_)
    refine lv_iconst (v := 0) hx hb dX5_ends_16 (by decide) ?_
    refine lv_istore_n (lv' := [(3, .int 0), (2, .int 0), (0, .ref a_this), (1, .int x1)]) hx hb dX5_ends_17 rfl hl (by decide) rfl (fun ls hl => ?_)
    have L18 : ∀ (n18 : Nat), ∀ (x2 : Int32) (x3 : Int32), q_X5_ends_L18 x1 g_n g_goods g_refusals g_good Q n18 x2 x3 → ∀ (H : Heap) (locs : List Loc) (ls : Array Slot), va_P (dC, dI) vwCl [(a_this, .inr (5, [.ref a_refusals, .int g_n, z_lines, z_set, z_state, z_weight, z_all, .ref a_good, z_many, .int g_goods, z_trial, z_isKnown, z_always, z_knot, z_knots, z_part, z_parts])), (a_refusals, .inl (cI, 7, .inl g_refusals)), (a_good, .inl (cI, 40320, .inl g_good))] H → va_D A [(a_this, .inr (5, [.ref a_refusals, .int g_n, z_lines, z_set, z_state, z_weight, z_all, .ref a_good, z_many, .int g_goods, z_trial, z_isKnown, z_always, z_knot, z_knots, z_part, z_parts])), (a_refusals, .inl (cI, 7, .inl g_refusals)), (a_good, .inl (cI, 40320, .inl g_good))] → va_S A s.heap H locs → lv_has ls 4 [(0, .ref a_this), (1, .int x1), (2, .int x2), (3, .int x3)] → W p l e rX5_ends s m args below meth c H locs 0 0 QQ (F0 m 18 ls []) := by
      intro n18
      induction n18 with
      | zero => intro x2 x3 h; exact False.elim h
      | succ n18 ih18 =>
        intro x2 x3 h H locs ls hP hD hS hl
        refine lv_iload_n hx hb dX5_ends_18 rfl (lv_at hl 3 rfl) ?_
        refine lv_aload_n hx hb dX5_ends_19 rfl (lv_at hl 0 rfl) ?_
        refine va_get (D := (dC, dI)) (ci := 5) (v := .int g_goods) (C := RX5) (T := TX5) (N := 17) hx hb hts in5 hown hK hP 0 rfl rfl 9 (by decide) f60 (fun _ h9 => h9) rfl dX5_ends_20 ?_
        refine lv_icmp_ge (tgt := 75) hx hb dX5_ends_23 (by decide) (fun k1 => ?_) (fun k1 => ?_)
        · have h := h.1 k1
          have J75 : q_X5_ends_J75 x2 g_goods g_refusals Q → ∀ (H : Heap) (locs : List Loc) (ls : Array Slot), va_P (dC, dI) vwCl [(a_this, .inr (5, [.ref a_refusals, .int g_n, z_lines, z_set, z_state, z_weight, z_all, .ref a_good, z_many, .int g_goods, z_trial, z_isKnown, z_always, z_knot, z_knots, z_part, z_parts])), (a_refusals, .inl (cI, 7, .inl g_refusals)), (a_good, .inl (cI, 40320, .inl g_good))] H → va_D A [(a_this, .inr (5, [.ref a_refusals, .int g_n, z_lines, z_set, z_state, z_weight, z_all, .ref a_good, z_many, .int g_goods, z_trial, z_isKnown, z_always, z_knot, z_knots, z_part, z_parts])), (a_refusals, .inl (cI, 7, .inl g_refusals)), (a_good, .inl (cI, 40320, .inl g_good))] → va_S A s.heap H locs → lv_has ls 4 [(0, .ref a_this), (2, .int x2)] → W p l e rX5_ends s m args below meth c H locs 0 0 QQ (F0 m 75 ls []) := by
            intro  h H locs ls hP hD hS hl
            refine lv_aload_n hx hb dX5_ends_75 rfl (lv_at hl 0 rfl) ?_
            refine lv_iload_n hx hb dX5_ends_76 rfl (lv_at hl 1 rfl) ?_
            refine MI.callV (As := [.int x2]) (rest := []) (wr := [(a_refusals, .inl (cI, 7, .inl g_refusals)), (a_good, .inl (cI, 40320, .inl g_good))]) (ci := 5) (q0 := 0) (c_X5_told l dC dI cI cZ a_this (.ref a_refusals) (.int g_n) z_lines z_set z_state z_weight z_all (.ref a_good) z_many z_trial z_isKnown z_always z_knot z_knots z_part z_parts g_goods x2 _ h) ⟨hx, hb, hml, hown, hts⟩ (cwV 1 hts gX5_ends_X5_told rfl rfl rfl (by decide +kernel) ⟨Nat.le_of_ble_eq_true rfl, Nat.le_of_ble_eq_true rfl⟩) hK hP hD hS hA hNW [0] [1, 2] rfl rfl (by decide) (by decide) (by decide) rfl rfl rfl rfl hl.1 rfl (Nat.le_of_ble_eq_true rfl) dX5_ends_77 ⟨Nat.zero_le _, Nat.zero_le _⟩ (fun r1 u H locs hw hP hD hS => ?_)
            have h := hw
            try dsimp only at h
            have hP : va_P (dC, dI) vwCl [(a_refusals, .inl (cI, 7, .inl g_refusals)), (a_good, .inl (cI, 40320, .inl g_good)), (a_this, .inr (5, [.ref a_refusals, .int g_n, z_lines, z_set, z_state, z_weight, z_all, .ref a_good, z_many, .int g_goods, z_trial, z_isKnown, z_always, z_knot, z_knots, z_part, z_parts]))] H := hP
            have hD : va_D A [(a_refusals, .inl (cI, 7, .inl g_refusals)), (a_good, .inl (cI, 40320, .inl g_good)), (a_this, .inr (5, [.ref a_refusals, .int g_n, z_lines, z_set, z_state, z_weight, z_all, .ref a_good, z_many, .int g_goods, z_trial, z_isKnown, z_always, z_knot, z_knots, z_part, z_parts]))] := hD
            exact ret _ _ _ _ r1 g_refusals dX5_ends_80 h (reP hP [2, 0, 1] rfl) (hD.sub [2, 0, 1] (by decide) rfl) hS
          exact J75 h _ _ _ (reP hP [0, 1, 2] rfl) (hD.sub [0, 1, 2] (by decide) rfl) hS (lv_sub hl [0, 2] rfl)
        · have h := h.2 k1
          refine lv_iload_n hx hb dX5_ends_26 rfl (lv_at hl 2 rfl) ?_
          refine lv_aload_n hx hb dX5_ends_27 rfl (lv_at hl 0 rfl) ?_
          refine lv_aload_n hx hb dX5_ends_28 rfl (lv_at hl 0 rfl) ?_
          refine va_get (D := (dC, dI)) (ci := 5) (v := .ref a_good) (C := RX5) (T := TX5) (N := 17) hx hb hts in5 hown hK hP 0 rfl rfl 7 (by decide) f26 (fun _ h9 => h9) rfl dX5_ends_29 ?_
          refine lv_iload_n hx hb dX5_ends_32 rfl (lv_at hl 3 rfl) ?_
          obtain ⟨hi2, h⟩ := h
          refine va_iald (D := (dC, dI)) hx hb hK hP 2 0 rfl rfl hi2 dX5_ends_33 ?_
          refine lv_iconst (v := 0) hx hb dX5_ends_34 (by decide) ?_
          refine MI.callV (As := [.int (g_good (Int32.toNatClampNeg x3)), .int 0]) (rest := [.int x2]) (wr := [(a_refusals, .inl (cI, 7, .inl g_refusals)), (a_good, .inl (cI, 40320, .inl g_good))]) (ci := 5) (q0 := 0) (c_X5_columnAt l dC dI cI cZ a_this (.ref a_refusals) z_lines z_set z_state z_weight z_all (.ref a_good) z_many (.int g_goods) z_trial z_isKnown z_always z_knot z_knots z_part z_parts g_n (g_good (Int32.toNatClampNeg x3)) (0 : Int32) _ h) ⟨hx, hb, hml, hown, hts⟩ (cwV 2 hts gX5_ends_X5_columnAt rfl rfl rfl (by decide +kernel) ⟨Nat.le_of_ble_eq_true rfl, Nat.le_of_ble_eq_true rfl⟩) hK hP hD hS hA hNW [0] [1, 2] rfl rfl (by decide) (by decide) (by decide) rfl rfl rfl rfl hl.1 rfl (Nat.le_of_ble_eq_true rfl) dX5_ends_35 ⟨Nat.zero_le _, Nat.zero_le _⟩ (fun r3 u H locs hw hP hD hS => ?_)
          have h := hw
          try dsimp only at h
          have hP : va_P (dC, dI) vwCl [(a_refusals, .inl (cI, 7, .inl g_refusals)), (a_good, .inl (cI, 40320, .inl g_good)), (a_this, .inr (5, [.ref a_refusals, .int g_n, z_lines, z_set, z_state, z_weight, z_all, .ref a_good, z_many, .int g_goods, z_trial, z_isKnown, z_always, z_knot, z_knots, z_part, z_parts]))] H := hP
          have hD : va_D A [(a_refusals, .inl (cI, 7, .inl g_refusals)), (a_good, .inl (cI, 40320, .inl g_good)), (a_this, .inr (5, [.ref a_refusals, .int g_n, z_lines, z_set, z_state, z_weight, z_all, .ref a_good, z_many, .int g_goods, z_trial, z_isKnown, z_always, z_knot, z_knots, z_part, z_parts]))] := hD
          refine lv_iload_n hx hb dX5_ends_38 rfl (lv_at hl 1 rfl) ?_
          refine lv_icmp_eq (tgt := 62) hx hb dX5_ends_39 (by decide) (fun k4 => ?_) (fun k4 => ?_)
          · have h := h.1 k4
            refine lv_iconst (v := 1) hx hb dX5_ends_62 (by decide) ?_
            refine lv_goto (tgt := 67) hx hb dX5_ends_63 (by decide) ?_
            refine lv_iadd hx hb dX5_ends_67 ?_
            refine lv_topi (fun x2_5 ex2_5 => ?_)
            have h := h x2_5 ex2_5
            refine lv_istore_n (lv' := [(2, .int x2_5), (0, .ref a_this), (1, .int x1), (3, .int x3)]) hx hb dX5_ends_68 rfl hl (by decide) rfl (fun ls hl => ?_)
            refine lv_iinc (v := x3 + 1) (lv' := [(3, .int (x3 + 1)), (2, .int x2_5), (0, .ref a_this), (1, .int x1)]) hx hb dX5_ends_69 hl (k := 3) rfl rfl (by decide) rfl (fun ls hl => ?_)
            refine lv_goto (tgt := 18) hx hb dX5_ends_72 (by decide) ?_
            exact ih18 x2_5 (x3 + 1) h _ _ _ (reP hP [2, 0, 1] rfl) (hD.sub [2, 0, 1] (by decide) rfl) hS (lv_sub hl [2, 3, 1, 0] rfl)
          · have h := h.2 k4
            refine lv_aload_n hx hb dX5_ends_42 rfl (lv_at hl 0 rfl) ?_
            refine lv_aload_n hx hb dX5_ends_43 rfl (lv_at hl 0 rfl) ?_
            refine va_get (D := (dC, dI)) (ci := 5) (v := .ref a_good) (C := RX5) (T := TX5) (N := 17) hx hb hts in5 hown hK hP 2 rfl rfl 7 (by decide) f26 (fun _ h9 => h9) rfl dX5_ends_44 ?_
            refine lv_iload_n hx hb dX5_ends_47 rfl (lv_at hl 3 rfl) ?_
            refine va_iald (D := (dC, dI)) hx hb hK hP 1 0 rfl rfl hi2 dX5_ends_48 ?_
            refine lv_aload_n hx hb dX5_ends_49 rfl (lv_at hl 0 rfl) ?_
            refine va_get (D := (dC, dI)) (ci := 5) (v := .int g_n) (C := RX5) (T := TX5) (N := 17) hx hb hts in5 hown hK hP 2 rfl rfl 1 (by decide) f46 (fun _ h9 => h9) rfl dX5_ends_50 ?_
            refine lv_iconst (v := 1) hx hb dX5_ends_53 (by decide) ?_
            refine lv_isub hx hb dX5_ends_54 ?_
            refine MI.callV (As := [.int (g_good (Int32.toNatClampNeg x3)), .int (g_n - 1)]) (rest := [.int x2]) (wr := [(a_refusals, .inl (cI, 7, .inl g_refusals)), (a_good, .inl (cI, 40320, .inl g_good))]) (ci := 5) (q0 := 0) (c_X5_columnAt l dC dI cI cZ a_this (.ref a_refusals) z_lines z_set z_state z_weight z_all (.ref a_good) z_many (.int g_goods) z_trial z_isKnown z_always z_knot z_knots z_part z_parts g_n (g_good (Int32.toNatClampNeg x3)) (g_n - 1) _ h) ⟨hx, hb, hml, hown, hts⟩ (cwV 2 hts gX5_ends_X5_columnAt rfl rfl rfl (by decide +kernel) ⟨Nat.le_of_ble_eq_true rfl, Nat.le_of_ble_eq_true rfl⟩) hK hP hD hS hA hNW [2] [0, 1] rfl rfl (by decide) (by decide) (by decide) rfl rfl rfl rfl hl.1 rfl (Nat.le_of_ble_eq_true rfl) dX5_ends_55 ⟨Nat.zero_le _, Nat.zero_le _⟩ (fun r6 u H locs hw hP hD hS => ?_)
            have h := hw
            try dsimp only at h
            have hP : va_P (dC, dI) vwCl [(a_refusals, .inl (cI, 7, .inl g_refusals)), (a_good, .inl (cI, 40320, .inl g_good)), (a_this, .inr (5, [.ref a_refusals, .int g_n, z_lines, z_set, z_state, z_weight, z_all, .ref a_good, z_many, .int g_goods, z_trial, z_isKnown, z_always, z_knot, z_knots, z_part, z_parts]))] H := hP
            have hD : va_D A [(a_refusals, .inl (cI, 7, .inl g_refusals)), (a_good, .inl (cI, 40320, .inl g_good)), (a_this, .inr (5, [.ref a_refusals, .int g_n, z_lines, z_set, z_state, z_weight, z_all, .ref a_good, z_many, .int g_goods, z_trial, z_isKnown, z_always, z_knot, z_knots, z_part, z_parts]))] := hD
            refine lv_iload_n hx hb dX5_ends_58 rfl (lv_at hl 1 rfl) ?_
            refine lv_icmp_ne (tgt := 66) hx hb dX5_ends_59 (by decide) (fun k7 => ?_) (fun k7 => ?_)
            · have h := h.1 k7
              refine lv_iconst (v := 0) hx hb dX5_ends_66 (by decide) ?_
              refine lv_iadd hx hb dX5_ends_67 ?_
              refine lv_topi (fun x2_8 ex2_8 => ?_)
              have h := h x2_8 ex2_8
              refine lv_istore_n (lv' := [(2, .int x2_8), (0, .ref a_this), (1, .int x1), (3, .int x3)]) hx hb dX5_ends_68 rfl hl (by decide) rfl (fun ls hl => ?_)
              refine lv_iinc (v := x3 + 1) (lv' := [(3, .int (x3 + 1)), (2, .int x2_8), (0, .ref a_this), (1, .int x1)]) hx hb dX5_ends_69 hl (k := 3) rfl rfl (by decide) rfl (fun ls hl => ?_)
              refine lv_goto (tgt := 18) hx hb dX5_ends_72 (by decide) ?_
              exact ih18 x2_8 (x3 + 1) h _ _ _ (reP hP [2, 0, 1] rfl) (hD.sub [2, 0, 1] (by decide) rfl) hS (lv_sub hl [2, 3, 1, 0] rfl)
            · have h := h.2 k7
              refine lv_iconst (v := 1) hx hb dX5_ends_62 (by decide) ?_
              refine lv_goto (tgt := 67) hx hb dX5_ends_63 (by decide) ?_
              refine lv_iadd hx hb dX5_ends_67 ?_
              refine lv_topi (fun x2_9 ex2_9 => ?_)
              have h := h x2_9 ex2_9
              refine lv_istore_n (lv' := [(2, .int x2_9), (0, .ref a_this), (1, .int x1), (3, .int x3)]) hx hb dX5_ends_68 rfl hl (by decide) rfl (fun ls hl => ?_)
              refine lv_iinc (v := x3 + 1) (lv' := [(3, .int (x3 + 1)), (2, .int x2_9), (0, .ref a_this), (1, .int x1)]) hx hb dX5_ends_69 hl (k := 3) rfl rfl (by decide) rfl (fun ls hl => ?_)
              refine lv_goto (tgt := 18) hx hb dX5_ends_72 (by decide) ?_
              exact ih18 x2_9 (x3 + 1) h _ _ _ (reP hP [2, 0, 1] rfl) (hD.sub [2, 0, 1] (by decide) rfl) hS (lv_sub hl [2, 3, 1, 0] rfl)
    obtain ⟨n, h⟩ := h
    exact L18 n 0 0 h _ _ _ (reP hP [2, 0, 1] rfl) (hD.sub [2, 0, 1] (by decide) rfl) hS (lv_sub hl [2, 3, 1, 0] rfl)
  · have h := h.2 (bI_0 k3)
    refine lv_aload_n hx hb dX5_ends_8 rfl (lv_at hl 0 rfl) ?_
    refine lv_iconst (v := (-1)) hx hb dX5_ends_9 (by decide) ?_
    refine MI.callV (As := [.int (-1)]) (rest := []) (wr := [(a_good, .inl (cI, 40320, .inl g_good))]) (ci := 5) (q0 := 0) (c_X5_refuse l dC dI cI cZ a_this a_refusals (.int g_n) z_lines z_set z_state z_weight z_all (.ref a_good) z_many (.int g_goods) z_trial z_isKnown z_always z_knot z_knots z_part z_parts g_refusals ((-1) : Int32) _ h) ⟨hx, hb, hml, hown, hts⟩ (cwV 1 hts gX5_ends_X5_refuse rfl rfl rfl (by decide +kernel) ⟨Nat.le_of_ble_eq_true rfl, Nat.le_of_ble_eq_true rfl⟩) hK hP hD hS hA hNW [2, 0] [1] rfl rfl (by decide) (by decide) (by decide) rfl rfl rfl rfl hl.1 rfl (Nat.le_of_ble_eq_true rfl) dX5_ends_10 ⟨Nat.zero_le _, Nat.zero_le _⟩ (fun r5 u H locs hw hP hD hS => ?_)
    obtain ⟨g_refusals_4, rfl⟩ : ∃ z, z = u := ⟨_, rfl⟩
    have h := hw
    try dsimp only at h
    have hP : va_P (dC, dI) vwCl [(a_good, .inl (cI, 40320, .inl g_good)), (a_this, .inr (5, [.ref a_refusals, .int g_n, z_lines, z_set, z_state, z_weight, z_all, .ref a_good, z_many, .int g_goods, z_trial, z_isKnown, z_always, z_knot, z_knots, z_part, z_parts])), (a_refusals, .inl (cI, 7, .inl g_refusals_4))] H := hP
    have hD : va_D A [(a_good, .inl (cI, 40320, .inl g_good)), (a_this, .inr (5, [.ref a_refusals, .int g_n, z_lines, z_set, z_state, z_weight, z_all, .ref a_good, z_many, .int g_goods, z_trial, z_isKnown, z_always, z_knot, z_knots, z_part, z_parts])), (a_refusals, .inl (cI, 7, .inl g_refusals_4))] := hD
    exact ret _ _ _ _ r5 g_refusals_4 dX5_ends_13 h (reP hP [1, 2, 0] rfl) (hD.sub [1, 2, 0] (by decide) rfl) hS
/-! ### X5_apart apart(IIZ)I -/
def rX5_apart : Room := { frames := 2, cells := 0, slots := 0, locals := 45 }
def q_X5_apart_L33 (x1 : Int32) (x2 : Int32) (x3 : Int32) (g_n : Int32) (g_goods : Int32) (g_refusals : Nat → Int32) (g_good : Nat → Int32) (Q : Int32 → (Nat → Int32) → Prop) : Nat → Int32 → Int32 → Prop
  | 0 => fun _ _ => False
  | n + 1 => fun x4 x5 => (g_goods ≤ x5 → Q x4 g_refusals) ∧ (¬ g_goods ≤ x5 → vp_in x5 40320 ∧ q_X5_placeOf g_n (g_good (Int32.toNatClampNeg x5)) x1 (fun r3 => q_X5_placeOf g_n (g_good (Int32.toNatClampNeg x5)) x2 (fun r4 => ∀ x6 : Int32, x6 = (if 0 ≤ (r3 - r4) then (r3 - r4) else 0 - (r3 - r4)) → (x4 < 0 → (q_X5_apart_L33 x1 x2 x3 g_n g_goods g_refusals g_good Q n) x6 (x5 + 1)) ∧ (¬ x4 < 0 → (x3 = 0 → (x6 ≤ x4 → (q_X5_apart_L33 x1 x2 x3 g_n g_goods g_refusals g_good Q n) x4 (x5 + 1)) ∧ (¬ x6 ≤ x4 → (q_X5_apart_L33 x1 x2 x3 g_n g_goods g_refusals g_good Q n) x6 (x5 + 1))) ∧ (¬ x3 = 0 → (x4 ≤ x6 → (q_X5_apart_L33 x1 x2 x3 g_n g_goods g_refusals g_good Q n) x4 (x5 + 1)) ∧ (¬ x4 ≤ x6 → (q_X5_apart_L33 x1 x2 x3 g_n g_goods g_refusals g_good Q n) x6 (x5 + 1)))))))
def q_X5_apart (g_n : Int32) (g_goods : Int32) (g_refusals : Nat → Int32) (g_good : Nat → Int32) (x1 : Int32) (x2 : Int32) (x3 : Int32) (Q : Int32 → (Nat → Int32) → Prop) : Prop :=
  q_X5_isColumn g_n x1 (fun b2 => (b2 = false → q_X5_refuse g_refusals ((-1) : Int32) (fun r5 g_refusals_4 => Q r5 g_refusals_4)) ∧ (b2 = true → q_X5_isColumn g_n x2 (fun b7 => (b7 = false → q_X5_refuse g_refusals ((-1) : Int32) (fun r10 g_refusals_9 => Q r10 g_refusals_9)) ∧ (b7 = true → (¬ x1 = x2 → ∃ N : Nat, q_X5_apart_L33 x1 x2 x3 g_n g_goods g_refusals g_good Q N (-1) 0) ∧ (x1 = x2 → q_X5_refuse g_refusals ((-1) : Int32) (fun r13 g_refusals_12 => Q r13 g_refusals_12))))))
set_option maxRecDepth 100000 in
set_option maxHeartbeats 4000000 in
theorem c_X5_apart (l : Launch) (dC : Nat → ClassId) (dI : Nat → Nat → Nat) (cI cZ : ClassId) (a_this a_refusals a_good : Nat) (z_lines z_set z_state z_weight z_all z_many z_trial z_isKnown z_always z_knot z_knots z_part z_parts : Value) (g_n : Int32) (g_goods : Int32) (g_refusals : Nat → Int32) (g_good : Nat → Int32) (x1 : Int32) (x2 : Int32) (x3 : Int32) (Q : Int32 → (Nat → Int32) → Prop) (h : q_X5_apart g_n g_goods g_refusals g_good x1 x2 x3 Q) : MI l yX5_apart wsX5_apart rX5_apart (dC, dI) [(cI, .int), (cZ, .boolean)] [.ref a_this, .int x1, .int x2, .int x3] [(a_this, .inr (5, [.ref a_refusals, .int g_n, z_lines, z_set, z_state, z_weight, z_all, .ref a_good, z_many, .int g_goods, z_trial, z_isKnown, z_always, z_knot, z_knots, z_part, z_parts])), (a_refusals, .inl (cI, 7, .inl g_refusals)), (a_good, .inl (cI, 40320, .inl g_good))] (fun (r : Int32) (u : (Nat → Int32)) => Q r u) (fun u : (Nat → Int32) => [(a_this, .inr (5, [.ref a_refusals, .int g_n, z_lines, z_set, z_state, z_weight, z_all, .ref a_good, z_many, .int g_goods, z_trial, z_isKnown, z_always, z_knot, z_knots, z_part, z_parts])), (a_refusals, .inl (cI, 7, .inl u)), (a_good, .inl (cI, 40320, .inl g_good))]) := by
  refine MI.of (cc := cX5_apart) (maxL := 7) (by decide +kernel) rfl (Nat.le_of_ble_eq_true rfl) ?_
  intro p e s m args below meth c A QQ ls hx hb hml hown hts hA hK hP hD hS hNW ret hl
  have hl : lv_has ls 7 [(0, .ref a_this), (1, .int x1), (2, .int x2), (3, .int x3)] := hl
  have hown : s.vm.findClass RX5 = some m.cls := hown
  have in5 : ∀ w ∈ u_ws RX5 TX5 17, w ∈ wsX5_apart := fun _ w9 => List.mem_cons_of_mem _ (List.mem_append_right _ w9)
  have f26 := hts (.fieldLink RX5 26 "OnesDeskModel" "good" "[I") (by decide +kernel)
  have f60 := hts (.fieldLink RX5 60 "OnesDeskModel" "goods" "I") (by decide +kernel)
  refine lv_aload_n hx hb dX5_apart_0 rfl (lv_at hl 0 rfl) ?_
  refine lv_iload_n hx hb dX5_apart_1 rfl (lv_at hl 1 rfl) ?_
  refine MI.callV (As := [.int x1]) (rest := []) (wr := [(a_refusals, .inl (cI, 7, .inl g_refusals)), (a_good, .inl (cI, 40320, .inl g_good))]) (ci := 5) (q0 := 0) (c_X5_isColumn l dC dI cI cZ a_this (.ref a_refusals) z_lines z_set z_state z_weight z_all (.ref a_good) z_many (.int g_goods) z_trial z_isKnown z_always z_knot z_knots z_part z_parts g_n x1 _ h) ⟨hx, hb, hml, hown, hts⟩ (cwV 1 hts gX5_apart_X5_isColumn rfl rfl rfl (by decide +kernel) ⟨Nat.le_of_ble_eq_true rfl, Nat.le_of_ble_eq_true rfl⟩) hK hP hD hS hA hNW [0] [1, 2] rfl rfl (by decide) (by decide) (by decide) rfl rfl rfl rfl hl.1 rfl (Nat.le_of_ble_eq_true rfl) dX5_apart_2 ⟨Nat.zero_le _, Nat.zero_le _⟩ (fun r1 u H locs hw hP hD hS => ?_)
  obtain ⟨b2, rfl, hw⟩ := hw
  have h := hw
  try dsimp only at h
  have hP : va_P (dC, dI) vwCl [(a_refusals, .inl (cI, 7, .inl g_refusals)), (a_good, .inl (cI, 40320, .inl g_good)), (a_this, .inr (5, [.ref a_refusals, .int g_n, z_lines, z_set, z_state, z_weight, z_all, .ref a_good, z_many, .int g_goods, z_trial, z_isKnown, z_always, z_knot, z_knots, z_part, z_parts]))] H := hP
  have hD : va_D A [(a_refusals, .inl (cI, 7, .inl g_refusals)), (a_good, .inl (cI, 40320, .inl g_good)), (a_this, .inr (5, [.ref a_refusals, .int g_n, z_lines, z_set, z_state, z_weight, z_all, .ref a_good, z_many, .int g_goods, z_trial, z_isKnown, z_always, z_knot, z_knots, z_part, z_parts]))] := hD
  refine lv_if_eq (tgt := 21) hx hb dX5_apart_5 (by decide) (fun k3 => ?_) (fun k3 => ?_)
  · have h := h.1 (bI_0 k3)
    refine lv_aload_n hx hb dX5_apart_21 rfl (lv_at hl 0 rfl) ?_
    refine lv_iconst (v := (-1)) hx hb dX5_apart_22 (by decide) ?_
    refine MI.callV (As := [.int (-1)]) (rest := []) (wr := [(a_good, .inl (cI, 40320, .inl g_good))]) (ci := 5) (q0 := 0) (c_X5_refuse l dC dI cI cZ a_this a_refusals (.int g_n) z_lines z_set z_state z_weight z_all (.ref a_good) z_many (.int g_goods) z_trial z_isKnown z_always z_knot z_knots z_part z_parts g_refusals ((-1) : Int32) _ h) ⟨hx, hb, hml, hown, hts⟩ (cwV 1 hts gX5_apart_X5_refuse rfl rfl rfl (by decide +kernel) ⟨Nat.le_of_ble_eq_true rfl, Nat.le_of_ble_eq_true rfl⟩) hK hP hD hS hA hNW [2, 0] [1] rfl rfl (by decide) (by decide) (by decide) rfl rfl rfl rfl hl.1 rfl (Nat.le_of_ble_eq_true rfl) dX5_apart_23 ⟨Nat.zero_le _, Nat.zero_le _⟩ (fun r5 u H locs hw hP hD hS => ?_)
    obtain ⟨g_refusals_4, rfl⟩ : ∃ z, z = u := ⟨_, rfl⟩
    have h := hw
    try dsimp only at h
    have hP : va_P (dC, dI) vwCl [(a_good, .inl (cI, 40320, .inl g_good)), (a_this, .inr (5, [.ref a_refusals, .int g_n, z_lines, z_set, z_state, z_weight, z_all, .ref a_good, z_many, .int g_goods, z_trial, z_isKnown, z_always, z_knot, z_knots, z_part, z_parts])), (a_refusals, .inl (cI, 7, .inl g_refusals_4))] H := hP
    have hD : va_D A [(a_good, .inl (cI, 40320, .inl g_good)), (a_this, .inr (5, [.ref a_refusals, .int g_n, z_lines, z_set, z_state, z_weight, z_all, .ref a_good, z_many, .int g_goods, z_trial, z_isKnown, z_always, z_knot, z_knots, z_part, z_parts])), (a_refusals, .inl (cI, 7, .inl g_refusals_4))] := hD
    exact ret _ _ _ _ r5 g_refusals_4 dX5_apart_26 h (reP hP [1, 2, 0] rfl) (hD.sub [1, 2, 0] (by decide) rfl) hS
  · have h := h.2 (bI_1 k3)
    refine lv_aload_n hx hb dX5_apart_8 rfl (lv_at hl 0 rfl) ?_
    refine lv_iload_n hx hb dX5_apart_9 rfl (lv_at hl 2 rfl) ?_
    refine MI.callV (As := [.int x2]) (rest := []) (wr := [(a_refusals, .inl (cI, 7, .inl g_refusals)), (a_good, .inl (cI, 40320, .inl g_good))]) (ci := 5) (q0 := 0) (c_X5_isColumn l dC dI cI cZ a_this (.ref a_refusals) z_lines z_set z_state z_weight z_all (.ref a_good) z_many (.int g_goods) z_trial z_isKnown z_always z_knot z_knots z_part z_parts g_n x2 _ h) ⟨hx, hb, hml, hown, hts⟩ (cwV 1 hts gX5_apart_X5_isColumn rfl rfl rfl (by decide +kernel) ⟨Nat.le_of_ble_eq_true rfl, Nat.le_of_ble_eq_true rfl⟩) hK hP hD hS hA hNW [2] [0, 1] rfl rfl (by decide) (by decide) (by decide) rfl rfl rfl rfl hl.1 rfl (Nat.le_of_ble_eq_true rfl) dX5_apart_10 ⟨Nat.zero_le _, Nat.zero_le _⟩ (fun r6 u H locs hw hP hD hS => ?_)
    obtain ⟨b7, rfl, hw⟩ := hw
    have h := hw
    try dsimp only at h
    have hP : va_P (dC, dI) vwCl [(a_refusals, .inl (cI, 7, .inl g_refusals)), (a_good, .inl (cI, 40320, .inl g_good)), (a_this, .inr (5, [.ref a_refusals, .int g_n, z_lines, z_set, z_state, z_weight, z_all, .ref a_good, z_many, .int g_goods, z_trial, z_isKnown, z_always, z_knot, z_knots, z_part, z_parts]))] H := hP
    have hD : va_D A [(a_refusals, .inl (cI, 7, .inl g_refusals)), (a_good, .inl (cI, 40320, .inl g_good)), (a_this, .inr (5, [.ref a_refusals, .int g_n, z_lines, z_set, z_state, z_weight, z_all, .ref a_good, z_many, .int g_goods, z_trial, z_isKnown, z_always, z_knot, z_knots, z_part, z_parts]))] := hD
    refine lv_if_eq (tgt := 21) hx hb dX5_apart_13 (by decide) (fun k8 => ?_) (fun k8 => ?_)
    · have h := h.1 (bI_0 k8)
      refine lv_aload_n hx hb dX5_apart_21 rfl (lv_at hl 0 rfl) ?_
      refine lv_iconst (v := (-1)) hx hb dX5_apart_22 (by decide) ?_
      refine MI.callV (As := [.int (-1)]) (rest := []) (wr := [(a_good, .inl (cI, 40320, .inl g_good))]) (ci := 5) (q0 := 0) (c_X5_refuse l dC dI cI cZ a_this a_refusals (.int g_n) z_lines z_set z_state z_weight z_all (.ref a_good) z_many (.int g_goods) z_trial z_isKnown z_always z_knot z_knots z_part z_parts g_refusals ((-1) : Int32) _ h) ⟨hx, hb, hml, hown, hts⟩ (cwV 1 hts gX5_apart_X5_refuse rfl rfl rfl (by decide +kernel) ⟨Nat.le_of_ble_eq_true rfl, Nat.le_of_ble_eq_true rfl⟩) hK hP hD hS hA hNW [2, 0] [1] rfl rfl (by decide) (by decide) (by decide) rfl rfl rfl rfl hl.1 rfl (Nat.le_of_ble_eq_true rfl) dX5_apart_23 ⟨Nat.zero_le _, Nat.zero_le _⟩ (fun r10 u H locs hw hP hD hS => ?_)
      obtain ⟨g_refusals_9, rfl⟩ : ∃ z, z = u := ⟨_, rfl⟩
      have h := hw
      try dsimp only at h
      have hP : va_P (dC, dI) vwCl [(a_good, .inl (cI, 40320, .inl g_good)), (a_this, .inr (5, [.ref a_refusals, .int g_n, z_lines, z_set, z_state, z_weight, z_all, .ref a_good, z_many, .int g_goods, z_trial, z_isKnown, z_always, z_knot, z_knots, z_part, z_parts])), (a_refusals, .inl (cI, 7, .inl g_refusals_9))] H := hP
      have hD : va_D A [(a_good, .inl (cI, 40320, .inl g_good)), (a_this, .inr (5, [.ref a_refusals, .int g_n, z_lines, z_set, z_state, z_weight, z_all, .ref a_good, z_many, .int g_goods, z_trial, z_isKnown, z_always, z_knot, z_knots, z_part, z_parts])), (a_refusals, .inl (cI, 7, .inl g_refusals_9))] := hD
      exact ret _ _ _ _ r10 g_refusals_9 dX5_apart_26 h (reP hP [1, 2, 0] rfl) (hD.sub [1, 2, 0] (by decide) rfl) hS
    · have h := h.2 (bI_1 k8)
      refine lv_iload_n hx hb dX5_apart_16 rfl (lv_at hl 1 rfl) ?_
      refine lv_iload_n hx hb dX5_apart_17 rfl (lv_at hl 2 rfl) ?_
      refine lv_icmp_ne (tgt := 27) hx hb dX5_apart_18 (by decide) (fun k11 => ?_) (fun k11 => ?_)
      · have h := h.1 k11
        refine lv_iconst (v := (-1)) hx hb dX5_apart_27 (by decide) ?_
        refine lv_istore (lv' := [(4, .int (-1)), (0, .ref a_this), (1, .int x1), (2, .int x2), (3, .int x3)]) hx hb dX5_apart_28 hl (by decide) rfl (fun ls hl => ?_)
        refine lv_iconst (v := 0) hx hb dX5_apart_30 (by decide) ?_
        refine lv_istore (lv' := [(5, .int 0), (4, .int (-1)), (0, .ref a_this), (1, .int x1), (2, .int x2), (3, .int x3)]) hx hb dX5_apart_31 hl (by decide) rfl (fun ls hl => ?_)
        have L33 : ∀ (n33 : Nat), ∀ (x4 : Int32) (x5 : Int32), q_X5_apart_L33 x1 x2 x3 g_n g_goods g_refusals g_good Q n33 x4 x5 → ∀ (H : Heap) (locs : List Loc) (ls : Array Slot), va_P (dC, dI) vwCl [(a_this, .inr (5, [.ref a_refusals, .int g_n, z_lines, z_set, z_state, z_weight, z_all, .ref a_good, z_many, .int g_goods, z_trial, z_isKnown, z_always, z_knot, z_knots, z_part, z_parts])), (a_refusals, .inl (cI, 7, .inl g_refusals)), (a_good, .inl (cI, 40320, .inl g_good))] H → va_D A [(a_this, .inr (5, [.ref a_refusals, .int g_n, z_lines, z_set, z_state, z_weight, z_all, .ref a_good, z_many, .int g_goods, z_trial, z_isKnown, z_always, z_knot, z_knots, z_part, z_parts])), (a_refusals, .inl (cI, 7, .inl g_refusals)), (a_good, .inl (cI, 40320, .inl g_good))] → va_S A s.heap H locs → lv_has ls 7 [(0, .ref a_this), (1, .int x1), (2, .int x2), (3, .int x3), (4, .int x4), (5, .int x5)] → W p l e rX5_apart s m args below meth c H locs 0 0 QQ (F0 m 33 ls []) := by
          intro n33
          induction n33 with
          | zero => intro x4 x5 h; exact False.elim h
          | succ n33 ih33 =>
            intro x4 x5 h H locs ls hP hD hS hl
            refine lv_iload hx hb dX5_apart_33 (lv_at hl 5 rfl) ?_
            refine lv_aload_n hx hb dX5_apart_35 rfl (lv_at hl 0 rfl) ?_
            refine va_get (D := (dC, dI)) (ci := 5) (v := .int g_goods) (C := RX5) (T := TX5) (N := 17) hx hb hts in5 hown hK hP 0 rfl rfl 9 (by decide) f60 (fun _ h9 => h9) rfl dX5_apart_36 ?_
            refine lv_icmp_ge (tgt := 113) hx hb dX5_apart_39 (by decide) (fun k1 => ?_) (fun k1 => ?_)
            · have h := h.1 k1
              refine lv_iload hx hb dX5_apart_113 (lv_at hl 4 rfl) ?_
              exact ret _ _ _ _ x4 g_refusals dX5_apart_115 h (reP hP [0, 1, 2] rfl) (hD.sub [0, 1, 2] (by decide) rfl) hS
            · have h := h.2 k1
              refine lv_aload_n hx hb dX5_apart_42 rfl (lv_at hl 0 rfl) ?_
              refine lv_aload_n hx hb dX5_apart_43 rfl (lv_at hl 0 rfl) ?_
              refine va_get (D := (dC, dI)) (ci := 5) (v := .ref a_good) (C := RX5) (T := TX5) (N := 17) hx hb hts in5 hown hK hP 0 rfl rfl 7 (by decide) f26 (fun _ h9 => h9) rfl dX5_apart_44 ?_
              refine lv_iload hx hb dX5_apart_47 (lv_at hl 5 rfl) ?_
              obtain ⟨hi2, h⟩ := h
              refine va_iald (D := (dC, dI)) hx hb hK hP 2 0 rfl rfl hi2 dX5_apart_49 ?_
              refine lv_iload_n hx hb dX5_apart_50 rfl (lv_at hl 1 rfl) ?_
              refine MI.callV (As := [.int (g_good (Int32.toNatClampNeg x5)), .int x1]) (rest := []) (wr := [(a_refusals, .inl (cI, 7, .inl g_refusals)), (a_good, .inl (cI, 40320, .inl g_good))]) (ci := 5) (q0 := 0) (c_X5_placeOf l dC dI cI cZ a_this (.ref a_refusals) z_lines z_set z_state z_weight z_all (.ref a_good) z_many (.int g_goods) z_trial z_isKnown z_always z_knot z_knots z_part z_parts g_n (g_good (Int32.toNatClampNeg x5)) x1 _ h) ⟨hx, hb, hml, hown, hts⟩ (cwV 2 hts gX5_apart_X5_placeOf rfl rfl rfl (by decide +kernel) ⟨Nat.le_of_ble_eq_true rfl, Nat.le_of_ble_eq_true rfl⟩) hK hP hD hS hA hNW [0] [1, 2] rfl rfl (by decide) (by decide) (by decide) rfl rfl rfl rfl hl.1 rfl (Nat.le_of_ble_eq_true rfl) dX5_apart_51 ⟨Nat.zero_le _, Nat.zero_le _⟩ (fun r3 u H locs hw hP hD hS => ?_)
              have h := hw
              try dsimp only at h
              have hP : va_P (dC, dI) vwCl [(a_refusals, .inl (cI, 7, .inl g_refusals)), (a_good, .inl (cI, 40320, .inl g_good)), (a_this, .inr (5, [.ref a_refusals, .int g_n, z_lines, z_set, z_state, z_weight, z_all, .ref a_good, z_many, .int g_goods, z_trial, z_isKnown, z_always, z_knot, z_knots, z_part, z_parts]))] H := hP
              have hD : va_D A [(a_refusals, .inl (cI, 7, .inl g_refusals)), (a_good, .inl (cI, 40320, .inl g_good)), (a_this, .inr (5, [.ref a_refusals, .int g_n, z_lines, z_set, z_state, z_weight, z_all, .ref a_good, z_many, .int g_goods, z_trial, z_isKnown, z_always, z_knot, z_knots, z_part, z_parts]))] := hD
              refine lv_aload_n hx hb dX5_apart_54 rfl (lv_at hl 0 rfl) ?_
              refine lv_aload_n hx hb dX5_apart_55 rfl (lv_at hl 0 rfl) ?_
              refine va_get (D := (dC, dI)) (ci := 5) (v := .ref a_good) (C := RX5) (T := TX5) (N := 17) hx hb hts in5 hown hK hP 2 rfl rfl 7 (by decide) f26 (fun _ h9 => h9) rfl dX5_apart_56 ?_
              refine lv_iload hx hb dX5_apart_59 (lv_at hl 5 rfl) ?_
              refine va_iald (D := (dC, dI)) hx hb hK hP 1 0 rfl rfl hi2 dX5_apart_61 ?_
              refine lv_iload_n hx hb dX5_apart_62 rfl (lv_at hl 2 rfl) ?_
              refine MI.callV (As := [.int (g_good (Int32.toNatClampNeg x5)), .int x2]) (rest := [.int r3]) (wr := [(a_refusals, .inl (cI, 7, .inl g_refusals)), (a_good, .inl (cI, 40320, .inl g_good))]) (ci := 5) (q0 := 0) (c_X5_placeOf l dC dI cI cZ a_this (.ref a_refusals) z_lines z_set z_state z_weight z_all (.ref a_good) z_many (.int g_goods) z_trial z_isKnown z_always z_knot z_knots z_part z_parts g_n (g_good (Int32.toNatClampNeg x5)) x2 _ h) ⟨hx, hb, hml, hown, hts⟩ (cwV 2 hts gX5_apart_X5_placeOf rfl rfl rfl (by decide +kernel) ⟨Nat.le_of_ble_eq_true rfl, Nat.le_of_ble_eq_true rfl⟩) hK hP hD hS hA hNW [2] [0, 1] rfl rfl (by decide) (by decide) (by decide) rfl rfl rfl rfl hl.1 rfl (Nat.le_of_ble_eq_true rfl) dX5_apart_63 ⟨Nat.zero_le _, Nat.zero_le _⟩ (fun r4 u H locs hw hP hD hS => ?_)
              have h := hw
              try dsimp only at h
              have hP : va_P (dC, dI) vwCl [(a_refusals, .inl (cI, 7, .inl g_refusals)), (a_good, .inl (cI, 40320, .inl g_good)), (a_this, .inr (5, [.ref a_refusals, .int g_n, z_lines, z_set, z_state, z_weight, z_all, .ref a_good, z_many, .int g_goods, z_trial, z_isKnown, z_always, z_knot, z_knots, z_part, z_parts]))] H := hP
              have hD : va_D A [(a_refusals, .inl (cI, 7, .inl g_refusals)), (a_good, .inl (cI, 40320, .inl g_good)), (a_this, .inr (5, [.ref a_refusals, .int g_n, z_lines, z_set, z_state, z_weight, z_all, .ref a_good, z_many, .int g_goods, z_trial, z_isKnown, z_always, z_knot, z_knots, z_part, z_parts]))] := hD
              refine lv_isub hx hb dX5_apart_66 ?_
              refine va_mabs hx hb (by rw [hml]; exact hl.1.symm) hown (hts (.methodLink RX5 121 Lib.Math.abs.name) (by decide +kernel)) (hts (.static Lib.Math.abs.name) (by decide +kernel)) (hts (.initialized "java/lang/Math") (by decide +kernel)) (hts (.code Lib.Math.abs.name Lib.Math.abs.code 1 (some .int)) (by decide +kernel)) (Nat.le_of_ble_eq_true rfl) (Nat.le_of_ble_eq_true rfl) (Nat.zero_le _) (Nat.zero_le _) dX5_apart_67 ?_
              refine lv_topi (fun x6 ex6 => ?_)
              have h := h x6 ex6
              refine lv_istore (lv' := [(6, .int x6), (0, .ref a_this), (1, .int x1), (2, .int x2), (3, .int x3), (4, .int x4), (5, .int x5)]) hx hb dX5_apart_70 hl (by decide) rfl (fun ls hl => ?_)
              refine lv_iload hx hb dX5_apart_72 (lv_at hl 5 rfl) ?_
              refine lv_if_lt (tgt := 98) hx hb dX5_apart_74 (by decide) (fun k5 => ?_) (fun k5 => ?_)
              · have h := h.1 k5
                refine lv_iload hx hb dX5_apart_98 (lv_at hl 0 rfl) ?_
                refine lv_goto (tgt := 105) hx hb dX5_apart_100 (by decide) ?_
                refine lv_istore (lv' := [(4, .int x6), (6, .int x6), (0, .ref a_this), (1, .int x1), (2, .int x2), (3, .int x3), (5, .int x5)]) hx hb dX5_apart_105 hl (by decide) rfl (fun ls hl => ?_)
                refine lv_iinc (v := x5 + 1) (lv' := [(5, .int (x5 + 1)), (4, .int x6), (6, .int x6), (0, .ref a_this), (1, .int x1), (2, .int x2), (3, .int x3)]) hx hb dX5_apart_107 hl (k := 6) rfl rfl (by decide) rfl (fun ls hl => ?_)
                refine lv_goto (tgt := 33) hx hb dX5_apart_110 (by decide) ?_
                exact ih33 x6 (x5 + 1) h _ _ _ (reP hP [2, 0, 1] rfl) (hD.sub [2, 0, 1] (by decide) rfl) hS (lv_sub hl [3, 4, 5, 6, 1, 0] rfl)
              · have h := h.2 k5
                refine lv_iload_n hx hb dX5_apart_77 rfl (lv_at hl 4 rfl) ?_
                refine lv_if_eq (tgt := 91) hx hb dX5_apart_78 (by decide) (fun k6 => ?_) (fun k6 => ?_)
                · have h := h.1 k6
                  refine lv_iload hx hb dX5_apart_91 (lv_at hl 0 rfl) ?_
                  refine lv_iload hx hb dX5_apart_93 (lv_at hl 5 rfl) ?_
                  refine lv_icmp_le (tgt := 103) hx hb dX5_apart_95 (by decide) (fun k7 => ?_) (fun k7 => ?_)
                  · have h := h.1 k7
                    refine lv_iload hx hb dX5_apart_103 (lv_at hl 5 rfl) ?_
                    refine lv_istore (lv' := [(4, .int x4), (6, .int x6), (0, .ref a_this), (1, .int x1), (2, .int x2), (3, .int x3), (5, .int x5)]) hx hb dX5_apart_105 hl (by decide) rfl (fun ls hl => ?_)
                    refine lv_iinc (v := x5 + 1) (lv' := [(5, .int (x5 + 1)), (4, .int x4), (6, .int x6), (0, .ref a_this), (1, .int x1), (2, .int x2), (3, .int x3)]) hx hb dX5_apart_107 hl (k := 6) rfl rfl (by decide) rfl (fun ls hl => ?_)
                    refine lv_goto (tgt := 33) hx hb dX5_apart_110 (by decide) ?_
                    exact ih33 x4 (x5 + 1) h _ _ _ (reP hP [2, 0, 1] rfl) (hD.sub [2, 0, 1] (by decide) rfl) hS (lv_sub hl [3, 4, 5, 6, 1, 0] rfl)
                  · have h := h.2 k7
                    refine lv_iload hx hb dX5_apart_98 (lv_at hl 0 rfl) ?_
                    refine lv_goto (tgt := 105) hx hb dX5_apart_100 (by decide) ?_
                    refine lv_istore (lv' := [(4, .int x6), (6, .int x6), (0, .ref a_this), (1, .int x1), (2, .int x2), (3, .int x3), (5, .int x5)]) hx hb dX5_apart_105 hl (by decide) rfl (fun ls hl => ?_)
                    refine lv_iinc (v := x5 + 1) (lv' := [(5, .int (x5 + 1)), (4, .int x6), (6, .int x6), (0, .ref a_this), (1, .int x1), (2, .int x2), (3, .int x3)]) hx hb dX5_apart_107 hl (k := 6) rfl rfl (by decide) rfl (fun ls hl => ?_)
                    refine lv_goto (tgt := 33) hx hb dX5_apart_110 (by decide) ?_
                    exact ih33 x6 (x5 + 1) h _ _ _ (reP hP [2, 0, 1] rfl) (hD.sub [2, 0, 1] (by decide) rfl) hS (lv_sub hl [3, 4, 5, 6, 1, 0] rfl)
                · have h := h.2 k6
                  refine lv_iload hx hb dX5_apart_81 (lv_at hl 0 rfl) ?_
                  refine lv_iload hx hb dX5_apart_83 (lv_at hl 5 rfl) ?_
                  refine lv_icmp_ge (tgt := 103) hx hb dX5_apart_85 (by decide) (fun k8 => ?_) (fun k8 => ?_)
                  · have h := h.1 k8
                    refine lv_iload hx hb dX5_apart_103 (lv_at hl 5 rfl) ?_
                    refine lv_istore (lv' := [(4, .int x4), (6, .int x6), (0, .ref a_this), (1, .int x1), (2, .int x2), (3, .int x3), (5, .int x5)]) hx hb dX5_apart_105 hl (by decide) rfl (fun ls hl => ?_)
                    refine lv_iinc (v := x5 + 1) (lv' := [(5, .int (x5 + 1)), (4, .int x4), (6, .int x6), (0, .ref a_this), (1, .int x1), (2, .int x2), (3, .int x3)]) hx hb dX5_apart_107 hl (k := 6) rfl rfl (by decide) rfl (fun ls hl => ?_)
                    refine lv_goto (tgt := 33) hx hb dX5_apart_110 (by decide) ?_
                    exact ih33 x4 (x5 + 1) h _ _ _ (reP hP [2, 0, 1] rfl) (hD.sub [2, 0, 1] (by decide) rfl) hS (lv_sub hl [3, 4, 5, 6, 1, 0] rfl)
                  · have h := h.2 k8
                    refine lv_goto (tgt := 98) hx hb dX5_apart_88 (by decide) ?_
                    refine lv_iload hx hb dX5_apart_98 (lv_at hl 0 rfl) ?_
                    refine lv_goto (tgt := 105) hx hb dX5_apart_100 (by decide) ?_
                    refine lv_istore (lv' := [(4, .int x6), (6, .int x6), (0, .ref a_this), (1, .int x1), (2, .int x2), (3, .int x3), (5, .int x5)]) hx hb dX5_apart_105 hl (by decide) rfl (fun ls hl => ?_)
                    refine lv_iinc (v := x5 + 1) (lv' := [(5, .int (x5 + 1)), (4, .int x6), (6, .int x6), (0, .ref a_this), (1, .int x1), (2, .int x2), (3, .int x3)]) hx hb dX5_apart_107 hl (k := 6) rfl rfl (by decide) rfl (fun ls hl => ?_)
                    refine lv_goto (tgt := 33) hx hb dX5_apart_110 (by decide) ?_
                    exact ih33 x6 (x5 + 1) h _ _ _ (reP hP [2, 0, 1] rfl) (hD.sub [2, 0, 1] (by decide) rfl) hS (lv_sub hl [3, 4, 5, 6, 1, 0] rfl)
        obtain ⟨n, h⟩ := h
        exact L33 n (-1) 0 h _ _ _ (reP hP [2, 0, 1] rfl) (hD.sub [2, 0, 1] (by decide) rfl) hS (lv_sub hl [2, 3, 4, 5, 1, 0] rfl)
      · have h := h.2 k11
        refine lv_aload_n hx hb dX5_apart_21 rfl (lv_at hl 0 rfl) ?_
        refine lv_iconst (v := (-1)) hx hb dX5_apart_22 (by decide) ?_
        refine MI.callV (As := [.int (-1)]) (rest := []) (wr := [(a_good, .inl (cI, 40320, .inl g_good))]) (ci := 5) (q0 := 0) (c_X5_refuse l dC dI cI cZ a_this a_refusals (.int g_n) z_lines z_set z_state z_weight z_all (.ref a_good) z_many (.int g_goods) z_trial z_isKnown z_always z_knot z_knots z_part z_parts g_refusals ((-1) : Int32) _ h) ⟨hx, hb, hml, hown, hts⟩ (cwV 1 hts gX5_apart_X5_refuse rfl rfl rfl (by decide +kernel) ⟨Nat.le_of_ble_eq_true rfl, Nat.le_of_ble_eq_true rfl⟩) hK hP hD hS hA hNW [2, 0] [1] rfl rfl (by decide) (by decide) (by decide) rfl rfl rfl rfl hl.1 rfl (Nat.le_of_ble_eq_true rfl) dX5_apart_23 ⟨Nat.zero_le _, Nat.zero_le _⟩ (fun r13 u H locs hw hP hD hS => ?_)
        obtain ⟨g_refusals_12, rfl⟩ : ∃ z, z = u := ⟨_, rfl⟩
        have h := hw
        try dsimp only at h
        have hP : va_P (dC, dI) vwCl [(a_good, .inl (cI, 40320, .inl g_good)), (a_this, .inr (5, [.ref a_refusals, .int g_n, z_lines, z_set, z_state, z_weight, z_all, .ref a_good, z_many, .int g_goods, z_trial, z_isKnown, z_always, z_knot, z_knots, z_part, z_parts])), (a_refusals, .inl (cI, 7, .inl g_refusals_12))] H := hP
        have hD : va_D A [(a_good, .inl (cI, 40320, .inl g_good)), (a_this, .inr (5, [.ref a_refusals, .int g_n, z_lines, z_set, z_state, z_weight, z_all, .ref a_good, z_many, .int g_goods, z_trial, z_isKnown, z_always, z_knot, z_knots, z_part, z_parts])), (a_refusals, .inl (cI, 7, .inl g_refusals_12))] := hD
        exact ret _ _ _ _ r13 g_refusals_12 dX5_apart_26 h (reP hP [1, 2, 0] rfl) (hD.sub [1, 2, 0] (by decide) rfl) hS
/-! ### X5_isAlways isAlways(I)Z -/
def rX5_isAlways : Room := { frames := 3, cells := 0, slots := 0, locals := 70 }
def q_X5_isAlways_L4 (x1 : Int32) (g_n : Int32) (g_goods : Int32) (g_good : Nat → Int32) (Q : Bool → Prop) : Nat → Bool → Int32 → Prop
  | 0 => fun _ _ => False
  | n + 1 => fun x2 x3 => (g_goods ≤ x3 → Q x2) ∧ (¬ g_goods ≤ x3 → (x2 = false → Q x2) ∧ (x2 = true → vp_in x3 40320 ∧ q_X5_isTogether g_n (g_good (Int32.toNatClampNeg x3)) x1 (fun b5 => (q_X5_isAlways_L4 x1 g_n g_goods g_good Q n) b5 (x3 + 1))))
def q_X5_isAlways (g_n : Int32) (g_goods : Int32) (g_good : Nat → Int32) (x1 : Int32) (Q : Bool → Prop) : Prop :=
  ∃ N : Nat, q_X5_isAlways_L4 x1 g_n g_goods g_good Q N true 0
set_option maxRecDepth 100000 in
set_option maxHeartbeats 4000000 in
theorem c_X5_isAlways (l : Launch) (dC : Nat → ClassId) (dI : Nat → Nat → Nat) (cI cZ : ClassId) (a_this a_good : Nat) (z_refusals z_lines z_set z_state z_weight z_all z_many z_trial z_isKnown z_always z_knot z_knots z_part z_parts : Value) (g_n : Int32) (g_goods : Int32) (g_good : Nat → Int32) (x1 : Int32) (Q : Bool → Prop) (h : q_X5_isAlways g_n g_goods g_good x1 Q) : MB l yX5_isAlways wsX5_isAlways rX5_isAlways (dC, dI) [(cI, .int), (cZ, .boolean)] [.ref a_this, .int x1] [(a_this, .inr (5, [z_refusals, .int g_n, z_lines, z_set, z_state, z_weight, z_all, .ref a_good, z_many, .int g_goods, z_trial, z_isKnown, z_always, z_knot, z_knots, z_part, z_parts])), (a_good, .inl (cI, 40320, .inl g_good))] (fun (r : Bool) (u : Unit) => Q r) (fun u : Unit => [(a_this, .inr (5, [z_refusals, .int g_n, z_lines, z_set, z_state, z_weight, z_all, .ref a_good, z_many, .int g_goods, z_trial, z_isKnown, z_always, z_knot, z_knots, z_part, z_parts])), (a_good, .inl (cI, 40320, .inl g_good))]) := by
  refine MB.of (cc := cX5_isAlways) (maxL := 4) (by decide +kernel) rfl (Nat.le_of_ble_eq_true rfl) ?_
  intro p e s m args below meth c A QQ ls hx hb hml hown hts hA hK hP hD hS hNW ret hl
  have hl : lv_has ls 4 [(0, .ref a_this), (1, .int x1)] := hl
  have hown : s.vm.findClass RX5 = some m.cls := hown
  have in5 : ∀ w ∈ u_ws RX5 TX5 17, w ∈ wsX5_isAlways := fun _ w9 => List.mem_cons_of_mem _ (List.mem_append_right _ w9)
  have f26 := hts (.fieldLink RX5 26 "OnesDeskModel" "good" "[I") (by decide +kernel)
  have f60 := hts (.fieldLink RX5 60 "OnesDeskModel" "goods" "I") (by decide +kernel)
  refine lv_iconst (v := 1) hx hb dX5_isAlways_0 (by decide) ?_
  refine lv_istore_n (lv' := [(2, .int 1), (0, .ref a_this), (1, .int x1)]) hx hb dX5_isAlways_1 rfl hl (by decide) rfl (fun ls hl => ?_)
  refine lv_iconst (v := 0) hx hb dX5_isAlways_2 (by decide) ?_
  refine lv_istore_n (lv' := [(3, .int 0), (2, .int 1), (0, .ref a_this), (1, .int x1)]) hx hb dX5_isAlways_3 rfl hl (by decide) rfl (fun ls hl => ?_)
  have L4 : ∀ (n4 : Nat), ∀ (x2 : Bool) (x3 : Int32), q_X5_isAlways_L4 x1 g_n g_goods g_good Q n4 x2 x3 → ∀ (H : Heap) (locs : List Loc) (ls : Array Slot), va_P (dC, dI) vwCl [(a_this, .inr (5, [z_refusals, .int g_n, z_lines, z_set, z_state, z_weight, z_all, .ref a_good, z_many, .int g_goods, z_trial, z_isKnown, z_always, z_knot, z_knots, z_part, z_parts])), (a_good, .inl (cI, 40320, .inl g_good))] H → va_D A [(a_this, .inr (5, [z_refusals, .int g_n, z_lines, z_set, z_state, z_weight, z_all, .ref a_good, z_many, .int g_goods, z_trial, z_isKnown, z_always, z_knot, z_knots, z_part, z_parts])), (a_good, .inl (cI, 40320, .inl g_good))] → va_S A s.heap H locs → lv_has ls 4 [(0, .ref a_this), (1, .int x1), (2, .int (bI x2)), (3, .int x3)] → W p l e rX5_isAlways s m args below meth c H locs 0 0 QQ (F0 m 4 ls []) := by
    intro n4
    induction n4 with
    | zero => intro x2 x3 h; exact False.elim h
    | succ n4 ih4 =>
      intro x2 x3 h H locs ls hP hD hS hl
      refine lv_iload_n hx hb dX5_isAlways_4 rfl (lv_at hl 3 rfl) ?_
      refine lv_aload_n hx hb dX5_isAlways_5 rfl (lv_at hl 0 rfl) ?_
      refine va_get (D := (dC, dI)) (ci := 5) (v := .int g_goods) (C := RX5) (T := TX5) (N := 17) hx hb hts in5 hown hK hP 0 rfl rfl 9 (by decide) f60 (fun _ h9 => h9) rfl dX5_isAlways_6 ?_
      refine lv_icmp_ge (tgt := 34) hx hb dX5_isAlways_9 (by decide) (fun k1 => ?_) (fun k1 => ?_)
      · have h := h.1 k1
        refine lv_iload_n hx hb dX5_isAlways_34 rfl (lv_at hl 2 rfl) ?_
        exact ret _ _ _ _ x2 () dX5_isAlways_35 h (reP hP [0, 1] rfl) (hD.sub [0, 1] (by decide) rfl) hS
      · have h := h.2 k1
        refine lv_iload_n hx hb dX5_isAlways_12 rfl (lv_at hl 2 rfl) ?_
        refine lv_if_eq (tgt := 34) hx hb dX5_isAlways_13 (by decide) (fun k2 => ?_) (fun k2 => ?_)
        · have h := h.1 (bI_0 k2)
          refine lv_iload_n hx hb dX5_isAlways_34 rfl (lv_at hl 2 rfl) ?_
          exact ret _ _ _ _ x2 () dX5_isAlways_35 h (reP hP [0, 1] rfl) (hD.sub [0, 1] (by decide) rfl) hS
        · have h := h.2 (bI_1 k2)
          refine lv_aload_n hx hb dX5_isAlways_16 rfl (lv_at hl 0 rfl) ?_
          refine lv_aload_n hx hb dX5_isAlways_17 rfl (lv_at hl 0 rfl) ?_
          refine va_get (D := (dC, dI)) (ci := 5) (v := .ref a_good) (C := RX5) (T := TX5) (N := 17) hx hb hts in5 hown hK hP 0 rfl rfl 7 (by decide) f26 (fun _ h9 => h9) rfl dX5_isAlways_18 ?_
          refine lv_iload_n hx hb dX5_isAlways_21 rfl (lv_at hl 3 rfl) ?_
          obtain ⟨hi3, h⟩ := h
          refine va_iald (D := (dC, dI)) hx hb hK hP 1 0 rfl rfl hi3 dX5_isAlways_22 ?_
          refine lv_iload_n hx hb dX5_isAlways_23 rfl (lv_at hl 1 rfl) ?_
          refine MI.callV (As := [.int (g_good (Int32.toNatClampNeg x3)), .int x1]) (rest := []) (wr := [(a_good, .inl (cI, 40320, .inl g_good))]) (ci := 5) (q0 := 0) (c_X5_isTogether l dC dI cI cZ a_this z_refusals z_lines z_set z_state z_weight z_all (.ref a_good) z_many (.int g_goods) z_trial z_isKnown z_always z_knot z_knots z_part z_parts g_n (g_good (Int32.toNatClampNeg x3)) x1 _ h) ⟨hx, hb, hml, hown, hts⟩ (cwV 2 hts gX5_isAlways_X5_isTogether rfl rfl rfl (by decide +kernel) ⟨Nat.le_of_ble_eq_true rfl, Nat.le_of_ble_eq_true rfl⟩) hK hP hD hS hA hNW [0] [1] rfl rfl (by decide) (by decide) (by decide) rfl rfl rfl rfl hl.1 rfl (Nat.le_of_ble_eq_true rfl) dX5_isAlways_24 ⟨Nat.zero_le _, Nat.zero_le _⟩ (fun r4 u H locs hw hP hD hS => ?_)
          obtain ⟨b5, rfl, hw⟩ := hw
          have h := hw
          try dsimp only at h
          have hP : va_P (dC, dI) vwCl [(a_good, .inl (cI, 40320, .inl g_good)), (a_this, .inr (5, [z_refusals, .int g_n, z_lines, z_set, z_state, z_weight, z_all, .ref a_good, z_many, .int g_goods, z_trial, z_isKnown, z_always, z_knot, z_knots, z_part, z_parts]))] H := hP
          have hD : va_D A [(a_good, .inl (cI, 40320, .inl g_good)), (a_this, .inr (5, [z_refusals, .int g_n, z_lines, z_set, z_state, z_weight, z_all, .ref a_good, z_many, .int g_goods, z_trial, z_isKnown, z_always, z_knot, z_knots, z_part, z_parts]))] := hD
          refine lv_istore_n (lv' := [(2, .int (bI b5)), (0, .ref a_this), (1, .int x1), (3, .int x3)]) hx hb dX5_isAlways_27 rfl hl (by decide) rfl (fun ls hl => ?_)
          refine lv_iinc (v := x3 + 1) (lv' := [(3, .int (x3 + 1)), (2, .int (bI b5)), (0, .ref a_this), (1, .int x1)]) hx hb dX5_isAlways_28 hl (k := 3) rfl rfl (by decide) rfl (fun ls hl => ?_)
          refine lv_goto (tgt := 4) hx hb dX5_isAlways_31 (by decide) ?_
          exact ih4 b5 (x3 + 1) h _ _ _ (reP hP [1, 0] rfl) (hD.sub [1, 0] (by decide) rfl) hS (lv_sub hl [2, 3, 1, 0] rfl)
  obtain ⟨n, h⟩ := h
  exact L4 n true 0 h _ _ _ (reP hP [0, 1] rfl) (hD.sub [0, 1] (by decide) rfl) hS (lv_sub hl [2, 3, 1, 0] rfl)
