/-! ### X5_refuse refuse(I)I -/
def rX5_refuse : Room := { frames := 0, cells := 0, slots := 0, locals := 0 }
def q_X5_refuse (g_refusals : Nat → Int32) (x1 : Int32) (Q : Int32 → (Nat → Int32) → Prop) : Prop :=
  vp_in (-x1) 7 ∧ Q x1 (upd g_refusals (Int32.toNatClampNeg (-x1)) ((g_refusals (Int32.toNatClampNeg (-x1))) + 1))
set_option maxRecDepth 100000 in
set_option maxHeartbeats 4000000 in
theorem c_X5_refuse (l : Launch) (dC : Nat → ClassId) (dI : Nat → Nat → Nat) (cI cZ : ClassId) (a_this a_refusals : Nat) (z_n z_lines z_set z_state z_weight z_all z_good z_many z_goods z_trial z_isKnown z_always z_knot z_knots z_part z_parts : Value) (g_refusals : Nat → Int32) (x1 : Int32) (Q : Int32 → (Nat → Int32) → Prop) (h : q_X5_refuse g_refusals x1 Q) : MI l yX5_refuse wsX5_refuse rX5_refuse (dC, dI) [(cI, .int), (cZ, .boolean)] [.ref a_this, .int x1] [(a_this, .inr (5, [.ref a_refusals, z_n, z_lines, z_set, z_state, z_weight, z_all, z_good, z_many, z_goods, z_trial, z_isKnown, z_always, z_knot, z_knots, z_part, z_parts])), (a_refusals, .inl (cI, 7, .inl g_refusals))] (fun (r : Int32) (u : (Nat → Int32)) => Q r u) (fun u : (Nat → Int32) => [(a_this, .inr (5, [.ref a_refusals, z_n, z_lines, z_set, z_state, z_weight, z_all, z_good, z_many, z_goods, z_trial, z_isKnown, z_always, z_knot, z_knots, z_part, z_parts])), (a_refusals, .inl (cI, 7, .inl u))]) := by
  refine MI.of (cc := cX5_refuse) (maxL := 2) (by decide +kernel) rfl (Nat.le_of_ble_eq_true rfl) ?_
  intro p e s m args below meth c A QQ ls hx hb hml hown hts hA hK hP hD hS hNW ret hl
  have hl : lv_has ls 2 [(0, .ref a_this), (1, .int x1)] := hl
  have hown : s.vm.findClass RX5 = some m.cls := hown
  have in5 : ∀ w ∈ u_ws RX5 TX5 17, w ∈ wsX5_refuse := fun _ w9 => List.mem_cons_of_mem _ (List.mem_append_right _ w9)
  have f7 := hts (.fieldLink RX5 7 "OnesDeskModel" "refusals" "[I") (by decide +kernel)
  refine lv_aload_n hx hb dX5_refuse_0 rfl (lv_at hl 0 rfl) ?_
  refine va_get (D := (dC, dI)) (ci := 5) (v := .ref a_refusals) (C := RX5) (T := TX5) (N := 17) hx hb hts in5 hown hK hP 0 rfl rfl 0 (by decide) f7 (fun _ h9 => h9) rfl dX5_refuse_1 ?_
  refine lv_iload_n hx hb dX5_refuse_4 rfl (lv_at hl 1 rfl) ?_
  refine lv_ineg hx hb dX5_refuse_5 ?_
  refine lv_dup2_11 hx hb dX5_refuse_6 rfl rfl ?_
  obtain ⟨hi1, h⟩ := h
  refine va_iald (D := (dC, dI)) hx hb hK hP 1 0 rfl rfl hi1 dX5_refuse_7 ?_
  refine lv_iconst (v := 1) hx hb dX5_refuse_8 (by decide) ?_
  refine lv_iadd hx hb dX5_refuse_9 ?_
  refine va_iast (D := (dC, dI)) hx hb hK hP hD hS 1 0 rfl rfl hi1 dX5_refuse_10 (fun H locs hP hD hS => ?_)
  have hP : va_P (dC, dI) vwCl [(a_this, .inr (5, [.ref a_refusals, z_n, z_lines, z_set, z_state, z_weight, z_all, z_good, z_many, z_goods, z_trial, z_isKnown, z_always, z_knot, z_knots, z_part, z_parts])), (a_refusals, .inl (cI, 7, .inl (upd g_refusals (Int32.toNatClampNeg (-x1)) ((g_refusals (Int32.toNatClampNeg (-x1))) + 1))))] H := hP
  have hD : va_D A [(a_this, .inr (5, [.ref a_refusals, z_n, z_lines, z_set, z_state, z_weight, z_all, z_good, z_many, z_goods, z_trial, z_isKnown, z_always, z_knot, z_knots, z_part, z_parts])), (a_refusals, .inl (cI, 7, .inl (upd g_refusals (Int32.toNatClampNeg (-x1)) ((g_refusals (Int32.toNatClampNeg (-x1))) + 1))))] := hD
  refine lv_iload_n hx hb dX5_refuse_11 rfl (lv_at hl 1 rfl) ?_
  exact ret _ _ _ _ x1 (upd g_refusals (Int32.toNatClampNeg (-x1)) ((g_refusals (Int32.toNatClampNeg (-x1))) + 1)) dX5_refuse_12 h (reP hP [0, 1] rfl) (hD.sub [0, 1] (by decide) rfl) hS
/-! ### X5_isIn isIn(II)Z -/
def rX5_isIn : Room := { frames := 0, cells := 0, slots := 0, locals := 0 }
def q_X5_isIn (x0 : Int32) (x1 : Int32) (Q : Bool → Prop) : Prop :=
  (x0 < 0 → Q false) ∧ (¬ x0 < 0 → (x1 ≤ x0 → Q false) ∧ (¬ x1 ≤ x0 → Q true))
set_option maxRecDepth 100000 in
set_option maxHeartbeats 4000000 in
theorem c_X5_isIn (l : Launch) (dC : Nat → ClassId) (dI : Nat → Nat → Nat) (cI cZ : ClassId) (x0 : Int32) (x1 : Int32) (Q : Bool → Prop) (h : q_X5_isIn x0 x1 Q) : MB l yX5_isIn wsX5_isIn rX5_isIn (dC, dI) [(cI, .int), (cZ, .boolean)] [.int x0, .int x1] [] (fun (r : Bool) (u : Unit) => Q r) (fun u : Unit => []) := by
  refine MB.of (cc := cX5_isIn) (maxL := 2) (by decide +kernel) rfl (Nat.le_of_ble_eq_true rfl) ?_
  intro p e s m args below meth c A QQ ls hx hb hml hown hts hA hK hP hD hS hNW ret hl
  have hl : lv_has ls 2 [(0, .int x0), (1, .int x1)] := hl
  have hown : s.vm.findClass RX5 = some m.cls := hown
  refine lv_iload_n hx hb dX5_isIn_0 rfl (lv_at hl 0 rfl) ?_
  refine lv_if_lt (tgt := 13) hx hb dX5_isIn_1 (by decide) (fun k1 => ?_) (fun k1 => ?_)
  · have h := h.1 k1
    refine lv_iconst (v := 0) hx hb dX5_isIn_13 (by decide) ?_
    exact ret _ _ _ _ false () dX5_isIn_14 h (reP hP [] rfl) (hD.sub [] (by decide) rfl) hS
  · have h := h.2 k1
    refine lv_iload_n hx hb dX5_isIn_4 rfl (lv_at hl 0 rfl) ?_
    refine lv_iload_n hx hb dX5_isIn_5 rfl (lv_at hl 1 rfl) ?_
    refine lv_icmp_ge (tgt := 13) hx hb dX5_isIn_6 (by decide) (fun k2 => ?_) (fun k2 => ?_)
    · have h := h.1 k2
      refine lv_iconst (v := 0) hx hb dX5_isIn_13 (by decide) ?_
      exact ret _ _ _ _ false () dX5_isIn_14 h (reP hP [] rfl) (hD.sub [] (by decide) rfl) hS
    · have h := h.2 k2
      refine lv_iconst (v := 1) hx hb dX5_isIn_9 (by decide) ?_
      refine lv_goto (tgt := 14) hx hb dX5_isIn_10 (by decide) ?_
      exact ret _ _ _ _ true () dX5_isIn_14 h (reP hP [] rfl) (hD.sub [] (by decide) rfl) hS
/-! ### X5_extend extend(III)V -/
def q_X5_extend_L32 (self : Int32 → Int32 → (Nat → Int32) → Int32 → Int32 → Int32 → (Int32 → (Nat → Int32) → Prop) → Prop) (x1 : Int32) (x2 : Int32) (x3 : Int32) (g_n : Int32) (Q : Int32 → (Nat → Int32) → Prop) : Nat → Int32 → Int32 → (Nat → Int32) → Prop
  | 0 => fun _ _ _ => False
  | n + 1 => fun x4 g_many g_all => (g_n ≤ x4 → Q g_many g_all) ∧ (¬ g_n ≤ x4 → (¬ ((x2 >>> (x4 &&& 31)) &&& 1) = 0 → (q_X5_extend_L32 self x1 x2 x3 g_n Q n) (x4 + 1) g_many g_all) ∧ (((x2 >>> (x4 &&& 31)) &&& 1) = 0 → self g_n g_many g_all ((x1 <<< (4 &&& 31)) ||| x4) (x2 ||| (1 <<< (x4 &&& 31))) (x3 + 1) (fun g_many_3 g_all_4 => (q_X5_extend_L32 self x1 x2 x3 g_n Q n) (x4 + 1) g_many_3 g_all_4)))
def q_X5_extend : Nat → Int32 → Int32 → (Nat → Int32) → Int32 → Int32 → Int32 → (Int32 → (Nat → Int32) → Prop) → Prop
  | 0 => fun _ _ _ _ _ _ _ => False
  | d + 1 => fun g_n g_many g_all x1 x2 x3 Q => (¬ x3 = g_n → ∃ N : Nat, q_X5_extend_L32 (q_X5_extend d) x1 x2 x3 g_n Q N 0 g_many g_all) ∧ (x3 = g_n → vp_in g_many 40320 ∧ Q (g_many + 1) (upd g_all (Int32.toNatClampNeg g_many) x1))
set_option maxRecDepth 100000 in
set_option maxHeartbeats 4000000 in
theorem c_X5_extend (d : Nat) (l : Launch) (dC : Nat → ClassId) (dI : Nat → Nat → Nat) (cI cZ : ClassId) : ∀ (a_this a_all : Nat) (z_refusals z_lines z_set z_state z_weight z_good z_goods z_trial z_isKnown z_always z_knot z_knots z_part z_parts : Value) (g_n : Int32) (g_many : Int32) (g_all : Nat → Int32) (x1 : Int32) (x2 : Int32) (x3 : Int32) (Q : Int32 → (Nat → Int32) → Prop), q_X5_extend d g_n g_many g_all x1 x2 x3 Q → MV l yX5_extend wsX5_extend (rmR d) (dC, dI) [(cI, .int), (cZ, .boolean)] [.ref a_this, .int x1, .int x2, .int x3] [(a_this, .inr (5, [z_refusals, .int g_n, z_lines, z_set, z_state, z_weight, .ref a_all, z_good, .int g_many, z_goods, z_trial, z_isKnown, z_always, z_knot, z_knots, z_part, z_parts])), (a_all, .inl (cI, 40320, .inl g_all))] (fun u : Int32 × (Nat → Int32) => Q u.1 u.2) (fun u : Int32 × (Nat → Int32) => [(a_this, .inr (5, [z_refusals, .int g_n, z_lines, z_set, z_state, z_weight, .ref a_all, z_good, .int u.1, z_goods, z_trial, z_isKnown, z_always, z_knot, z_knots, z_part, z_parts])), (a_all, .inl (cI, 40320, .inl u.2))]) := by
  induction d with
  | zero => intro a_this a_all z_refusals z_lines z_set z_state z_weight z_good z_goods z_trial z_isKnown z_always z_knot z_knots z_part z_parts g_n g_many g_all x1 x2 x3 Q h; exact False.elim h
  | succ d ihd =>
  intro a_this a_all z_refusals z_lines z_set z_state z_weight z_good z_goods z_trial z_isKnown z_always z_knot z_knots z_part z_parts g_n g_many g_all x1 x2 x3 Q h
  refine MV.of (cc := cX5_extend) (maxL := 5) (by decide +kernel) rfl (Nat.le_of_ble_eq_true rfl) ?_
  intro p e s m args below meth c A QQ ls hx hb hml hown hts hA hK hP hD hS hNW ret hl
  have hl : lv_has ls 5 [(0, .ref a_this), (1, .int x1), (2, .int x2), (3, .int x3)] := hl
  have hown : s.vm.findClass RX5 = some m.cls := hown
  have in5 : ∀ w ∈ u_ws RX5 TX5 17, w ∈ wsX5_extend := fun _ w9 => List.mem_cons_of_mem _ (List.mem_append_right _ w9)
  have f23 := hts (.fieldLink RX5 23 "OnesDeskModel" "all" "[I") (by decide +kernel)
  have f46 := hts (.fieldLink RX5 46 "OnesDeskModel" "n" "I") (by decide +kernel)
  have f53 := hts (.fieldLink RX5 53 "OnesDeskModel" "many" "I") (by decide +kernel)
  refine lv_iload_n hx hb dX5_extend_0 rfl (lv_at hl 3 rfl) ?_
  refine lv_aload_n hx hb dX5_extend_1 rfl (lv_at hl 0 rfl) ?_
  refine va_get (D := (dC, dI)) (ci := 5) (v := .int g_n) (C := RX5) (T := TX5) (N := 17) hx hb hts in5 hown hK hP 0 rfl rfl 1 (by decide) f46 (fun _ h9 => h9) rfl dX5_extend_2 ?_
  refine lv_icmp_ne (tgt := 29) hx hb dX5_extend_5 (by decide) (fun k1 => ?_) (fun k1 => ?_)
  · have h := h.1 k1
    refine lv_iconst (v := 0) hx hb dX5_extend_29 (by decide) ?_
    refine lv_istore (lv' := [(4, .int 0), (0, .ref a_this), (1, .int x1), (2, .int x2), (3, .int x3)]) hx hb dX5_extend_30 hl (by decide) rfl (fun ls hl => ?_)
    have L32 : ∀ (n32 : Nat), ∀ (x4 : Int32) (g_many : Int32) (g_all : Nat → Int32), q_X5_extend_L32 (q_X5_extend d) x1 x2 x3 g_n Q n32 x4 g_many g_all → ∀ (H : Heap) (locs : List Loc) (ls : Array Slot), va_P (dC, dI) vwCl [(a_this, .inr (5, [z_refusals, .int g_n, z_lines, z_set, z_state, z_weight, .ref a_all, z_good, .int g_many, z_goods, z_trial, z_isKnown, z_always, z_knot, z_knots, z_part, z_parts])), (a_all, .inl (cI, 40320, .inl g_all))] H → va_D A [(a_this, .inr (5, [z_refusals, .int g_n, z_lines, z_set, z_state, z_weight, .ref a_all, z_good, .int g_many, z_goods, z_trial, z_isKnown, z_always, z_knot, z_knots, z_part, z_parts])), (a_all, .inl (cI, 40320, .inl g_all))] → va_S A s.heap H locs → lv_has ls 5 [(0, .ref a_this), (1, .int x1), (2, .int x2), (3, .int x3), (4, .int x4)] → W p l e (rmR (d + 1)) s m args below meth c H locs 0 0 QQ (F0 m 32 ls []) := by
      intro n32
      induction n32 with
      | zero => intro x4 g_many g_all h; exact False.elim h
      | succ n32 ih32 =>
        intro x4 g_many g_all h H locs ls hP hD hS hl
        refine lv_iload hx hb dX5_extend_32 (lv_at hl 4 rfl) ?_
        refine lv_aload_n hx hb dX5_extend_34 rfl (lv_at hl 0 rfl) ?_
        refine va_get (D := (dC, dI)) (ci := 5) (v := .int g_n) (C := RX5) (T := TX5) (N := 17) hx hb hts in5 hown hK hP 0 rfl rfl 1 (by decide) f46 (fun _ h9 => h9) rfl dX5_extend_35 ?_
        refine lv_icmp_ge (tgt := 75) hx hb dX5_extend_38 (by decide) (fun k1 => ?_) (fun k1 => ?_)
        · have h := h.1 k1
          exact ret _ _ _ _ (g_many, g_all) dX5_extend_75 h (reP hP [0, 1] rfl) (hD.sub [0, 1] (by decide) rfl) hS
        · have h := h.2 k1
          refine lv_iload_n hx hb dX5_extend_41 rfl (lv_at hl 2 rfl) ?_
          refine lv_iload hx hb dX5_extend_42 (lv_at hl 4 rfl) ?_
          refine lv_ishr hx hb dX5_extend_44 ?_
          refine lv_iconst (v := 1) hx hb dX5_extend_45 (by decide) ?_
          refine lv_iand hx hb dX5_extend_46 ?_
          refine lv_if_ne (tgt := 69) hx hb dX5_extend_47 (by decide) (fun k2 => ?_) (fun k2 => ?_)
          · have h := h.1 k2
            refine lv_iinc (v := x4 + 1) (lv' := [(4, .int (x4 + 1)), (0, .ref a_this), (1, .int x1), (2, .int x2), (3, .int x3)]) hx hb dX5_extend_69 hl (k := 4) rfl rfl (by decide) rfl (fun ls hl => ?_)
            refine lv_goto (tgt := 32) hx hb dX5_extend_72 (by decide) ?_
            exact ih32 (x4 + 1) g_many g_all h _ _ _ (reP hP [0, 1] rfl) (hD.sub [0, 1] (by decide) rfl) hS (lv_sub hl [1, 2, 3, 4, 0] rfl)
          · have h := h.2 k2
            refine lv_aload_n hx hb dX5_extend_50 rfl (lv_at hl 0 rfl) ?_
            refine lv_iload_n hx hb dX5_extend_51 rfl (lv_at hl 1 rfl) ?_
            refine lv_iconst (v := 4) hx hb dX5_extend_52 (by decide) ?_
            refine lv_ishl hx hb dX5_extend_53 ?_
            refine lv_iload hx hb dX5_extend_54 (lv_at hl 4 rfl) ?_
            refine lv_ior hx hb dX5_extend_56 ?_
            refine lv_iload_n hx hb dX5_extend_57 rfl (lv_at hl 2 rfl) ?_
            refine lv_iconst (v := 1) hx hb dX5_extend_58 (by decide) ?_
            refine lv_iload hx hb dX5_extend_59 (lv_at hl 4 rfl) ?_
            refine lv_ishl hx hb dX5_extend_61 ?_
            refine lv_ior hx hb dX5_extend_62 ?_
            refine lv_iload_n hx hb dX5_extend_63 rfl (lv_at hl 3 rfl) ?_
            refine lv_iconst (v := 1) hx hb dX5_extend_64 (by decide) ?_
            refine lv_iadd hx hb dX5_extend_65 ?_
            refine MV.callV (As := [.int ((x1 <<< (4 &&& 31)) ||| x4), .int (x2 ||| (1 <<< (x4 &&& 31))), .int (x3 + 1)]) (rest := []) (wr := []) (ci := 5) (q0 := 0) (ihd a_this a_all z_refusals z_lines z_set z_state z_weight z_good z_goods z_trial z_isKnown z_always z_knot z_knots z_part z_parts g_n g_many g_all ((x1 <<< (4 &&& 31)) ||| x4) (x2 ||| (1 <<< (x4 &&& 31))) (x3 + 1) _ h) ⟨hx, hb, hml, hown, hts⟩ (cwV 3 hts gX5_extend_X5_extend rfl rfl rfl (by decide +kernel) ⟨by show _ + 1 ≤ _; simp only [rmR]; omega, by simp only [rmR]; omega⟩) hK hP hD hS hA hNW [0, 1] [] rfl rfl (by decide) (by decide) (by decide) rfl rfl rfl rfl hl.1 rfl (Nat.le_of_ble_eq_true rfl) dX5_extend_66 ⟨Nat.zero_le _, Nat.zero_le _⟩ (fun u H locs hw hP hD hS => ?_)
            obtain ⟨g_many_3, g_all_4⟩ := u
            have h := hw
            try dsimp only at h
            have hP : va_P (dC, dI) vwCl [(a_this, .inr (5, [z_refusals, .int g_n, z_lines, z_set, z_state, z_weight, .ref a_all, z_good, .int g_many_3, z_goods, z_trial, z_isKnown, z_always, z_knot, z_knots, z_part, z_parts])), (a_all, .inl (cI, 40320, .inl g_all_4))] H := hP
            have hD : va_D A [(a_this, .inr (5, [z_refusals, .int g_n, z_lines, z_set, z_state, z_weight, .ref a_all, z_good, .int g_many_3, z_goods, z_trial, z_isKnown, z_always, z_knot, z_knots, z_part, z_parts])), (a_all, .inl (cI, 40320, .inl g_all_4))] := hD
            refine lv_iinc (v := x4 + 1) (lv' := [(4, .int (x4 + 1)), (0, .ref a_this), (1, .int x1), (2, .int x2), (3, .int x3)]) hx hb dX5_extend_69 hl (k := 4) rfl rfl (by decide) rfl (fun ls hl => ?_)
            refine lv_goto (tgt := 32) hx hb dX5_extend_72 (by decide) ?_
            exact ih32 (x4 + 1) g_many_3 g_all_4 h _ _ _ (reP hP [0, 1] rfl) (hD.sub [0, 1] (by decide) rfl) hS (lv_sub hl [1, 2, 3, 4, 0] rfl)
    obtain ⟨n, h⟩ := h
    exact L32 n 0 g_many g_all h _ _ _ (reP hP [0, 1] rfl) (hD.sub [0, 1] (by decide) rfl) hS (lv_sub hl [1, 2, 3, 4, 0] rfl)
  · have h := h.2 k1
    refine lv_aload_n hx hb dX5_extend_8 rfl (lv_at hl 0 rfl) ?_
    refine va_get (D := (dC, dI)) (ci := 5) (v := .ref a_all) (C := RX5) (T := TX5) (N := 17) hx hb hts in5 hown hK hP 0 rfl rfl 6 (by decide) f23 (fun _ h9 => h9) rfl dX5_extend_9 ?_
    refine lv_aload_n hx hb dX5_extend_12 rfl (lv_at hl 0 rfl) ?_
    refine va_get (D := (dC, dI)) (ci := 5) (v := .int g_many) (C := RX5) (T := TX5) (N := 17) hx hb hts in5 hown hK hP 0 rfl rfl 8 (by decide) f53 (fun _ h9 => h9) rfl dX5_extend_13 ?_
    refine lv_iload_n hx hb dX5_extend_16 rfl (lv_at hl 1 rfl) ?_
    obtain ⟨hi2, h⟩ := h
    refine va_iast (D := (dC, dI)) hx hb hK hP hD hS 1 0 rfl rfl hi2 dX5_extend_17 (fun H locs hP hD hS => ?_)
    have hP : va_P (dC, dI) vwCl [(a_this, .inr (5, [z_refusals, .int g_n, z_lines, z_set, z_state, z_weight, .ref a_all, z_good, .int g_many, z_goods, z_trial, z_isKnown, z_always, z_knot, z_knots, z_part, z_parts])), (a_all, .inl (cI, 40320, .inl (upd g_all (Int32.toNatClampNeg g_many) x1)))] H := hP
    have hD : va_D A [(a_this, .inr (5, [z_refusals, .int g_n, z_lines, z_set, z_state, z_weight, .ref a_all, z_good, .int g_many, z_goods, z_trial, z_isKnown, z_always, z_knot, z_knots, z_part, z_parts])), (a_all, .inl (cI, 40320, .inl (upd g_all (Int32.toNatClampNeg g_many) x1)))] := hD
    refine lv_aload_n hx hb dX5_extend_18 rfl (lv_at hl 0 rfl) ?_
    refine lv_dup hx hb dX5_extend_19 rfl ?_
    refine va_get (D := (dC, dI)) (ci := 5) (v := .int g_many) (C := RX5) (T := TX5) (N := 17) hx hb hts in5 hown hK hP 0 rfl rfl 8 (by decide) f53 (fun _ h9 => h9) rfl dX5_extend_20 ?_
    refine lv_iconst (v := 1) hx hb dX5_extend_23 (by decide) ?_
    refine lv_iadd hx hb dX5_extend_24 ?_
    refine va_put (D := (dC, dI)) (ci := 5) (v := .int (g_many + 1)) (ty := .int) (C := RX5) (T := TX5) (N := 17) hx hb hts in5 tyX5 tyX5_ok nmX5 hown hK hP hD hS 0 rfl rfl 8 (by decide) f53 (fun _ h9 => h9) rfl (by decide +kernel) rfl rfl (Nat.le_of_ble_eq_true rfl) dX5_extend_25 (fun H locs hP hD hS => ?_)
    have hP : va_P (dC, dI) vwCl [(a_this, .inr (5, [z_refusals, .int g_n, z_lines, z_set, z_state, z_weight, .ref a_all, z_good, .int (g_many + 1), z_goods, z_trial, z_isKnown, z_always, z_knot, z_knots, z_part, z_parts])), (a_all, .inl (cI, 40320, .inl (upd g_all (Int32.toNatClampNeg g_many) x1)))] H := hP
    have hD : va_D A [(a_this, .inr (5, [z_refusals, .int g_n, z_lines, z_set, z_state, z_weight, .ref a_all, z_good, .int (g_many + 1), z_goods, z_trial, z_isKnown, z_always, z_knot, z_knots, z_part, z_parts])), (a_all, .inl (cI, 40320, .inl (upd g_all (Int32.toNatClampNeg g_many) x1)))] := hD
    exact ret _ _ _ _ ((g_many + 1), (upd g_all (Int32.toNatClampNeg g_many) x1)) dX5_extend_28 h (reP hP [0, 1] rfl) (hD.sub [0, 1] (by decide) rfl) hS
/-! ### X5_lay lay(I)V -/
def rX5_lay : Room := { frames := 12, cells := 0, slots := 0, locals := 624 }
def q_X5_lay_J50 (g_n : Int32) (g_lines : Int32) (g_many : Int32) (g_all : Nat → Int32) (g_good : Nat → Int32) (Q : Int32 → Int32 → Int32 → Int32 → Int32 → (Nat → Int32) → (Nat → Int32) → Prop) : Prop :=
  Q g_n g_lines g_many g_many 0 g_all g_good
def q_X5_lay_L24 (g_n : Int32) (g_lines : Int32) (g_many : Int32) (g_all : Nat → Int32) (Q : Int32 → Int32 → Int32 → Int32 → Int32 → (Nat → Int32) → (Nat → Int32) → Prop) : Nat → Int32 → (Nat → Int32) → Prop
  | 0 => fun _ _ => False
  | n + 1 => fun x2 g_good => (g_many ≤ x2 → q_X5_lay_J50 g_n g_lines g_many g_all g_good Q) ∧ (¬ g_many ≤ x2 → vp_in x2 40320 ∧ (q_X5_lay_L24 g_n g_lines g_many g_all Q n) (x2 + 1) (upd g_good (Int32.toNatClampNeg x2) (g_all (Int32.toNatClampNeg x2))))
def q_X5_lay (g_n : Int32) (g_lines : Int32) (g_many : Int32) (g_goods : Int32) (g_isKnown : Int32) (g_all : Nat → Int32) (g_good : Nat → Int32) (x1 : Int32) (Q : Int32 → Int32 → Int32 → Int32 → Int32 → (Nat → Int32) → (Nat → Int32) → Prop) : Prop :=
  q_X5_extend 9 x1 0 g_all (0 : Int32) (0 : Int32) (0 : Int32) (fun g_many_1 g_all_2 => ∃ N : Nat, q_X5_lay_L24 x1 0 g_many_1 g_all_2 Q N 0 g_good)
set_option maxRecDepth 100000 in
set_option maxHeartbeats 4000000 in
theorem c_X5_lay (l : Launch) (dC : Nat → ClassId) (dI : Nat → Nat → Nat) (cI cZ : ClassId) (a_this a_all a_good : Nat) (z_refusals z_set z_state z_weight z_trial z_always z_knot z_knots z_part z_parts : Value) (g_n : Int32) (g_lines : Int32) (g_many : Int32) (g_goods : Int32) (g_isKnown : Int32) (g_all : Nat → Int32) (g_good : Nat → Int32) (x1 : Int32) (Q : Int32 → Int32 → Int32 → Int32 → Int32 → (Nat → Int32) → (Nat → Int32) → Prop) (h : q_X5_lay g_n g_lines g_many g_goods g_isKnown g_all g_good x1 Q) : MV l yX5_lay wsX5_lay rX5_lay (dC, dI) [(cI, .int), (cZ, .boolean)] [.ref a_this, .int x1] [(a_this, .inr (5, [z_refusals, .int g_n, .int g_lines, z_set, z_state, z_weight, .ref a_all, .ref a_good, .int g_many, .int g_goods, z_trial, .int g_isKnown, z_always, z_knot, z_knots, z_part, z_parts])), (a_all, .inl (cI, 40320, .inl g_all)), (a_good, .inl (cI, 40320, .inl g_good))] (fun u : Int32 × Int32 × Int32 × Int32 × Int32 × (Nat → Int32) × (Nat → Int32) => Q u.1 u.2.1 u.2.2.1 u.2.2.2.1 u.2.2.2.2.1 u.2.2.2.2.2.1 u.2.2.2.2.2.2) (fun u : Int32 × Int32 × Int32 × Int32 × Int32 × (Nat → Int32) × (Nat → Int32) => [(a_this, .inr (5, [z_refusals, .int u.1, .int u.2.1, z_set, z_state, z_weight, .ref a_all, .ref a_good, .int u.2.2.1, .int u.2.2.2.1, z_trial, .int u.2.2.2.2.1, z_always, z_knot, z_knots, z_part, z_parts])), (a_all, .inl (cI, 40320, .inl u.2.2.2.2.2.1)), (a_good, .inl (cI, 40320, .inl u.2.2.2.2.2.2))]) := by
  refine MV.of (cc := cX5_lay) (maxL := 3) (by decide +kernel) rfl (Nat.le_of_ble_eq_true rfl) ?_
  intro p e s m args below meth c A QQ ls hx hb hml hown hts hA hK hP hD hS hNW ret hl
  have hl : lv_has ls 3 [(0, .ref a_this), (1, .int x1)] := hl
  have hown : s.vm.findClass RX5 = some m.cls := hown
  have in5 : ∀ w ∈ u_ws RX5 TX5 17, w ∈ wsX5_lay := fun _ w9 => List.mem_cons_of_mem _ (List.mem_append_right _ w9)
  have f23 := hts (.fieldLink RX5 23 "OnesDeskModel" "all" "[I") (by decide +kernel)
  have f26 := hts (.fieldLink RX5 26 "OnesDeskModel" "good" "[I") (by decide +kernel)
  have f46 := hts (.fieldLink RX5 46 "OnesDeskModel" "n" "I") (by decide +kernel)
  have f50 := hts (.fieldLink RX5 50 "OnesDeskModel" "lines" "I") (by decide +kernel)
  have f53 := hts (.fieldLink RX5 53 "OnesDeskModel" "many" "I") (by decide +kernel)
  have f60 := hts (.fieldLink RX5 60 "OnesDeskModel" "goods" "I") (by decide +kernel)
  have f63 := hts (.fieldLink RX5 63 "OnesDeskModel" "isKnown" "Z") (by decide +kernel)
  refine lv_aload_n hx hb dX5_lay_0 rfl (lv_at hl 0 rfl) ?_
  refine lv_iload_n hx hb dX5_lay_1 rfl (lv_at hl 1 rfl) ?_
  refine va_put (D := (dC, dI)) (ci := 5) (v := .int x1) (ty := .int) (C := RX5) (T := TX5) (N := 17) hx hb hts in5 tyX5 tyX5_ok nmX5 hown hK hP hD hS 0 rfl rfl 1 (by decide) f46 (fun _ h9 => h9) rfl (by decide +kernel) rfl rfl (Nat.le_of_ble_eq_true rfl) dX5_lay_2 (fun H locs hP hD hS => ?_)
  have hP : va_P (dC, dI) vwCl [(a_this, .inr (5, [z_refusals, .int x1, .int g_lines, z_set, z_state, z_weight, .ref a_all, .ref a_good, .int g_many, .int g_goods, z_trial, .int g_isKnown, z_always, z_knot, z_knots, z_part, z_parts])), (a_all, .inl (cI, 40320, .inl g_all)), (a_good, .inl (cI, 40320, .inl g_good))] H := hP
  have hD : va_D A [(a_this, .inr (5, [z_refusals, .int x1, .int g_lines, z_set, z_state, z_weight, .ref a_all, .ref a_good, .int g_many, .int g_goods, z_trial, .int g_isKnown, z_always, z_knot, z_knots, z_part, z_parts])), (a_all, .inl (cI, 40320, .inl g_all)), (a_good, .inl (cI, 40320, .inl g_good))] := hD
  refine lv_aload_n hx hb dX5_lay_5 rfl (lv_at hl 0 rfl) ?_
  refine lv_iconst (v := 0) hx hb dX5_lay_6 (by decide) ?_
  refine va_put (D := (dC, dI)) (ci := 5) (v := .int 0) (ty := .int) (C := RX5) (T := TX5) (N := 17) hx hb hts in5 tyX5 tyX5_ok nmX5 hown hK hP hD hS 0 rfl rfl 2 (by decide) f50 (fun _ h9 => h9) rfl (by decide +kernel) rfl rfl (Nat.le_of_ble_eq_true rfl) dX5_lay_7 (fun H locs hP hD hS => ?_)
  have hP : va_P (dC, dI) vwCl [(a_this, .inr (5, [z_refusals, .int x1, .int 0, z_set, z_state, z_weight, .ref a_all, .ref a_good, .int g_many, .int g_goods, z_trial, .int g_isKnown, z_always, z_knot, z_knots, z_part, z_parts])), (a_all, .inl (cI, 40320, .inl g_all)), (a_good, .inl (cI, 40320, .inl g_good))] H := hP
  have hD : va_D A [(a_this, .inr (5, [z_refusals, .int x1, .int 0, z_set, z_state, z_weight, .ref a_all, .ref a_good, .int g_many, .int g_goods, z_trial, .int g_isKnown, z_always, z_knot, z_knots, z_part, z_parts])), (a_all, .inl (cI, 40320, .inl g_all)), (a_good, .inl (cI, 40320, .inl g_good))] := hD
  refine lv_aload_n hx hb dX5_lay_10 rfl (lv_at hl 0 rfl) ?_
  refine lv_iconst (v := 0) hx hb dX5_lay_11 (by decide) ?_
  refine va_put (D := (dC, dI)) (ci := 5) (v := .int 0) (ty := .int) (C := RX5) (T := TX5) (N := 17) hx hb hts in5 tyX5 tyX5_ok nmX5 hown hK hP hD hS 0 rfl rfl 8 (by decide) f53 (fun _ h9 => h9) rfl (by decide +kernel) rfl rfl (Nat.le_of_ble_eq_true rfl) dX5_lay_12 (fun H locs hP hD hS => ?_)
  have hP : va_P (dC, dI) vwCl [(a_this, .inr (5, [z_refusals, .int x1, .int 0, z_set, z_state, z_weight, .ref a_all, .ref a_good, .int 0, .int g_goods, z_trial, .int g_isKnown, z_always, z_knot, z_knots, z_part, z_parts])), (a_all, .inl (cI, 40320, .inl g_all)), (a_good, .inl (cI, 40320, .inl g_good))] H := hP
  have hD : va_D A [(a_this, .inr (5, [z_refusals, .int x1, .int 0, z_set, z_state, z_weight, .ref a_all, .ref a_good, .int 0, .int g_goods, z_trial, .int g_isKnown, z_always, z_knot, z_knots, z_part, z_parts])), (a_all, .inl (cI, 40320, .inl g_all)), (a_good, .inl (cI, 40320, .inl g_good))] := hD
  refine lv_aload_n hx hb dX5_lay_15 rfl (lv_at hl 0 rfl) ?_
  refine lv_iconst (v := 0) hx hb dX5_lay_16 (by decide) ?_
  refine lv_iconst (v := 0) hx hb dX5_lay_17 (by decide) ?_
  refine lv_iconst (v := 0) hx hb dX5_lay_18 (by decide) ?_
  refine MV.callV (As := [.int 0, .int 0, .int 0]) (rest := []) (wr := [(a_good, .inl (cI, 40320, .inl g_good))]) (ci := 5) (q0 := 0) (c_X5_extend 9 l dC dI cI cZ a_this a_all z_refusals (.int 0) z_set z_state z_weight (.ref a_good) (.int g_goods) z_trial (.int g_isKnown) z_always z_knot z_knots z_part z_parts x1 0 g_all (0 : Int32) (0 : Int32) (0 : Int32) _ h) ⟨hx, hb, hml, hown, hts⟩ (cwV 3 hts gX5_lay_X5_extend rfl rfl rfl (by decide +kernel) ⟨Nat.le_of_ble_eq_true rfl, Nat.le_of_ble_eq_true rfl⟩) hK hP hD hS hA hNW [0, 1] [2] rfl rfl (by decide) (by decide) (by decide) rfl rfl rfl rfl hl.1 rfl (Nat.le_of_ble_eq_true rfl) dX5_lay_19 ⟨Nat.zero_le _, Nat.zero_le _⟩ (fun u H locs hw hP hD hS => ?_)
  obtain ⟨g_many_1, g_all_2⟩ := u
  have h := hw
  try dsimp only at h
  have hP : va_P (dC, dI) vwCl [(a_good, .inl (cI, 40320, .inl g_good)), (a_this, .inr (5, [z_refusals, .int x1, .int 0, z_set, z_state, z_weight, .ref a_all, .ref a_good, .int g_many_1, .int g_goods, z_trial, .int g_isKnown, z_always, z_knot, z_knots, z_part, z_parts])), (a_all, .inl (cI, 40320, .inl g_all_2))] H := hP
  have hD : va_D A [(a_good, .inl (cI, 40320, .inl g_good)), (a_this, .inr (5, [z_refusals, .int x1, .int 0, z_set, z_state, z_weight, .ref a_all, .ref a_good, .int g_many_1, .int g_goods, z_trial, .int g_isKnown, z_always, z_knot, z_knots, z_part, z_parts])), (a_all, .inl (cI, 40320, .inl g_all_2))] := hD
  refine lv_iconst (v := 0) hx hb dX5_lay_22 (by decide) ?_
  refine lv_istore_n (lv' := [(2, .int 0), (0, .ref a_this), (1, .int x1)]) hx hb dX5_lay_23 rfl hl (by decide) rfl (fun ls hl => ?_)
  have L24 : ∀ (g_n : Int32) (g_lines : Int32) (g_many : Int32) (g_all : Nat → Int32), ∀ (n24 : Nat), ∀ (x2 : Int32) (g_good : Nat → Int32), q_X5_lay_L24 g_n g_lines g_many g_all Q n24 x2 g_good → ∀ (H : Heap) (locs : List Loc) (ls : Array Slot), va_P (dC, dI) vwCl [(a_this, .inr (5, [z_refusals, .int g_n, .int g_lines, z_set, z_state, z_weight, .ref a_all, .ref a_good, .int g_many, .int g_goods, z_trial, .int g_isKnown, z_always, z_knot, z_knots, z_part, z_parts])), (a_all, .inl (cI, 40320, .inl g_all)), (a_good, .inl (cI, 40320, .inl g_good))] H → va_D A [(a_this, .inr (5, [z_refusals, .int g_n, .int g_lines, z_set, z_state, z_weight, .ref a_all, .ref a_good, .int g_many, .int g_goods, z_trial, .int g_isKnown, z_always, z_knot, z_knots, z_part, z_parts])), (a_all, .inl (cI, 40320, .inl g_all)), (a_good, .inl (cI, 40320, .inl g_good))] → va_S A s.heap H locs → lv_has ls 3 [(0, .ref a_this), (2, .int x2)] → W p l e rX5_lay s m args below meth c H locs 0 0 QQ (F0 m 24 ls []) := by
    intro g_n g_lines g_many g_all
    intro n24
    induction n24 with
    | zero => intro x2 g_good h; exact False.elim h
    | succ n24 ih24 =>
      intro x2 g_good h H locs ls hP hD hS hl
      refine lv_iload_n hx hb dX5_lay_24 rfl (lv_at hl 1 rfl) ?_
      refine lv_aload_n hx hb dX5_lay_25 rfl (lv_at hl 0 rfl) ?_
      refine va_get (D := (dC, dI)) (ci := 5) (v := .int g_many) (C := RX5) (T := TX5) (N := 17) hx hb hts in5 hown hK hP 0 rfl rfl 8 (by decide) f53 (fun _ h9 => h9) rfl dX5_lay_26 ?_
      refine lv_icmp_ge (tgt := 50) hx hb dX5_lay_29 (by decide) (fun k1 => ?_) (fun k1 => ?_)
      · have h := h.1 k1
        have J50 : q_X5_lay_J50 g_n g_lines g_many g_all g_good Q → ∀ (H : Heap) (locs : List Loc) (ls : Array Slot), va_P (dC, dI) vwCl [(a_this, .inr (5, [z_refusals, .int g_n, .int g_lines, z_set, z_state, z_weight, .ref a_all, .ref a_good, .int g_many, .int g_goods, z_trial, .int g_isKnown, z_always, z_knot, z_knots, z_part, z_parts])), (a_all, .inl (cI, 40320, .inl g_all)), (a_good, .inl (cI, 40320, .inl g_good))] H → va_D A [(a_this, .inr (5, [z_refusals, .int g_n, .int g_lines, z_set, z_state, z_weight, .ref a_all, .ref a_good, .int g_many, .int g_goods, z_trial, .int g_isKnown, z_always, z_knot, z_knots, z_part, z_parts])), (a_all, .inl (cI, 40320, .inl g_all)), (a_good, .inl (cI, 40320, .inl g_good))] → va_S A s.heap H locs → lv_has ls 3 [(0, .ref a_this)] → W p l e rX5_lay s m args below meth c H locs 0 0 QQ (F0 m 50 ls []) := by
          intro  h H locs ls hP hD hS hl
          refine lv_aload_n hx hb dX5_lay_50 rfl (lv_at hl 0 rfl) ?_
          refine lv_aload_n hx hb dX5_lay_51 rfl (lv_at hl 0 rfl) ?_
          refine va_get (D := (dC, dI)) (ci := 5) (v := .int g_many) (C := RX5) (T := TX5) (N := 17) hx hb hts in5 hown hK hP 0 rfl rfl 8 (by decide) f53 (fun _ h9 => h9) rfl dX5_lay_52 ?_
          refine va_put (D := (dC, dI)) (ci := 5) (v := .int g_many) (ty := .int) (C := RX5) (T := TX5) (N := 17) hx hb hts in5 tyX5 tyX5_ok nmX5 hown hK hP hD hS 0 rfl rfl 9 (by decide) f60 (fun _ h9 => h9) rfl (by decide +kernel) rfl rfl (Nat.le_of_ble_eq_true rfl) dX5_lay_55 (fun H locs hP hD hS => ?_)
          have hP : va_P (dC, dI) vwCl [(a_this, .inr (5, [z_refusals, .int g_n, .int g_lines, z_set, z_state, z_weight, .ref a_all, .ref a_good, .int g_many, .int g_many, z_trial, .int g_isKnown, z_always, z_knot, z_knots, z_part, z_parts])), (a_all, .inl (cI, 40320, .inl g_all)), (a_good, .inl (cI, 40320, .inl g_good))] H := hP
          have hD : va_D A [(a_this, .inr (5, [z_refusals, .int g_n, .int g_lines, z_set, z_state, z_weight, .ref a_all, .ref a_good, .int g_many, .int g_many, z_trial, .int g_isKnown, z_always, z_knot, z_knots, z_part, z_parts])), (a_all, .inl (cI, 40320, .inl g_all)), (a_good, .inl (cI, 40320, .inl g_good))] := hD
          refine lv_aload_n hx hb dX5_lay_58 rfl (lv_at hl 0 rfl) ?_
          refine lv_iconst (v := 0) hx hb dX5_lay_59 (by decide) ?_
          refine va_put (D := (dC, dI)) (ci := 5) (v := .int 0) (ty := .boolean) (C := RX5) (T := TX5) (N := 17) hx hb hts in5 tyX5 tyX5_ok nmX5 hown hK hP hD hS 0 rfl rfl 11 (by decide) f63 (fun _ h9 => h9) rfl (by decide +kernel) (by decide) (by decide) (Nat.le_of_ble_eq_true rfl) dX5_lay_60 (fun H locs hP hD hS => ?_)
          have hP : va_P (dC, dI) vwCl [(a_this, .inr (5, [z_refusals, .int g_n, .int g_lines, z_set, z_state, z_weight, .ref a_all, .ref a_good, .int g_many, .int g_many, z_trial, .int 0, z_always, z_knot, z_knots, z_part, z_parts])), (a_all, .inl (cI, 40320, .inl g_all)), (a_good, .inl (cI, 40320, .inl g_good))] H := hP
          have hD : va_D A [(a_this, .inr (5, [z_refusals, .int g_n, .int g_lines, z_set, z_state, z_weight, .ref a_all, .ref a_good, .int g_many, .int g_many, z_trial, .int 0, z_always, z_knot, z_knots, z_part, z_parts])), (a_all, .inl (cI, 40320, .inl g_all)), (a_good, .inl (cI, 40320, .inl g_good))] := hD
          exact ret _ _ _ _ (g_n, g_lines, g_many, g_many, 0, g_all, g_good) dX5_lay_63 h (reP hP [0, 1, 2] rfl) (hD.sub [0, 1, 2] (by decide) rfl) hS
        exact J50 h _ _ _ (reP hP [0, 1, 2] rfl) (hD.sub [0, 1, 2] (by decide) rfl) hS (lv_sub hl [0] rfl)
      · have h := h.2 k1
        refine lv_aload_n hx hb dX5_lay_32 rfl (lv_at hl 0 rfl) ?_
        refine va_get (D := (dC, dI)) (ci := 5) (v := .ref a_good) (C := RX5) (T := TX5) (N := 17) hx hb hts in5 hown hK hP 0 rfl rfl 7 (by decide) f26 (fun _ h9 => h9) rfl dX5_lay_33 ?_
        refine lv_iload_n hx hb dX5_lay_36 rfl (lv_at hl 1 rfl) ?_
        refine lv_aload_n hx hb dX5_lay_37 rfl (lv_at hl 0 rfl) ?_
        refine va_get (D := (dC, dI)) (ci := 5) (v := .ref a_all) (C := RX5) (T := TX5) (N := 17) hx hb hts in5 hown hK hP 0 rfl rfl 6 (by decide) f23 (fun _ h9 => h9) rfl dX5_lay_38 ?_
        refine lv_iload_n hx hb dX5_lay_41 rfl (lv_at hl 1 rfl) ?_
        obtain ⟨hi2, h⟩ := h
        refine va_iald (D := (dC, dI)) hx hb hK hP 1 0 rfl rfl hi2 dX5_lay_42 ?_
        refine va_iast (D := (dC, dI)) hx hb hK hP hD hS 2 0 rfl rfl hi2 dX5_lay_43 (fun H locs hP hD hS => ?_)
        have hP : va_P (dC, dI) vwCl [(a_this, .inr (5, [z_refusals, .int g_n, .int g_lines, z_set, z_state, z_weight, .ref a_all, .ref a_good, .int g_many, .int g_goods, z_trial, .int g_isKnown, z_always, z_knot, z_knots, z_part, z_parts])), (a_all, .inl (cI, 40320, .inl g_all)), (a_good, .inl (cI, 40320, .inl (upd g_good (Int32.toNatClampNeg x2) (g_all (Int32.toNatClampNeg x2)))))] H := hP
        have hD : va_D A [(a_this, .inr (5, [z_refusals, .int g_n, .int g_lines, z_set, z_state, z_weight, .ref a_all, .ref a_good, .int g_many, .int g_goods, z_trial, .int g_isKnown, z_always, z_knot, z_knots, z_part, z_parts])), (a_all, .inl (cI, 40320, .inl g_all)), (a_good, .inl (cI, 40320, .inl (upd g_good (Int32.toNatClampNeg x2) (g_all (Int32.toNatClampNeg x2)))))] := hD
        refine lv_iinc (v := x2 + 1) (lv' := [(2, .int (x2 + 1)), (0, .ref a_this)]) hx hb dX5_lay_44 hl (k := 1) rfl rfl (by decide) rfl (fun ls hl => ?_)
        refine lv_goto (tgt := 24) hx hb dX5_lay_47 (by decide) ?_
        exact ih24 (x2 + 1) (upd g_good (Int32.toNatClampNeg x2) (g_all (Int32.toNatClampNeg x2))) h _ _ _ (reP hP [0, 1, 2] rfl) (hD.sub [0, 1, 2] (by decide) rfl) hS (lv_sub hl [1, 0] rfl)
  obtain ⟨n, h⟩ := h
  exact L24 x1 0 g_many_1 g_all_2 n 0 g_good h _ _ _ (reP hP [1, 2, 0] rfl) (hD.sub [1, 2, 0] (by decide) rfl) hS (lv_sub hl [1, 0] rfl)
/-! ### X5_columnAt columnAt(II)I -/
def rX5_columnAt : Room := { frames := 0, cells := 0, slots := 0, locals := 0 }
def q_X5_columnAt (g_n : Int32) (x1 : Int32) (x2 : Int32) (Q : Int32 → Prop) : Prop :=
  Q ((x1 >>> ((4 * ((g_n - 1) - x2)) &&& 31)) &&& 15)
set_option maxRecDepth 100000 in
set_option maxHeartbeats 4000000 in
theorem c_X5_columnAt (l : Launch) (dC : Nat → ClassId) (dI : Nat → Nat → Nat) (cI cZ : ClassId) (a_this : Nat) (z_refusals z_lines z_set z_state z_weight z_all z_good z_many z_goods z_trial z_isKnown z_always z_knot z_knots z_part z_parts : Value) (g_n : Int32) (x1 : Int32) (x2 : Int32) (Q : Int32 → Prop) (h : q_X5_columnAt g_n x1 x2 Q) : MI l yX5_columnAt wsX5_columnAt rX5_columnAt (dC, dI) [(cI, .int), (cZ, .boolean)] [.ref a_this, .int x1, .int x2] [(a_this, .inr (5, [z_refusals, .int g_n, z_lines, z_set, z_state, z_weight, z_all, z_good, z_many, z_goods, z_trial, z_isKnown, z_always, z_knot, z_knots, z_part, z_parts]))] (fun (r : Int32) (u : Unit) => Q r) (fun u : Unit => [(a_this, .inr (5, [z_refusals, .int g_n, z_lines, z_set, z_state, z_weight, z_all, z_good, z_many, z_goods, z_trial, z_isKnown, z_always, z_knot, z_knots, z_part, z_parts]))]) := by
  refine MI.of (cc := cX5_columnAt) (maxL := 3) (by decide +kernel) rfl (Nat.le_of_ble_eq_true rfl) ?_
  intro p e s m args below meth c A QQ ls hx hb hml hown hts hA hK hP hD hS hNW ret hl
  have hl : lv_has ls 3 [(0, .ref a_this), (1, .int x1), (2, .int x2)] := hl
  have hown : s.vm.findClass RX5 = some m.cls := hown
  have in5 : ∀ w ∈ u_ws RX5 TX5 17, w ∈ wsX5_columnAt := fun _ w9 => List.mem_cons_of_mem _ (List.mem_append_right _ w9)
  have f46 := hts (.fieldLink RX5 46 "OnesDeskModel" "n" "I") (by decide +kernel)
  refine lv_iload_n hx hb dX5_columnAt_0 rfl (lv_at hl 1 rfl) ?_
  refine lv_iconst (v := 4) hx hb dX5_columnAt_1 (by decide) ?_
  refine lv_aload_n hx hb dX5_columnAt_2 rfl (lv_at hl 0 rfl) ?_
  refine va_get (D := (dC, dI)) (ci := 5) (v := .int g_n) (C := RX5) (T := TX5) (N := 17) hx hb hts in5 hown hK hP 0 rfl rfl 1 (by decide) f46 (fun _ h9 => h9) rfl dX5_columnAt_3 ?_
  refine lv_iconst (v := 1) hx hb dX5_columnAt_6 (by decide) ?_
  refine lv_isub hx hb dX5_columnAt_7 ?_
  refine lv_iload_n hx hb dX5_columnAt_8 rfl (lv_at hl 2 rfl) ?_
  refine lv_isub hx hb dX5_columnAt_9 ?_
  refine lv_imul hx hb dX5_columnAt_10 ?_
  refine lv_ishr hx hb dX5_columnAt_11 ?_
  refine lv_bipush (v := 15) hx hb dX5_columnAt_12 (by decide) ?_
  refine lv_iand hx hb dX5_columnAt_14 ?_
  exact ret _ _ _ _ ((x1 >>> ((4 * ((g_n - 1) - x2)) &&& 31)) &&& 15) () dX5_columnAt_15 h (reP hP [0] rfl) (hD.sub [0] (by decide) rfl) hS
/-! ### X5_placeOf placeOf(II)I -/
def rX5_placeOf : Room := { frames := 1, cells := 0, slots := 0, locals := 22 }
def q_X5_placeOf_L2 (x1 : Int32) (x2 : Int32) (g_n : Int32) (Q : Int32 → Prop) : Nat → Int32 → Prop
  | 0 => fun _ => False
  | n + 1 => fun x3 => q_X5_columnAt g_n x1 x3 (fun r1 => (r1 = x2 → Q x3) ∧ (¬ r1 = x2 → (q_X5_placeOf_L2 x1 x2 g_n Q n) (x3 + 1)))
def q_X5_placeOf (g_n : Int32) (x1 : Int32) (x2 : Int32) (Q : Int32 → Prop) : Prop :=
  ∃ N : Nat, q_X5_placeOf_L2 x1 x2 g_n Q N 0
set_option maxRecDepth 100000 in
set_option maxHeartbeats 4000000 in
theorem c_X5_placeOf (l : Launch) (dC : Nat → ClassId) (dI : Nat → Nat → Nat) (cI cZ : ClassId) (a_this : Nat) (z_refusals z_lines z_set z_state z_weight z_all z_good z_many z_goods z_trial z_isKnown z_always z_knot z_knots z_part z_parts : Value) (g_n : Int32) (x1 : Int32) (x2 : Int32) (Q : Int32 → Prop) (h : q_X5_placeOf g_n x1 x2 Q) : MI l yX5_placeOf wsX5_placeOf rX5_placeOf (dC, dI) [(cI, .int), (cZ, .boolean)] [.ref a_this, .int x1, .int x2] [(a_this, .inr (5, [z_refusals, .int g_n, z_lines, z_set, z_state, z_weight, z_all, z_good, z_many, z_goods, z_trial, z_isKnown, z_always, z_knot, z_knots, z_part, z_parts]))] (fun (r : Int32) (u : Unit) => Q r) (fun u : Unit => [(a_this, .inr (5, [z_refusals, .int g_n, z_lines, z_set, z_state, z_weight, z_all, z_good, z_many, z_goods, z_trial, z_isKnown, z_always, z_knot, z_knots, z_part, z_parts]))]) := by
  refine MI.of (cc := cX5_placeOf) (maxL := 4) (by decide +kernel) rfl (Nat.le_of_ble_eq_true rfl) ?_
  intro p e s m args below meth c A QQ ls hx hb hml hown hts hA hK hP hD hS hNW ret hl
  have hl : lv_has ls 4 [(0, .ref a_this), (1, .int x1), (2, .int x2)] := hl
  have hown : s.vm.findClass RX5 = some m.cls := hown
  refine lv_iconst (v := 0) hx hb dX5_placeOf_0 (by decide) ?_
  refine lv_istore_n (lv' := [(3, .int 0), (0, .ref a_this), (1, .int x1), (2, .int x2)]) hx hb dX5_placeOf_1 rfl hl (by decide) rfl (fun ls hl => ?_)
  have L2 : ∀ (n2 : Nat), ∀ (x3 : Int32), q_X5_placeOf_L2 x1 x2 g_n Q n2 x3 → ∀ (H : Heap) (locs : List Loc) (ls : Array Slot), va_P (dC, dI) vwCl [(a_this, .inr (5, [z_refusals, .int g_n, z_lines, z_set, z_state, z_weight, z_all, z_good, z_many, z_goods, z_trial, z_isKnown, z_always, z_knot, z_knots, z_part, z_parts]))] H → va_D A [(a_this, .inr (5, [z_refusals, .int g_n, z_lines, z_set, z_state, z_weight, z_all, z_good, z_many, z_goods, z_trial, z_isKnown, z_always, z_knot, z_knots, z_part, z_parts]))] → va_S A s.heap H locs → lv_has ls 4 [(0, .ref a_this), (1, .int x1), (2, .int x2), (3, .int x3)] → W p l e rX5_placeOf s m args below meth c H locs 0 0 QQ (F0 m 2 ls []) := by
    intro n2
    induction n2 with
    | zero => intro x3 h; exact False.elim h
    | succ n2 ih2 =>
      intro x3 h H locs ls hP hD hS hl
      refine lv_aload_n hx hb dX5_placeOf_2 rfl (lv_at hl 0 rfl) ?_
      refine lv_iload_n hx hb dX5_placeOf_3 rfl (lv_at hl 1 rfl) ?_
      refine lv_iload_n hx hb dX5_placeOf_4 rfl (lv_at hl 3 rfl) ?_
      rw [q_X5_placeOf_L2] at h
      refine MI.callV (As := [.int x1, .int x3]) (rest := []) (wr := []) (ci := 5) (q0 := 0) (c_X5_columnAt l dC dI cI cZ a_this z_refusals z_lines z_set z_state z_weight z_all z_good z_many z_goods z_trial z_isKnown z_always z_knot z_knots z_part z_parts g_n x1 x3 _ h) ⟨hx, hb, hml, hown, hts⟩ (cwV 2 hts gX5_placeOf_X5_columnAt rfl rfl rfl (by decide +kernel) ⟨Nat.le_of_ble_eq_true rfl, Nat.le_of_ble_eq_true rfl⟩) hK hP hD hS hA hNW [0] [] rfl rfl (by decide) (by decide) (by decide) rfl rfl rfl rfl hl.1 rfl (Nat.le_of_ble_eq_true rfl) dX5_placeOf_5 ⟨Nat.zero_le _, Nat.zero_le _⟩ (fun r1 u H locs hw hP hD hS => ?_)
      have h := hw
      try dsimp only at h
      have hP : va_P (dC, dI) vwCl [(a_this, .inr (5, [z_refusals, .int g_n, z_lines, z_set, z_state, z_weight, z_all, z_good, z_many, z_goods, z_trial, z_isKnown, z_always, z_knot, z_knots, z_part, z_parts]))] H := hP
      have hD : va_D A [(a_this, .inr (5, [z_refusals, .int g_n, z_lines, z_set, z_state, z_weight, z_all, z_good, z_many, z_goods, z_trial, z_isKnown, z_always, z_knot, z_knots, z_part, z_parts]))] := hD
      refine lv_iload_n hx hb dX5_placeOf_8 rfl (lv_at hl 2 rfl) ?_
      refine lv_icmp_eq (tgt := 18) hx hb dX5_placeOf_9 (by decide) (fun k2 => ?_) (fun k2 => ?_)
      · have h := h.1 k2
        refine lv_iload_n hx hb dX5_placeOf_18 rfl (lv_at hl 3 rfl) ?_
        exact ret _ _ _ _ x3 () dX5_placeOf_19 h (reP hP [0] rfl) (hD.sub [0] (by decide) rfl) hS
      · have h := h.2 k2
        refine lv_iinc (v := x3 + 1) (lv' := [(3, .int (x3 + 1)), (0, .ref a_this), (1, .int x1), (2, .int x2)]) hx hb dX5_placeOf_12 hl (k := 3) rfl rfl (by decide) rfl (fun ls hl => ?_)
        refine lv_goto (tgt := 2) hx hb dX5_placeOf_15 (by decide) ?_
        exact ih2 (x3 + 1) h _ _ _ (reP hP [0] rfl) (hD.sub [0] (by decide) rfl) hS (lv_sub hl [1, 2, 3, 0] rfl)
  obtain ⟨n, h⟩ := h
  exact L2 n 0 h _ _ _ (reP hP [0] rfl) (hD.sub [0] (by decide) rfl) hS (lv_sub hl [1, 2, 3, 0] rfl)
/-! ### X5_runs runs(II)I -/
def rX5_runs : Room := { frames := 1, cells := 0, slots := 0, locals := 22 }
def q_X5_runs_L8 (x1 : Int32) (x2 : Int32) (g_n : Int32) (Q : Int32 → Prop) : Nat → Int32 → Int32 → Int32 → Prop
  | 0 => fun _ _ _ => False
  | n + 1 => fun x3 x4 x5 => (g_n ≤ x5 → Q x3) ∧ (¬ g_n ≤ x5 → q_X5_columnAt g_n x1 x5 (fun r2 => ∀ t5 : Int32, t5 = (if ((x2 >>> (r2 &&& 31)) &&& 1) = 1 then 1 else 0) → ∀ t9 : Int32, t9 = (if t5 = 0 then 0 else (if x4 = 0 then 1 else 0)) → ∀ x3_10 : Int32, x3_10 = (x3 + t9) → (q_X5_runs_L8 x1 x2 g_n Q n) x3_10 t5 (x5 + 1)))
def q_X5_runs (g_n : Int32) (x1 : Int32) (x2 : Int32) (Q : Int32 → Prop) : Prop :=
  ∃ N : Nat, q_X5_runs_L8 x1 x2 g_n Q N 0 0 0
set_option maxRecDepth 100000 in
set_option maxHeartbeats 4000000 in
theorem c_X5_runs (l : Launch) (dC : Nat → ClassId) (dI : Nat → Nat → Nat) (cI cZ : ClassId) (a_this : Nat) (z_refusals z_lines z_set z_state z_weight z_all z_good z_many z_goods z_trial z_isKnown z_always z_knot z_knots z_part z_parts : Value) (g_n : Int32) (x1 : Int32) (x2 : Int32) (Q : Int32 → Prop) (h : q_X5_runs g_n x1 x2 Q) : MI l yX5_runs wsX5_runs rX5_runs (dC, dI) [(cI, .int), (cZ, .boolean)] [.ref a_this, .int x1, .int x2] [(a_this, .inr (5, [z_refusals, .int g_n, z_lines, z_set, z_state, z_weight, z_all, z_good, z_many, z_goods, z_trial, z_isKnown, z_always, z_knot, z_knots, z_part, z_parts]))] (fun (r : Int32) (u : Unit) => Q r) (fun u : Unit => [(a_this, .inr (5, [z_refusals, .int g_n, z_lines, z_set, z_state, z_weight, z_all, z_good, z_many, z_goods, z_trial, z_isKnown, z_always, z_knot, z_knots, z_part, z_parts]))]) := by
  refine MI.of (cc := cX5_runs) (maxL := 7) (by decide +kernel) rfl (Nat.le_of_ble_eq_true rfl) ?_
  intro p e s m args below meth c A QQ ls hx hb hml hown hts hA hK hP hD hS hNW ret hl
  have hl : lv_has ls 7 [(0, .ref a_this), (1, .int x1), (2, .int x2)] := hl
  have hown : s.vm.findClass RX5 = some m.cls := hown
  have in5 : ∀ w ∈ u_ws RX5 TX5 17, w ∈ wsX5_runs := fun _ w9 => List.mem_cons_of_mem _ (List.mem_append_right _ w9)
  have f46 := hts (.fieldLink RX5 46 "OnesDeskModel" "n" "I") (by decide +kernel)
  refine lv_iconst (v := 0) hx hb dX5_runs_0 (by decide) ?_
  refine lv_istore_n (lv' := [(3, .int 0), (0, .ref a_this), (1, .int x1), (2, .int x2)]) hx hb dX5_runs_1 rfl hl (by decide) rfl (fun ls hl => ?_)
  refine lv_iconst (v := 0) hx hb dX5_runs_2 (by decide) ?_
  refine lv_istore (lv' := [(4, .int 0), (3, .int 0), (0, .ref a_this), (1, .int x1), (2, .int x2)]) hx hb dX5_runs_3 hl (by decide) rfl (fun ls hl => ?_)
  refine lv_iconst (v := 0) hx hb dX5_runs_5 (by decide) ?_
  refine lv_istore (lv' := [(5, .int 0), (4, .int 0), (3, .int 0), (0, .ref a_this), (1, .int x1), (2, .int x2)]) hx hb dX5_runs_6 hl (by decide) rfl (fun ls hl => ?_)
  have L8 : ∀ (n8 : Nat), ∀ (x3 : Int32) (x4 : Int32) (x5 : Int32), q_X5_runs_L8 x1 x2 g_n Q n8 x3 x4 x5 → ∀ (H : Heap) (locs : List Loc) (ls : Array Slot), va_P (dC, dI) vwCl [(a_this, .inr (5, [z_refusals, .int g_n, z_lines, z_set, z_state, z_weight, z_all, z_good, z_many, z_goods, z_trial, z_isKnown, z_always, z_knot, z_knots, z_part, z_parts]))] H → va_D A [(a_this, .inr (5, [z_refusals, .int g_n, z_lines, z_set, z_state, z_weight, z_all, z_good, z_many, z_goods, z_trial, z_isKnown, z_always, z_knot, z_knots, z_part, z_parts]))] → va_S A s.heap H locs → lv_has ls 7 [(0, .ref a_this), (1, .int x1), (2, .int x2), (3, .int x3), (4, .int x4), (5, .int x5)] → W p l e rX5_runs s m args below meth c H locs 0 0 QQ (F0 m 8 ls []) := by
    intro n8
    induction n8 with
    | zero => intro x3 x4 x5 h; exact False.elim h
    | succ n8 ih8 =>
      intro x3 x4 x5 h H locs ls hP hD hS hl
      refine lv_iload hx hb dX5_runs_8 (lv_at hl 5 rfl) ?_
      refine lv_aload_n hx hb dX5_runs_10 rfl (lv_at hl 0 rfl) ?_
      refine va_get (D := (dC, dI)) (ci := 5) (v := .int g_n) (C := RX5) (T := TX5) (N := 17) hx hb hts in5 hown hK hP 0 rfl rfl 1 (by decide) f46 (fun _ h9 => h9) rfl dX5_runs_11 ?_
      refine lv_icmp_ge (tgt := 67) hx hb dX5_runs_14 (by decide) (fun k1 => ?_) (fun k1 => ?_)
      · have h := h.1 k1
        refine lv_iload_n hx hb dX5_runs_67 rfl (lv_at hl 3 rfl) ?_
        exact ret _ _ _ _ x3 () dX5_runs_68 h (reP hP [0] rfl) (hD.sub [0] (by decide) rfl) hS
      · have h := h.2 k1
        refine lv_iload_n hx hb dX5_runs_17 rfl (lv_at hl 2 rfl) ?_
        refine lv_aload_n hx hb dX5_runs_18 rfl (lv_at hl 0 rfl) ?_
        refine lv_iload_n hx hb dX5_runs_19 rfl (lv_at hl 1 rfl) ?_
        refine lv_iload hx hb dX5_runs_20 (lv_at hl 5 rfl) ?_
        refine MI.callV (As := [.int x1, .int x5]) (rest := [.int x2]) (wr := []) (ci := 5) (q0 := 0) (c_X5_columnAt l dC dI cI cZ a_this z_refusals z_lines z_set z_state z_weight z_all z_good z_many z_goods z_trial z_isKnown z_always z_knot z_knots z_part z_parts g_n x1 x5 _ h) ⟨hx, hb, hml, hown, hts⟩ (cwV 2 hts gX5_runs_X5_columnAt rfl rfl rfl (by decide +kernel) ⟨Nat.le_of_ble_eq_true rfl, Nat.le_of_ble_eq_true rfl⟩) hK hP hD hS hA hNW [0] [] rfl rfl (by decide) (by decide) (by decide) rfl rfl rfl rfl hl.1 rfl (Nat.le_of_ble_eq_true rfl) dX5_runs_22 ⟨Nat.zero_le _, Nat.zero_le _⟩ (fun r2 u H locs hw hP hD hS => ?_)
        have h := hw
        try dsimp only at h
        have hP : va_P (dC, dI) vwCl [(a_this, .inr (5, [z_refusals, .int g_n, z_lines, z_set, z_state, z_weight, z_all, z_good, z_many, z_goods, z_trial, z_isKnown, z_always, z_knot, z_knots, z_part, z_parts]))] H := hP
        have hD : va_D A [(a_this, .inr (5, [z_refusals, .int g_n, z_lines, z_set, z_state, z_weight, z_all, z_good, z_many, z_goods, z_trial, z_isKnown, z_always, z_knot, z_knots, z_part, z_parts]))] := hD
        refine lv_ishr hx hb dX5_runs_25 ?_
        refine lv_iconst (v := 1) hx hb dX5_runs_26 (by decide) ?_
        refine lv_iand hx hb dX5_runs_27 ?_
        refine lv_iconst (v := 1) hx hb dX5_runs_28 (by decide) ?_
        have K3 : ∀ t5 : Int32, t5 = (if ((x2 >>> (r2 &&& 31)) &&& 1) = 1 then 1 else 0) → W p l e rX5_runs s m args below meth c H locs 0 0 QQ (F0 m 37 ls [.int t5]) := by
          intro t5 et5
          have h := h t5 et5
          refine lv_istore (lv' := [(6, .int t5), (0, .ref a_this), (1, .int x1), (2, .int x2), (3, .int x3), (4, .int x4), (5, .int x5)]) hx hb dX5_runs_37 hl (by decide) rfl (fun ls hl => ?_)
          refine lv_iload_n hx hb dX5_runs_39 rfl (lv_at hl 4 rfl) ?_
          refine lv_iload hx hb dX5_runs_40 (lv_at hl 0 rfl) ?_
          have K6 : ∀ t9 : Int32, t9 = (if t5 = 0 then 0 else (if x4 = 0 then 1 else 0)) → W p l e rX5_runs s m args below meth c H locs 0 0 QQ (F0 m 55 ls [.int t9, .int x3]) := by
            intro t9 et9
            have h := h t9 et9
            refine lv_iadd hx hb dX5_runs_55 ?_
            refine lv_topi (fun x3_10 ex3_10 => ?_)
            have h := h x3_10 ex3_10
            refine lv_istore_n (lv' := [(3, .int x3_10), (6, .int t5), (0, .ref a_this), (1, .int x1), (2, .int x2), (4, .int x4), (5, .int x5)]) hx hb dX5_runs_56 rfl hl (by decide) rfl (fun ls hl => ?_)
            refine lv_iload hx hb dX5_runs_57 (lv_at hl 1 rfl) ?_
            refine lv_istore (lv' := [(4, .int t5), (3, .int x3_10), (6, .int t5), (0, .ref a_this), (1, .int x1), (2, .int x2), (5, .int x5)]) hx hb dX5_runs_59 hl (by decide) rfl (fun ls hl => ?_)
            refine lv_iinc (v := x5 + 1) (lv' := [(5, .int (x5 + 1)), (4, .int t5), (3, .int x3_10), (6, .int t5), (0, .ref a_this), (1, .int x1), (2, .int x2)]) hx hb dX5_runs_61 hl (k := 6) rfl rfl (by decide) rfl (fun ls hl => ?_)
            refine lv_goto (tgt := 8) hx hb dX5_runs_64 (by decide) ?_
            exact ih8 x3_10 t5 (x5 + 1) h _ _ _ (reP hP [0] rfl) (hD.sub [0] (by decide) rfl) hS (lv_sub hl [4, 5, 6, 2, 1, 0] rfl)
          refine lv_if_eq (tgt := 54) hx hb dX5_runs_42 (by decide) (fun k7 => ?_) (fun k7 => ?_)
          · refine lv_iconst (v := 0) hx hb dX5_runs_54 (by decide) ?_
            exact K6 _ (by rw [if_pos k7])
          · refine lv_iload hx hb dX5_runs_45 (lv_at hl 5 rfl) ?_
            refine lv_if_ne (tgt := 54) hx hb dX5_runs_47 (by decide) (fun k8 => ?_) (fun k8 => ?_)
            · refine lv_iconst (v := 0) hx hb dX5_runs_54 (by decide) ?_
              exact K6 _ (by rw [if_neg k7, if_neg k8])
            · refine lv_iconst (v := 1) hx hb dX5_runs_50 (by decide) ?_
              refine lv_goto (tgt := 55) hx hb dX5_runs_51 (by decide) ?_
              exact K6 _ (by rw [if_neg k7, if_pos k8])
        refine lv_icmp_ne (tgt := 36) hx hb dX5_runs_29 (by decide) (fun k4 => ?_) (fun k4 => ?_)
        · refine lv_iconst (v := 0) hx hb dX5_runs_36 (by decide) ?_
          exact K3 _ (by rw [if_neg k4])
        · refine lv_iconst (v := 1) hx hb dX5_runs_32 (by decide) ?_
          refine lv_goto (tgt := 37) hx hb dX5_runs_33 (by decide) ?_
          exact K3 _ (by rw [if_pos k4])
  obtain ⟨n, h⟩ := h
  exact L8 n 0 0 0 h _ _ _ (reP hP [0] rfl) (hD.sub [0] (by decide) rfl) hS (lv_sub hl [3, 4, 5, 2, 1, 0] rfl)
/-! ### X5_isTogether isTogether(II)Z -/
def rX5_isTogether : Room := { frames := 2, cells := 0, slots := 0, locals := 48 }
def q_X5_isTogether (g_n : Int32) (x1 : Int32) (x2 : Int32) (Q : Bool → Prop) : Prop :=
  q_X5_runs g_n x1 x2 (fun r1 => (2 ≤ r1 → Q false) ∧ (¬ 2 ≤ r1 → Q true))
set_option maxRecDepth 100000 in
set_option maxHeartbeats 4000000 in
theorem c_X5_isTogether (l : Launch) (dC : Nat → ClassId) (dI : Nat → Nat → Nat) (cI cZ : ClassId) (a_this : Nat) (z_refusals z_lines z_set z_state z_weight z_all z_good z_many z_goods z_trial z_isKnown z_always z_knot z_knots z_part z_parts : Value) (g_n : Int32) (x1 : Int32) (x2 : Int32) (Q : Bool → Prop) (h : q_X5_isTogether g_n x1 x2 Q) : MB l yX5_isTogether wsX5_isTogether rX5_isTogether (dC, dI) [(cI, .int), (cZ, .boolean)] [.ref a_this, .int x1, .int x2] [(a_this, .inr (5, [z_refusals, .int g_n, z_lines, z_set, z_state, z_weight, z_all, z_good, z_many, z_goods, z_trial, z_isKnown, z_always, z_knot, z_knots, z_part, z_parts]))] (fun (r : Bool) (u : Unit) => Q r) (fun u : Unit => [(a_this, .inr (5, [z_refusals, .int g_n, z_lines, z_set, z_state, z_weight, z_all, z_good, z_many, z_goods, z_trial, z_isKnown, z_always, z_knot, z_knots, z_part, z_parts]))]) := by
  refine MB.of (cc := cX5_isTogether) (maxL := 3) (by decide +kernel) rfl (Nat.le_of_ble_eq_true rfl) ?_
  intro p e s m args below meth c A QQ ls hx hb hml hown hts hA hK hP hD hS hNW ret hl
  have hl : lv_has ls 3 [(0, .ref a_this), (1, .int x1), (2, .int x2)] := hl
  have hown : s.vm.findClass RX5 = some m.cls := hown
  refine lv_aload_n hx hb dX5_isTogether_0 rfl (lv_at hl 0 rfl) ?_
  refine lv_iload_n hx hb dX5_isTogether_1 rfl (lv_at hl 1 rfl) ?_
  refine lv_iload_n hx hb dX5_isTogether_2 rfl (lv_at hl 2 rfl) ?_
  refine MI.callV (As := [.int x1, .int x2]) (rest := []) (wr := []) (ci := 5) (q0 := 0) (c_X5_runs l dC dI cI cZ a_this z_refusals z_lines z_set z_state z_weight z_all z_good z_many z_goods z_trial z_isKnown z_always z_knot z_knots z_part z_parts g_n x1 x2 _ h) ⟨hx, hb, hml, hown, hts⟩ (cwV 2 hts gX5_isTogether_X5_runs rfl rfl rfl (by decide +kernel) ⟨Nat.le_of_ble_eq_true rfl, Nat.le_of_ble_eq_true rfl⟩) hK hP hD hS hA hNW [0] [] rfl rfl (by decide) (by decide) (by decide) rfl rfl rfl rfl hl.1 rfl (Nat.le_of_ble_eq_true rfl) dX5_isTogether_3 ⟨Nat.zero_le _, Nat.zero_le _⟩ (fun r1 u H locs hw hP hD hS => ?_)
  have h := hw
  try dsimp only at h
  have hP : va_P (dC, dI) vwCl [(a_this, .inr (5, [z_refusals, .int g_n, z_lines, z_set, z_state, z_weight, z_all, z_good, z_many, z_goods, z_trial, z_isKnown, z_always, z_knot, z_knots, z_part, z_parts]))] H := hP
  have hD : va_D A [(a_this, .inr (5, [z_refusals, .int g_n, z_lines, z_set, z_state, z_weight, z_all, z_good, z_many, z_goods, z_trial, z_isKnown, z_always, z_knot, z_knots, z_part, z_parts]))] := hD
  refine lv_iconst (v := 2) hx hb dX5_isTogether_6 (by decide) ?_
  refine lv_icmp_ge (tgt := 14) hx hb dX5_isTogether_7 (by decide) (fun k2 => ?_) (fun k2 => ?_)
  · have h := h.1 k2
    refine lv_iconst (v := 0) hx hb dX5_isTogether_14 (by decide) ?_
    exact ret _ _ _ _ false () dX5_isTogether_15 h (reP hP [0] rfl) (hD.sub [0] (by decide) rfl) hS
  · have h := h.2 k2
    refine lv_iconst (v := 1) hx hb dX5_isTogether_10 (by decide) ?_
    refine lv_goto (tgt := 15) hx hb dX5_isTogether_11 (by decide) ?_
    exact ret _ _ _ _ true () dX5_isTogether_15 h (reP hP [0] rfl) (hD.sub [0] (by decide) rfl) hS
/-! ### X5_table table(I)I -/
def rX5_table : Room := { frames := 13, cells := 0, slots := 0, locals := 646 }
def q_X5_table (g_n : Int32) (g_lines : Int32) (g_many : Int32) (g_goods : Int32) (g_isKnown : Int32) (g_refusals : Nat → Int32) (g_all : Nat → Int32) (g_good : Nat → Int32) (x1 : Int32) (Q : Int32 → Int32 → Int32 → Int32 → Int32 → Int32 → (Nat → Int32) → (Nat → Int32) → (Nat → Int32) → Prop) : Prop :=
  (1 ≤ x1 → (x1 ≤ 8 → q_X5_lay g_n g_lines g_many g_goods g_isKnown g_all g_good x1 (fun g_n_3 g_lines_4 g_many_5 g_goods_6 g_isKnown_7 g_all_8 g_good_9 => Q 1 g_n_3 g_lines_4 g_many_5 g_goods_6 g_isKnown_7 g_refusals g_all_8 g_good_9)) ∧ (¬ x1 ≤ 8 → q_X5_refuse g_refusals ((-6) : Int32) (fun r11 g_refusals_10 => Q r11 g_n g_lines g_many g_goods g_isKnown g_refusals_10 g_all g_good))) ∧ (¬ 1 ≤ x1 → q_X5_refuse g_refusals ((-4) : Int32) (fun r13 g_refusals_12 => Q r13 g_n g_lines g_many g_goods g_isKnown g_refusals_12 g_all g_good))
set_option maxRecDepth 100000 in
set_option maxHeartbeats 4000000 in
theorem c_X5_table (l : Launch) (dC : Nat → ClassId) (dI : Nat → Nat → Nat) (cI cZ : ClassId) (a_this a_refusals a_all a_good : Nat) (z_set z_state z_weight z_trial z_always z_knot z_knots z_part z_parts : Value) (g_n : Int32) (g_lines : Int32) (g_many : Int32) (g_goods : Int32) (g_isKnown : Int32) (g_refusals : Nat → Int32) (g_all : Nat → Int32) (g_good : Nat → Int32) (x1 : Int32) (Q : Int32 → Int32 → Int32 → Int32 → Int32 → Int32 → (Nat → Int32) → (Nat → Int32) → (Nat → Int32) → Prop) (h : q_X5_table g_n g_lines g_many g_goods g_isKnown g_refusals g_all g_good x1 Q) : MI l yX5_table wsX5_table rX5_table (dC, dI) [(cI, .int), (cZ, .boolean)] [.ref a_this, .int x1] [(a_this, .inr (5, [.ref a_refusals, .int g_n, .int g_lines, z_set, z_state, z_weight, .ref a_all, .ref a_good, .int g_many, .int g_goods, z_trial, .int g_isKnown, z_always, z_knot, z_knots, z_part, z_parts])), (a_refusals, .inl (cI, 7, .inl g_refusals)), (a_all, .inl (cI, 40320, .inl g_all)), (a_good, .inl (cI, 40320, .inl g_good))] (fun (r : Int32) (u : Int32 × Int32 × Int32 × Int32 × Int32 × (Nat → Int32) × (Nat → Int32) × (Nat → Int32)) => Q r u.1 u.2.1 u.2.2.1 u.2.2.2.1 u.2.2.2.2.1 u.2.2.2.2.2.1 u.2.2.2.2.2.2.1 u.2.2.2.2.2.2.2) (fun u : Int32 × Int32 × Int32 × Int32 × Int32 × (Nat → Int32) × (Nat → Int32) × (Nat → Int32) => [(a_this, .inr (5, [.ref a_refusals, .int u.1, .int u.2.1, z_set, z_state, z_weight, .ref a_all, .ref a_good, .int u.2.2.1, .int u.2.2.2.1, z_trial, .int u.2.2.2.2.1, z_always, z_knot, z_knots, z_part, z_parts])), (a_refusals, .inl (cI, 7, .inl u.2.2.2.2.2.1)), (a_all, .inl (cI, 40320, .inl u.2.2.2.2.2.2.1)), (a_good, .inl (cI, 40320, .inl u.2.2.2.2.2.2.2))]) := by
  refine MI.of (cc := cX5_table) (maxL := 2) (by decide +kernel) rfl (Nat.le_of_ble_eq_true rfl) ?_
  intro p e s m args below meth c A QQ ls hx hb hml hown hts hA hK hP hD hS hNW ret hl
  have hl : lv_has ls 2 [(0, .ref a_this), (1, .int x1)] := hl
  have hown : s.vm.findClass RX5 = some m.cls := hown
  refine lv_iload_n hx hb dX5_table_0 rfl (lv_at hl 1 rfl) ?_
  refine lv_iconst (v := 1) hx hb dX5_table_1 (by decide) ?_
  refine lv_icmp_ge (tgt := 12) hx hb dX5_table_2 (by decide) (fun k1 => ?_) (fun k1 => ?_)
  · have h := h.1 k1
    refine lv_iload_n hx hb dX5_table_12 rfl (lv_at hl 1 rfl) ?_
    refine lv_bipush (v := 8) hx hb dX5_table_13 (by decide) ?_
    refine lv_icmp_le (tgt := 25) hx hb dX5_table_15 (by decide) (fun k2 => ?_) (fun k2 => ?_)
    · have h := h.1 k2
      refine lv_aload_n hx hb dX5_table_25 rfl (lv_at hl 0 rfl) ?_
      refine lv_iload_n hx hb dX5_table_26 rfl (lv_at hl 1 rfl) ?_
      refine MV.callV (As := [.int x1]) (rest := []) (wr := [(a_refusals, .inl (cI, 7, .inl g_refusals))]) (ci := 5) (q0 := 0) (c_X5_lay l dC dI cI cZ a_this a_all a_good (.ref a_refusals) z_set z_state z_weight z_trial z_always z_knot z_knots z_part z_parts g_n g_lines g_many g_goods g_isKnown g_all g_good x1 _ h) ⟨hx, hb, hml, hown, hts⟩ (cwV 1 hts gX5_table_X5_lay rfl rfl rfl (by decide +kernel) ⟨Nat.le_of_ble_eq_true rfl, Nat.le_of_ble_eq_true rfl⟩) hK hP hD hS hA hNW [0, 2, 3] [1] rfl rfl (by decide) (by decide) (by decide) rfl rfl rfl rfl hl.1 rfl (Nat.le_of_ble_eq_true rfl) dX5_table_27 ⟨Nat.zero_le _, Nat.zero_le _⟩ (fun u H locs hw hP hD hS => ?_)
      obtain ⟨g_n_3, g_lines_4, g_many_5, g_goods_6, g_isKnown_7, g_all_8, g_good_9⟩ := u
      have h := hw
      try dsimp only at h
      have hP : va_P (dC, dI) vwCl [(a_refusals, .inl (cI, 7, .inl g_refusals)), (a_this, .inr (5, [.ref a_refusals, .int g_n_3, .int g_lines_4, z_set, z_state, z_weight, .ref a_all, .ref a_good, .int g_many_5, .int g_goods_6, z_trial, .int g_isKnown_7, z_always, z_knot, z_knots, z_part, z_parts])), (a_all, .inl (cI, 40320, .inl g_all_8)), (a_good, .inl (cI, 40320, .inl g_good_9))] H := hP
      have hD : va_D A [(a_refusals, .inl (cI, 7, .inl g_refusals)), (a_this, .inr (5, [.ref a_refusals, .int g_n_3, .int g_lines_4, z_set, z_state, z_weight, .ref a_all, .ref a_good, .int g_many_5, .int g_goods_6, z_trial, .int g_isKnown_7, z_always, z_knot, z_knots, z_part, z_parts])), (a_all, .inl (cI, 40320, .inl g_all_8)), (a_good, .inl (cI, 40320, .inl g_good_9))] := hD
      refine lv_iconst (v := 1) hx hb dX5_table_30 (by decide) ?_
      exact ret _ _ _ _ 1 (g_n_3, g_lines_4, g_many_5, g_goods_6, g_isKnown_7, g_refusals, g_all_8, g_good_9) dX5_table_31 h (reP hP [1, 0, 2, 3] rfl) (hD.sub [1, 0, 2, 3] (by decide) rfl) hS
    · have h := h.2 k2
      refine lv_aload_n hx hb dX5_table_18 rfl (lv_at hl 0 rfl) ?_
      refine lv_bipush (v := (-6)) hx hb dX5_table_19 (by decide) ?_
      refine MI.callV (As := [.int (-6)]) (rest := []) (wr := [(a_all, .inl (cI, 40320, .inl g_all)), (a_good, .inl (cI, 40320, .inl g_good))]) (ci := 5) (q0 := 0) (c_X5_refuse l dC dI cI cZ a_this a_refusals (.int g_n) (.int g_lines) z_set z_state z_weight (.ref a_all) (.ref a_good) (.int g_many) (.int g_goods) z_trial (.int g_isKnown) z_always z_knot z_knots z_part z_parts g_refusals ((-6) : Int32) _ h) ⟨hx, hb, hml, hown, hts⟩ (cwV 1 hts gX5_table_X5_refuse rfl rfl rfl (by decide +kernel) ⟨Nat.le_of_ble_eq_true rfl, Nat.le_of_ble_eq_true rfl⟩) hK hP hD hS hA hNW [0, 1] [2, 3] rfl rfl (by decide) (by decide) (by decide) rfl rfl rfl rfl hl.1 rfl (Nat.le_of_ble_eq_true rfl) dX5_table_21 ⟨Nat.zero_le _, Nat.zero_le _⟩ (fun r11 u H locs hw hP hD hS => ?_)
      obtain ⟨g_refusals_10, rfl⟩ : ∃ z, z = u := ⟨_, rfl⟩
      have h := hw
      try dsimp only at h
      have hP : va_P (dC, dI) vwCl [(a_all, .inl (cI, 40320, .inl g_all)), (a_good, .inl (cI, 40320, .inl g_good)), (a_this, .inr (5, [.ref a_refusals, .int g_n, .int g_lines, z_set, z_state, z_weight, .ref a_all, .ref a_good, .int g_many, .int g_goods, z_trial, .int g_isKnown, z_always, z_knot, z_knots, z_part, z_parts])), (a_refusals, .inl (cI, 7, .inl g_refusals_10))] H := hP
      have hD : va_D A [(a_all, .inl (cI, 40320, .inl g_all)), (a_good, .inl (cI, 40320, .inl g_good)), (a_this, .inr (5, [.ref a_refusals, .int g_n, .int g_lines, z_set, z_state, z_weight, .ref a_all, .ref a_good, .int g_many, .int g_goods, z_trial, .int g_isKnown, z_always, z_knot, z_knots, z_part, z_parts])), (a_refusals, .inl (cI, 7, .inl g_refusals_10))] := hD
      exact ret _ _ _ _ r11 (g_n, g_lines, g_many, g_goods, g_isKnown, g_refusals_10, g_all, g_good) dX5_table_24 h (reP hP [2, 3, 0, 1] rfl) (hD.sub [2, 3, 0, 1] (by decide) rfl) hS
  · have h := h.2 k1
    refine lv_aload_n hx hb dX5_table_5 rfl (lv_at hl 0 rfl) ?_
    refine lv_bipush (v := (-4)) hx hb dX5_table_6 (by decide) ?_
    refine MI.callV (As := [.int (-4)]) (rest := []) (wr := [(a_all, .inl (cI, 40320, .inl g_all)), (a_good, .inl (cI, 40320, .inl g_good))]) (ci := 5) (q0 := 0) (c_X5_refuse l dC dI cI cZ a_this a_refusals (.int g_n) (.int g_lines) z_set z_state z_weight (.ref a_all) (.ref a_good) (.int g_many) (.int g_goods) z_trial (.int g_isKnown) z_always z_knot z_knots z_part z_parts g_refusals ((-4) : Int32) _ h) ⟨hx, hb, hml, hown, hts⟩ (cwV 1 hts gX5_table_X5_refuse rfl rfl rfl (by decide +kernel) ⟨Nat.le_of_ble_eq_true rfl, Nat.le_of_ble_eq_true rfl⟩) hK hP hD hS hA hNW [0, 1] [2, 3] rfl rfl (by decide) (by decide) (by decide) rfl rfl rfl rfl hl.1 rfl (Nat.le_of_ble_eq_true rfl) dX5_table_8 ⟨Nat.zero_le _, Nat.zero_le _⟩ (fun r13 u H locs hw hP hD hS => ?_)
    obtain ⟨g_refusals_12, rfl⟩ : ∃ z, z = u := ⟨_, rfl⟩
    have h := hw
    try dsimp only at h
    have hP : va_P (dC, dI) vwCl [(a_all, .inl (cI, 40320, .inl g_all)), (a_good, .inl (cI, 40320, .inl g_good)), (a_this, .inr (5, [.ref a_refusals, .int g_n, .int g_lines, z_set, z_state, z_weight, .ref a_all, .ref a_good, .int g_many, .int g_goods, z_trial, .int g_isKnown, z_always, z_knot, z_knots, z_part, z_parts])), (a_refusals, .inl (cI, 7, .inl g_refusals_12))] H := hP
    have hD : va_D A [(a_all, .inl (cI, 40320, .inl g_all)), (a_good, .inl (cI, 40320, .inl g_good)), (a_this, .inr (5, [.ref a_refusals, .int g_n, .int g_lines, z_set, z_state, z_weight, .ref a_all, .ref a_good, .int g_many, .int g_goods, z_trial, .int g_isKnown, z_always, z_knot, z_knots, z_part, z_parts])), (a_refusals, .inl (cI, 7, .inl g_refusals_12))] := hD
    exact ret _ _ _ _ r13 (g_n, g_lines, g_many, g_goods, g_isKnown, g_refusals_12, g_all, g_good) dX5_table_11 h (reP hP [2, 3, 0, 1] rfl) (hD.sub [2, 3, 0, 1] (by decide) rfl) hS
/-! ### X5_isSet isSet(I)Z -/
def rX5_isSet : Room := { frames := 0, cells := 0, slots := 0, locals := 0 }
def q_X5_isSet (g_n : Int32) (x1 : Int32) (Q : Bool → Prop) : Prop :=
  (x1 < 0 → Q false) ∧ (¬ x1 < 0 → ((1 <<< (g_n &&& 31)) ≤ x1 → Q false) ∧ (¬ (1 <<< (g_n &&& 31)) ≤ x1 → Q true))
set_option maxRecDepth 100000 in
set_option maxHeartbeats 4000000 in
theorem c_X5_isSet (l : Launch) (dC : Nat → ClassId) (dI : Nat → Nat → Nat) (cI cZ : ClassId) (a_this : Nat) (z_refusals z_lines z_set z_state z_weight z_all z_good z_many z_goods z_trial z_isKnown z_always z_knot z_knots z_part z_parts : Value) (g_n : Int32) (x1 : Int32) (Q : Bool → Prop) (h : q_X5_isSet g_n x1 Q) : MB l yX5_isSet wsX5_isSet rX5_isSet (dC, dI) [(cI, .int), (cZ, .boolean)] [.ref a_this, .int x1] [(a_this, .inr (5, [z_refusals, .int g_n, z_lines, z_set, z_state, z_weight, z_all, z_good, z_many, z_goods, z_trial, z_isKnown, z_always, z_knot, z_knots, z_part, z_parts]))] (fun (r : Bool) (u : Unit) => Q r) (fun u : Unit => [(a_this, .inr (5, [z_refusals, .int g_n, z_lines, z_set, z_state, z_weight, z_all, z_good, z_many, z_goods, z_trial, z_isKnown, z_always, z_knot, z_knots, z_part, z_parts]))]) := by
  refine MB.of (cc := cX5_isSet) (maxL := 2) (by decide +kernel) rfl (Nat.le_of_ble_eq_true rfl) ?_
  intro p e s m args below meth c A QQ ls hx hb hml hown hts hA hK hP hD hS hNW ret hl
  have hl : lv_has ls 2 [(0, .ref a_this), (1, .int x1)] := hl
  have hown : s.vm.findClass RX5 = some m.cls := hown
  have in5 : ∀ w ∈ u_ws RX5 TX5 17, w ∈ wsX5_isSet := fun _ w9 => List.mem_cons_of_mem _ (List.mem_append_right _ w9)
  have f46 := hts (.fieldLink RX5 46 "OnesDeskModel" "n" "I") (by decide +kernel)
  refine lv_iload_n hx hb dX5_isSet_0 rfl (lv_at hl 1 rfl) ?_
  refine lv_if_lt (tgt := 18) hx hb dX5_isSet_1 (by decide) (fun k1 => ?_) (fun k1 => ?_)
  · have h := h.1 k1
    refine lv_iconst (v := 0) hx hb dX5_isSet_18 (by decide) ?_
    exact ret _ _ _ _ false () dX5_isSet_19 h (reP hP [0] rfl) (hD.sub [0] (by decide) rfl) hS
  · have h := h.2 k1
    refine lv_iload_n hx hb dX5_isSet_4 rfl (lv_at hl 1 rfl) ?_
    refine lv_iconst (v := 1) hx hb dX5_isSet_5 (by decide) ?_
    refine lv_aload_n hx hb dX5_isSet_6 rfl (lv_at hl 0 rfl) ?_
    refine va_get (D := (dC, dI)) (ci := 5) (v := .int g_n) (C := RX5) (T := TX5) (N := 17) hx hb hts in5 hown hK hP 0 rfl rfl 1 (by decide) f46 (fun _ h9 => h9) rfl dX5_isSet_7 ?_
    refine lv_ishl hx hb dX5_isSet_10 ?_
    refine lv_icmp_ge (tgt := 18) hx hb dX5_isSet_11 (by decide) (fun k2 => ?_) (fun k2 => ?_)
    · have h := h.1 k2
      refine lv_iconst (v := 0) hx hb dX5_isSet_18 (by decide) ?_
      exact ret _ _ _ _ false () dX5_isSet_19 h (reP hP [0] rfl) (hD.sub [0] (by decide) rfl) hS
    · have h := h.2 k2
      refine lv_iconst (v := 1) hx hb dX5_isSet_14 (by decide) ?_
      refine lv_goto (tgt := 19) hx hb dX5_isSet_15 (by decide) ?_
      exact ret _ _ _ _ true () dX5_isSet_19 h (reP hP [0] rfl) (hD.sub [0] (by decide) rfl) hS
/-! ### X5_isLine isLine(I)Z -/
def rX5_isLine : Room := { frames := 1, cells := 0, slots := 0, locals := 21 }
def q_X5_isLine (g_lines : Int32) (x1 : Int32) (Q : Bool → Prop) : Prop :=
  q_X5_isIn x1 g_lines (fun b2 => Q b2)
set_option maxRecDepth 100000 in
set_option maxHeartbeats 4000000 in
theorem c_X5_isLine (l : Launch) (dC : Nat → ClassId) (dI : Nat → Nat → Nat) (cI cZ : ClassId) (a_this : Nat) (z_refusals z_n z_set z_state z_weight z_all z_good z_many z_goods z_trial z_isKnown z_always z_knot z_knots z_part z_parts : Value) (g_lines : Int32) (x1 : Int32) (Q : Bool → Prop) (h : q_X5_isLine g_lines x1 Q) : MB l yX5_isLine wsX5_isLine rX5_isLine (dC, dI) [(cI, .int), (cZ, .boolean)] [.ref a_this, .int x1] [(a_this, .inr (5, [z_refusals, z_n, .int g_lines, z_set, z_state, z_weight, z_all, z_good, z_many, z_goods, z_trial, z_isKnown, z_always, z_knot, z_knots, z_part, z_parts]))] (fun (r : Bool) (u : Unit) => Q r) (fun u : Unit => [(a_this, .inr (5, [z_refusals, z_n, .int g_lines, z_set, z_state, z_weight, z_all, z_good, z_many, z_goods, z_trial, z_isKnown, z_always, z_knot, z_knots, z_part, z_parts]))]) := by
  refine MB.of (cc := cX5_isLine) (maxL := 2) (by decide +kernel) rfl (Nat.le_of_ble_eq_true rfl) ?_
  intro p e s m args below meth c A QQ ls hx hb hml hown hts hA hK hP hD hS hNW ret hl
  have hl : lv_has ls 2 [(0, .ref a_this), (1, .int x1)] := hl
  have hown : s.vm.findClass RX5 = some m.cls := hown
  have in5 : ∀ w ∈ u_ws RX5 TX5 17, w ∈ wsX5_isLine := fun _ w9 => List.mem_cons_of_mem _ (List.mem_append_right _ w9)
  have f50 := hts (.fieldLink RX5 50 "OnesDeskModel" "lines" "I") (by decide +kernel)
  refine lv_iload_n hx hb dX5_isLine_0 rfl (lv_at hl 1 rfl) ?_
  refine lv_aload_n hx hb dX5_isLine_1 rfl (lv_at hl 0 rfl) ?_
  refine va_get (D := (dC, dI)) (ci := 5) (v := .int g_lines) (C := RX5) (T := TX5) (N := 17) hx hb hts in5 hown hK hP 0 rfl rfl 2 (by decide) f50 (fun _ h9 => h9) rfl dX5_isLine_2 ?_
  refine MI.callS (As := [.int x1, .int g_lines]) (rest := []) (wr := [(a_this, .inr (5, [z_refusals, z_n, .int g_lines, z_set, z_state, z_weight, z_all, z_good, z_many, z_goods, z_trial, z_isKnown, z_always, z_knot, z_knots, z_part, z_parts]))]) (c_X5_isIn l dC dI cI cZ x1 g_lines _ h) ⟨hx, hb, hml, hown, hts⟩ (va_cwS 2 hts gX5_isLine_X5_isIn rfl rfl rfl (by decide +kernel) ⟨Nat.le_of_ble_eq_true rfl, Nat.le_of_ble_eq_true rfl⟩) hK hP hD hS hA hNW [] [0] rfl rfl (by decide) (by decide) (by decide) rfl hl.1 rfl (Nat.le_of_ble_eq_true rfl) dX5_isLine_5 ⟨Nat.zero_le _, Nat.zero_le _⟩ (fun r1 u H locs hw hP hD hS => ?_)
  obtain ⟨b2, rfl, hw⟩ := hw
  have h := hw
  try dsimp only at h
  have hP : va_P (dC, dI) vwCl [(a_this, .inr (5, [z_refusals, z_n, .int g_lines, z_set, z_state, z_weight, z_all, z_good, z_many, z_goods, z_trial, z_isKnown, z_always, z_knot, z_knots, z_part, z_parts]))] H := hP
  have hD : va_D A [(a_this, .inr (5, [z_refusals, z_n, .int g_lines, z_set, z_state, z_weight, z_all, z_good, z_many, z_goods, z_trial, z_isKnown, z_always, z_knot, z_knots, z_part, z_parts]))] := hD
  exact ret _ _ _ _ b2 () dX5_isLine_8 h (reP hP [0] rfl) (hD.sub [0] (by decide) rfl) hS
/-! ### X5_filter filter([III)I -/
def rX5_filter : Room := { frames := 3, cells := 0, slots := 0, locals := 70 }
def q_X5_filter_L6 (x2 : Int32) (x3 : Int32) (g_n : Int32) (Q : Int32 → (Nat → Int32) → Prop) : Nat → Int32 → Int32 → (Nat → Int32) → Prop
  | 0 => fun _ _ _ => False
  | n + 1 => fun x4 x5 g_p1 => (x2 ≤ x5 → Q x4 g_p1) ∧ (¬ x2 ≤ x5 → vp_in x5 40320 ∧ q_X5_isTogether g_n (g_p1 (Int32.toNatClampNeg x5)) x3 (fun b4 => (b4 = true → vp_in x4 40320 ∧ (q_X5_filter_L6 x2 x3 g_n Q n) (x4 + 1) (x5 + 1) (upd g_p1 (Int32.toNatClampNeg x4) (g_p1 (Int32.toNatClampNeg x5)))) ∧ (b4 = false → (q_X5_filter_L6 x2 x3 g_n Q n) x4 (x5 + 1) g_p1)))
def q_X5_filter (g_n : Int32) (g_p1 : Nat → Int32) (x2 : Int32) (x3 : Int32) (Q : Int32 → (Nat → Int32) → Prop) : Prop :=
  ∃ N : Nat, q_X5_filter_L6 x2 x3 g_n Q N 0 0 g_p1
set_option maxRecDepth 100000 in
set_option maxHeartbeats 4000000 in
theorem c_X5_filter (l : Launch) (dC : Nat → ClassId) (dI : Nat → Nat → Nat) (cI cZ : ClassId) (a_this a_p1 : Nat) (z_refusals z_lines z_set z_state z_weight z_all z_good z_many z_goods z_trial z_isKnown z_always z_knot z_knots z_part z_parts : Value) (g_n : Int32) (g_p1 : Nat → Int32) (x2 : Int32) (x3 : Int32) (Q : Int32 → (Nat → Int32) → Prop) (h : q_X5_filter g_n g_p1 x2 x3 Q) : MI l yX5_filter wsX5_filter rX5_filter (dC, dI) [(cI, .int), (cZ, .boolean)] [.ref a_this, .ref a_p1, .int x2, .int x3] [(a_this, .inr (5, [z_refusals, .int g_n, z_lines, z_set, z_state, z_weight, z_all, z_good, z_many, z_goods, z_trial, z_isKnown, z_always, z_knot, z_knots, z_part, z_parts])), (a_p1, .inl (cI, 40320, .inl g_p1))] (fun (r : Int32) (u : (Nat → Int32)) => Q r u) (fun u : (Nat → Int32) => [(a_this, .inr (5, [z_refusals, .int g_n, z_lines, z_set, z_state, z_weight, z_all, z_good, z_many, z_goods, z_trial, z_isKnown, z_always, z_knot, z_knots, z_part, z_parts])), (a_p1, .inl (cI, 40320, .inl u))]) := by
  refine MI.of (cc := cX5_filter) (maxL := 6) (by decide +kernel) rfl (Nat.le_of_ble_eq_true rfl) ?_
  intro p e s m args below meth c A QQ ls hx hb hml hown hts hA hK hP hD hS hNW ret hl
  have hl : lv_has ls 6 [(0, .ref a_this), (1, .ref a_p1), (2, .int x2), (3, .int x3)] := hl
  have hown : s.vm.findClass RX5 = some m.cls := hown
  refine lv_iconst (v := 0) hx hb dX5_filter_0 (by decide) ?_
  refine lv_istore (lv' := [(4, .int 0), (0, .ref a_this), (1, .ref a_p1), (2, .int x2), (3, .int x3)]) hx hb dX5_filter_1 hl (by decide) rfl (fun ls hl => ?_)
  refine lv_iconst (v := 0) hx hb dX5_filter_3 (by decide) ?_
  refine lv_istore (lv' := [(5, .int 0), (4, .int 0), (0, .ref a_this), (1, .ref a_p1), (2, .int x2), (3, .int x3)]) hx hb dX5_filter_4 hl (by decide) rfl (fun ls hl => ?_)
  have L6 : ∀ (n6 : Nat), ∀ (x4 : Int32) (x5 : Int32) (g_p1 : Nat → Int32), q_X5_filter_L6 x2 x3 g_n Q n6 x4 x5 g_p1 → ∀ (H : Heap) (locs : List Loc) (ls : Array Slot), va_P (dC, dI) vwCl [(a_this, .inr (5, [z_refusals, .int g_n, z_lines, z_set, z_state, z_weight, z_all, z_good, z_many, z_goods, z_trial, z_isKnown, z_always, z_knot, z_knots, z_part, z_parts])), (a_p1, .inl (cI, 40320, .inl g_p1))] H → va_D A [(a_this, .inr (5, [z_refusals, .int g_n, z_lines, z_set, z_state, z_weight, z_all, z_good, z_many, z_goods, z_trial, z_isKnown, z_always, z_knot, z_knots, z_part, z_parts])), (a_p1, .inl (cI, 40320, .inl g_p1))] → va_S A s.heap H locs → lv_has ls 6 [(0, .ref a_this), (1, .ref a_p1), (2, .int x2), (3, .int x3), (4, .int x4), (5, .int x5)] → W p l e rX5_filter s m args below meth c H locs 0 0 QQ (F0 m 6 ls []) := by
    intro n6
    induction n6 with
    | zero => intro x4 x5 g_p1 h; exact False.elim h
    | succ n6 ih6 =>
      intro x4 x5 g_p1 h H locs ls hP hD hS hl
      refine lv_iload hx hb dX5_filter_6 (lv_at hl 5 rfl) ?_
      refine lv_iload_n hx hb dX5_filter_8 rfl (lv_at hl 2 rfl) ?_
      refine lv_icmp_ge (tgt := 44) hx hb dX5_filter_9 (by decide) (fun k1 => ?_) (fun k1 => ?_)
      · have h := h.1 k1
        refine lv_iload hx hb dX5_filter_44 (lv_at hl 4 rfl) ?_
        exact ret _ _ _ _ x4 g_p1 dX5_filter_46 h (reP hP [0, 1] rfl) (hD.sub [0, 1] (by decide) rfl) hS
      · have h := h.2 k1
        refine lv_aload_n hx hb dX5_filter_12 rfl (lv_at hl 0 rfl) ?_
        refine lv_aload_n hx hb dX5_filter_13 rfl (lv_at hl 1 rfl) ?_
        refine lv_iload hx hb dX5_filter_14 (lv_at hl 5 rfl) ?_
        obtain ⟨hi2, h⟩ := h
        refine va_iald (D := (dC, dI)) hx hb hK hP 1 0 rfl rfl hi2 dX5_filter_16 ?_
        refine lv_iload_n hx hb dX5_filter_17 rfl (lv_at hl 3 rfl) ?_
        refine MI.callV (As := [.int (g_p1 (Int32.toNatClampNeg x5)), .int x3]) (rest := []) (wr := [(a_p1, .inl (cI, 40320, .inl g_p1))]) (ci := 5) (q0 := 0) (c_X5_isTogether l dC dI cI cZ a_this z_refusals z_lines z_set z_state z_weight z_all z_good z_many z_goods z_trial z_isKnown z_always z_knot z_knots z_part z_parts g_n (g_p1 (Int32.toNatClampNeg x5)) x3 _ h) ⟨hx, hb, hml, hown, hts⟩ (cwV 2 hts gX5_filter_X5_isTogether rfl rfl rfl (by decide +kernel) ⟨Nat.le_of_ble_eq_true rfl, Nat.le_of_ble_eq_true rfl⟩) hK hP hD hS hA hNW [0] [1] rfl rfl (by decide) (by decide) (by decide) rfl rfl rfl rfl hl.1 rfl (Nat.le_of_ble_eq_true rfl) dX5_filter_18 ⟨Nat.zero_le _, Nat.zero_le _⟩ (fun r3 u H locs hw hP hD hS => ?_)
        obtain ⟨b4, rfl, hw⟩ := hw
        have h := hw
        try dsimp only at h
        have hP : va_P (dC, dI) vwCl [(a_p1, .inl (cI, 40320, .inl g_p1)), (a_this, .inr (5, [z_refusals, .int g_n, z_lines, z_set, z_state, z_weight, z_all, z_good, z_many, z_goods, z_trial, z_isKnown, z_always, z_knot, z_knots, z_part, z_parts]))] H := hP
        have hD : va_D A [(a_p1, .inl (cI, 40320, .inl g_p1)), (a_this, .inr (5, [z_refusals, .int g_n, z_lines, z_set, z_state, z_weight, z_all, z_good, z_many, z_goods, z_trial, z_isKnown, z_always, z_knot, z_knots, z_part, z_parts]))] := hD
        refine lv_if_ne (tgt := 27) hx hb dX5_filter_21 (by decide) (fun k5 => ?_) (fun k5 => ?_)
        · have h := h.1 (bI_1 k5)
          refine lv_aload_n hx hb dX5_filter_27 rfl (lv_at hl 1 rfl) ?_
          refine lv_iload hx hb dX5_filter_28 (lv_at hl 4 rfl) ?_
          refine lv_aload_n hx hb dX5_filter_30 rfl (lv_at hl 1 rfl) ?_
          refine lv_iload hx hb dX5_filter_31 (lv_at hl 5 rfl) ?_
          refine va_iald (D := (dC, dI)) hx hb hK hP 0 0 rfl rfl hi2 dX5_filter_33 ?_
          obtain ⟨hi6, h⟩ := h
          refine va_iast (D := (dC, dI)) hx hb hK hP hD hS 0 0 rfl rfl hi6 dX5_filter_34 (fun H locs hP hD hS => ?_)
          have hP : va_P (dC, dI) vwCl [(a_p1, .inl (cI, 40320, .inl (upd g_p1 (Int32.toNatClampNeg x4) (g_p1 (Int32.toNatClampNeg x5))))), (a_this, .inr (5, [z_refusals, .int g_n, z_lines, z_set, z_state, z_weight, z_all, z_good, z_many, z_goods, z_trial, z_isKnown, z_always, z_knot, z_knots, z_part, z_parts]))] H := hP
          have hD : va_D A [(a_p1, .inl (cI, 40320, .inl (upd g_p1 (Int32.toNatClampNeg x4) (g_p1 (Int32.toNatClampNeg x5))))), (a_this, .inr (5, [z_refusals, .int g_n, z_lines, z_set, z_state, z_weight, z_all, z_good, z_many, z_goods, z_trial, z_isKnown, z_always, z_knot, z_knots, z_part, z_parts]))] := hD
          refine lv_iinc (v := x4 + 1) (lv' := [(4, .int (x4 + 1)), (0, .ref a_this), (1, .ref a_p1), (2, .int x2), (3, .int x3), (5, .int x5)]) hx hb dX5_filter_35 hl (k := 4) rfl rfl (by decide) rfl (fun ls hl => ?_)
          refine lv_iinc (v := x5 + 1) (lv' := [(5, .int (x5 + 1)), (4, .int (x4 + 1)), (0, .ref a_this), (1, .ref a_p1), (2, .int x2), (3, .int x3)]) hx hb dX5_filter_38 hl (k := 5) rfl rfl (by decide) rfl (fun ls hl => ?_)
          refine lv_goto (tgt := 6) hx hb dX5_filter_41 (by decide) ?_
          exact ih6 (x4 + 1) (x5 + 1) (upd g_p1 (Int32.toNatClampNeg x4) (g_p1 (Int32.toNatClampNeg x5))) h _ _ _ (reP hP [1, 0] rfl) (hD.sub [1, 0] (by decide) rfl) hS (lv_sub hl [2, 3, 4, 5, 1, 0] rfl)
        · have h := h.2 (bI_0 k5)
          refine lv_goto (tgt := 38) hx hb dX5_filter_24 (by decide) ?_
          refine lv_iinc (v := x5 + 1) (lv' := [(5, .int (x5 + 1)), (0, .ref a_this), (1, .ref a_p1), (2, .int x2), (3, .int x3), (4, .int x4)]) hx hb dX5_filter_38 hl (k := 5) rfl rfl (by decide) rfl (fun ls hl => ?_)
          refine lv_goto (tgt := 6) hx hb dX5_filter_41 (by decide) ?_
          exact ih6 x4 (x5 + 1) g_p1 h _ _ _ (reP hP [1, 0] rfl) (hD.sub [1, 0] (by decide) rfl) hS (lv_sub hl [1, 2, 3, 4, 5, 0] rfl)
  obtain ⟨n, h⟩ := h
  exact L6 n 0 0 g_p1 h _ _ _ (reP hP [0, 1] rfl) (hD.sub [0, 1] (by decide) rfl) hS (lv_sub hl [2, 3, 4, 5, 1, 0] rfl)
/-! ### X5_isAny isAny(I)Z -/
def rX5_isAny : Room := { frames := 3, cells := 0, slots := 0, locals := 70 }
def q_X5_isAny_L4 (x1 : Int32) (g_n : Int32) (g_goods : Int32) (g_good : Nat → Int32) (Q : Bool → Prop) : Nat → Bool → Int32 → Prop
  | 0 => fun _ _ => False
  | n + 1 => fun x2 x3 => (g_goods ≤ x3 → Q x2) ∧ (¬ g_goods ≤ x3 → (x2 = true → Q x2) ∧ (x2 = false → vp_in x3 40320 ∧ q_X5_isTogether g_n (g_good (Int32.toNatClampNeg x3)) x1 (fun b5 => (q_X5_isAny_L4 x1 g_n g_goods g_good Q n) b5 (x3 + 1))))
def q_X5_isAny (g_n : Int32) (g_goods : Int32) (g_good : Nat → Int32) (x1 : Int32) (Q : Bool → Prop) : Prop :=
  ∃ N : Nat, q_X5_isAny_L4 x1 g_n g_goods g_good Q N false 0
set_option maxRecDepth 100000 in
set_option maxHeartbeats 4000000 in
theorem c_X5_isAny (l : Launch) (dC : Nat → ClassId) (dI : Nat → Nat → Nat) (cI cZ : ClassId) (a_this a_good : Nat) (z_refusals z_lines z_set z_state z_weight z_all z_many z_trial z_isKnown z_always z_knot z_knots z_part z_parts : Value) (g_n : Int32) (g_goods : Int32) (g_good : Nat → Int32) (x1 : Int32) (Q : Bool → Prop) (h : q_X5_isAny g_n g_goods g_good x1 Q) : MB l yX5_isAny wsX5_isAny rX5_isAny (dC, dI) [(cI, .int), (cZ, .boolean)] [.ref a_this, .int x1] [(a_this, .inr (5, [z_refusals, .int g_n, z_lines, z_set, z_state, z_weight, z_all, .ref a_good, z_many, .int g_goods, z_trial, z_isKnown, z_always, z_knot, z_knots, z_part, z_parts])), (a_good, .inl (cI, 40320, .inl g_good))] (fun (r : Bool) (u : Unit) => Q r) (fun u : Unit => [(a_this, .inr (5, [z_refusals, .int g_n, z_lines, z_set, z_state, z_weight, z_all, .ref a_good, z_many, .int g_goods, z_trial, z_isKnown, z_always, z_knot, z_knots, z_part, z_parts])), (a_good, .inl (cI, 40320, .inl g_good))]) := by
  refine MB.of (cc := cX5_isAny) (maxL := 4) (by decide +kernel) rfl (Nat.le_of_ble_eq_true rfl) ?_
  intro p e s m args below meth c A QQ ls hx hb hml hown hts hA hK hP hD hS hNW ret hl
  have hl : lv_has ls 4 [(0, .ref a_this), (1, .int x1)] := hl
  have hown : s.vm.findClass RX5 = some m.cls := hown
  have in5 : ∀ w ∈ u_ws RX5 TX5 17, w ∈ wsX5_isAny := fun _ w9 => List.mem_cons_of_mem _ (List.mem_append_right _ w9)
  have f26 := hts (.fieldLink RX5 26 "OnesDeskModel" "good" "[I") (by decide +kernel)
  have f60 := hts (.fieldLink RX5 60 "OnesDeskModel" "goods" "I") (by decide +kernel)
  refine lv_iconst (v := 0) hx hb dX5_isAny_0 (by decide) ?_
  refine lv_istore_n (lv' := [(2, .int 0), (0, .ref a_this), (1, .int x1)]) hx hb dX5_isAny_1 rfl hl (by decide) rfl (fun ls hl => ?_)
  refine lv_iconst (v := 0) hx hb dX5_isAny_2 (by decide) ?_
  refine lv_istore_n (lv' := [(3, .int 0), (2, .int 0), (0, .ref a_this), (1, .int x1)]) hx hb dX5_isAny_3 rfl hl (by decide) rfl (fun ls hl => ?_)
  have L4 : ∀ (n4 : Nat), ∀ (x2 : Bool) (x3 : Int32), q_X5_isAny_L4 x1 g_n g_goods g_good Q n4 x2 x3 → ∀ (H : Heap) (locs : List Loc) (ls : Array Slot), va_P (dC, dI) vwCl [(a_this, .inr (5, [z_refusals, .int g_n, z_lines, z_set, z_state, z_weight, z_all, .ref a_good, z_many, .int g_goods, z_trial, z_isKnown, z_always, z_knot, z_knots, z_part, z_parts])), (a_good, .inl (cI, 40320, .inl g_good))] H → va_D A [(a_this, .inr (5, [z_refusals, .int g_n, z_lines, z_set, z_state, z_weight, z_all, .ref a_good, z_many, .int g_goods, z_trial, z_isKnown, z_always, z_knot, z_knots, z_part, z_parts])), (a_good, .inl (cI, 40320, .inl g_good))] → va_S A s.heap H locs → lv_has ls 4 [(0, .ref a_this), (1, .int x1), (2, .int (bI x2)), (3, .int x3)] → W p l e rX5_isAny s m args below meth c H locs 0 0 QQ (F0 m 4 ls []) := by
    intro n4
    induction n4 with
    | zero => intro x2 x3 h; exact False.elim h
    | succ n4 ih4 =>
      intro x2 x3 h H locs ls hP hD hS hl
      refine lv_iload_n hx hb dX5_isAny_4 rfl (lv_at hl 3 rfl) ?_
      refine lv_aload_n hx hb dX5_isAny_5 rfl (lv_at hl 0 rfl) ?_
      refine va_get (D := (dC, dI)) (ci := 5) (v := .int g_goods) (C := RX5) (T := TX5) (N := 17) hx hb hts in5 hown hK hP 0 rfl rfl 9 (by decide) f60 (fun _ h9 => h9) rfl dX5_isAny_6 ?_
      refine lv_icmp_ge (tgt := 34) hx hb dX5_isAny_9 (by decide) (fun k1 => ?_) (fun k1 => ?_)
      · have h := h.1 k1
        refine lv_iload_n hx hb dX5_isAny_34 rfl (lv_at hl 2 rfl) ?_
        exact ret _ _ _ _ x2 () dX5_isAny_35 h (reP hP [0, 1] rfl) (hD.sub [0, 1] (by decide) rfl) hS
      · have h := h.2 k1
        refine lv_iload_n hx hb dX5_isAny_12 rfl (lv_at hl 2 rfl) ?_
        refine lv_if_ne (tgt := 34) hx hb dX5_isAny_13 (by decide) (fun k2 => ?_) (fun k2 => ?_)
        · have h := h.1 (bI_1 k2)
          refine lv_iload_n hx hb dX5_isAny_34 rfl (lv_at hl 2 rfl) ?_
          exact ret _ _ _ _ x2 () dX5_isAny_35 h (reP hP [0, 1] rfl) (hD.sub [0, 1] (by decide) rfl) hS
        · have h := h.2 (bI_0 k2)
          refine lv_aload_n hx hb dX5_isAny_16 rfl (lv_at hl 0 rfl) ?_
          refine lv_aload_n hx hb dX5_isAny_17 rfl (lv_at hl 0 rfl) ?_
          refine va_get (D := (dC, dI)) (ci := 5) (v := .ref a_good) (C := RX5) (T := TX5) (N := 17) hx hb hts in5 hown hK hP 0 rfl rfl 7 (by decide) f26 (fun _ h9 => h9) rfl dX5_isAny_18 ?_
          refine lv_iload_n hx hb dX5_isAny_21 rfl (lv_at hl 3 rfl) ?_
          obtain ⟨hi3, h⟩ := h
          refine va_iald (D := (dC, dI)) hx hb hK hP 1 0 rfl rfl hi3 dX5_isAny_22 ?_
          refine lv_iload_n hx hb dX5_isAny_23 rfl (lv_at hl 1 rfl) ?_
          refine MI.callV (As := [.int (g_good (Int32.toNatClampNeg x3)), .int x1]) (rest := []) (wr := [(a_good, .inl (cI, 40320, .inl g_good))]) (ci := 5) (q0 := 0) (c_X5_isTogether l dC dI cI cZ a_this z_refusals z_lines z_set z_state z_weight z_all (.ref a_good) z_many (.int g_goods) z_trial z_isKnown z_always z_knot z_knots z_part z_parts g_n (g_good (Int32.toNatClampNeg x3)) x1 _ h) ⟨hx, hb, hml, hown, hts⟩ (cwV 2 hts gX5_isAny_X5_isTogether rfl rfl rfl (by decide +kernel) ⟨Nat.le_of_ble_eq_true rfl, Nat.le_of_ble_eq_true rfl⟩) hK hP hD hS hA hNW [0] [1] rfl rfl (by decide) (by decide) (by decide) rfl rfl rfl rfl hl.1 rfl (Nat.le_of_ble_eq_true rfl) dX5_isAny_24 ⟨Nat.zero_le _, Nat.zero_le _⟩ (fun r4 u H locs hw hP hD hS => ?_)
          obtain ⟨b5, rfl, hw⟩ := hw
          have h := hw
          try dsimp only at h
          have hP : va_P (dC, dI) vwCl [(a_good, .inl (cI, 40320, .inl g_good)), (a_this, .inr (5, [z_refusals, .int g_n, z_lines, z_set, z_state, z_weight, z_all, .ref a_good, z_many, .int g_goods, z_trial, z_isKnown, z_always, z_knot, z_knots, z_part, z_parts]))] H := hP
          have hD : va_D A [(a_good, .inl (cI, 40320, .inl g_good)), (a_this, .inr (5, [z_refusals, .int g_n, z_lines, z_set, z_state, z_weight, z_all, .ref a_good, z_many, .int g_goods, z_trial, z_isKnown, z_always, z_knot, z_knots, z_part, z_parts]))] := hD
          refine lv_istore_n (lv' := [(2, .int (bI b5)), (0, .ref a_this), (1, .int x1), (3, .int x3)]) hx hb dX5_isAny_27 rfl hl (by decide) rfl (fun ls hl => ?_)
          refine lv_iinc (v := x3 + 1) (lv' := [(3, .int (x3 + 1)), (2, .int (bI b5)), (0, .ref a_this), (1, .int x1)]) hx hb dX5_isAny_28 hl (k := 3) rfl rfl (by decide) rfl (fun ls hl => ?_)
          refine lv_goto (tgt := 4) hx hb dX5_isAny_31 (by decide) ?_
          exact ih4 b5 (x3 + 1) h _ _ _ (reP hP [1, 0] rfl) (hD.sub [1, 0] (by decide) rfl) hS (lv_sub hl [2, 3, 1, 0] rfl)
  obtain ⟨n, h⟩ := h
  exact L4 n false 0 h _ _ _ (reP hP [0, 1] rfl) (hD.sub [0, 1] (by decide) rfl) hS (lv_sub hl [2, 3, 1, 0] rfl)
/-! ### X5_takes takes(I)V -/
def rX5_takes : Room := { frames := 4, cells := 0, slots := 0, locals := 95 }
def q_X5_takes (g_n : Int32) (g_goods : Int32) (g_isKnown : Int32) (g_set : Nat → Int32) (g_state : Nat → Int32) (g_good : Nat → Int32) (x1 : Int32) (Q : Int32 → Int32 → (Nat → Int32) → (Nat → Int32) → Prop) : Prop :=
  vp_in x1 40 ∧ q_X5_isAny g_n g_goods g_good (g_set (Int32.toNatClampNeg x1)) (fun b3 => ∀ t6 : Int32, t6 = (if (bI b3) = 0 then 1 else 0) → (¬ ((upd g_state (Int32.toNatClampNeg x1) t6) (Int32.toNatClampNeg x1)) = 1 → q_X5_filter g_n g_good g_goods (g_set (Int32.toNatClampNeg x1)) (fun r9 g_good_8 => Q r9 0 (upd g_state (Int32.toNatClampNeg x1) t6) g_good_8)) ∧ (((upd g_state (Int32.toNatClampNeg x1) t6) (Int32.toNatClampNeg x1)) = 1 → Q g_goods g_isKnown (upd g_state (Int32.toNatClampNeg x1) t6) g_good))
set_option maxRecDepth 100000 in
set_option maxHeartbeats 4000000 in
theorem c_X5_takes (l : Launch) (dC : Nat → ClassId) (dI : Nat → Nat → Nat) (cI cZ : ClassId) (a_this a_set a_state a_good : Nat) (z_refusals z_lines z_weight z_all z_many z_trial z_always z_knot z_knots z_part z_parts : Value) (g_n : Int32) (g_goods : Int32) (g_isKnown : Int32) (g_set : Nat → Int32) (g_state : Nat → Int32) (g_good : Nat → Int32) (x1 : Int32) (Q : Int32 → Int32 → (Nat → Int32) → (Nat → Int32) → Prop) (h : q_X5_takes g_n g_goods g_isKnown g_set g_state g_good x1 Q) : MV l yX5_takes wsX5_takes rX5_takes (dC, dI) [(cI, .int), (cZ, .boolean)] [.ref a_this, .int x1] [(a_this, .inr (5, [z_refusals, .int g_n, z_lines, .ref a_set, .ref a_state, z_weight, z_all, .ref a_good, z_many, .int g_goods, z_trial, .int g_isKnown, z_always, z_knot, z_knots, z_part, z_parts])), (a_set, .inl (cI, 40, .inl g_set)), (a_state, .inl (cI, 40, .inl g_state)), (a_good, .inl (cI, 40320, .inl g_good))] (fun u : Int32 × Int32 × (Nat → Int32) × (Nat → Int32) => Q u.1 u.2.1 u.2.2.1 u.2.2.2) (fun u : Int32 × Int32 × (Nat → Int32) × (Nat → Int32) => [(a_this, .inr (5, [z_refusals, .int g_n, z_lines, .ref a_set, .ref a_state, z_weight, z_all, .ref a_good, z_many, .int u.1, z_trial, .int u.2.1, z_always, z_knot, z_knots, z_part, z_parts])), (a_set, .inl (cI, 40, .inl g_set)), (a_state, .inl (cI, 40, .inl u.2.2.1)), (a_good, .inl (cI, 40320, .inl u.2.2.2))]) := by
  refine MV.of (cc := cX5_takes) (maxL := 2) (by decide +kernel) rfl (Nat.le_of_ble_eq_true rfl) ?_
  intro p e s m args below meth c A QQ ls hx hb hml hown hts hA hK hP hD hS hNW ret hl
  have hl : lv_has ls 2 [(0, .ref a_this), (1, .int x1)] := hl
  have hown : s.vm.findClass RX5 = some m.cls := hown
  have in5 : ∀ w ∈ u_ws RX5 TX5 17, w ∈ wsX5_takes := fun _ w9 => List.mem_cons_of_mem _ (List.mem_append_right _ w9)
  have f13 := hts (.fieldLink RX5 13 "OnesDeskModel" "set" "[I") (by decide +kernel)
  have f16 := hts (.fieldLink RX5 16 "OnesDeskModel" "state" "[I") (by decide +kernel)
  have f26 := hts (.fieldLink RX5 26 "OnesDeskModel" "good" "[I") (by decide +kernel)
  have f60 := hts (.fieldLink RX5 60 "OnesDeskModel" "goods" "I") (by decide +kernel)
  have f63 := hts (.fieldLink RX5 63 "OnesDeskModel" "isKnown" "Z") (by decide +kernel)
  refine lv_aload_n hx hb dX5_takes_0 rfl (lv_at hl 0 rfl) ?_
  refine va_get (D := (dC, dI)) (ci := 5) (v := .ref a_state) (C := RX5) (T := TX5) (N := 17) hx hb hts in5 hown hK hP 0 rfl rfl 4 (by decide) f16 (fun _ h9 => h9) rfl dX5_takes_1 ?_
  refine lv_iload_n hx hb dX5_takes_4 rfl (lv_at hl 1 rfl) ?_
  refine lv_aload_n hx hb dX5_takes_5 rfl (lv_at hl 0 rfl) ?_
  refine lv_aload_n hx hb dX5_takes_6 rfl (lv_at hl 0 rfl) ?_
  refine va_get (D := (dC, dI)) (ci := 5) (v := .ref a_set) (C := RX5) (T := TX5) (N := 17) hx hb hts in5 hown hK hP 0 rfl rfl 3 (by decide) f13 (fun _ h9 => h9) rfl dX5_takes_7 ?_
  refine lv_iload_n hx hb dX5_takes_10 rfl (lv_at hl 1 rfl) ?_
  obtain ⟨hi1, h⟩ := h
  refine va_iald (D := (dC, dI)) hx hb hK hP 1 0 rfl rfl hi1 dX5_takes_11 ?_
  refine MI.callV (As := [.int (g_set (Int32.toNatClampNeg x1))]) (rest := [.int x1, .ref a_state]) (wr := [(a_set, .inl (cI, 40, .inl g_set)), (a_state, .inl (cI, 40, .inl g_state))]) (ci := 5) (q0 := 0) (c_X5_isAny l dC dI cI cZ a_this a_good z_refusals z_lines (.ref a_set) (.ref a_state) z_weight z_all z_many z_trial (.int g_isKnown) z_always z_knot z_knots z_part z_parts g_n g_goods g_good (g_set (Int32.toNatClampNeg x1)) _ h) ⟨hx, hb, hml, hown, hts⟩ (cwV 1 hts gX5_takes_X5_isAny rfl rfl rfl (by decide +kernel) ⟨Nat.le_of_ble_eq_true rfl, Nat.le_of_ble_eq_true rfl⟩) hK hP hD hS hA hNW [0, 3] [1, 2] rfl rfl (by decide) (by decide) (by decide) rfl rfl rfl rfl hl.1 rfl (Nat.le_of_ble_eq_true rfl) dX5_takes_12 ⟨Nat.zero_le _, Nat.zero_le _⟩ (fun r2 u H locs hw hP hD hS => ?_)
  obtain ⟨b3, rfl, hw⟩ := hw
  have h := hw
  try dsimp only at h
  have hP : va_P (dC, dI) vwCl [(a_set, .inl (cI, 40, .inl g_set)), (a_state, .inl (cI, 40, .inl g_state)), (a_this, .inr (5, [z_refusals, .int g_n, z_lines, .ref a_set, .ref a_state, z_weight, z_all, .ref a_good, z_many, .int g_goods, z_trial, .int g_isKnown, z_always, z_knot, z_knots, z_part, z_parts])), (a_good, .inl (cI, 40320, .inl g_good))] H := hP
  have hD : va_D A [(a_set, .inl (cI, 40, .inl g_set)), (a_state, .inl (cI, 40, .inl g_state)), (a_this, .inr (5, [z_refusals, .int g_n, z_lines, .ref a_set, .ref a_state, z_weight, z_all, .ref a_good, z_many, .int g_goods, z_trial, .int g_isKnown, z_always, z_knot, z_knots, z_part, z_parts])), (a_good, .inl (cI, 40320, .inl g_good))] := hD
  have K4 : ∀ t6 : Int32, t6 = (if (bI b3) = 0 then 1 else 0) → W p l e rX5_takes s m args below meth c H locs 0 0 QQ (F0 m 23 ls [.int t6, .int x1, .ref a_state]) := by
    intro t6 et6
    have h := h t6 et6
    refine va_iast (D := (dC, dI)) hx hb hK hP hD hS 1 0 rfl rfl hi1 dX5_takes_23 (fun H locs hP hD hS => ?_)
    have hP : va_P (dC, dI) vwCl [(a_set, .inl (cI, 40, .inl g_set)), (a_state, .inl (cI, 40, .inl (upd g_state (Int32.toNatClampNeg x1) t6))), (a_this, .inr (5, [z_refusals, .int g_n, z_lines, .ref a_set, .ref a_state, z_weight, z_all, .ref a_good, z_many, .int g_goods, z_trial, .int g_isKnown, z_always, z_knot, z_knots, z_part, z_parts])), (a_good, .inl (cI, 40320, .inl g_good))] H := hP
    have hD : va_D A [(a_set, .inl (cI, 40, .inl g_set)), (a_state, .inl (cI, 40, .inl (upd g_state (Int32.toNatClampNeg x1) t6))), (a_this, .inr (5, [z_refusals, .int g_n, z_lines, .ref a_set, .ref a_state, z_weight, z_all, .ref a_good, z_many, .int g_goods, z_trial, .int g_isKnown, z_always, z_knot, z_knots, z_part, z_parts])), (a_good, .inl (cI, 40320, .inl g_good))] := hD
    refine lv_aload_n hx hb dX5_takes_24 rfl (lv_at hl 0 rfl) ?_
    refine va_get (D := (dC, dI)) (ci := 5) (v := .ref a_state) (C := RX5) (T := TX5) (N := 17) hx hb hts in5 hown hK hP 2 rfl rfl 4 (by decide) f16 (fun _ h9 => h9) rfl dX5_takes_25 ?_
    refine lv_iload_n hx hb dX5_takes_28 rfl (lv_at hl 1 rfl) ?_
    refine va_iald (D := (dC, dI)) hx hb hK hP 1 0 rfl rfl hi1 dX5_takes_29 ?_
    refine lv_iconst (v := 1) hx hb dX5_takes_30 (by decide) ?_
    refine lv_icmp_ne (tgt := 35) hx hb dX5_takes_31 (by decide) (fun k7 => ?_) (fun k7 => ?_)
    · have h := h.1 k7
      refine lv_aload_n hx hb dX5_takes_35 rfl (lv_at hl 0 rfl) ?_
      refine lv_aload_n hx hb dX5_takes_36 rfl (lv_at hl 0 rfl) ?_
      refine lv_aload_n hx hb dX5_takes_37 rfl (lv_at hl 0 rfl) ?_
      refine va_get (D := (dC, dI)) (ci := 5) (v := .ref a_good) (C := RX5) (T := TX5) (N := 17) hx hb hts in5 hown hK hP 2 rfl rfl 7 (by decide) f26 (fun _ h9 => h9) rfl dX5_takes_38 ?_
      refine lv_aload_n hx hb dX5_takes_41 rfl (lv_at hl 0 rfl) ?_
      refine va_get (D := (dC, dI)) (ci := 5) (v := .int g_goods) (C := RX5) (T := TX5) (N := 17) hx hb hts in5 hown hK hP 2 rfl rfl 9 (by decide) f60 (fun _ h9 => h9) rfl dX5_takes_42 ?_
      refine lv_aload_n hx hb dX5_takes_45 rfl (lv_at hl 0 rfl) ?_
      refine va_get (D := (dC, dI)) (ci := 5) (v := .ref a_set) (C := RX5) (T := TX5) (N := 17) hx hb hts in5 hown hK hP 2 rfl rfl 3 (by decide) f13 (fun _ h9 => h9) rfl dX5_takes_46 ?_
      refine lv_iload_n hx hb dX5_takes_49 rfl (lv_at hl 1 rfl) ?_
      refine va_iald (D := (dC, dI)) hx hb hK hP 0 0 rfl rfl hi1 dX5_takes_50 ?_
      refine MI.callV (As := [.ref a_good, .int g_goods, .int (g_set (Int32.toNatClampNeg x1))]) (rest := [.ref a_this]) (wr := [(a_set, .inl (cI, 40, .inl g_set)), (a_state, .inl (cI, 40, .inl (upd g_state (Int32.toNatClampNeg x1) t6)))]) (ci := 5) (q0 := 0) (c_X5_filter l dC dI cI cZ a_this a_good z_refusals z_lines (.ref a_set) (.ref a_state) z_weight z_all (.ref a_good) z_many (.int g_goods) z_trial (.int g_isKnown) z_always z_knot z_knots z_part z_parts g_n g_good g_goods (g_set (Int32.toNatClampNeg x1)) _ h) ⟨hx, hb, hml, hown, hts⟩ (cwV 3 hts gX5_takes_X5_filter rfl rfl rfl (by decide +kernel) ⟨Nat.le_of_ble_eq_true rfl, Nat.le_of_ble_eq_true rfl⟩) hK hP hD hS hA hNW [2, 3] [0, 1] rfl rfl (by decide) (by decide) (by decide) rfl rfl rfl rfl hl.1 rfl (Nat.le_of_ble_eq_true rfl) dX5_takes_51 ⟨Nat.zero_le _, Nat.zero_le _⟩ (fun r9 u H locs hw hP hD hS => ?_)
      obtain ⟨g_good_8, rfl⟩ : ∃ z, z = u := ⟨_, rfl⟩
      have h := hw
      try dsimp only at h
      have hP : va_P (dC, dI) vwCl [(a_set, .inl (cI, 40, .inl g_set)), (a_state, .inl (cI, 40, .inl (upd g_state (Int32.toNatClampNeg x1) t6))), (a_this, .inr (5, [z_refusals, .int g_n, z_lines, .ref a_set, .ref a_state, z_weight, z_all, .ref a_good, z_many, .int g_goods, z_trial, .int g_isKnown, z_always, z_knot, z_knots, z_part, z_parts])), (a_good, .inl (cI, 40320, .inl g_good_8))] H := hP
      have hD : va_D A [(a_set, .inl (cI, 40, .inl g_set)), (a_state, .inl (cI, 40, .inl (upd g_state (Int32.toNatClampNeg x1) t6))), (a_this, .inr (5, [z_refusals, .int g_n, z_lines, .ref a_set, .ref a_state, z_weight, z_all, .ref a_good, z_many, .int g_goods, z_trial, .int g_isKnown, z_always, z_knot, z_knots, z_part, z_parts])), (a_good, .inl (cI, 40320, .inl g_good_8))] := hD
      refine va_put (D := (dC, dI)) (ci := 5) (v := .int r9) (ty := .int) (C := RX5) (T := TX5) (N := 17) hx hb hts in5 tyX5 tyX5_ok nmX5 hown hK hP hD hS 2 rfl rfl 9 (by decide) f60 (fun _ h9 => h9) rfl (by decide +kernel) rfl rfl (Nat.le_of_ble_eq_true rfl) dX5_takes_54 (fun H locs hP hD hS => ?_)
      have hP : va_P (dC, dI) vwCl [(a_set, .inl (cI, 40, .inl g_set)), (a_state, .inl (cI, 40, .inl (upd g_state (Int32.toNatClampNeg x1) t6))), (a_this, .inr (5, [z_refusals, .int g_n, z_lines, .ref a_set, .ref a_state, z_weight, z_all, .ref a_good, z_many, .int r9, z_trial, .int g_isKnown, z_always, z_knot, z_knots, z_part, z_parts])), (a_good, .inl (cI, 40320, .inl g_good_8))] H := hP
      have hD : va_D A [(a_set, .inl (cI, 40, .inl g_set)), (a_state, .inl (cI, 40, .inl (upd g_state (Int32.toNatClampNeg x1) t6))), (a_this, .inr (5, [z_refusals, .int g_n, z_lines, .ref a_set, .ref a_state, z_weight, z_all, .ref a_good, z_many, .int r9, z_trial, .int g_isKnown, z_always, z_knot, z_knots, z_part, z_parts])), (a_good, .inl (cI, 40320, .inl g_good_8))] := hD
      refine lv_aload_n hx hb dX5_takes_57 rfl (lv_at hl 0 rfl) ?_
      refine lv_iconst (v := 0) hx hb dX5_takes_58 (by decide) ?_
      refine va_put (D := (dC, dI)) (ci := 5) (v := .int 0) (ty := .boolean) (C := RX5) (T := TX5) (N := 17) hx hb hts in5 tyX5 tyX5_ok nmX5 hown hK hP hD hS 2 rfl rfl 11 (by decide) f63 (fun _ h9 => h9) rfl (by decide +kernel) (by decide) (by decide) (Nat.le_of_ble_eq_true rfl) dX5_takes_59 (fun H locs hP hD hS => ?_)
      have hP : va_P (dC, dI) vwCl [(a_set, .inl (cI, 40, .inl g_set)), (a_state, .inl (cI, 40, .inl (upd g_state (Int32.toNatClampNeg x1) t6))), (a_this, .inr (5, [z_refusals, .int g_n, z_lines, .ref a_set, .ref a_state, z_weight, z_all, .ref a_good, z_many, .int r9, z_trial, .int 0, z_always, z_knot, z_knots, z_part, z_parts])), (a_good, .inl (cI, 40320, .inl g_good_8))] H := hP
      have hD : va_D A [(a_set, .inl (cI, 40, .inl g_set)), (a_state, .inl (cI, 40, .inl (upd g_state (Int32.toNatClampNeg x1) t6))), (a_this, .inr (5, [z_refusals, .int g_n, z_lines, .ref a_set, .ref a_state, z_weight, z_all, .ref a_good, z_many, .int r9, z_trial, .int 0, z_always, z_knot, z_knots, z_part, z_parts])), (a_good, .inl (cI, 40320, .inl g_good_8))] := hD
      exact ret _ _ _ _ (r9, 0, (upd g_state (Int32.toNatClampNeg x1) t6), g_good_8) dX5_takes_62 h (reP hP [2, 0, 1, 3] rfl) (hD.sub [2, 0, 1, 3] (by decide) rfl) hS
    · have h := h.2 k7
      exact ret _ _ _ _ (g_goods, g_isKnown, (upd g_state (Int32.toNatClampNeg x1) t6), g_good) dX5_takes_34 h (reP hP [2, 0, 1, 3] rfl) (hD.sub [2, 0, 1, 3] (by decide) rfl) hS
  refine lv_if_eq (tgt := 22) hx hb dX5_takes_15 (by decide) (fun k5 => ?_) (fun k5 => ?_)
  · refine lv_iconst (v := 1) hx hb dX5_takes_22 (by decide) ?_
    exact K4 _ (by rw [if_pos k5])
  · refine lv_iconst (v := 0) hx hb dX5_takes_18 (by decide) ?_
    refine lv_goto (tgt := 23) hx hb dX5_takes_19 (by decide) ?_
    exact K4 _ (by rw [if_neg k5])
/-! ### X5_goodWithout goodWithout([II)I -/
def rX5_goodWithout : Room := { frames := 4, cells := 0, slots := 0, locals := 95 }
def q_X5_goodWithout_L33 (x2 : Int32) (g_n : Int32) (g_lines : Int32) (g_set : Nat → Int32) (g_state : Nat → Int32) (Q : Int32 → (Nat → Int32) → Prop) : Nat → Int32 → Int32 → (Nat → Int32) → Prop
  | 0 => fun _ _ _ => False
  | n + 1 => fun x3 x4 g_p1 => (g_lines ≤ x4 → Q x3 g_p1) ∧ (¬ g_lines ≤ x4 → (x4 = x2 → (q_X5_goodWithout_L33 x2 g_n g_lines g_set g_state Q n) x3 (x4 + 1) g_p1) ∧ (¬ x4 = x2 → vp_in x4 40 ∧ (¬ (g_state (Int32.toNatClampNeg x4)) = 0 → (q_X5_goodWithout_L33 x2 g_n g_lines g_set g_state Q n) x3 (x4 + 1) g_p1) ∧ ((g_state (Int32.toNatClampNeg x4)) = 0 → q_X5_filter g_n g_p1 x3 (g_set (Int32.toNatClampNeg x4)) (fun r6 g_p1_5 => (q_X5_goodWithout_L33 x2 g_n g_lines g_set g_state Q n) r6 (x4 + 1) g_p1_5))))
def q_X5_goodWithout_J25 (x2 : Int32) (g_n : Int32) (g_lines : Int32) (g_many : Int32) (g_set : Nat → Int32) (g_state : Nat → Int32) (g_p1 : Nat → Int32) (Q : Int32 → (Nat → Int32) → Prop) : Prop :=
  ∃ N : Nat, q_X5_goodWithout_L33 x2 g_n g_lines g_set g_state Q N g_many 0 g_p1
def q_X5_goodWithout_L2 (x2 : Int32) (g_n : Int32) (g_lines : Int32) (g_many : Int32) (g_set : Nat → Int32) (g_state : Nat → Int32) (g_all : Nat → Int32) (Q : Int32 → (Nat → Int32) → Prop) : Nat → Int32 → (Nat → Int32) → Prop
  | 0 => fun _ _ => False
  | n + 1 => fun x3 g_p1 => (g_many ≤ x3 → q_X5_goodWithout_J25 x2 g_n g_lines g_many g_set g_state g_p1 Q) ∧ (¬ g_many ≤ x3 → vp_in x3 40320 ∧ (q_X5_goodWithout_L2 x2 g_n g_lines g_many g_set g_state g_all Q n) (x3 + 1) (upd g_p1 (Int32.toNatClampNeg x3) (g_all (Int32.toNatClampNeg x3))))
def q_X5_goodWithout (g_n : Int32) (g_lines : Int32) (g_many : Int32) (g_set : Nat → Int32) (g_state : Nat → Int32) (g_all : Nat → Int32) (g_p1 : Nat → Int32) (x2 : Int32) (Q : Int32 → (Nat → Int32) → Prop) : Prop :=
  ∃ N : Nat, q_X5_goodWithout_L2 x2 g_n g_lines g_many g_set g_state g_all Q N 0 g_p1
set_option maxRecDepth 100000 in
set_option maxHeartbeats 4000000 in
theorem c_X5_goodWithout (l : Launch) (dC : Nat → ClassId) (dI : Nat → Nat → Nat) (cI cZ : ClassId) (a_this a_set a_state a_all a_p1 : Nat) (z_refusals z_weight z_good z_goods z_trial z_isKnown z_always z_knot z_knots z_part z_parts : Value) (g_n : Int32) (g_lines : Int32) (g_many : Int32) (g_set : Nat → Int32) (g_state : Nat → Int32) (g_all : Nat → Int32) (g_p1 : Nat → Int32) (x2 : Int32) (Q : Int32 → (Nat → Int32) → Prop) (h : q_X5_goodWithout g_n g_lines g_many g_set g_state g_all g_p1 x2 Q) : MI l yX5_goodWithout wsX5_goodWithout rX5_goodWithout (dC, dI) [(cI, .int), (cZ, .boolean)] [.ref a_this, .ref a_p1, .int x2] [(a_this, .inr (5, [z_refusals, .int g_n, .int g_lines, .ref a_set, .ref a_state, z_weight, .ref a_all, z_good, .int g_many, z_goods, z_trial, z_isKnown, z_always, z_knot, z_knots, z_part, z_parts])), (a_set, .inl (cI, 40, .inl g_set)), (a_state, .inl (cI, 40, .inl g_state)), (a_all, .inl (cI, 40320, .inl g_all)), (a_p1, .inl (cI, 40320, .inl g_p1))] (fun (r : Int32) (u : (Nat → Int32)) => Q r u) (fun u : (Nat → Int32) => [(a_this, .inr (5, [z_refusals, .int g_n, .int g_lines, .ref a_set, .ref a_state, z_weight, .ref a_all, z_good, .int g_many, z_goods, z_trial, z_isKnown, z_always, z_knot, z_knots, z_part, z_parts])), (a_set, .inl (cI, 40, .inl g_set)), (a_state, .inl (cI, 40, .inl g_state)), (a_all, .inl (cI, 40320, .inl g_all)), (a_p1, .inl (cI, 40320, .inl u))]) := by
  refine MI.of (cc := cX5_goodWithout) (maxL := 5) (by decide +kernel) rfl (Nat.le_of_ble_eq_true rfl) ?_
  intro p e s m args below meth c A QQ ls hx hb hml hown hts hA hK hP hD hS hNW ret hl
  have hl : lv_has ls 5 [(0, .ref a_this), (1, .ref a_p1), (2, .int x2)] := hl
  have hown : s.vm.findClass RX5 = some m.cls := hown
  have in5 : ∀ w ∈ u_ws RX5 TX5 17, w ∈ wsX5_goodWithout := fun _ w9 => List.mem_cons_of_mem _ (List.mem_append_right _ w9)
  have f13 := hts (.fieldLink RX5 13 "OnesDeskModel" "set" "[I") (by decide +kernel)
  have f16 := hts (.fieldLink RX5 16 "OnesDeskModel" "state" "[I") (by decide +kernel)
  have f23 := hts (.fieldLink RX5 23 "OnesDeskModel" "all" "[I") (by decide +kernel)
  have f50 := hts (.fieldLink RX5 50 "OnesDeskModel" "lines" "I") (by decide +kernel)
  have f53 := hts (.fieldLink RX5 53 "OnesDeskModel" "many" "I") (by decide +kernel)
  refine lv_iconst (v := 0) hx hb dX5_goodWithout_0 (by decide) ?_
  refine lv_istore_n (lv' := [(3, .int 0), (0, .ref a_this), (1, .ref a_p1), (2, .int x2)]) hx hb dX5_goodWithout_1 rfl hl (by decide) rfl (fun ls hl => ?_)
  have L2 : ∀ (n2 : Nat), ∀ (x3 : Int32) (g_p1 : Nat → Int32), q_X5_goodWithout_L2 x2 g_n g_lines g_many g_set g_state g_all Q n2 x3 g_p1 → ∀ (H : Heap) (locs : List Loc) (ls : Array Slot), va_P (dC, dI) vwCl [(a_this, .inr (5, [z_refusals, .int g_n, .int g_lines, .ref a_set, .ref a_state, z_weight, .ref a_all, z_good, .int g_many, z_goods, z_trial, z_isKnown, z_always, z_knot, z_knots, z_part, z_parts])), (a_set, .inl (cI, 40, .inl g_set)), (a_state, .inl (cI, 40, .inl g_state)), (a_all, .inl (cI, 40320, .inl g_all)), (a_p1, .inl (cI, 40320, .inl g_p1))] H → va_D A [(a_this, .inr (5, [z_refusals, .int g_n, .int g_lines, .ref a_set, .ref a_state, z_weight, .ref a_all, z_good, .int g_many, z_goods, z_trial, z_isKnown, z_always, z_knot, z_knots, z_part, z_parts])), (a_set, .inl (cI, 40, .inl g_set)), (a_state, .inl (cI, 40, .inl g_state)), (a_all, .inl (cI, 40320, .inl g_all)), (a_p1, .inl (cI, 40320, .inl g_p1))] → va_S A s.heap H locs → lv_has ls 5 [(0, .ref a_this), (1, .ref a_p1), (2, .int x2), (3, .int x3)] → W p l e rX5_goodWithout s m args below meth c H locs 0 0 QQ (F0 m 2 ls []) := by
    intro n2
    induction n2 with
    | zero => intro x3 g_p1 h; exact False.elim h
    | succ n2 ih2 =>
      intro x3 g_p1 h H locs ls hP hD hS hl
      refine lv_iload_n hx hb dX5_goodWithout_2 rfl (lv_at hl 3 rfl) ?_
      refine lv_aload_n hx hb dX5_goodWithout_3 rfl (lv_at hl 0 rfl) ?_
      refine va_get (D := (dC, dI)) (ci := 5) (v := .int g_many) (C := RX5) (T := TX5) (N := 17) hx hb hts in5 hown hK hP 0 rfl rfl 8 (by decide) f53 (fun _ h9 => h9) rfl dX5_goodWithout_4 ?_
      refine lv_icmp_ge (tgt := 25) hx hb dX5_goodWithout_7 (by decide) (fun k1 => ?_) (fun k1 => ?_)
      · have h := h.1 k1
        have J25 : q_X5_goodWithout_J25 x2 g_n g_lines g_many g_set g_state g_p1 Q → ∀ (H : Heap) (locs : List Loc) (ls : Array Slot), va_P (dC, dI) vwCl [(a_this, .inr (5, [z_refusals, .int g_n, .int g_lines, .ref a_set, .ref a_state, z_weight, .ref a_all, z_good, .int g_many, z_goods, z_trial, z_isKnown, z_always, z_knot, z_knots, z_part, z_parts])), (a_set, .inl (cI, 40, .inl g_set)), (a_state, .inl (cI, 40, .inl g_state)), (a_all, .inl (cI, 40320, .inl g_all)), (a_p1, .inl (cI, 40320, .inl g_p1))] H → va_D A [(a_this, .inr (5, [z_refusals, .int g_n, .int g_lines, .ref a_set, .ref a_state, z_weight, .ref a_all, z_good, .int g_many, z_goods, z_trial, z_isKnown, z_always, z_knot, z_knots, z_part, z_parts])), (a_set, .inl (cI, 40, .inl g_set)), (a_state, .inl (cI, 40, .inl g_state)), (a_all, .inl (cI, 40320, .inl g_all)), (a_p1, .inl (cI, 40320, .inl g_p1))] → va_S A s.heap H locs → lv_has ls 5 [(0, .ref a_this), (1, .ref a_p1), (2, .int x2)] → W p l e rX5_goodWithout s m args below meth c H locs 0 0 QQ (F0 m 25 ls []) := by
          intro  h H locs ls hP hD hS hl
          refine lv_aload_n hx hb dX5_goodWithout_25 rfl (lv_at hl 0 rfl) ?_
          refine va_get (D := (dC, dI)) (ci := 5) (v := .int g_many) (C := RX5) (T := TX5) (N := 17) hx hb hts in5 hown hK hP 0 rfl rfl 8 (by decide) f53 (fun _ h9 => h9) rfl dX5_goodWithout_26 ?_
          refine lv_istore_n (lv' := [(3, .int g_many), (0, .ref a_this), (1, .ref a_p1), (2, .int x2)]) hx hb dX5_goodWithout_29 rfl hl (by decide) rfl (fun ls hl => ?_)
          refine lv_iconst (v := 0) hx hb dX5_goodWithout_30 (by decide) ?_
          refine lv_istore (lv' := [(4, .int 0), (3, .int g_many), (0, .ref a_this), (1, .ref a_p1), (2, .int x2)]) hx hb dX5_goodWithout_31 hl (by decide) rfl (fun ls hl => ?_)
          have L33 : ∀ (n33 : Nat), ∀ (x3 : Int32) (x4 : Int32) (g_p1 : Nat → Int32), q_X5_goodWithout_L33 x2 g_n g_lines g_set g_state Q n33 x3 x4 g_p1 → ∀ (H : Heap) (locs : List Loc) (ls : Array Slot), va_P (dC, dI) vwCl [(a_this, .inr (5, [z_refusals, .int g_n, .int g_lines, .ref a_set, .ref a_state, z_weight, .ref a_all, z_good, .int g_many, z_goods, z_trial, z_isKnown, z_always, z_knot, z_knots, z_part, z_parts])), (a_set, .inl (cI, 40, .inl g_set)), (a_state, .inl (cI, 40, .inl g_state)), (a_all, .inl (cI, 40320, .inl g_all)), (a_p1, .inl (cI, 40320, .inl g_p1))] H → va_D A [(a_this, .inr (5, [z_refusals, .int g_n, .int g_lines, .ref a_set, .ref a_state, z_weight, .ref a_all, z_good, .int g_many, z_goods, z_trial, z_isKnown, z_always, z_knot, z_knots, z_part, z_parts])), (a_set, .inl (cI, 40, .inl g_set)), (a_state, .inl (cI, 40, .inl g_state)), (a_all, .inl (cI, 40320, .inl g_all)), (a_p1, .inl (cI, 40320, .inl g_p1))] → va_S A s.heap H locs → lv_has ls 5 [(0, .ref a_this), (1, .ref a_p1), (2, .int x2), (3, .int x3), (4, .int x4)] → W p l e rX5_goodWithout s m args below meth c H locs 0 0 QQ (F0 m 33 ls []) := by
            intro n33
            induction n33 with
            | zero => intro x3 x4 g_p1 h; exact False.elim h
            | succ n33 ih33 =>
              intro x3 x4 g_p1 h H locs ls hP hD hS hl
              refine lv_iload hx hb dX5_goodWithout_33 (lv_at hl 4 rfl) ?_
              refine lv_aload_n hx hb dX5_goodWithout_35 rfl (lv_at hl 0 rfl) ?_
              refine va_get (D := (dC, dI)) (ci := 5) (v := .int g_lines) (C := RX5) (T := TX5) (N := 17) hx hb hts in5 hown hK hP 0 rfl rfl 2 (by decide) f50 (fun _ h9 => h9) rfl dX5_goodWithout_36 ?_
              refine lv_icmp_ge (tgt := 78) hx hb dX5_goodWithout_39 (by decide) (fun k1 => ?_) (fun k1 => ?_)
              · have h := h.1 k1
                refine lv_iload_n hx hb dX5_goodWithout_78 rfl (lv_at hl 3 rfl) ?_
                exact ret _ _ _ _ x3 g_p1 dX5_goodWithout_79 h (reP hP [0, 1, 2, 3, 4] rfl) (hD.sub [0, 1, 2, 3, 4] (by decide) rfl) hS
              · have h := h.2 k1
                refine lv_iload hx hb dX5_goodWithout_42 (lv_at hl 4 rfl) ?_
                refine lv_iload_n hx hb dX5_goodWithout_44 rfl (lv_at hl 2 rfl) ?_
                refine lv_icmp_eq (tgt := 72) hx hb dX5_goodWithout_45 (by decide) (fun k2 => ?_) (fun k2 => ?_)
                · have h := h.1 k2
                  refine lv_iinc (v := x4 + 1) (lv' := [(4, .int (x4 + 1)), (0, .ref a_this), (1, .ref a_p1), (2, .int x2), (3, .int x3)]) hx hb dX5_goodWithout_72 hl (k := 4) rfl rfl (by decide) rfl (fun ls hl => ?_)
                  refine lv_goto (tgt := 33) hx hb dX5_goodWithout_75 (by decide) ?_
                  exact ih33 x3 (x4 + 1) g_p1 h _ _ _ (reP hP [0, 1, 2, 3, 4] rfl) (hD.sub [0, 1, 2, 3, 4] (by decide) rfl) hS (lv_sub hl [1, 2, 3, 4, 0] rfl)
                · have h := h.2 k2
                  refine lv_aload_n hx hb dX5_goodWithout_48 rfl (lv_at hl 0 rfl) ?_
                  refine va_get (D := (dC, dI)) (ci := 5) (v := .ref a_state) (C := RX5) (T := TX5) (N := 17) hx hb hts in5 hown hK hP 0 rfl rfl 4 (by decide) f16 (fun _ h9 => h9) rfl dX5_goodWithout_49 ?_
                  refine lv_iload hx hb dX5_goodWithout_52 (lv_at hl 4 rfl) ?_
                  obtain ⟨hi3, h⟩ := h
                  refine va_iald (D := (dC, dI)) hx hb hK hP 2 0 rfl rfl hi3 dX5_goodWithout_54 ?_
                  refine lv_if_ne (tgt := 72) hx hb dX5_goodWithout_55 (by decide) (fun k4 => ?_) (fun k4 => ?_)
                  · have h := h.1 k4
                    refine lv_iinc (v := x4 + 1) (lv' := [(4, .int (x4 + 1)), (0, .ref a_this), (1, .ref a_p1), (2, .int x2), (3, .int x3)]) hx hb dX5_goodWithout_72 hl (k := 4) rfl rfl (by decide) rfl (fun ls hl => ?_)
                    refine lv_goto (tgt := 33) hx hb dX5_goodWithout_75 (by decide) ?_
                    exact ih33 x3 (x4 + 1) g_p1 h _ _ _ (reP hP [0, 1, 2, 3, 4] rfl) (hD.sub [0, 1, 2, 3, 4] (by decide) rfl) hS (lv_sub hl [1, 2, 3, 4, 0] rfl)
                  · have h := h.2 k4
                    refine lv_aload_n hx hb dX5_goodWithout_58 rfl (lv_at hl 0 rfl) ?_
                    refine lv_aload_n hx hb dX5_goodWithout_59 rfl (lv_at hl 1 rfl) ?_
                    refine lv_iload_n hx hb dX5_goodWithout_60 rfl (lv_at hl 3 rfl) ?_
                    refine lv_aload_n hx hb dX5_goodWithout_61 rfl (lv_at hl 0 rfl) ?_
                    refine va_get (D := (dC, dI)) (ci := 5) (v := .ref a_set) (C := RX5) (T := TX5) (N := 17) hx hb hts in5 hown hK hP 0 rfl rfl 3 (by decide) f13 (fun _ h9 => h9) rfl dX5_goodWithout_62 ?_
                    refine lv_iload hx hb dX5_goodWithout_65 (lv_at hl 4 rfl) ?_
                    refine va_iald (D := (dC, dI)) hx hb hK hP 1 0 rfl rfl hi3 dX5_goodWithout_67 ?_
                    refine MI.callV (As := [.ref a_p1, .int x3, .int (g_set (Int32.toNatClampNeg x4))]) (rest := []) (wr := [(a_set, .inl (cI, 40, .inl g_set)), (a_state, .inl (cI, 40, .inl g_state)), (a_all, .inl (cI, 40320, .inl g_all))]) (ci := 5) (q0 := 0) (c_X5_filter l dC dI cI cZ a_this a_p1 z_refusals (.int g_lines) (.ref a_set) (.ref a_state) z_weight (.ref a_all) z_good (.int g_many) z_goods z_trial z_isKnown z_always z_knot z_knots z_part z_parts g_n g_p1 x3 (g_set (Int32.toNatClampNeg x4)) _ h) ⟨hx, hb, hml, hown, hts⟩ (cwV 3 hts gX5_goodWithout_X5_filter rfl rfl rfl (by decide +kernel) ⟨Nat.le_of_ble_eq_true rfl, Nat.le_of_ble_eq_true rfl⟩) hK hP hD hS hA hNW [0, 4] [1, 2, 3] rfl rfl (by decide) (by decide) (by decide) rfl rfl rfl rfl hl.1 rfl (Nat.le_of_ble_eq_true rfl) dX5_goodWithout_68 ⟨Nat.zero_le _, Nat.zero_le _⟩ (fun r6 u H locs hw hP hD hS => ?_)
                    obtain ⟨g_p1_5, rfl⟩ : ∃ z, z = u := ⟨_, rfl⟩
                    have h := hw
                    try dsimp only at h
                    have hP : va_P (dC, dI) vwCl [(a_set, .inl (cI, 40, .inl g_set)), (a_state, .inl (cI, 40, .inl g_state)), (a_all, .inl (cI, 40320, .inl g_all)), (a_this, .inr (5, [z_refusals, .int g_n, .int g_lines, .ref a_set, .ref a_state, z_weight, .ref a_all, z_good, .int g_many, z_goods, z_trial, z_isKnown, z_always, z_knot, z_knots, z_part, z_parts])), (a_p1, .inl (cI, 40320, .inl g_p1_5))] H := hP
                    have hD : va_D A [(a_set, .inl (cI, 40, .inl g_set)), (a_state, .inl (cI, 40, .inl g_state)), (a_all, .inl (cI, 40320, .inl g_all)), (a_this, .inr (5, [z_refusals, .int g_n, .int g_lines, .ref a_set, .ref a_state, z_weight, .ref a_all, z_good, .int g_many, z_goods, z_trial, z_isKnown, z_always, z_knot, z_knots, z_part, z_parts])), (a_p1, .inl (cI, 40320, .inl g_p1_5))] := hD
                    refine lv_istore_n (lv' := [(3, .int r6), (0, .ref a_this), (1, .ref a_p1), (2, .int x2), (4, .int x4)]) hx hb dX5_goodWithout_71 rfl hl (by decide) rfl (fun ls hl => ?_)
                    refine lv_iinc (v := x4 + 1) (lv' := [(4, .int (x4 + 1)), (3, .int r6), (0, .ref a_this), (1, .ref a_p1), (2, .int x2)]) hx hb dX5_goodWithout_72 hl (k := 4) rfl rfl (by decide) rfl (fun ls hl => ?_)
                    refine lv_goto (tgt := 33) hx hb dX5_goodWithout_75 (by decide) ?_
                    exact ih33 r6 (x4 + 1) g_p1_5 h _ _ _ (reP hP [3, 0, 1, 2, 4] rfl) (hD.sub [3, 0, 1, 2, 4] (by decide) rfl) hS (lv_sub hl [2, 3, 4, 1, 0] rfl)
          obtain ⟨n, h⟩ := h
          exact L33 n g_many 0 g_p1 h _ _ _ (reP hP [0, 1, 2, 3, 4] rfl) (hD.sub [0, 1, 2, 3, 4] (by decide) rfl) hS (lv_sub hl [2, 3, 4, 1, 0] rfl)
        exact J25 h _ _ _ (reP hP [0, 1, 2, 3, 4] rfl) (hD.sub [0, 1, 2, 3, 4] (by decide) rfl) hS (lv_sub hl [0, 1, 2] rfl)
      · have h := h.2 k1
        refine lv_aload_n hx hb dX5_goodWithout_10 rfl (lv_at hl 1 rfl) ?_
        refine lv_iload_n hx hb dX5_goodWithout_11 rfl (lv_at hl 3 rfl) ?_
        refine lv_aload_n hx hb dX5_goodWithout_12 rfl (lv_at hl 0 rfl) ?_
        refine va_get (D := (dC, dI)) (ci := 5) (v := .ref a_all) (C := RX5) (T := TX5) (N := 17) hx hb hts in5 hown hK hP 0 rfl rfl 6 (by decide) f23 (fun _ h9 => h9) rfl dX5_goodWithout_13 ?_
        refine lv_iload_n hx hb dX5_goodWithout_16 rfl (lv_at hl 3 rfl) ?_
        obtain ⟨hi2, h⟩ := h
        refine va_iald (D := (dC, dI)) hx hb hK hP 3 0 rfl rfl hi2 dX5_goodWithout_17 ?_
        refine va_iast (D := (dC, dI)) hx hb hK hP hD hS 4 0 rfl rfl hi2 dX5_goodWithout_18 (fun H locs hP hD hS => ?_)
        have hP : va_P (dC, dI) vwCl [(a_this, .inr (5, [z_refusals, .int g_n, .int g_lines, .ref a_set, .ref a_state, z_weight, .ref a_all, z_good, .int g_many, z_goods, z_trial, z_isKnown, z_always, z_knot, z_knots, z_part, z_parts])), (a_set, .inl (cI, 40, .inl g_set)), (a_state, .inl (cI, 40, .inl g_state)), (a_all, .inl (cI, 40320, .inl g_all)), (a_p1, .inl (cI, 40320, .inl (upd g_p1 (Int32.toNatClampNeg x3) (g_all (Int32.toNatClampNeg x3)))))] H := hP
        have hD : va_D A [(a_this, .inr (5, [z_refusals, .int g_n, .int g_lines, .ref a_set, .ref a_state, z_weight, .ref a_all, z_good, .int g_many, z_goods, z_trial, z_isKnown, z_always, z_knot, z_knots, z_part, z_parts])), (a_set, .inl (cI, 40, .inl g_set)), (a_state, .inl (cI, 40, .inl g_state)), (a_all, .inl (cI, 40320, .inl g_all)), (a_p1, .inl (cI, 40320, .inl (upd g_p1 (Int32.toNatClampNeg x3) (g_all (Int32.toNatClampNeg x3)))))] := hD
        refine lv_iinc (v := x3 + 1) (lv' := [(3, .int (x3 + 1)), (0, .ref a_this), (1, .ref a_p1), (2, .int x2)]) hx hb dX5_goodWithout_19 hl (k := 3) rfl rfl (by decide) rfl (fun ls hl => ?_)
        refine lv_goto (tgt := 2) hx hb dX5_goodWithout_22 (by decide) ?_
        exact ih2 (x3 + 1) (upd g_p1 (Int32.toNatClampNeg x3) (g_all (Int32.toNatClampNeg x3))) h _ _ _ (reP hP [0, 1, 2, 3, 4] rfl) (hD.sub [0, 1, 2, 3, 4] (by decide) rfl) hS (lv_sub hl [1, 2, 3, 0] rfl)
  obtain ⟨n, h⟩ := h
  exact L2 n 0 g_p1 h _ _ _ (reP hP [0, 1, 2, 3, 4] rfl) (hD.sub [0, 1, 2, 3, 4] (by decide) rfl) hS (lv_sub hl [1, 2, 3, 0] rfl)
/-! ### X5_line line(I)I -/
def rX5_line : Room := { frames := 5, cells := 0, slots := 0, locals := 116 }
def q_X5_line (g_n : Int32) (g_lines : Int32) (g_goods : Int32) (g_isKnown : Int32) (g_refusals : Nat → Int32) (g_set : Nat → Int32) (g_state : Nat → Int32) (g_weight : Nat → Int32) (g_good : Nat → Int32) (x1 : Int32) (Q : Int32 → Int32 → Int32 → Int32 → (Nat → Int32) → (Nat → Int32) → (Nat → Int32) → (Nat → Int32) → (Nat → Int32) → Prop) : Prop :=
  q_X5_isSet g_n x1 (fun b2 => (b2 = true → (¬ g_lines = 40 → vp_in g_lines 40 ∧ q_X5_takes g_n g_goods g_isKnown (upd g_set (Int32.toNatClampNeg g_lines) x1) g_state g_good ((g_lines + 1) - 1) (fun g_goods_6 g_isKnown_7 g_state_8 g_good_9 => Q ((g_lines + 1) - 1) (g_lines + 1) g_goods_6 g_isKnown_7 g_refusals (upd g_set (Int32.toNatClampNeg g_lines) x1) g_state_8 (upd g_weight (Int32.toNatClampNeg g_lines) 1) g_good_9)) ∧ (g_lines = 40 → q_X5_refuse g_refusals ((-6) : Int32) (fun r11 g_refusals_10 => Q r11 g_lines g_goods g_isKnown g_refusals_10 g_set g_state g_weight g_good))) ∧ (b2 = false → q_X5_refuse g_refusals ((-2) : Int32) (fun r13 g_refusals_12 => Q r13 g_lines g_goods g_isKnown g_refusals_12 g_set g_state g_weight g_good)))
set_option maxRecDepth 100000 in
set_option maxHeartbeats 4000000 in
theorem c_X5_line (l : Launch) (dC : Nat → ClassId) (dI : Nat → Nat → Nat) (cI cZ : ClassId) (a_this a_refusals a_set a_state a_weight a_good : Nat) (z_all z_many z_trial z_always z_knot z_knots z_part z_parts : Value) (g_n : Int32) (g_lines : Int32) (g_goods : Int32) (g_isKnown : Int32) (g_refusals : Nat → Int32) (g_set : Nat → Int32) (g_state : Nat → Int32) (g_weight : Nat → Int32) (g_good : Nat → Int32) (x1 : Int32) (Q : Int32 → Int32 → Int32 → Int32 → (Nat → Int32) → (Nat → Int32) → (Nat → Int32) → (Nat → Int32) → (Nat → Int32) → Prop) (h : q_X5_line g_n g_lines g_goods g_isKnown g_refusals g_set g_state g_weight g_good x1 Q) : MI l yX5_line wsX5_line rX5_line (dC, dI) [(cI, .int), (cZ, .boolean)] [.ref a_this, .int x1] [(a_this, .inr (5, [.ref a_refusals, .int g_n, .int g_lines, .ref a_set, .ref a_state, .ref a_weight, z_all, .ref a_good, z_many, .int g_goods, z_trial, .int g_isKnown, z_always, z_knot, z_knots, z_part, z_parts])), (a_refusals, .inl (cI, 7, .inl g_refusals)), (a_set, .inl (cI, 40, .inl g_set)), (a_state, .inl (cI, 40, .inl g_state)), (a_weight, .inl (cI, 40, .inl g_weight)), (a_good, .inl (cI, 40320, .inl g_good))] (fun (r : Int32) (u : Int32 × Int32 × Int32 × (Nat → Int32) × (Nat → Int32) × (Nat → Int32) × (Nat → Int32) × (Nat → Int32)) => Q r u.1 u.2.1 u.2.2.1 u.2.2.2.1 u.2.2.2.2.1 u.2.2.2.2.2.1 u.2.2.2.2.2.2.1 u.2.2.2.2.2.2.2) (fun u : Int32 × Int32 × Int32 × (Nat → Int32) × (Nat → Int32) × (Nat → Int32) × (Nat → Int32) × (Nat → Int32) => [(a_this, .inr (5, [.ref a_refusals, .int g_n, .int u.1, .ref a_set, .ref a_state, .ref a_weight, z_all, .ref a_good, z_many, .int u.2.1, z_trial, .int u.2.2.1, z_always, z_knot, z_knots, z_part, z_parts])), (a_refusals, .inl (cI, 7, .inl u.2.2.2.1)), (a_set, .inl (cI, 40, .inl u.2.2.2.2.1)), (a_state, .inl (cI, 40, .inl u.2.2.2.2.2.1)), (a_weight, .inl (cI, 40, .inl u.2.2.2.2.2.2.1)), (a_good, .inl (cI, 40320, .inl u.2.2.2.2.2.2.2))]) := by
  refine MI.of (cc := cX5_line) (maxL := 2) (by decide +kernel) rfl (Nat.le_of_ble_eq_true rfl) ?_
  intro p e s m args below meth c A QQ ls hx hb hml hown hts hA hK hP hD hS hNW ret hl
  have hl : lv_has ls 2 [(0, .ref a_this), (1, .int x1)] := hl
  have hown : s.vm.findClass RX5 = some m.cls := hown
  have in5 : ∀ w ∈ u_ws RX5 TX5 17, w ∈ wsX5_line := fun _ w9 => List.mem_cons_of_mem _ (List.mem_append_right _ w9)
  have f13 := hts (.fieldLink RX5 13 "OnesDeskModel" "set" "[I") (by decide +kernel)
  have f19 := hts (.fieldLink RX5 19 "OnesDeskModel" "weight" "[I") (by decide +kernel)
  have f50 := hts (.fieldLink RX5 50 "OnesDeskModel" "lines" "I") (by decide +kernel)
  refine lv_aload_n hx hb dX5_line_0 rfl (lv_at hl 0 rfl) ?_
  refine lv_iload_n hx hb dX5_line_1 rfl (lv_at hl 1 rfl) ?_
  refine MI.callV (As := [.int x1]) (rest := []) (wr := [(a_refusals, .inl (cI, 7, .inl g_refusals)), (a_set, .inl (cI, 40, .inl g_set)), (a_state, .inl (cI, 40, .inl g_state)), (a_weight, .inl (cI, 40, .inl g_weight)), (a_good, .inl (cI, 40320, .inl g_good))]) (ci := 5) (q0 := 0) (c_X5_isSet l dC dI cI cZ a_this (.ref a_refusals) (.int g_lines) (.ref a_set) (.ref a_state) (.ref a_weight) z_all (.ref a_good) z_many (.int g_goods) z_trial (.int g_isKnown) z_always z_knot z_knots z_part z_parts g_n x1 _ h) ⟨hx, hb, hml, hown, hts⟩ (cwV 1 hts gX5_line_X5_isSet rfl rfl rfl (by decide +kernel) ⟨Nat.le_of_ble_eq_true rfl, Nat.le_of_ble_eq_true rfl⟩) hK hP hD hS hA hNW [0] [1, 2, 3, 4, 5] rfl rfl (by decide) (by decide) (by decide) rfl rfl rfl rfl hl.1 rfl (Nat.le_of_ble_eq_true rfl) dX5_line_2 ⟨Nat.zero_le _, Nat.zero_le _⟩ (fun r1 u H locs hw hP hD hS => ?_)
  obtain ⟨b2, rfl, hw⟩ := hw
  have h := hw
  try dsimp only at h
  have hP : va_P (dC, dI) vwCl [(a_refusals, .inl (cI, 7, .inl g_refusals)), (a_set, .inl (cI, 40, .inl g_set)), (a_state, .inl (cI, 40, .inl g_state)), (a_weight, .inl (cI, 40, .inl g_weight)), (a_good, .inl (cI, 40320, .inl g_good)), (a_this, .inr (5, [.ref a_refusals, .int g_n, .int g_lines, .ref a_set, .ref a_state, .ref a_weight, z_all, .ref a_good, z_many, .int g_goods, z_trial, .int g_isKnown, z_always, z_knot, z_knots, z_part, z_parts]))] H := hP
  have hD : va_D A [(a_refusals, .inl (cI, 7, .inl g_refusals)), (a_set, .inl (cI, 40, .inl g_set)), (a_state, .inl (cI, 40, .inl g_state)), (a_weight, .inl (cI, 40, .inl g_weight)), (a_good, .inl (cI, 40320, .inl g_good)), (a_this, .inr (5, [.ref a_refusals, .int g_n, .int g_lines, .ref a_set, .ref a_state, .ref a_weight, z_all, .ref a_good, z_many, .int g_goods, z_trial, .int g_isKnown, z_always, z_knot, z_knots, z_part, z_parts]))] := hD
  refine lv_if_ne (tgt := 15) hx hb dX5_line_5 (by decide) (fun k3 => ?_) (fun k3 => ?_)
  · have h := h.1 (bI_1 k3)
    refine lv_aload_n hx hb dX5_line_15 rfl (lv_at hl 0 rfl) ?_
    refine va_get (D := (dC, dI)) (ci := 5) (v := .int g_lines) (C := RX5) (T := TX5) (N := 17) hx hb hts in5 hown hK hP 5 rfl rfl 2 (by decide) f50 (fun _ h9 => h9) rfl dX5_line_16 ?_
    refine lv_bipush (v := 40) hx hb dX5_line_19 (by decide) ?_
    refine lv_icmp_ne (tgt := 31) hx hb dX5_line_21 (by decide) (fun k4 => ?_) (fun k4 => ?_)
    · have h := h.1 k4
      refine lv_aload_n hx hb dX5_line_31 rfl (lv_at hl 0 rfl) ?_
      refine va_get (D := (dC, dI)) (ci := 5) (v := .ref a_set) (C := RX5) (T := TX5) (N := 17) hx hb hts in5 hown hK hP 5 rfl rfl 3 (by decide) f13 (fun _ h9 => h9) rfl dX5_line_32 ?_
      refine lv_aload_n hx hb dX5_line_35 rfl (lv_at hl 0 rfl) ?_
      refine va_get (D := (dC, dI)) (ci := 5) (v := .int g_lines) (C := RX5) (T := TX5) (N := 17) hx hb hts in5 hown hK hP 5 rfl rfl 2 (by decide) f50 (fun _ h9 => h9) rfl dX5_line_36 ?_
      refine lv_iload_n hx hb dX5_line_39 rfl (lv_at hl 1 rfl) ?_
      obtain ⟨hi5, h⟩ := h
      refine va_iast (D := (dC, dI)) hx hb hK hP hD hS 1 0 rfl rfl hi5 dX5_line_40 (fun H locs hP hD hS => ?_)
      have hP : va_P (dC, dI) vwCl [(a_refusals, .inl (cI, 7, .inl g_refusals)), (a_set, .inl (cI, 40, .inl (upd g_set (Int32.toNatClampNeg g_lines) x1))), (a_state, .inl (cI, 40, .inl g_state)), (a_weight, .inl (cI, 40, .inl g_weight)), (a_good, .inl (cI, 40320, .inl g_good)), (a_this, .inr (5, [.ref a_refusals, .int g_n, .int g_lines, .ref a_set, .ref a_state, .ref a_weight, z_all, .ref a_good, z_many, .int g_goods, z_trial, .int g_isKnown, z_always, z_knot, z_knots, z_part, z_parts]))] H := hP
      have hD : va_D A [(a_refusals, .inl (cI, 7, .inl g_refusals)), (a_set, .inl (cI, 40, .inl (upd g_set (Int32.toNatClampNeg g_lines) x1))), (a_state, .inl (cI, 40, .inl g_state)), (a_weight, .inl (cI, 40, .inl g_weight)), (a_good, .inl (cI, 40320, .inl g_good)), (a_this, .inr (5, [.ref a_refusals, .int g_n, .int g_lines, .ref a_set, .ref a_state, .ref a_weight, z_all, .ref a_good, z_many, .int g_goods, z_trial, .int g_isKnown, z_always, z_knot, z_knots, z_part, z_parts]))] := hD
      refine lv_aload_n hx hb dX5_line_41 rfl (lv_at hl 0 rfl) ?_
      refine va_get (D := (dC, dI)) (ci := 5) (v := .ref a_weight) (C := RX5) (T := TX5) (N := 17) hx hb hts in5 hown hK hP 5 rfl rfl 5 (by decide) f19 (fun _ h9 => h9) rfl dX5_line_42 ?_
      refine lv_aload_n hx hb dX5_line_45 rfl (lv_at hl 0 rfl) ?_
      refine va_get (D := (dC, dI)) (ci := 5) (v := .int g_lines) (C := RX5) (T := TX5) (N := 17) hx hb hts in5 hown hK hP 5 rfl rfl 2 (by decide) f50 (fun _ h9 => h9) rfl dX5_line_46 ?_
      refine lv_iconst (v := 1) hx hb dX5_line_49 (by decide) ?_
      refine va_iast (D := (dC, dI)) hx hb hK hP hD hS 3 0 rfl rfl hi5 dX5_line_50 (fun H locs hP hD hS => ?_)
      have hP : va_P (dC, dI) vwCl [(a_refusals, .inl (cI, 7, .inl g_refusals)), (a_set, .inl (cI, 40, .inl (upd g_set (Int32.toNatClampNeg g_lines) x1))), (a_state, .inl (cI, 40, .inl g_state)), (a_weight, .inl (cI, 40, .inl (upd g_weight (Int32.toNatClampNeg g_lines) 1))), (a_good, .inl (cI, 40320, .inl g_good)), (a_this, .inr (5, [.ref a_refusals, .int g_n, .int g_lines, .ref a_set, .ref a_state, .ref a_weight, z_all, .ref a_good, z_many, .int g_goods, z_trial, .int g_isKnown, z_always, z_knot, z_knots, z_part, z_parts]))] H := hP
      have hD : va_D A [(a_refusals, .inl (cI, 7, .inl g_refusals)), (a_set, .inl (cI, 40, .inl (upd g_set (Int32.toNatClampNeg g_lines) x1))), (a_state, .inl (cI, 40, .inl g_state)), (a_weight, .inl (cI, 40, .inl (upd g_weight (Int32.toNatClampNeg g_lines) 1))), (a_good, .inl (cI, 40320, .inl g_good)), (a_this, .inr (5, [.ref a_refusals, .int g_n, .int g_lines, .ref a_set, .ref a_state, .ref a_weight, z_all, .ref a_good, z_many, .int g_goods, z_trial, .int g_isKnown, z_always, z_knot, z_knots, z_part, z_parts]))] := hD
      refine lv_aload_n hx hb dX5_line_51 rfl (lv_at hl 0 rfl) ?_
      refine lv_dup hx hb dX5_line_52 rfl ?_
      refine va_get (D := (dC, dI)) (ci := 5) (v := .int g_lines) (C := RX5) (T := TX5) (N := 17) hx hb hts in5 hown hK hP 5 rfl rfl 2 (by decide) f50 (fun _ h9 => h9) rfl dX5_line_53 ?_
      refine lv_iconst (v := 1) hx hb dX5_line_56 (by decide) ?_
      refine lv_iadd hx hb dX5_line_57 ?_
      refine va_put (D := (dC, dI)) (ci := 5) (v := .int (g_lines + 1)) (ty := .int) (C := RX5) (T := TX5) (N := 17) hx hb hts in5 tyX5 tyX5_ok nmX5 hown hK hP hD hS 5 rfl rfl 2 (by decide) f50 (fun _ h9 => h9) rfl (by decide +kernel) rfl rfl (Nat.le_of_ble_eq_true rfl) dX5_line_58 (fun H locs hP hD hS => ?_)
      have hP : va_P (dC, dI) vwCl [(a_refusals, .inl (cI, 7, .inl g_refusals)), (a_set, .inl (cI, 40, .inl (upd g_set (Int32.toNatClampNeg g_lines) x1))), (a_state, .inl (cI, 40, .inl g_state)), (a_weight, .inl (cI, 40, .inl (upd g_weight (Int32.toNatClampNeg g_lines) 1))), (a_good, .inl (cI, 40320, .inl g_good)), (a_this, .inr (5, [.ref a_refusals, .int g_n, .int (g_lines + 1), .ref a_set, .ref a_state, .ref a_weight, z_all, .ref a_good, z_many, .int g_goods, z_trial, .int g_isKnown, z_always, z_knot, z_knots, z_part, z_parts]))] H := hP
      have hD : va_D A [(a_refusals, .inl (cI, 7, .inl g_refusals)), (a_set, .inl (cI, 40, .inl (upd g_set (Int32.toNatClampNeg g_lines) x1))), (a_state, .inl (cI, 40, .inl g_state)), (a_weight, .inl (cI, 40, .inl (upd g_weight (Int32.toNatClampNeg g_lines) 1))), (a_good, .inl (cI, 40320, .inl g_good)), (a_this, .inr (5, [.ref a_refusals, .int g_n, .int (g_lines + 1), .ref a_set, .ref a_state, .ref a_weight, z_all, .ref a_good, z_many, .int g_goods, z_trial, .int g_isKnown, z_always, z_knot, z_knots, z_part, z_parts]))] := hD
      refine lv_aload_n hx hb dX5_line_61 rfl (lv_at hl 0 rfl) ?_
      refine lv_aload_n hx hb dX5_line_62 rfl (lv_at hl 0 rfl) ?_
      refine va_get (D := (dC, dI)) (ci := 5) (v := .int (g_lines + 1)) (C := RX5) (T := TX5) (N := 17) hx hb hts in5 hown hK hP 5 rfl rfl 2 (by decide) f50 (fun _ h9 => h9) rfl dX5_line_63 ?_
      refine lv_iconst (v := 1) hx hb dX5_line_66 (by decide) ?_
      refine lv_isub hx hb dX5_line_67 ?_
      refine MV.callV (As := [.int ((g_lines + 1) - 1)]) (rest := []) (wr := [(a_refusals, .inl (cI, 7, .inl g_refusals)), (a_weight, .inl (cI, 40, .inl (upd g_weight (Int32.toNatClampNeg g_lines) 1)))]) (ci := 5) (q0 := 0) (c_X5_takes l dC dI cI cZ a_this a_set a_state a_good (.ref a_refusals) (.int (g_lines + 1)) (.ref a_weight) z_all z_many z_trial z_always z_knot z_knots z_part z_parts g_n g_goods g_isKnown (upd g_set (Int32.toNatClampNeg g_lines) x1) g_state g_good ((g_lines + 1) - 1) _ h) ⟨hx, hb, hml, hown, hts⟩ (cwV 1 hts gX5_line_X5_takes rfl rfl rfl (by decide +kernel) ⟨Nat.le_of_ble_eq_true rfl, Nat.le_of_ble_eq_true rfl⟩) hK hP hD hS hA hNW [5, 1, 2, 4] [0, 3] rfl rfl (by decide) (by decide) (by decide) rfl rfl rfl rfl hl.1 rfl (Nat.le_of_ble_eq_true rfl) dX5_line_68 ⟨Nat.zero_le _, Nat.zero_le _⟩ (fun u H locs hw hP hD hS => ?_)
      obtain ⟨g_goods_6, g_isKnown_7, g_state_8, g_good_9⟩ := u
      have h := hw
      try dsimp only at h
      have hP : va_P (dC, dI) vwCl [(a_refusals, .inl (cI, 7, .inl g_refusals)), (a_weight, .inl (cI, 40, .inl (upd g_weight (Int32.toNatClampNeg g_lines) 1))), (a_this, .inr (5, [.ref a_refusals, .int g_n, .int (g_lines + 1), .ref a_set, .ref a_state, .ref a_weight, z_all, .ref a_good, z_many, .int g_goods_6, z_trial, .int g_isKnown_7, z_always, z_knot, z_knots, z_part, z_parts])), (a_set, .inl (cI, 40, .inl (upd g_set (Int32.toNatClampNeg g_lines) x1))), (a_state, .inl (cI, 40, .inl g_state_8)), (a_good, .inl (cI, 40320, .inl g_good_9))] H := hP
      have hD : va_D A [(a_refusals, .inl (cI, 7, .inl g_refusals)), (a_weight, .inl (cI, 40, .inl (upd g_weight (Int32.toNatClampNeg g_lines) 1))), (a_this, .inr (5, [.ref a_refusals, .int g_n, .int (g_lines + 1), .ref a_set, .ref a_state, .ref a_weight, z_all, .ref a_good, z_many, .int g_goods_6, z_trial, .int g_isKnown_7, z_always, z_knot, z_knots, z_part, z_parts])), (a_set, .inl (cI, 40, .inl (upd g_set (Int32.toNatClampNeg g_lines) x1))), (a_state, .inl (cI, 40, .inl g_state_8)), (a_good, .inl (cI, 40320, .inl g_good_9))] := hD
      refine lv_aload_n hx hb dX5_line_71 rfl (lv_at hl 0 rfl) ?_
      refine va_get (D := (dC, dI)) (ci := 5) (v := .int (g_lines + 1)) (C := RX5) (T := TX5) (N := 17) hx hb hts in5 hown hK hP 2 rfl rfl 2 (by decide) f50 (fun _ h9 => h9) rfl dX5_line_72 ?_
      refine lv_iconst (v := 1) hx hb dX5_line_75 (by decide) ?_
      refine lv_isub hx hb dX5_line_76 ?_
      exact ret _ _ _ _ ((g_lines + 1) - 1) ((g_lines + 1), g_goods_6, g_isKnown_7, g_refusals, (upd g_set (Int32.toNatClampNeg g_lines) x1), g_state_8, (upd g_weight (Int32.toNatClampNeg g_lines) 1), g_good_9) dX5_line_77 h (reP hP [2, 0, 3, 4, 1, 5] rfl) (hD.sub [2, 0, 3, 4, 1, 5] (by decide) rfl) hS
    · have h := h.2 k4
      refine lv_aload_n hx hb dX5_line_24 rfl (lv_at hl 0 rfl) ?_
      refine lv_bipush (v := (-6)) hx hb dX5_line_25 (by decide) ?_
      refine MI.callV (As := [.int (-6)]) (rest := []) (wr := [(a_set, .inl (cI, 40, .inl g_set)), (a_state, .inl (cI, 40, .inl g_state)), (a_weight, .inl (cI, 40, .inl g_weight)), (a_good, .inl (cI, 40320, .inl g_good))]) (ci := 5) (q0 := 0) (c_X5_refuse l dC dI cI cZ a_this a_refusals (.int g_n) (.int g_lines) (.ref a_set) (.ref a_state) (.ref a_weight) z_all (.ref a_good) z_many (.int g_goods) z_trial (.int g_isKnown) z_always z_knot z_knots z_part z_parts g_refusals ((-6) : Int32) _ h) ⟨hx, hb, hml, hown, hts⟩ (cwV 1 hts gX5_line_X5_refuse rfl rfl rfl (by decide +kernel) ⟨Nat.le_of_ble_eq_true rfl, Nat.le_of_ble_eq_true rfl⟩) hK hP hD hS hA hNW [5, 0] [1, 2, 3, 4] rfl rfl (by decide) (by decide) (by decide) rfl rfl rfl rfl hl.1 rfl (Nat.le_of_ble_eq_true rfl) dX5_line_27 ⟨Nat.zero_le _, Nat.zero_le _⟩ (fun r11 u H locs hw hP hD hS => ?_)
      obtain ⟨g_refusals_10, rfl⟩ : ∃ z, z = u := ⟨_, rfl⟩
      have h := hw
      try dsimp only at h
      have hP : va_P (dC, dI) vwCl [(a_set, .inl (cI, 40, .inl g_set)), (a_state, .inl (cI, 40, .inl g_state)), (a_weight, .inl (cI, 40, .inl g_weight)), (a_good, .inl (cI, 40320, .inl g_good)), (a_this, .inr (5, [.ref a_refusals, .int g_n, .int g_lines, .ref a_set, .ref a_state, .ref a_weight, z_all, .ref a_good, z_many, .int g_goods, z_trial, .int g_isKnown, z_always, z_knot, z_knots, z_part, z_parts])), (a_refusals, .inl (cI, 7, .inl g_refusals_10))] H := hP
      have hD : va_D A [(a_set, .inl (cI, 40, .inl g_set)), (a_state, .inl (cI, 40, .inl g_state)), (a_weight, .inl (cI, 40, .inl g_weight)), (a_good, .inl (cI, 40320, .inl g_good)), (a_this, .inr (5, [.ref a_refusals, .int g_n, .int g_lines, .ref a_set, .ref a_state, .ref a_weight, z_all, .ref a_good, z_many, .int g_goods, z_trial, .int g_isKnown, z_always, z_knot, z_knots, z_part, z_parts])), (a_refusals, .inl (cI, 7, .inl g_refusals_10))] := hD
      exact ret _ _ _ _ r11 (g_lines, g_goods, g_isKnown, g_refusals_10, g_set, g_state, g_weight, g_good) dX5_line_30 h (reP hP [4, 5, 0, 1, 2, 3] rfl) (hD.sub [4, 5, 0, 1, 2, 3] (by decide) rfl) hS
  · have h := h.2 (bI_0 k3)
    refine lv_aload_n hx hb dX5_line_8 rfl (lv_at hl 0 rfl) ?_
    refine lv_bipush (v := (-2)) hx hb dX5_line_9 (by decide) ?_
    refine MI.callV (As := [.int (-2)]) (rest := []) (wr := [(a_set, .inl (cI, 40, .inl g_set)), (a_state, .inl (cI, 40, .inl g_state)), (a_weight, .inl (cI, 40, .inl g_weight)), (a_good, .inl (cI, 40320, .inl g_good))]) (ci := 5) (q0 := 0) (c_X5_refuse l dC dI cI cZ a_this a_refusals (.int g_n) (.int g_lines) (.ref a_set) (.ref a_state) (.ref a_weight) z_all (.ref a_good) z_many (.int g_goods) z_trial (.int g_isKnown) z_always z_knot z_knots z_part z_parts g_refusals ((-2) : Int32) _ h) ⟨hx, hb, hml, hown, hts⟩ (cwV 1 hts gX5_line_X5_refuse rfl rfl rfl (by decide +kernel) ⟨Nat.le_of_ble_eq_true rfl, Nat.le_of_ble_eq_true rfl⟩) hK hP hD hS hA hNW [5, 0] [1, 2, 3, 4] rfl rfl (by decide) (by decide) (by decide) rfl rfl rfl rfl hl.1 rfl (Nat.le_of_ble_eq_true rfl) dX5_line_11 ⟨Nat.zero_le _, Nat.zero_le _⟩ (fun r13 u H locs hw hP hD hS => ?_)
    obtain ⟨g_refusals_12, rfl⟩ : ∃ z, z = u := ⟨_, rfl⟩
    have h := hw
    try dsimp only at h
    have hP : va_P (dC, dI) vwCl [(a_set, .inl (cI, 40, .inl g_set)), (a_state, .inl (cI, 40, .inl g_state)), (a_weight, .inl (cI, 40, .inl g_weight)), (a_good, .inl (cI, 40320, .inl g_good)), (a_this, .inr (5, [.ref a_refusals, .int g_n, .int g_lines, .ref a_set, .ref a_state, .ref a_weight, z_all, .ref a_good, z_many, .int g_goods, z_trial, .int g_isKnown, z_always, z_knot, z_knots, z_part, z_parts])), (a_refusals, .inl (cI, 7, .inl g_refusals_12))] H := hP
    have hD : va_D A [(a_set, .inl (cI, 40, .inl g_set)), (a_state, .inl (cI, 40, .inl g_state)), (a_weight, .inl (cI, 40, .inl g_weight)), (a_good, .inl (cI, 40320, .inl g_good)), (a_this, .inr (5, [.ref a_refusals, .int g_n, .int g_lines, .ref a_set, .ref a_state, .ref a_weight, z_all, .ref a_good, z_many, .int g_goods, z_trial, .int g_isKnown, z_always, z_knot, z_knots, z_part, z_parts])), (a_refusals, .inl (cI, 7, .inl g_refusals_12))] := hD
    exact ret _ _ _ _ r13 (g_lines, g_goods, g_isKnown, g_refusals_12, g_set, g_state, g_weight, g_good) dX5_line_14 h (reP hP [4, 5, 0, 1, 2, 3] rfl) (hD.sub [4, 5, 0, 1, 2, 3] (by decide) rfl) hS
/-! ### X5_drop drop(I)I -/
def rX5_drop : Room := { frames := 5, cells := 0, slots := 0, locals := 119 }
def q_X5_drop (g_n : Int32) (g_lines : Int32) (g_many : Int32) (g_goods : Int32) (g_isKnown : Int32) (g_refusals : Nat → Int32) (g_set : Nat → Int32) (g_state : Nat → Int32) (g_all : Nat → Int32) (g_good : Nat → Int32) (x1 : Int32) (Q : Int32 → Int32 → Int32 → (Nat → Int32) → (Nat → Int32) → (Nat → Int32) → Prop) : Prop :=
  q_X5_isLine g_lines x1 (fun b2 => (b2 = true → vp_in x1 40 ∧ (¬ (g_state (Int32.toNatClampNeg x1)) = 2 → ∀ t8 : Int32, t8 = (if (g_state (Int32.toNatClampNeg x1)) = 0 then 1 else 0) → (t8 = 0 → Q 1 g_goods g_isKnown g_refusals (upd g_state (Int32.toNatClampNeg x1) 2) g_good) ∧ (¬ t8 = 0 → q_X5_goodWithout g_n g_lines g_many g_set (upd g_state (Int32.toNatClampNeg x1) 2) g_all g_good ((-1) : Int32) (fun r11 g_good_10 => Q 1 r11 0 g_refusals (upd g_state (Int32.toNatClampNeg x1) 2) g_good_10))) ∧ ((g_state (Int32.toNatClampNeg x1)) = 2 → q_X5_refuse g_refusals ((-3) : Int32) (fun r13 g_refusals_12 => Q r13 g_goods g_isKnown g_refusals_12 g_state g_good))) ∧ (b2 = false → q_X5_refuse g_refusals ((-1) : Int32) (fun r15 g_refusals_14 => Q r15 g_goods g_isKnown g_refusals_14 g_state g_good)))
set_option maxRecDepth 100000 in
set_option maxHeartbeats 4000000 in
theorem c_X5_drop (l : Launch) (dC : Nat → ClassId) (dI : Nat → Nat → Nat) (cI cZ : ClassId) (a_this a_refusals a_set a_state a_all a_good : Nat) (z_weight z_trial z_always z_knot z_knots z_part z_parts : Value) (g_n : Int32) (g_lines : Int32) (g_many : Int32) (g_goods : Int32) (g_isKnown : Int32) (g_refusals : Nat → Int32) (g_set : Nat → Int32) (g_state : Nat → Int32) (g_all : Nat → Int32) (g_good : Nat → Int32) (x1 : Int32) (Q : Int32 → Int32 → Int32 → (Nat → Int32) → (Nat → Int32) → (Nat → Int32) → Prop) (h : q_X5_drop g_n g_lines g_many g_goods g_isKnown g_refusals g_set g_state g_all g_good x1 Q) : MI l yX5_drop wsX5_drop rX5_drop (dC, dI) [(cI, .int), (cZ, .boolean)] [.ref a_this, .int x1] [(a_this, .inr (5, [.ref a_refusals, .int g_n, .int g_lines, .ref a_set, .ref a_state, z_weight, .ref a_all, .ref a_good, .int g_many, .int g_goods, z_trial, .int g_isKnown, z_always, z_knot, z_knots, z_part, z_parts])), (a_refusals, .inl (cI, 7, .inl g_refusals)), (a_set, .inl (cI, 40, .inl g_set)), (a_state, .inl (cI, 40, .inl g_state)), (a_all, .inl (cI, 40320, .inl g_all)), (a_good, .inl (cI, 40320, .inl g_good))] (fun (r : Int32) (u : Int32 × Int32 × (Nat → Int32) × (Nat → Int32) × (Nat → Int32)) => Q r u.1 u.2.1 u.2.2.1 u.2.2.2.1 u.2.2.2.2) (fun u : Int32 × Int32 × (Nat → Int32) × (Nat → Int32) × (Nat → Int32) => [(a_this, .inr (5, [.ref a_refusals, .int g_n, .int g_lines, .ref a_set, .ref a_state, z_weight, .ref a_all, .ref a_good, .int g_many, .int u.1, z_trial, .int u.2.1, z_always, z_knot, z_knots, z_part, z_parts])), (a_refusals, .inl (cI, 7, .inl u.2.2.1)), (a_set, .inl (cI, 40, .inl g_set)), (a_state, .inl (cI, 40, .inl u.2.2.2.1)), (a_all, .inl (cI, 40320, .inl g_all)), (a_good, .inl (cI, 40320, .inl u.2.2.2.2))]) := by
  refine MI.of (cc := cX5_drop) (maxL := 3) (by decide +kernel) rfl (Nat.le_of_ble_eq_true rfl) ?_
  intro p e s m args below meth c A QQ ls hx hb hml hown hts hA hK hP hD hS hNW ret hl
  have hl : lv_has ls 3 [(0, .ref a_this), (1, .int x1)] := hl
  have hown : s.vm.findClass RX5 = some m.cls := hown
  have in5 : ∀ w ∈ u_ws RX5 TX5 17, w ∈ wsX5_drop := fun _ w9 => List.mem_cons_of_mem _ (List.mem_append_right _ w9)
  have f16 := hts (.fieldLink RX5 16 "OnesDeskModel" "state" "[I") (by decide +kernel)
  have f26 := hts (.fieldLink RX5 26 "OnesDeskModel" "good" "[I") (by decide +kernel)
  have f60 := hts (.fieldLink RX5 60 "OnesDeskModel" "goods" "I") (by decide +kernel)
  have f63 := hts (.fieldLink RX5 63 "OnesDeskModel" "isKnown" "Z") (by decide +kernel)
  refine lv_aload_n hx hb dX5_drop_0 rfl (lv_at hl 0 rfl) ?_
  refine lv_iload_n hx hb dX5_drop_1 rfl (lv_at hl 1 rfl) ?_
  refine MI.callV (As := [.int x1]) (rest := []) (wr := [(a_refusals, .inl (cI, 7, .inl g_refusals)), (a_set, .inl (cI, 40, .inl g_set)), (a_state, .inl (cI, 40, .inl g_state)), (a_all, .inl (cI, 40320, .inl g_all)), (a_good, .inl (cI, 40320, .inl g_good))]) (ci := 5) (q0 := 0) (c_X5_isLine l dC dI cI cZ a_this (.ref a_refusals) (.int g_n) (.ref a_set) (.ref a_state) z_weight (.ref a_all) (.ref a_good) (.int g_many) (.int g_goods) z_trial (.int g_isKnown) z_always z_knot z_knots z_part z_parts g_lines x1 _ h) ⟨hx, hb, hml, hown, hts⟩ (cwV 1 hts gX5_drop_X5_isLine rfl rfl rfl (by decide +kernel) ⟨Nat.le_of_ble_eq_true rfl, Nat.le_of_ble_eq_true rfl⟩) hK hP hD hS hA hNW [0] [1, 2, 3, 4, 5] rfl rfl (by decide) (by decide) (by decide) rfl rfl rfl rfl hl.1 rfl (Nat.le_of_ble_eq_true rfl) dX5_drop_2 ⟨Nat.zero_le _, Nat.zero_le _⟩ (fun r1 u H locs hw hP hD hS => ?_)
  obtain ⟨b2, rfl, hw⟩ := hw
  have h := hw
  try dsimp only at h
  have hP : va_P (dC, dI) vwCl [(a_refusals, .inl (cI, 7, .inl g_refusals)), (a_set, .inl (cI, 40, .inl g_set)), (a_state, .inl (cI, 40, .inl g_state)), (a_all, .inl (cI, 40320, .inl g_all)), (a_good, .inl (cI, 40320, .inl g_good)), (a_this, .inr (5, [.ref a_refusals, .int g_n, .int g_lines, .ref a_set, .ref a_state, z_weight, .ref a_all, .ref a_good, .int g_many, .int g_goods, z_trial, .int g_isKnown, z_always, z_knot, z_knots, z_part, z_parts]))] H := hP
  have hD : va_D A [(a_refusals, .inl (cI, 7, .inl g_refusals)), (a_set, .inl (cI, 40, .inl g_set)), (a_state, .inl (cI, 40, .inl g_state)), (a_all, .inl (cI, 40320, .inl g_all)), (a_good, .inl (cI, 40320, .inl g_good)), (a_this, .inr (5, [.ref a_refusals, .int g_n, .int g_lines, .ref a_set, .ref a_state, z_weight, .ref a_all, .ref a_good, .int g_many, .int g_goods, z_trial, .int g_isKnown, z_always, z_knot, z_knots, z_part, z_parts]))] := hD
  refine lv_if_ne (tgt := 14) hx hb dX5_drop_5 (by decide) (fun k3 => ?_) (fun k3 => ?_)
  · have h := h.1 (bI_1 k3)
    refine lv_aload_n hx hb dX5_drop_14 rfl (lv_at hl 0 rfl) ?_
    refine va_get (D := (dC, dI)) (ci := 5) (v := .ref a_state) (C := RX5) (T := TX5) (N := 17) hx hb hts in5 hown hK hP 5 rfl rfl 4 (by decide) f16 (fun _ h9 => h9) rfl dX5_drop_15 ?_
    refine lv_iload_n hx hb dX5_drop_18 rfl (lv_at hl 1 rfl) ?_
    obtain ⟨hi4, h⟩ := h
    refine va_iald (D := (dC, dI)) hx hb hK hP 2 0 rfl rfl hi4 dX5_drop_19 ?_
    refine lv_iconst (v := 2) hx hb dX5_drop_20 (by decide) ?_
    refine lv_icmp_ne (tgt := 31) hx hb dX5_drop_21 (by decide) (fun k5 => ?_) (fun k5 => ?_)
    · have h := h.1 k5
      refine lv_aload_n hx hb dX5_drop_31 rfl (lv_at hl 0 rfl) ?_
      refine va_get (D := (dC, dI)) (ci := 5) (v := .ref a_state) (C := RX5) (T := TX5) (N := 17) hx hb hts in5 hown hK hP 5 rfl rfl 4 (by decide) f16 (fun _ h9 => h9) rfl dX5_drop_32 ?_
      refine lv_iload_n hx hb dX5_drop_35 rfl (lv_at hl 1 rfl) ?_
      refine va_iald (D := (dC, dI)) hx hb hK hP 2 0 rfl rfl hi4 dX5_drop_36 ?_
      have K6 : ∀ t8 : Int32, t8 = (if (g_state (Int32.toNatClampNeg x1)) = 0 then 1 else 0) → W p l e rX5_drop s m args below meth c H locs 0 0 QQ (F0 m 45 ls [.int t8]) := by
        intro t8 et8
        have h := h t8 et8
        refine lv_istore_n (lv' := [(2, .int t8), (0, .ref a_this), (1, .int x1)]) hx hb dX5_drop_45 rfl hl (by decide) rfl (fun ls hl => ?_)
        refine lv_aload_n hx hb dX5_drop_46 rfl (lv_at hl 1 rfl) ?_
        refine va_get (D := (dC, dI)) (ci := 5) (v := .ref a_state) (C := RX5) (T := TX5) (N := 17) hx hb hts in5 hown hK hP 5 rfl rfl 4 (by decide) f16 (fun _ h9 => h9) rfl dX5_drop_47 ?_
        refine lv_iload_n hx hb dX5_drop_50 rfl (lv_at hl 2 rfl) ?_
        refine lv_iconst (v := 2) hx hb dX5_drop_51 (by decide) ?_
        refine va_iast (D := (dC, dI)) hx hb hK hP hD hS 2 0 rfl rfl hi4 dX5_drop_52 (fun H locs hP hD hS => ?_)
        have hP : va_P (dC, dI) vwCl [(a_refusals, .inl (cI, 7, .inl g_refusals)), (a_set, .inl (cI, 40, .inl g_set)), (a_state, .inl (cI, 40, .inl (upd g_state (Int32.toNatClampNeg x1) 2))), (a_all, .inl (cI, 40320, .inl g_all)), (a_good, .inl (cI, 40320, .inl g_good)), (a_this, .inr (5, [.ref a_refusals, .int g_n, .int g_lines, .ref a_set, .ref a_state, z_weight, .ref a_all, .ref a_good, .int g_many, .int g_goods, z_trial, .int g_isKnown, z_always, z_knot, z_knots, z_part, z_parts]))] H := hP
        have hD : va_D A [(a_refusals, .inl (cI, 7, .inl g_refusals)), (a_set, .inl (cI, 40, .inl g_set)), (a_state, .inl (cI, 40, .inl (upd g_state (Int32.toNatClampNeg x1) 2))), (a_all, .inl (cI, 40320, .inl g_all)), (a_good, .inl (cI, 40320, .inl g_good)), (a_this, .inr (5, [.ref a_refusals, .int g_n, .int g_lines, .ref a_set, .ref a_state, z_weight, .ref a_all, .ref a_good, .int g_many, .int g_goods, z_trial, .int g_isKnown, z_always, z_knot, z_knots, z_part, z_parts]))] := hD
        refine lv_iload_n hx hb dX5_drop_53 rfl (lv_at hl 0 rfl) ?_
        refine lv_if_eq (tgt := 75) hx hb dX5_drop_54 (by decide) (fun k9 => ?_) (fun k9 => ?_)
        · have h := h.1 k9
          refine lv_iconst (v := 1) hx hb dX5_drop_75 (by decide) ?_
          exact ret _ _ _ _ 1 (g_goods, g_isKnown, g_refusals, (upd g_state (Int32.toNatClampNeg x1) 2), g_good) dX5_drop_76 h (reP hP [5, 0, 1, 2, 3, 4] rfl) (hD.sub [5, 0, 1, 2, 3, 4] (by decide) rfl) hS
        · have h := h.2 k9
          refine lv_aload_n hx hb dX5_drop_57 rfl (lv_at hl 1 rfl) ?_
          refine lv_aload_n hx hb dX5_drop_58 rfl (lv_at hl 1 rfl) ?_
          refine lv_aload_n hx hb dX5_drop_59 rfl (lv_at hl 1 rfl) ?_
          refine va_get (D := (dC, dI)) (ci := 5) (v := .ref a_good) (C := RX5) (T := TX5) (N := 17) hx hb hts in5 hown hK hP 5 rfl rfl 7 (by decide) f26 (fun _ h9 => h9) rfl dX5_drop_60 ?_
          refine lv_iconst (v := (-1)) hx hb dX5_drop_63 (by decide) ?_
          refine MI.callV (As := [.ref a_good, .int (-1)]) (rest := [.ref a_this]) (wr := [(a_refusals, .inl (cI, 7, .inl g_refusals))]) (ci := 5) (q0 := 0) (c_X5_goodWithout l dC dI cI cZ a_this a_set a_state a_all a_good (.ref a_refusals) z_weight (.ref a_good) (.int g_goods) z_trial (.int g_isKnown) z_always z_knot z_knots z_part z_parts g_n g_lines g_many g_set (upd g_state (Int32.toNatClampNeg x1) 2) g_all g_good ((-1) : Int32) _ h) ⟨hx, hb, hml, hown, hts⟩ (cwV 2 hts gX5_drop_X5_goodWithout rfl rfl rfl (by decide +kernel) ⟨Nat.le_of_ble_eq_true rfl, Nat.le_of_ble_eq_true rfl⟩) hK hP hD hS hA hNW [5, 1, 2, 3, 4] [0] rfl rfl (by decide) (by decide) (by decide) rfl rfl rfl rfl hl.1 rfl (Nat.le_of_ble_eq_true rfl) dX5_drop_64 ⟨Nat.zero_le _, Nat.zero_le _⟩ (fun r11 u H locs hw hP hD hS => ?_)
          obtain ⟨g_good_10, rfl⟩ : ∃ z, z = u := ⟨_, rfl⟩
          have h := hw
          try dsimp only at h
          have hP : va_P (dC, dI) vwCl [(a_refusals, .inl (cI, 7, .inl g_refusals)), (a_this, .inr (5, [.ref a_refusals, .int g_n, .int g_lines, .ref a_set, .ref a_state, z_weight, .ref a_all, .ref a_good, .int g_many, .int g_goods, z_trial, .int g_isKnown, z_always, z_knot, z_knots, z_part, z_parts])), (a_set, .inl (cI, 40, .inl g_set)), (a_state, .inl (cI, 40, .inl (upd g_state (Int32.toNatClampNeg x1) 2))), (a_all, .inl (cI, 40320, .inl g_all)), (a_good, .inl (cI, 40320, .inl g_good_10))] H := hP
          have hD : va_D A [(a_refusals, .inl (cI, 7, .inl g_refusals)), (a_this, .inr (5, [.ref a_refusals, .int g_n, .int g_lines, .ref a_set, .ref a_state, z_weight, .ref a_all, .ref a_good, .int g_many, .int g_goods, z_trial, .int g_isKnown, z_always, z_knot, z_knots, z_part, z_parts])), (a_set, .inl (cI, 40, .inl g_set)), (a_state, .inl (cI, 40, .inl (upd g_state (Int32.toNatClampNeg x1) 2))), (a_all, .inl (cI, 40320, .inl g_all)), (a_good, .inl (cI, 40320, .inl g_good_10))] := hD
          refine va_put (D := (dC, dI)) (ci := 5) (v := .int r11) (ty := .int) (C := RX5) (T := TX5) (N := 17) hx hb hts in5 tyX5 tyX5_ok nmX5 hown hK hP hD hS 1 rfl rfl 9 (by decide) f60 (fun _ h9 => h9) rfl (by decide +kernel) rfl rfl (Nat.le_of_ble_eq_true rfl) dX5_drop_67 (fun H locs hP hD hS => ?_)
          have hP : va_P (dC, dI) vwCl [(a_refusals, .inl (cI, 7, .inl g_refusals)), (a_this, .inr (5, [.ref a_refusals, .int g_n, .int g_lines, .ref a_set, .ref a_state, z_weight, .ref a_all, .ref a_good, .int g_many, .int r11, z_trial, .int g_isKnown, z_always, z_knot, z_knots, z_part, z_parts])), (a_set, .inl (cI, 40, .inl g_set)), (a_state, .inl (cI, 40, .inl (upd g_state (Int32.toNatClampNeg x1) 2))), (a_all, .inl (cI, 40320, .inl g_all)), (a_good, .inl (cI, 40320, .inl g_good_10))] H := hP
          have hD : va_D A [(a_refusals, .inl (cI, 7, .inl g_refusals)), (a_this, .inr (5, [.ref a_refusals, .int g_n, .int g_lines, .ref a_set, .ref a_state, z_weight, .ref a_all, .ref a_good, .int g_many, .int r11, z_trial, .int g_isKnown, z_always, z_knot, z_knots, z_part, z_parts])), (a_set, .inl (cI, 40, .inl g_set)), (a_state, .inl (cI, 40, .inl (upd g_state (Int32.toNatClampNeg x1) 2))), (a_all, .inl (cI, 40320, .inl g_all)), (a_good, .inl (cI, 40320, .inl g_good_10))] := hD
          refine lv_aload_n hx hb dX5_drop_70 rfl (lv_at hl 1 rfl) ?_
          refine lv_iconst (v := 0) hx hb dX5_drop_71 (by decide) ?_
          refine va_put (D := (dC, dI)) (ci := 5) (v := .int 0) (ty := .boolean) (C := RX5) (T := TX5) (N := 17) hx hb hts in5 tyX5 tyX5_ok nmX5 hown hK hP hD hS 1 rfl rfl 11 (by decide) f63 (fun _ h9 => h9) rfl (by decide +kernel) (by decide) (by decide) (Nat.le_of_ble_eq_true rfl) dX5_drop_72 (fun H locs hP hD hS => ?_)
          have hP : va_P (dC, dI) vwCl [(a_refusals, .inl (cI, 7, .inl g_refusals)), (a_this, .inr (5, [.ref a_refusals, .int g_n, .int g_lines, .ref a_set, .ref a_state, z_weight, .ref a_all, .ref a_good, .int g_many, .int r11, z_trial, .int 0, z_always, z_knot, z_knots, z_part, z_parts])), (a_set, .inl (cI, 40, .inl g_set)), (a_state, .inl (cI, 40, .inl (upd g_state (Int32.toNatClampNeg x1) 2))), (a_all, .inl (cI, 40320, .inl g_all)), (a_good, .inl (cI, 40320, .inl g_good_10))] H := hP
          have hD : va_D A [(a_refusals, .inl (cI, 7, .inl g_refusals)), (a_this, .inr (5, [.ref a_refusals, .int g_n, .int g_lines, .ref a_set, .ref a_state, z_weight, .ref a_all, .ref a_good, .int g_many, .int r11, z_trial, .int 0, z_always, z_knot, z_knots, z_part, z_parts])), (a_set, .inl (cI, 40, .inl g_set)), (a_state, .inl (cI, 40, .inl (upd g_state (Int32.toNatClampNeg x1) 2))), (a_all, .inl (cI, 40320, .inl g_all)), (a_good, .inl (cI, 40320, .inl g_good_10))] := hD
          refine lv_iconst (v := 1) hx hb dX5_drop_75 (by decide) ?_
          exact ret _ _ _ _ 1 (r11, 0, g_refusals, (upd g_state (Int32.toNatClampNeg x1) 2), g_good_10) dX5_drop_76 h (reP hP [1, 0, 2, 3, 4, 5] rfl) (hD.sub [1, 0, 2, 3, 4, 5] (by decide) rfl) hS
      refine lv_if_ne (tgt := 44) hx hb dX5_drop_37 (by decide) (fun k7 => ?_) (fun k7 => ?_)
      · refine lv_iconst (v := 0) hx hb dX5_drop_44 (by decide) ?_
        exact K6 _ (by rw [if_neg k7])
      · refine lv_iconst (v := 1) hx hb dX5_drop_40 (by decide) ?_
        refine lv_goto (tgt := 45) hx hb dX5_drop_41 (by decide) ?_
        exact K6 _ (by rw [if_pos k7])
    · have h := h.2 k5
      refine lv_aload_n hx hb dX5_drop_24 rfl (lv_at hl 0 rfl) ?_
      refine lv_bipush (v := (-3)) hx hb dX5_drop_25 (by decide) ?_
      refine MI.callV (As := [.int (-3)]) (rest := []) (wr := [(a_set, .inl (cI, 40, .inl g_set)), (a_state, .inl (cI, 40, .inl g_state)), (a_all, .inl (cI, 40320, .inl g_all)), (a_good, .inl (cI, 40320, .inl g_good))]) (ci := 5) (q0 := 0) (c_X5_refuse l dC dI cI cZ a_this a_refusals (.int g_n) (.int g_lines) (.ref a_set) (.ref a_state) z_weight (.ref a_all) (.ref a_good) (.int g_many) (.int g_goods) z_trial (.int g_isKnown) z_always z_knot z_knots z_part z_parts g_refusals ((-3) : Int32) _ h) ⟨hx, hb, hml, hown, hts⟩ (cwV 1 hts gX5_drop_X5_refuse rfl rfl rfl (by decide +kernel) ⟨Nat.le_of_ble_eq_true rfl, Nat.le_of_ble_eq_true rfl⟩) hK hP hD hS hA hNW [5, 0] [1, 2, 3, 4] rfl rfl (by decide) (by decide) (by decide) rfl rfl rfl rfl hl.1 rfl (Nat.le_of_ble_eq_true rfl) dX5_drop_27 ⟨Nat.zero_le _, Nat.zero_le _⟩ (fun r13 u H locs hw hP hD hS => ?_)
      obtain ⟨g_refusals_12, rfl⟩ : ∃ z, z = u := ⟨_, rfl⟩
      have h := hw
      try dsimp only at h
      have hP : va_P (dC, dI) vwCl [(a_set, .inl (cI, 40, .inl g_set)), (a_state, .inl (cI, 40, .inl g_state)), (a_all, .inl (cI, 40320, .inl g_all)), (a_good, .inl (cI, 40320, .inl g_good)), (a_this, .inr (5, [.ref a_refusals, .int g_n, .int g_lines, .ref a_set, .ref a_state, z_weight, .ref a_all, .ref a_good, .int g_many, .int g_goods, z_trial, .int g_isKnown, z_always, z_knot, z_knots, z_part, z_parts])), (a_refusals, .inl (cI, 7, .inl g_refusals_12))] H := hP
      have hD : va_D A [(a_set, .inl (cI, 40, .inl g_set)), (a_state, .inl (cI, 40, .inl g_state)), (a_all, .inl (cI, 40320, .inl g_all)), (a_good, .inl (cI, 40320, .inl g_good)), (a_this, .inr (5, [.ref a_refusals, .int g_n, .int g_lines, .ref a_set, .ref a_state, z_weight, .ref a_all, .ref a_good, .int g_many, .int g_goods, z_trial, .int g_isKnown, z_always, z_knot, z_knots, z_part, z_parts])), (a_refusals, .inl (cI, 7, .inl g_refusals_12))] := hD
      exact ret _ _ _ _ r13 (g_goods, g_isKnown, g_refusals_12, g_state, g_good) dX5_drop_30 h (reP hP [4, 5, 0, 1, 2, 3] rfl) (hD.sub [4, 5, 0, 1, 2, 3] (by decide) rfl) hS
  · have h := h.2 (bI_0 k3)
    refine lv_aload_n hx hb dX5_drop_8 rfl (lv_at hl 0 rfl) ?_
    refine lv_iconst (v := (-1)) hx hb dX5_drop_9 (by decide) ?_
    refine MI.callV (As := [.int (-1)]) (rest := []) (wr := [(a_set, .inl (cI, 40, .inl g_set)), (a_state, .inl (cI, 40, .inl g_state)), (a_all, .inl (cI, 40320, .inl g_all)), (a_good, .inl (cI, 40320, .inl g_good))]) (ci := 5) (q0 := 0) (c_X5_refuse l dC dI cI cZ a_this a_refusals (.int g_n) (.int g_lines) (.ref a_set) (.ref a_state) z_weight (.ref a_all) (.ref a_good) (.int g_many) (.int g_goods) z_trial (.int g_isKnown) z_always z_knot z_knots z_part z_parts g_refusals ((-1) : Int32) _ h) ⟨hx, hb, hml, hown, hts⟩ (cwV 1 hts gX5_drop_X5_refuse rfl rfl rfl (by decide +kernel) ⟨Nat.le_of_ble_eq_true rfl, Nat.le_of_ble_eq_true rfl⟩) hK hP hD hS hA hNW [5, 0] [1, 2, 3, 4] rfl rfl (by decide) (by decide) (by decide) rfl rfl rfl rfl hl.1 rfl (Nat.le_of_ble_eq_true rfl) dX5_drop_10 ⟨Nat.zero_le _, Nat.zero_le _⟩ (fun r15 u H locs hw hP hD hS => ?_)
    obtain ⟨g_refusals_14, rfl⟩ : ∃ z, z = u := ⟨_, rfl⟩
    have h := hw
    try dsimp only at h
    have hP : va_P (dC, dI) vwCl [(a_set, .inl (cI, 40, .inl g_set)), (a_state, .inl (cI, 40, .inl g_state)), (a_all, .inl (cI, 40320, .inl g_all)), (a_good, .inl (cI, 40320, .inl g_good)), (a_this, .inr (5, [.ref a_refusals, .int g_n, .int g_lines, .ref a_set, .ref a_state, z_weight, .ref a_all, .ref a_good, .int g_many, .int g_goods, z_trial, .int g_isKnown, z_always, z_knot, z_knots, z_part, z_parts])), (a_refusals, .inl (cI, 7, .inl g_refusals_14))] H := hP
    have hD : va_D A [(a_set, .inl (cI, 40, .inl g_set)), (a_state, .inl (cI, 40, .inl g_state)), (a_all, .inl (cI, 40320, .inl g_all)), (a_good, .inl (cI, 40320, .inl g_good)), (a_this, .inr (5, [.ref a_refusals, .int g_n, .int g_lines, .ref a_set, .ref a_state, z_weight, .ref a_all, .ref a_good, .int g_many, .int g_goods, z_trial, .int g_isKnown, z_always, z_knot, z_knots, z_part, z_parts])), (a_refusals, .inl (cI, 7, .inl g_refusals_14))] := hD
    exact ret _ _ _ _ r15 (g_goods, g_isKnown, g_refusals_14, g_state, g_good) dX5_drop_13 h (reP hP [4, 5, 0, 1, 2, 3] rfl) (hD.sub [4, 5, 0, 1, 2, 3] (by decide) rfl) hS
