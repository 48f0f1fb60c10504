/-! ### X5_isCrossed isCrossed(II)Z -/
def rX5_isCrossed : Room := { frames := 0, cells := 0, slots := 0, locals := 0 }
def q_X5_isCrossed_L2 (x1 : Int32) (x2 : Int32) (g_always : Nat → Int32) (Q : Bool → Prop) : Nat → Int32 → Prop
  | 0 => fun _ => False
  | n + 1 => fun x3 => (x2 ≤ x3 → Q false) ∧ (¬ x2 ≤ x3 → vp_in x3 256 ∧ ((g_always (Int32.toNatClampNeg x3)) = 0 → (q_X5_isCrossed_L2 x1 x2 g_always Q n) (x3 + 1)) ∧ (¬ (g_always (Int32.toNatClampNeg x3)) = 0 → ((x1 &&& x3) = 0 → (q_X5_isCrossed_L2 x1 x2 g_always Q n) (x3 + 1)) ∧ (¬ (x1 &&& x3) = 0 → ((x1 &&& (x3 ^^^ (-1))) = 0 → (q_X5_isCrossed_L2 x1 x2 g_always Q n) (x3 + 1)) ∧ (¬ (x1 &&& (x3 ^^^ (-1))) = 0 → ((x3 &&& (x1 ^^^ (-1))) = 0 → (q_X5_isCrossed_L2 x1 x2 g_always Q n) (x3 + 1)) ∧ (¬ (x3 &&& (x1 ^^^ (-1))) = 0 → Q true)))))
def q_X5_isCrossed (g_always : Nat → Int32) (x1 : Int32) (x2 : Int32) (Q : Bool → Prop) : Prop :=
  ∃ N : Nat, q_X5_isCrossed_L2 x1 x2 g_always Q N 1
set_option maxRecDepth 100000 in
set_option maxHeartbeats 4000000 in
theorem c_X5_isCrossed (l : Launch) (dC : Nat → ClassId) (dI : Nat → Nat → Nat) (cI cZ : ClassId) (a_this a_always : Nat) (z_refusals z_n z_lines z_set z_state z_weight z_all z_good z_many z_goods z_trial z_isKnown z_knot z_knots z_part z_parts : Value) (g_always : Nat → Int32) (x1 : Int32) (x2 : Int32) (Q : Bool → Prop) (h : q_X5_isCrossed g_always x1 x2 Q) : MB l yX5_isCrossed wsX5_isCrossed rX5_isCrossed (dC, dI) [(cI, .int), (cZ, .boolean)] [.ref a_this, .int x1, .int x2] [(a_this, .inr (5, [z_refusals, z_n, z_lines, z_set, z_state, z_weight, z_all, z_good, z_many, z_goods, z_trial, z_isKnown, .ref a_always, z_knot, z_knots, z_part, z_parts])), (a_always, .inl (cZ, 256, .inl g_always))] (fun (r : Bool) (u : Unit) => Q r) (fun u : Unit => [(a_this, .inr (5, [z_refusals, z_n, z_lines, z_set, z_state, z_weight, z_all, z_good, z_many, z_goods, z_trial, z_isKnown, .ref a_always, z_knot, z_knots, z_part, z_parts])), (a_always, .inl (cZ, 256, .inl g_always))]) := by
  refine MB.of (cc := cX5_isCrossed) (maxL := 4) (by decide +kernel) rfl (Nat.le_of_ble_eq_true rfl) ?_
  intro p e s m args below meth c A QQ ls hx hb hml hown hts hA hK hP hD hS hNW ret hl
  have hl : lv_has ls 4 [(0, .ref a_this), (1, .int x1), (2, .int x2)] := hl
  have hown : s.vm.findClass RX5 = some m.cls := hown
  have in5 : ∀ w ∈ u_ws RX5 TX5 17, w ∈ wsX5_isCrossed := fun _ w9 => List.mem_cons_of_mem _ (List.mem_append_right _ w9)
  have f32 := hts (.fieldLink RX5 32 "OnesDeskModel" "always" "[Z") (by decide +kernel)
  refine lv_iconst (v := 1) hx hb dX5_isCrossed_0 (by decide) ?_
  refine lv_istore_n (lv' := [(3, .int 1), (0, .ref a_this), (1, .int x1), (2, .int x2)]) hx hb dX5_isCrossed_1 rfl hl (by decide) rfl (fun ls hl => ?_)
  have L2 : ∀ (n2 : Nat), ∀ (x3 : Int32), q_X5_isCrossed_L2 x1 x2 g_always Q n2 x3 → ∀ (H : Heap) (locs : List Loc) (ls : Array Slot), va_P (dC, dI) vwCl [(a_this, .inr (5, [z_refusals, z_n, z_lines, z_set, z_state, z_weight, z_all, z_good, z_many, z_goods, z_trial, z_isKnown, .ref a_always, z_knot, z_knots, z_part, z_parts])), (a_always, .inl (cZ, 256, .inl g_always))] H → va_D A [(a_this, .inr (5, [z_refusals, z_n, z_lines, z_set, z_state, z_weight, z_all, z_good, z_many, z_goods, z_trial, z_isKnown, .ref a_always, z_knot, z_knots, z_part, z_parts])), (a_always, .inl (cZ, 256, .inl g_always))] → va_S A s.heap H locs → lv_has ls 4 [(0, .ref a_this), (1, .int x1), (2, .int x2), (3, .int x3)] → W p l e rX5_isCrossed s m args below meth c H locs 0 0 QQ (F0 m 2 ls []) := by
    intro n2
    induction n2 with
    | zero => intro x3 h; exact False.elim h
    | succ n2 ih2 =>
      intro x3 h H locs ls hP hD hS hl
      refine lv_iload_n hx hb dX5_isCrossed_2 rfl (lv_at hl 3 rfl) ?_
      refine lv_iload_n hx hb dX5_isCrossed_3 rfl (lv_at hl 2 rfl) ?_
      refine lv_icmp_ge (tgt := 46) hx hb dX5_isCrossed_4 (by decide) (fun k1 => ?_) (fun k1 => ?_)
      · have h := h.1 k1
        refine lv_iconst (v := 0) hx hb dX5_isCrossed_46 (by decide) ?_
        exact ret _ _ _ _ false () dX5_isCrossed_47 h (reP hP [0, 1] rfl) (hD.sub [0, 1] (by decide) rfl) hS
      · have h := h.2 k1
        refine lv_aload_n hx hb dX5_isCrossed_7 rfl (lv_at hl 0 rfl) ?_
        refine va_get (D := (dC, dI)) (ci := 5) (v := .ref a_always) (C := RX5) (T := TX5) (N := 17) hx hb hts in5 hown hK hP 0 rfl rfl 12 (by decide) f32 (fun _ h9 => h9) rfl dX5_isCrossed_8 ?_
        refine lv_iload_n hx hb dX5_isCrossed_11 rfl (lv_at hl 3 rfl) ?_
        obtain ⟨hi2, h⟩ := h
        refine va_zald (D := (dC, dI)) hx hb hK hP 1 1 rfl rfl hi2 dX5_isCrossed_12 ?_
        refine lv_if_eq (tgt := 40) hx hb dX5_isCrossed_13 (by decide) (fun k3 => ?_) (fun k3 => ?_)
        · have h := h.1 k3
          refine lv_iinc (v := x3 + 1) (lv' := [(3, .int (x3 + 1)), (0, .ref a_this), (1, .int x1), (2, .int x2)]) hx hb dX5_isCrossed_40 hl (k := 3) rfl rfl (by decide) rfl (fun ls hl => ?_)
          refine lv_goto (tgt := 2) hx hb dX5_isCrossed_43 (by decide) ?_
          exact ih2 (x3 + 1) h _ _ _ (reP hP [0, 1] rfl) (hD.sub [0, 1] (by decide) rfl) hS (lv_sub hl [1, 2, 3, 0] rfl)
        · have h := h.2 k3
          refine lv_iload_n hx hb dX5_isCrossed_16 rfl (lv_at hl 1 rfl) ?_
          refine lv_iload_n hx hb dX5_isCrossed_17 rfl (lv_at hl 3 rfl) ?_
          refine lv_iand hx hb dX5_isCrossed_18 ?_
          refine lv_if_eq (tgt := 40) hx hb dX5_isCrossed_19 (by decide) (fun k4 => ?_) (fun k4 => ?_)
          · have h := h.1 k4
            refine lv_iinc (v := x3 + 1) (lv' := [(3, .int (x3 + 1)), (0, .ref a_this), (1, .int x1), (2, .int x2)]) hx hb dX5_isCrossed_40 hl (k := 3) rfl rfl (by decide) rfl (fun ls hl => ?_)
            refine lv_goto (tgt := 2) hx hb dX5_isCrossed_43 (by decide) ?_
            exact ih2 (x3 + 1) h _ _ _ (reP hP [0, 1] rfl) (hD.sub [0, 1] (by decide) rfl) hS (lv_sub hl [1, 2, 3, 0] rfl)
          · have h := h.2 k4
            refine lv_iload_n hx hb dX5_isCrossed_22 rfl (lv_at hl 1 rfl) ?_
            refine lv_iload_n hx hb dX5_isCrossed_23 rfl (lv_at hl 3 rfl) ?_
            refine lv_iconst (v := (-1)) hx hb dX5_isCrossed_24 (by decide) ?_
            refine lv_ixor hx hb dX5_isCrossed_25 ?_
            refine lv_iand hx hb dX5_isCrossed_26 ?_
            refine lv_if_eq (tgt := 40) hx hb dX5_isCrossed_27 (by decide) (fun k5 => ?_) (fun k5 => ?_)
            · have h := h.1 k5
              refine lv_iinc (v := x3 + 1) (lv' := [(3, .int (x3 + 1)), (0, .ref a_this), (1, .int x1), (2, .int x2)]) hx hb dX5_isCrossed_40 hl (k := 3) rfl rfl (by decide) rfl (fun ls hl => ?_)
              refine lv_goto (tgt := 2) hx hb dX5_isCrossed_43 (by decide) ?_
              exact ih2 (x3 + 1) h _ _ _ (reP hP [0, 1] rfl) (hD.sub [0, 1] (by decide) rfl) hS (lv_sub hl [1, 2, 3, 0] rfl)
            · have h := h.2 k5
              refine lv_iload_n hx hb dX5_isCrossed_30 rfl (lv_at hl 3 rfl) ?_
              refine lv_iload_n hx hb dX5_isCrossed_31 rfl (lv_at hl 1 rfl) ?_
              refine lv_iconst (v := (-1)) hx hb dX5_isCrossed_32 (by decide) ?_
              refine lv_ixor hx hb dX5_isCrossed_33 ?_
              refine lv_iand hx hb dX5_isCrossed_34 ?_
              refine lv_if_eq (tgt := 40) hx hb dX5_isCrossed_35 (by decide) (fun k6 => ?_) (fun k6 => ?_)
              · have h := h.1 k6
                refine lv_iinc (v := x3 + 1) (lv' := [(3, .int (x3 + 1)), (0, .ref a_this), (1, .int x1), (2, .int x2)]) hx hb dX5_isCrossed_40 hl (k := 3) rfl rfl (by decide) rfl (fun ls hl => ?_)
                refine lv_goto (tgt := 2) hx hb dX5_isCrossed_43 (by decide) ?_
                exact ih2 (x3 + 1) h _ _ _ (reP hP [0, 1] rfl) (hD.sub [0, 1] (by decide) rfl) hS (lv_sub hl [1, 2, 3, 0] rfl)
              · have h := h.2 k6
                refine lv_iconst (v := 1) hx hb dX5_isCrossed_38 (by decide) ?_
                exact ret _ _ _ _ true () dX5_isCrossed_39 h (reP hP [0, 1] rfl) (hD.sub [0, 1] (by decide) rfl) hS
  obtain ⟨n, h⟩ := h
  exact L2 n 1 h _ _ _ (reP hP [0, 1] rfl) (hD.sub [0, 1] (by decide) rfl) hS (lv_sub hl [1, 2, 3, 0] rfl)
/-! ### X5_know know()V -/
def rX5_know : Room := { frames := 4, cells := 0, slots := 0, locals := 93 }
def q_X5_know_L61 (x1 : Int32) (x2 : Int32) (g_always : Nat → Int32) (k51 : Int32 → Int32 → (Nat → Int32) → Prop) : Nat → Int32 → Int32 → (Nat → Int32) → Prop
  | 0 => fun _ _ _ => False
  | n + 1 => fun x3 g_knots g_knot => (x1 ≤ x3 → k51 (x2 + 1) g_knots g_knot) ∧ (¬ x1 ≤ x3 → q_X5_bits x3 (fun r2 => (¬ r2 = x2 → (q_X5_know_L61 x1 x2 g_always k51 n) (x3 + 1) g_knots g_knot) ∧ (r2 = x2 → vp_in x3 256 ∧ ((g_always (Int32.toNatClampNeg x3)) = 0 → (q_X5_know_L61 x1 x2 g_always k51 n) (x3 + 1) g_knots g_knot) ∧ (¬ (g_always (Int32.toNatClampNeg x3)) = 0 → q_X5_isCrossed g_always x3 x1 (fun b7 => (b7 = false → vp_in g_knots 16 ∧ (q_X5_know_L61 x1 x2 g_always k51 n) (x3 + 1) (g_knots + 1) (upd g_knot (Int32.toNatClampNeg g_knots) x3)) ∧ (b7 = true → (q_X5_know_L61 x1 x2 g_always k51 n) (x3 + 1) g_knots g_knot))))))
def q_X5_know_L51 (x1 : Int32) (g_n : Int32) (g_isKnown : Int32) (g_always : Nat → Int32) (Q : Int32 → Int32 → (Nat → Int32) → (Nat → Int32) → Prop) : Nat → Int32 → Int32 → (Nat → Int32) → Prop
  | 0 => fun _ _ _ => False
  | n + 1 => fun x2 g_knots g_knot => (g_n < x2 → Q g_isKnown g_knots g_always g_knot) ∧ (¬ g_n < x2 → ∃ N : Nat, q_X5_know_L61 x1 x2 g_always (fun y0 y1 y2 => q_X5_know_L51 x1 g_n g_isKnown g_always Q n y0 y1 y2) N 1 g_knots g_knot)
def q_X5_know_J44 (x1 : Int32) (g_n : Int32) (g_isKnown : Int32) (g_always : Nat → Int32) (g_knot : Nat → Int32) (Q : Int32 → Int32 → (Nat → Int32) → (Nat → Int32) → Prop) : Prop :=
  ∃ N : Nat, q_X5_know_L51 x1 g_n g_isKnown g_always Q N 1 0 g_knot
def q_X5_know_L22 (x1 : Int32) (g_n : Int32) (g_goods : Int32) (g_isKnown : Int32) (g_good : Nat → Int32) (g_knot : Nat → Int32) (Q : Int32 → Int32 → (Nat → Int32) → (Nat → Int32) → Prop) : Nat → Int32 → (Nat → Int32) → Prop
  | 0 => fun _ _ => False
  | n + 1 => fun x2 g_always => (x1 ≤ x2 → q_X5_know_J44 x1 g_n g_isKnown g_always g_knot Q) ∧ (¬ x1 ≤ x2 → q_X5_isAlways g_n g_goods g_good x2 (fun b3 => vp_in x2 256 ∧ (q_X5_know_L22 x1 g_n g_goods g_isKnown g_good g_knot Q n) (x2 + 1) (upd g_always (Int32.toNatClampNeg x2) (vp_nar .boolean (bI b3)))))
def q_X5_know (g_n : Int32) (g_goods : Int32) (g_isKnown : Int32) (g_knots : Int32) (g_good : Nat → Int32) (g_always : Nat → Int32) (g_knot : Nat → Int32) (Q : Int32 → Int32 → (Nat → Int32) → (Nat → Int32) → Prop) : Prop :=
  (g_isKnown = 0 → ∀ x1 : Int32, x1 = (1 <<< (g_n &&& 31)) → ∃ N : Nat, q_X5_know_L22 x1 g_n g_goods 1 g_good g_knot Q N 1 g_always) ∧ (¬ g_isKnown = 0 → Q g_isKnown g_knots g_always g_knot)
set_option maxRecDepth 100000 in
set_option maxHeartbeats 4000000 in
theorem c_X5_know (l : Launch) (dC : Nat → ClassId) (dI : Nat → Nat → Nat) (cI cZ : ClassId) (a_this a_good a_always a_knot : Nat) (z_refusals z_lines z_set z_state z_weight z_all z_many z_trial z_part z_parts : Value) (g_n : Int32) (g_goods : Int32) (g_isKnown : Int32) (g_knots : Int32) (g_good : Nat → Int32) (g_always : Nat → Int32) (g_knot : Nat → Int32) (Q : Int32 → Int32 → (Nat → Int32) → (Nat → Int32) → Prop) (h : q_X5_know g_n g_goods g_isKnown g_knots g_good g_always g_knot Q) : MV l yX5_know wsX5_know rX5_know (dC, dI) [(cI, .int), (cZ, .boolean)] [.ref a_this] [(a_this, .inr (5, [z_refusals, .int g_n, z_lines, z_set, z_state, z_weight, z_all, .ref a_good, z_many, .int g_goods, z_trial, .int g_isKnown, .ref a_always, .ref a_knot, .int g_knots, z_part, z_parts])), (a_good, .inl (cI, 40320, .inl g_good)), (a_always, .inl (cZ, 256, .inl g_always)), (a_knot, .inl (cI, 16, .inl g_knot))] (fun u : Int32 × Int32 × (Nat → Int32) × (Nat → Int32) => Q u.1 u.2.1 u.2.2.1 u.2.2.2) (fun u : Int32 × Int32 × (Nat → Int32) × (Nat → Int32) => [(a_this, .inr (5, [z_refusals, .int g_n, z_lines, z_set, z_state, z_weight, z_all, .ref a_good, z_many, .int g_goods, z_trial, .int u.1, .ref a_always, .ref a_knot, .int u.2.1, z_part, z_parts])), (a_good, .inl (cI, 40320, .inl g_good)), (a_always, .inl (cZ, 256, .inl u.2.2.1)), (a_knot, .inl (cI, 16, .inl u.2.2.2))]) := by
  refine MV.of (cc := cX5_know) (maxL := 4) (by decide +kernel) rfl (Nat.le_of_ble_eq_true rfl) ?_
  intro p e s m args below meth c A QQ ls hx hb hml hown hts hA hK hP hD hS hNW ret hl
  have hl : lv_has ls 4 [(0, .ref a_this)] := hl
  have hown : s.vm.findClass RX5 = some m.cls := hown
  have in5 : ∀ w ∈ u_ws RX5 TX5 17, w ∈ wsX5_know := fun _ w9 => List.mem_cons_of_mem _ (List.mem_append_right _ w9)
  have f32 := hts (.fieldLink RX5 32 "OnesDeskModel" "always" "[Z") (by decide +kernel)
  have f36 := hts (.fieldLink RX5 36 "OnesDeskModel" "knot" "[I") (by decide +kernel)
  have f46 := hts (.fieldLink RX5 46 "OnesDeskModel" "n" "I") (by decide +kernel)
  have f63 := hts (.fieldLink RX5 63 "OnesDeskModel" "isKnown" "Z") (by decide +kernel)
  have f129 := hts (.fieldLink RX5 129 "OnesDeskModel" "knots" "I") (by decide +kernel)
  refine lv_aload_n hx hb dX5_know_0 rfl (lv_at hl 0 rfl) ?_
  refine va_get (D := (dC, dI)) (ci := 5) (v := .int g_isKnown) (C := RX5) (T := TX5) (N := 17) hx hb hts in5 hown hK hP 0 rfl rfl 11 (by decide) f63 (fun _ h9 => h9) rfl dX5_know_1 ?_
  refine lv_if_eq (tgt := 8) hx hb dX5_know_4 (by decide) (fun k1 => ?_) (fun k1 => ?_)
  · have h := h.1 k1
    refine lv_aload_n hx hb dX5_know_8 rfl (lv_at hl 0 rfl) ?_
    refine lv_iconst (v := 1) hx hb dX5_know_9 (by decide) ?_
    refine va_put (D := (dC, dI)) (ci := 5) (v := .int 1) (ty := .boolean) (C := RX5) (T := TX5) (N := 17) hx hb hts in5 tyX5 tyX5_ok nmX5 hown hK hP hD hS 0 rfl rfl 11 (by decide) f63 (fun _ h9 => h9) rfl (by decide +kernel) (by decide) (by decide) (Nat.le_of_ble_eq_true rfl) dX5_know_10 (fun H locs hP hD hS => ?_)
    have hP : va_P (dC, dI) vwCl [(a_this, .inr (5, [z_refusals, .int g_n, z_lines, z_set, z_state, z_weight, z_all, .ref a_good, z_many, .int g_goods, z_trial, .int 1, .ref a_always, .ref a_knot, .int g_knots, z_part, z_parts])), (a_good, .inl (cI, 40320, .inl g_good)), (a_always, .inl (cZ, 256, .inl g_always)), (a_knot, .inl (cI, 16, .inl g_knot))] H := hP
    have hD : va_D A [(a_this, .inr (5, [z_refusals, .int g_n, z_lines, z_set, z_state, z_weight, z_all, .ref a_good, z_many, .int g_goods, z_trial, .int 1, .ref a_always, .ref a_knot, .int g_knots, z_part, z_parts])), (a_good, .inl (cI, 40320, .inl g_good)), (a_always, .inl (cZ, 256, .inl g_always)), (a_knot, .inl (cI, 16, .inl g_knot))] := hD
    refine lv_iconst (v := 1) hx hb dX5_know_13 (by decide) ?_
    refine lv_aload_n hx hb dX5_know_14 rfl (lv_at hl 0 rfl) ?_
    refine va_get (D := (dC, dI)) (ci := 5) (v := .int g_n) (C := RX5) (T := TX5) (N := 17) hx hb hts in5 hown hK hP 0 rfl rfl 1 (by decide) f46 (fun _ h9 => h9) rfl dX5_know_15 ?_
    refine lv_ishl hx hb dX5_know_18 ?_
    refine lv_topi (fun x1 ex1 => ?_)
    have h := h x1 ex1
    refine lv_istore_n (lv' := [(1, .int x1), (0, .ref a_this)]) hx hb dX5_know_19 rfl hl (by decide) rfl (fun ls hl => ?_)
    refine lv_iconst (v := 1) hx hb dX5_know_20 (by decide) ?_
    refine lv_istore_n (lv' := [(2, .int 1), (1, .int x1), (0, .ref a_this)]) hx hb dX5_know_21 rfl hl (by decide) rfl (fun ls hl => ?_)
    have L22 : ∀ (g_isKnown : Int32), ∀ (n22 : Nat), ∀ (x2 : Int32) (g_always : Nat → Int32), q_X5_know_L22 x1 g_n g_goods g_isKnown g_good g_knot Q n22 x2 g_always → ∀ (H : Heap) (locs : List Loc) (ls : Array Slot), va_P (dC, dI) vwCl [(a_this, .inr (5, [z_refusals, .int g_n, z_lines, z_set, z_state, z_weight, z_all, .ref a_good, z_many, .int g_goods, z_trial, .int g_isKnown, .ref a_always, .ref a_knot, .int g_knots, z_part, z_parts])), (a_good, .inl (cI, 40320, .inl g_good)), (a_always, .inl (cZ, 256, .inl g_always)), (a_knot, .inl (cI, 16, .inl g_knot))] H → va_D A [(a_this, .inr (5, [z_refusals, .int g_n, z_lines, z_set, z_state, z_weight, z_all, .ref a_good, z_many, .int g_goods, z_trial, .int g_isKnown, .ref a_always, .ref a_knot, .int g_knots, z_part, z_parts])), (a_good, .inl (cI, 40320, .inl g_good)), (a_always, .inl (cZ, 256, .inl g_always)), (a_knot, .inl (cI, 16, .inl g_knot))] → va_S A s.heap H locs → lv_has ls 4 [(0, .ref a_this), (1, .int x1), (2, .int x2)] → W p l e rX5_know s m args below meth c H locs 0 0 QQ (F0 m 22 ls []) := by
      intro g_isKnown
      intro n22
      induction n22 with
      | zero => intro x2 g_always h; exact False.elim h
      | succ n22 ih22 =>
        intro x2 g_always h H locs ls hP hD hS hl
        refine lv_iload_n hx hb dX5_know_22 rfl (lv_at hl 2 rfl) ?_
        refine lv_iload_n hx hb dX5_know_23 rfl (lv_at hl 1 rfl) ?_
        refine lv_icmp_ge (tgt := 44) hx hb dX5_know_24 (by decide) (fun k1 => ?_) (fun k1 => ?_)
        · have h := h.1 k1
          have J44 : q_X5_know_J44 x1 g_n g_isKnown g_always g_knot Q → ∀ (H : Heap) (locs : List Loc) (ls : Array Slot), va_P (dC, dI) vwCl [(a_this, .inr (5, [z_refusals, .int g_n, z_lines, z_set, z_state, z_weight, z_all, .ref a_good, z_many, .int g_goods, z_trial, .int g_isKnown, .ref a_always, .ref a_knot, .int g_knots, z_part, z_parts])), (a_good, .inl (cI, 40320, .inl g_good)), (a_always, .inl (cZ, 256, .inl g_always)), (a_knot, .inl (cI, 16, .inl g_knot))] H → va_D A [(a_this, .inr (5, [z_refusals, .int g_n, z_lines, z_set, z_state, z_weight, z_all, .ref a_good, z_many, .int g_goods, z_trial, .int g_isKnown, .ref a_always, .ref a_knot, .int g_knots, z_part, z_parts])), (a_good, .inl (cI, 40320, .inl g_good)), (a_always, .inl (cZ, 256, .inl g_always)), (a_knot, .inl (cI, 16, .inl g_knot))] → va_S A s.heap H locs → lv_has ls 4 [(0, .ref a_this), (1, .int x1)] → W p l e rX5_know s m args below meth c H locs 0 0 QQ (F0 m 44 ls []) := by
            intro  h H locs ls hP hD hS hl
            refine lv_aload_n hx hb dX5_know_44 rfl (lv_at hl 0 rfl) ?_
            refine lv_iconst (v := 0) hx hb dX5_know_45 (by decide) ?_
            refine va_put (D := (dC, dI)) (ci := 5) (v := .int 0) (ty := .int) (C := RX5) (T := TX5) (N := 17) hx hb hts in5 tyX5 tyX5_ok nmX5 hown hK hP hD hS 0 rfl rfl 14 (by decide) f129 (fun _ h9 => h9) rfl (by decide +kernel) rfl rfl (Nat.le_of_ble_eq_true rfl) dX5_know_46 (fun H locs hP hD hS => ?_)
            have hP : va_P (dC, dI) vwCl [(a_this, .inr (5, [z_refusals, .int g_n, z_lines, z_set, z_state, z_weight, z_all, .ref a_good, z_many, .int g_goods, z_trial, .int g_isKnown, .ref a_always, .ref a_knot, .int 0, z_part, z_parts])), (a_good, .inl (cI, 40320, .inl g_good)), (a_always, .inl (cZ, 256, .inl g_always)), (a_knot, .inl (cI, 16, .inl g_knot))] H := hP
            have hD : va_D A [(a_this, .inr (5, [z_refusals, .int g_n, z_lines, z_set, z_state, z_weight, z_all, .ref a_good, z_many, .int g_goods, z_trial, .int g_isKnown, .ref a_always, .ref a_knot, .int 0, z_part, z_parts])), (a_good, .inl (cI, 40320, .inl g_good)), (a_always, .inl (cZ, 256, .inl g_always)), (a_knot, .inl (cI, 16, .inl g_knot))] := hD
            refine lv_iconst (v := 1) hx hb dX5_know_49 (by decide) ?_
            refine lv_istore_n (lv' := [(2, .int 1), (0, .ref a_this), (1, .int x1)]) hx hb dX5_know_50 rfl hl (by decide) rfl (fun ls hl => ?_)
            have L51 : ∀ (n51 : Nat), ∀ (x2 : Int32) (g_knots : Int32) (g_knot : Nat → Int32), q_X5_know_L51 x1 g_n g_isKnown g_always Q n51 x2 g_knots g_knot → ∀ (H : Heap) (locs : List Loc) (ls : Array Slot), va_P (dC, dI) vwCl [(a_this, .inr (5, [z_refusals, .int g_n, z_lines, z_set, z_state, z_weight, z_all, .ref a_good, z_many, .int g_goods, z_trial, .int g_isKnown, .ref a_always, .ref a_knot, .int g_knots, z_part, z_parts])), (a_good, .inl (cI, 40320, .inl g_good)), (a_always, .inl (cZ, 256, .inl g_always)), (a_knot, .inl (cI, 16, .inl g_knot))] H → va_D A [(a_this, .inr (5, [z_refusals, .int g_n, z_lines, z_set, z_state, z_weight, z_all, .ref a_good, z_many, .int g_goods, z_trial, .int g_isKnown, .ref a_always, .ref a_knot, .int g_knots, z_part, z_parts])), (a_good, .inl (cI, 40320, .inl g_good)), (a_always, .inl (cZ, 256, .inl g_always)), (a_knot, .inl (cI, 16, .inl g_knot))] → va_S A s.heap H locs → lv_has ls 4 [(0, .ref a_this), (1, .int x1), (2, .int x2)] → W p l e rX5_know s m args below meth c H locs 0 0 QQ (F0 m 51 ls []) := by
              intro n51
              induction n51 with
              | zero => intro x2 g_knots g_knot h; exact False.elim h
              | succ n51 ih51 =>
                intro x2 g_knots g_knot h H locs ls hP hD hS hl
                refine lv_iload_n hx hb dX5_know_51 rfl (lv_at hl 2 rfl) ?_
                refine lv_aload_n hx hb dX5_know_52 rfl (lv_at hl 0 rfl) ?_
                refine va_get (D := (dC, dI)) (ci := 5) (v := .int g_n) (C := RX5) (T := TX5) (N := 17) hx hb hts in5 hown hK hP 0 rfl rfl 1 (by decide) f46 (fun _ h9 => h9) rfl dX5_know_53 ?_
                refine lv_icmp_gt (tgt := 127) hx hb dX5_know_56 (by decide) (fun k1 => ?_) (fun k1 => ?_)
                · have h := h.1 k1
                  exact ret _ _ _ _ (g_isKnown, g_knots, g_always, g_knot) dX5_know_127 h (reP hP [0, 1, 2, 3] rfl) (hD.sub [0, 1, 2, 3] (by decide) rfl) hS
                · have h := h.2 k1
                  refine lv_iconst (v := 1) hx hb dX5_know_59 (by decide) ?_
                  refine lv_istore_n (lv' := [(3, .int 1), (0, .ref a_this), (1, .int x1), (2, .int x2)]) hx hb dX5_know_60 rfl hl (by decide) rfl (fun ls hl => ?_)
                  have L61 : ∀ (n61 : Nat), ∀ (x3 : Int32) (g_knots : Int32) (g_knot : Nat → Int32), q_X5_know_L61 x1 x2 g_always (q_X5_know_L51 x1 g_n g_isKnown g_always Q n51) n61 x3 g_knots g_knot → ∀ (H : Heap) (locs : List Loc) (ls : Array Slot), va_P (dC, dI) vwCl [(a_this, .inr (5, [z_refusals, .int g_n, z_lines, z_set, z_state, z_weight, z_all, .ref a_good, z_many, .int g_goods, z_trial, .int g_isKnown, .ref a_always, .ref a_knot, .int g_knots, z_part, z_parts])), (a_good, .inl (cI, 40320, .inl g_good)), (a_always, .inl (cZ, 256, .inl g_always)), (a_knot, .inl (cI, 16, .inl g_knot))] H → va_D A [(a_this, .inr (5, [z_refusals, .int g_n, z_lines, z_set, z_state, z_weight, z_all, .ref a_good, z_many, .int g_goods, z_trial, .int g_isKnown, .ref a_always, .ref a_knot, .int g_knots, z_part, z_parts])), (a_good, .inl (cI, 40320, .inl g_good)), (a_always, .inl (cZ, 256, .inl g_always)), (a_knot, .inl (cI, 16, .inl g_knot))] → va_S A s.heap H locs → lv_has ls 4 [(0, .ref a_this), (1, .int x1), (2, .int x2), (3, .int x3)] → W p l e rX5_know s m args below meth c H locs 0 0 QQ (F0 m 61 ls []) := by
                    intro n61
                    induction n61 with
                    | zero => intro x3 g_knots g_knot h; exact False.elim h
                    | succ n61 ih61 =>
                      intro x3 g_knots g_knot h H locs ls hP hD hS hl
                      refine lv_iload_n hx hb dX5_know_61 rfl (lv_at hl 3 rfl) ?_
                      refine lv_iload_n hx hb dX5_know_62 rfl (lv_at hl 1 rfl) ?_
                      refine lv_icmp_ge (tgt := 121) hx hb dX5_know_63 (by decide) (fun k1 => ?_) (fun k1 => ?_)
                      · have h := h.1 k1
                        refine lv_iinc (v := x2 + 1) (lv' := [(2, .int (x2 + 1)), (0, .ref a_this), (1, .int x1), (3, .int x3)]) hx hb dX5_know_121 hl (k := 2) rfl rfl (by decide) rfl (fun ls hl => ?_)
                        refine lv_goto (tgt := 51) hx hb dX5_know_124 (by decide) ?_
                        exact ih51 (x2 + 1) g_knots g_knot h _ _ _ (reP hP [0, 1, 2, 3] rfl) (hD.sub [0, 1, 2, 3] (by decide) rfl) hS (lv_sub hl [1, 2, 0] rfl)
                      · have h := h.2 k1
                        refine lv_iload_n hx hb dX5_know_66 rfl (lv_at hl 3 rfl) ?_
                        refine MI.callS (As := [.int x3]) (rest := []) (wr := [(a_this, .inr (5, [z_refusals, .int g_n, z_lines, z_set, z_state, z_weight, z_all, .ref a_good, z_many, .int g_goods, z_trial, .int g_isKnown, .ref a_always, .ref a_knot, .int g_knots, z_part, z_parts])), (a_good, .inl (cI, 40320, .inl g_good)), (a_always, .inl (cZ, 256, .inl g_always)), (a_knot, .inl (cI, 16, .inl g_knot))]) (c_X5_bits l dC dI cI cZ x3 _ h) ⟨hx, hb, hml, hown, hts⟩ (va_cwS 1 hts gX5_know_X5_bits rfl rfl rfl (by decide +kernel) ⟨Nat.le_of_ble_eq_true rfl, Nat.le_of_ble_eq_true rfl⟩) hK hP hD hS hA hNW [] [0, 1, 2, 3] rfl rfl (by decide) (by decide) (by decide) rfl hl.1 rfl (Nat.le_of_ble_eq_true rfl) dX5_know_67 ⟨Nat.zero_le _, Nat.zero_le _⟩ (fun r2 u H locs hw hP hD hS => ?_)
                        have h := hw
                        try dsimp only at h
                        have hP : va_P (dC, dI) vwCl [(a_this, .inr (5, [z_refusals, .int g_n, z_lines, z_set, z_state, z_weight, z_all, .ref a_good, z_many, .int g_goods, z_trial, .int g_isKnown, .ref a_always, .ref a_knot, .int g_knots, z_part, z_parts])), (a_good, .inl (cI, 40320, .inl g_good)), (a_always, .inl (cZ, 256, .inl g_always)), (a_knot, .inl (cI, 16, .inl g_knot))] H := hP
                        have hD : va_D A [(a_this, .inr (5, [z_refusals, .int g_n, z_lines, z_set, z_state, z_weight, z_all, .ref a_good, z_many, .int g_goods, z_trial, .int g_isKnown, .ref a_always, .ref a_knot, .int g_knots, z_part, z_parts])), (a_good, .inl (cI, 40320, .inl g_good)), (a_always, .inl (cZ, 256, .inl g_always)), (a_knot, .inl (cI, 16, .inl g_knot))] := hD
                        refine lv_iload_n hx hb dX5_know_70 rfl (lv_at hl 2 rfl) ?_
                        refine lv_icmp_ne (tgt := 115) hx hb dX5_know_71 (by decide) (fun k3 => ?_) (fun k3 => ?_)
                        · have h := h.1 k3
                          refine lv_iinc (v := x3 + 1) (lv' := [(3, .int (x3 + 1)), (0, .ref a_this), (1, .int x1), (2, .int x2)]) hx hb dX5_know_115 hl (k := 3) rfl rfl (by decide) rfl (fun ls hl => ?_)
                          refine lv_goto (tgt := 61) hx hb dX5_know_118 (by decide) ?_
                          exact ih61 (x3 + 1) g_knots g_knot h _ _ _ (reP hP [0, 1, 2, 3] rfl) (hD.sub [0, 1, 2, 3] (by decide) rfl) hS (lv_sub hl [1, 2, 3, 0] rfl)
                        · have h := h.2 k3
                          refine lv_aload_n hx hb dX5_know_74 rfl (lv_at hl 0 rfl) ?_
                          refine va_get (D := (dC, dI)) (ci := 5) (v := .ref a_always) (C := RX5) (T := TX5) (N := 17) hx hb hts in5 hown hK hP 0 rfl rfl 12 (by decide) f32 (fun _ h9 => h9) rfl dX5_know_75 ?_
                          refine lv_iload_n hx hb dX5_know_78 rfl (lv_at hl 3 rfl) ?_
                          obtain ⟨hi4, h⟩ := h
                          refine va_zald (D := (dC, dI)) hx hb hK hP 2 1 rfl rfl hi4 dX5_know_79 ?_
                          refine lv_if_eq (tgt := 115) hx hb dX5_know_80 (by decide) (fun k5 => ?_) (fun k5 => ?_)
                          · have h := h.1 k5
                            refine lv_iinc (v := x3 + 1) (lv' := [(3, .int (x3 + 1)), (0, .ref a_this), (1, .int x1), (2, .int x2)]) hx hb dX5_know_115 hl (k := 3) rfl rfl (by decide) rfl (fun ls hl => ?_)
                            refine lv_goto (tgt := 61) hx hb dX5_know_118 (by decide) ?_
                            exact ih61 (x3 + 1) g_knots g_knot h _ _ _ (reP hP [0, 1, 2, 3] rfl) (hD.sub [0, 1, 2, 3] (by decide) rfl) hS (lv_sub hl [1, 2, 3, 0] rfl)
                          · have h := h.2 k5
                            refine lv_aload_n hx hb dX5_know_83 rfl (lv_at hl 0 rfl) ?_
                            refine lv_iload_n hx hb dX5_know_84 rfl (lv_at hl 3 rfl) ?_
                            refine lv_iload_n hx hb dX5_know_85 rfl (lv_at hl 1 rfl) ?_
                            refine MI.callV (As := [.int x3, .int x1]) (rest := []) (wr := [(a_good, .inl (cI, 40320, .inl g_good)), (a_knot, .inl (cI, 16, .inl g_knot))]) (ci := 5) (q0 := 0) (c_X5_isCrossed l dC dI cI cZ a_this a_always z_refusals (.int g_n) z_lines z_set z_state z_weight z_all (.ref a_good) z_many (.int g_goods) z_trial (.int g_isKnown) (.ref a_knot) (.int g_knots) z_part z_parts g_always x3 x1 _ h) ⟨hx, hb, hml, hown, hts⟩ (cwV 2 hts gX5_know_X5_isCrossed rfl rfl rfl (by decide +kernel) ⟨Nat.le_of_ble_eq_true rfl, Nat.le_of_ble_eq_true rfl⟩) hK hP hD hS hA hNW [0, 2] [1, 3] rfl rfl (by decide) (by decide) (by decide) rfl rfl rfl rfl hl.1 rfl (Nat.le_of_ble_eq_true rfl) dX5_know_86 ⟨Nat.zero_le _, Nat.zero_le _⟩ (fun r6 u H locs hw hP hD hS => ?_)
                            obtain ⟨b7, rfl, hw⟩ := hw
                            have h := hw
                            try dsimp only at h
                            have hP : va_P (dC, dI) vwCl [(a_good, .inl (cI, 40320, .inl g_good)), (a_knot, .inl (cI, 16, .inl g_knot)), (a_this, .inr (5, [z_refusals, .int g_n, z_lines, z_set, z_state, z_weight, z_all, .ref a_good, z_many, .int g_goods, z_trial, .int g_isKnown, .ref a_always, .ref a_knot, .int g_knots, z_part, z_parts])), (a_always, .inl (cZ, 256, .inl g_always))] H := hP
                            have hD : va_D A [(a_good, .inl (cI, 40320, .inl g_good)), (a_knot, .inl (cI, 16, .inl g_knot)), (a_this, .inr (5, [z_refusals, .int g_n, z_lines, z_set, z_state, z_weight, z_all, .ref a_good, z_many, .int g_goods, z_trial, .int g_isKnown, .ref a_always, .ref a_knot, .int g_knots, z_part, z_parts])), (a_always, .inl (cZ, 256, .inl g_always))] := hD
                            refine lv_if_eq (tgt := 95) hx hb dX5_know_89 (by decide) (fun k8 => ?_) (fun k8 => ?_)
                            · have h := h.1 (bI_0 k8)
                              refine lv_aload_n hx hb dX5_know_95 rfl (lv_at hl 0 rfl) ?_
                              refine va_get (D := (dC, dI)) (ci := 5) (v := .ref a_knot) (C := RX5) (T := TX5) (N := 17) hx hb hts in5 hown hK hP 2 rfl rfl 13 (by decide) f36 (fun _ h9 => h9) rfl dX5_know_96 ?_
                              refine lv_aload_n hx hb dX5_know_99 rfl (lv_at hl 0 rfl) ?_
                              refine va_get (D := (dC, dI)) (ci := 5) (v := .int g_knots) (C := RX5) (T := TX5) (N := 17) hx hb hts in5 hown hK hP 2 rfl rfl 14 (by decide) f129 (fun _ h9 => h9) rfl dX5_know_100 ?_
                              refine lv_iload_n hx hb dX5_know_103 rfl (lv_at hl 3 rfl) ?_
                              obtain ⟨hi9, h⟩ := h
                              refine va_iast (D := (dC, dI)) hx hb hK hP hD hS 1 0 rfl rfl hi9 dX5_know_104 (fun H locs hP hD hS => ?_)
                              have hP : va_P (dC, dI) vwCl [(a_good, .inl (cI, 40320, .inl g_good)), (a_knot, .inl (cI, 16, .inl (upd g_knot (Int32.toNatClampNeg g_knots) x3))), (a_this, .inr (5, [z_refusals, .int g_n, z_lines, z_set, z_state, z_weight, z_all, .ref a_good, z_many, .int g_goods, z_trial, .int g_isKnown, .ref a_always, .ref a_knot, .int g_knots, z_part, z_parts])), (a_always, .inl (cZ, 256, .inl g_always))] H := hP
                              have hD : va_D A [(a_good, .inl (cI, 40320, .inl g_good)), (a_knot, .inl (cI, 16, .inl (upd g_knot (Int32.toNatClampNeg g_knots) x3))), (a_this, .inr (5, [z_refusals, .int g_n, z_lines, z_set, z_state, z_weight, z_all, .ref a_good, z_many, .int g_goods, z_trial, .int g_isKnown, .ref a_always, .ref a_knot, .int g_knots, z_part, z_parts])), (a_always, .inl (cZ, 256, .inl g_always))] := hD
                              refine lv_aload_n hx hb dX5_know_105 rfl (lv_at hl 0 rfl) ?_
                              refine lv_dup hx hb dX5_know_106 rfl ?_
                              refine va_get (D := (dC, dI)) (ci := 5) (v := .int g_knots) (C := RX5) (T := TX5) (N := 17) hx hb hts in5 hown hK hP 2 rfl rfl 14 (by decide) f129 (fun _ h9 => h9) rfl dX5_know_107 ?_
                              refine lv_iconst (v := 1) hx hb dX5_know_110 (by decide) ?_
                              refine lv_iadd hx hb dX5_know_111 ?_
                              refine va_put (D := (dC, dI)) (ci := 5) (v := .int (g_knots + 1)) (ty := .int) (C := RX5) (T := TX5) (N := 17) hx hb hts in5 tyX5 tyX5_ok nmX5 hown hK hP hD hS 2 rfl rfl 14 (by decide) f129 (fun _ h9 => h9) rfl (by decide +kernel) rfl rfl (Nat.le_of_ble_eq_true rfl) dX5_know_112 (fun H locs hP hD hS => ?_)
                              have hP : va_P (dC, dI) vwCl [(a_good, .inl (cI, 40320, .inl g_good)), (a_knot, .inl (cI, 16, .inl (upd g_knot (Int32.toNatClampNeg g_knots) x3))), (a_this, .inr (5, [z_refusals, .int g_n, z_lines, z_set, z_state, z_weight, z_all, .ref a_good, z_many, .int g_goods, z_trial, .int g_isKnown, .ref a_always, .ref a_knot, .int (g_knots + 1), z_part, z_parts])), (a_always, .inl (cZ, 256, .inl g_always))] H := hP
                              have hD : va_D A [(a_good, .inl (cI, 40320, .inl g_good)), (a_knot, .inl (cI, 16, .inl (upd g_knot (Int32.toNatClampNeg g_knots) x3))), (a_this, .inr (5, [z_refusals, .int g_n, z_lines, z_set, z_state, z_weight, z_all, .ref a_good, z_many, .int g_goods, z_trial, .int g_isKnown, .ref a_always, .ref a_knot, .int (g_knots + 1), z_part, z_parts])), (a_always, .inl (cZ, 256, .inl g_always))] := hD
                              refine lv_iinc (v := x3 + 1) (lv' := [(3, .int (x3 + 1)), (0, .ref a_this), (1, .int x1), (2, .int x2)]) hx hb dX5_know_115 hl (k := 3) rfl rfl (by decide) rfl (fun ls hl => ?_)
                              refine lv_goto (tgt := 61) hx hb dX5_know_118 (by decide) ?_
                              exact ih61 (x3 + 1) (g_knots + 1) (upd g_knot (Int32.toNatClampNeg g_knots) x3) h _ _ _ (reP hP [2, 0, 3, 1] rfl) (hD.sub [2, 0, 3, 1] (by decide) rfl) hS (lv_sub hl [1, 2, 3, 0] rfl)
                            · have h := h.2 (bI_1 k8)
                              refine lv_goto (tgt := 115) hx hb dX5_know_92 (by decide) ?_
                              refine lv_iinc (v := x3 + 1) (lv' := [(3, .int (x3 + 1)), (0, .ref a_this), (1, .int x1), (2, .int x2)]) hx hb dX5_know_115 hl (k := 3) rfl rfl (by decide) rfl (fun ls hl => ?_)
                              refine lv_goto (tgt := 61) hx hb dX5_know_118 (by decide) ?_
                              exact ih61 (x3 + 1) g_knots g_knot h _ _ _ (reP hP [2, 0, 3, 1] rfl) (hD.sub [2, 0, 3, 1] (by decide) rfl) hS (lv_sub hl [1, 2, 3, 0] rfl)
                  obtain ⟨n, h⟩ := h
                  exact L61 n 1 g_knots g_knot h _ _ _ (reP hP [0, 1, 2, 3] rfl) (hD.sub [0, 1, 2, 3] (by decide) rfl) hS (lv_sub hl [1, 2, 3, 0] rfl)
            obtain ⟨n, h⟩ := h
            exact L51 n 1 0 g_knot h _ _ _ (reP hP [0, 1, 2, 3] rfl) (hD.sub [0, 1, 2, 3] (by decide) rfl) hS (lv_sub hl [1, 2, 0] rfl)
          exact J44 h _ _ _ (reP hP [0, 1, 2, 3] rfl) (hD.sub [0, 1, 2, 3] (by decide) rfl) hS (lv_sub hl [0, 1] rfl)
        · have h := h.2 k1
          refine lv_aload_n hx hb dX5_know_27 rfl (lv_at hl 0 rfl) ?_
          refine va_get (D := (dC, dI)) (ci := 5) (v := .ref a_always) (C := RX5) (T := TX5) (N := 17) hx hb hts in5 hown hK hP 0 rfl rfl 12 (by decide) f32 (fun _ h9 => h9) rfl dX5_know_28 ?_
          refine lv_iload_n hx hb dX5_know_31 rfl (lv_at hl 2 rfl) ?_
          refine lv_aload_n hx hb dX5_know_32 rfl (lv_at hl 0 rfl) ?_
          refine lv_iload_n hx hb dX5_know_33 rfl (lv_at hl 2 rfl) ?_
          refine MI.callV (As := [.int x2]) (rest := [.int x2, .ref a_always]) (wr := [(a_always, .inl (cZ, 256, .inl g_always)), (a_knot, .inl (cI, 16, .inl g_knot))]) (ci := 5) (q0 := 0) (c_X5_isAlways l dC dI cI cZ a_this a_good z_refusals z_lines z_set z_state z_weight z_all z_many z_trial (.int g_isKnown) (.ref a_always) (.ref a_knot) (.int g_knots) z_part z_parts g_n g_goods g_good x2 _ h) ⟨hx, hb, hml, hown, hts⟩ (cwV 1 hts gX5_know_X5_isAlways rfl rfl rfl (by decide +kernel) ⟨Nat.le_of_ble_eq_true rfl, Nat.le_of_ble_eq_true rfl⟩) hK hP hD hS hA hNW [0, 1] [2, 3] rfl rfl (by decide) (by decide) (by decide) rfl rfl rfl rfl hl.1 rfl (Nat.le_of_ble_eq_true rfl) dX5_know_34 ⟨Nat.zero_le _, Nat.zero_le _⟩ (fun r2 u H locs hw hP hD hS => ?_)
          obtain ⟨b3, rfl, hw⟩ := hw
          have h := hw
          try dsimp only at h
          have hP : va_P (dC, dI) vwCl [(a_always, .inl (cZ, 256, .inl g_always)), (a_knot, .inl (cI, 16, .inl g_knot)), (a_this, .inr (5, [z_refusals, .int g_n, z_lines, z_set, z_state, z_weight, z_all, .ref a_good, z_many, .int g_goods, z_trial, .int g_isKnown, .ref a_always, .ref a_knot, .int g_knots, z_part, z_parts])), (a_good, .inl (cI, 40320, .inl g_good))] H := hP
          have hD : va_D A [(a_always, .inl (cZ, 256, .inl g_always)), (a_knot, .inl (cI, 16, .inl g_knot)), (a_this, .inr (5, [z_refusals, .int g_n, z_lines, z_set, z_state, z_weight, z_all, .ref a_good, z_many, .int g_goods, z_trial, .int g_isKnown, .ref a_always, .ref a_knot, .int g_knots, z_part, z_parts])), (a_good, .inl (cI, 40320, .inl g_good))] := hD
          obtain ⟨hi4, h⟩ := h
          refine va_zast (D := (dC, dI)) hx hb hK hP hD hS 0 1 rfl rfl hi4 dX5_know_37 (fun H locs hP hD hS => ?_)
          have hP : va_P (dC, dI) vwCl [(a_always, .inl (cZ, 256, .inl (upd g_always (Int32.toNatClampNeg x2) (vp_nar .boolean (bI b3))))), (a_knot, .inl (cI, 16, .inl g_knot)), (a_this, .inr (5, [z_refusals, .int g_n, z_lines, z_set, z_state, z_weight, z_all, .ref a_good, z_many, .int g_goods, z_trial, .int g_isKnown, .ref a_always, .ref a_knot, .int g_knots, z_part, z_parts])), (a_good, .inl (cI, 40320, .inl g_good))] H := hP
          have hD : va_D A [(a_always, .inl (cZ, 256, .inl (upd g_always (Int32.toNatClampNeg x2) (vp_nar .boolean (bI b3))))), (a_knot, .inl (cI, 16, .inl g_knot)), (a_this, .inr (5, [z_refusals, .int g_n, z_lines, z_set, z_state, z_weight, z_all, .ref a_good, z_many, .int g_goods, z_trial, .int g_isKnown, .ref a_always, .ref a_knot, .int g_knots, z_part, z_parts])), (a_good, .inl (cI, 40320, .inl g_good))] := hD
          refine lv_iinc (v := x2 + 1) (lv' := [(2, .int (x2 + 1)), (0, .ref a_this), (1, .int x1)]) hx hb dX5_know_38 hl (k := 2) rfl rfl (by decide) rfl (fun ls hl => ?_)
          refine lv_goto (tgt := 22) hx hb dX5_know_41 (by decide) ?_
          exact ih22 (x2 + 1) (upd g_always (Int32.toNatClampNeg x2) (vp_nar .boolean (bI b3))) h _ _ _ (reP hP [2, 3, 0, 1] rfl) (hD.sub [2, 3, 0, 1] (by decide) rfl) hS (lv_sub hl [1, 2, 0] rfl)
    obtain ⟨n, h⟩ := h
    exact L22 1 n 1 g_always h _ _ _ (reP hP [0, 1, 2, 3] rfl) (hD.sub [0, 1, 2, 3] (by decide) rfl) hS (lv_sub hl [2, 1, 0] rfl)
  · have h := h.2 k1
    exact ret _ _ _ _ (g_isKnown, g_knots, g_always, g_knot) dX5_know_7 h (reP hP [0, 1, 2, 3] rfl) (hD.sub [0, 1, 2, 3] (by decide) rfl) hS
/-! ### X5_knots knots()I -/
def rX5_knots : Room := { frames := 5, cells := 0, slots := 0, locals := 116 }
def q_X5_knots (g_n : Int32) (g_goods : Int32) (g_isKnown : Int32) (g_knots : Int32) (g_good : Nat → Int32) (g_always : Nat → Int32) (g_knot : Nat → Int32) (Q : Int32 → Int32 → Int32 → (Nat → Int32) → (Nat → Int32) → Prop) : Prop :=
  q_X5_know g_n g_goods g_isKnown g_knots g_good g_always g_knot (fun g_isKnown_1 g_knots_2 g_always_3 g_knot_4 => Q g_knots_2 g_isKnown_1 g_knots_2 g_always_3 g_knot_4)
set_option maxRecDepth 100000 in
set_option maxHeartbeats 4000000 in
theorem c_X5_knots (l : Launch) (dC : Nat → ClassId) (dI : Nat → Nat → Nat) (cI cZ : ClassId) (a_this a_good a_always a_knot : Nat) (z_refusals z_lines z_set z_state z_weight z_all z_many z_trial z_part z_parts : Value) (g_n : Int32) (g_goods : Int32) (g_isKnown : Int32) (g_knots : Int32) (g_good : Nat → Int32) (g_always : Nat → Int32) (g_knot : Nat → Int32) (Q : Int32 → Int32 → Int32 → (Nat → Int32) → (Nat → Int32) → Prop) (h : q_X5_knots g_n g_goods g_isKnown g_knots g_good g_always g_knot Q) : MI l yX5_knots wsX5_knots rX5_knots (dC, dI) [(cI, .int), (cZ, .boolean)] [.ref a_this] [(a_this, .inr (5, [z_refusals, .int g_n, z_lines, z_set, z_state, z_weight, z_all, .ref a_good, z_many, .int g_goods, z_trial, .int g_isKnown, .ref a_always, .ref a_knot, .int g_knots, z_part, z_parts])), (a_good, .inl (cI, 40320, .inl g_good)), (a_always, .inl (cZ, 256, .inl g_always)), (a_knot, .inl (cI, 16, .inl g_knot))] (fun (r : Int32) (u : Int32 × Int32 × (Nat → Int32) × (Nat → Int32)) => Q r u.1 u.2.1 u.2.2.1 u.2.2.2) (fun u : Int32 × Int32 × (Nat → Int32) × (Nat → Int32) => [(a_this, .inr (5, [z_refusals, .int g_n, z_lines, z_set, z_state, z_weight, z_all, .ref a_good, z_many, .int g_goods, z_trial, .int u.1, .ref a_always, .ref a_knot, .int u.2.1, z_part, z_parts])), (a_good, .inl (cI, 40320, .inl g_good)), (a_always, .inl (cZ, 256, .inl u.2.2.1)), (a_knot, .inl (cI, 16, .inl u.2.2.2))]) := by
  refine MI.of (cc := cX5_knots) (maxL := 1) (by decide +kernel) rfl (Nat.le_of_ble_eq_true rfl) ?_
  intro p e s m args below meth c A QQ ls hx hb hml hown hts hA hK hP hD hS hNW ret hl
  have hl : lv_has ls 1 [(0, .ref a_this)] := hl
  have hown : s.vm.findClass RX5 = some m.cls := hown
  have in5 : ∀ w ∈ u_ws RX5 TX5 17, w ∈ wsX5_knots := fun _ w9 => List.mem_cons_of_mem _ (List.mem_append_right _ w9)
  have f129 := hts (.fieldLink RX5 129 "OnesDeskModel" "knots" "I") (by decide +kernel)
  refine lv_aload_n hx hb dX5_knots_0 rfl (lv_at hl 0 rfl) ?_
  refine MV.callV (As := []) (rest := []) (wr := []) (ci := 5) (q0 := 0) (c_X5_know l dC dI cI cZ a_this a_good a_always a_knot z_refusals z_lines z_set z_state z_weight z_all z_many z_trial z_part z_parts g_n g_goods g_isKnown g_knots g_good g_always g_knot _ h) ⟨hx, hb, hml, hown, hts⟩ (cwV 0 hts gX5_knots_X5_know rfl rfl rfl (by decide +kernel) ⟨Nat.le_of_ble_eq_true rfl, Nat.le_of_ble_eq_true rfl⟩) hK hP hD hS hA hNW [0, 1, 2, 3] [] rfl rfl (by decide) (by decide) (by decide) rfl rfl rfl rfl hl.1 rfl (Nat.le_of_ble_eq_true rfl) dX5_knots_1 ⟨Nat.zero_le _, Nat.zero_le _⟩ (fun u H locs hw hP hD hS => ?_)
  obtain ⟨g_isKnown_1, g_knots_2, g_always_3, g_knot_4⟩ := u
  have h := hw
  try dsimp only at h
  have hP : va_P (dC, dI) vwCl [(a_this, .inr (5, [z_refusals, .int g_n, z_lines, z_set, z_state, z_weight, z_all, .ref a_good, z_many, .int g_goods, z_trial, .int g_isKnown_1, .ref a_always, .ref a_knot, .int g_knots_2, z_part, z_parts])), (a_good, .inl (cI, 40320, .inl g_good)), (a_always, .inl (cZ, 256, .inl g_always_3)), (a_knot, .inl (cI, 16, .inl g_knot_4))] H := hP
  have hD : va_D A [(a_this, .inr (5, [z_refusals, .int g_n, z_lines, z_set, z_state, z_weight, z_all, .ref a_good, z_many, .int g_goods, z_trial, .int g_isKnown_1, .ref a_always, .ref a_knot, .int g_knots_2, z_part, z_parts])), (a_good, .inl (cI, 40320, .inl g_good)), (a_always, .inl (cZ, 256, .inl g_always_3)), (a_knot, .inl (cI, 16, .inl g_knot_4))] := hD
  refine lv_aload_n hx hb dX5_knots_4 rfl (lv_at hl 0 rfl) ?_
  refine va_get (D := (dC, dI)) (ci := 5) (v := .int g_knots_2) (C := RX5) (T := TX5) (N := 17) hx hb hts in5 hown hK hP 0 rfl rfl 14 (by decide) f129 (fun _ h9 => h9) rfl dX5_knots_5 ?_
  exact ret _ _ _ _ g_knots_2 (g_isKnown_1, g_knots_2, g_always_3, g_knot_4) dX5_knots_8 h (reP hP [0, 1, 2, 3] rfl) (hD.sub [0, 1, 2, 3] (by decide) rfl) hS
/-! ### X5_above above(IZ)I -/
def rX5_above : Room := { frames := 0, cells := 0, slots := 0, locals := 0 }
def q_X5_above_L2 (x1 : Int32) (x2 : Int32) (g_knots : Int32) (g_knot : Nat → Int32) (Q : Int32 → Prop) : Nat → Int32 → Prop
  | 0 => fun _ => False
  | n + 1 => fun x3 => (g_knots ≤ x3 → Q (-9)) ∧ (¬ g_knots ≤ x3 → vp_in x3 16 ∧ (¬ ((g_knot (Int32.toNatClampNeg x3)) &&& x1) = x1 → (q_X5_above_L2 x1 x2 g_knots g_knot Q n) (x3 + 1)) ∧ (((g_knot (Int32.toNatClampNeg x3)) &&& x1) = x1 → (x2 = 0 → Q x3) ∧ (¬ x2 = 0 → ((g_knot (Int32.toNatClampNeg x3)) = x1 → (q_X5_above_L2 x1 x2 g_knots g_knot Q n) (x3 + 1)) ∧ (¬ (g_knot (Int32.toNatClampNeg x3)) = x1 → Q x3))))
def q_X5_above (g_knots : Int32) (g_knot : Nat → Int32) (x1 : Int32) (x2 : Int32) (Q : Int32 → Prop) : Prop :=
  ∃ N : Nat, q_X5_above_L2 x1 x2 g_knots g_knot Q N 0
set_option maxRecDepth 100000 in
set_option maxHeartbeats 4000000 in
theorem c_X5_above (l : Launch) (dC : Nat → ClassId) (dI : Nat → Nat → Nat) (cI cZ : ClassId) (a_this a_knot : Nat) (z_refusals z_n z_lines z_set z_state z_weight z_all z_good z_many z_goods z_trial z_isKnown z_always z_part z_parts : Value) (g_knots : Int32) (g_knot : Nat → Int32) (x1 : Int32) (x2 : Int32) (Q : Int32 → Prop) (h : q_X5_above g_knots g_knot x1 x2 Q) : MI l yX5_above wsX5_above rX5_above (dC, dI) [(cI, .int), (cZ, .boolean)] [.ref a_this, .int x1, .int x2] [(a_this, .inr (5, [z_refusals, z_n, z_lines, z_set, z_state, z_weight, z_all, z_good, z_many, z_goods, z_trial, z_isKnown, z_always, .ref a_knot, .int g_knots, z_part, z_parts])), (a_knot, .inl (cI, 16, .inl g_knot))] (fun (r : Int32) (u : Unit) => Q r) (fun u : Unit => [(a_this, .inr (5, [z_refusals, z_n, z_lines, z_set, z_state, z_weight, z_all, z_good, z_many, z_goods, z_trial, z_isKnown, z_always, .ref a_knot, .int g_knots, z_part, z_parts])), (a_knot, .inl (cI, 16, .inl g_knot))]) := by
  refine MI.of (cc := cX5_above) (maxL := 4) (by decide +kernel) rfl (Nat.le_of_ble_eq_true rfl) ?_
  intro p e s m args below meth c A QQ ls hx hb hml hown hts hA hK hP hD hS hNW ret hl
  have hl : lv_has ls 4 [(0, .ref a_this), (1, .int x1), (2, .int x2)] := hl
  have hown : s.vm.findClass RX5 = some m.cls := hown
  have in5 : ∀ w ∈ u_ws RX5 TX5 17, w ∈ wsX5_above := fun _ w9 => List.mem_cons_of_mem _ (List.mem_append_right _ w9)
  have f36 := hts (.fieldLink RX5 36 "OnesDeskModel" "knot" "[I") (by decide +kernel)
  have f129 := hts (.fieldLink RX5 129 "OnesDeskModel" "knots" "I") (by decide +kernel)
  refine lv_iconst (v := 0) hx hb dX5_above_0 (by decide) ?_
  refine lv_istore_n (lv' := [(3, .int 0), (0, .ref a_this), (1, .int x1), (2, .int x2)]) hx hb dX5_above_1 rfl hl (by decide) rfl (fun ls hl => ?_)
  have L2 : ∀ (n2 : Nat), ∀ (x3 : Int32), q_X5_above_L2 x1 x2 g_knots g_knot Q n2 x3 → ∀ (H : Heap) (locs : List Loc) (ls : Array Slot), va_P (dC, dI) vwCl [(a_this, .inr (5, [z_refusals, z_n, z_lines, z_set, z_state, z_weight, z_all, z_good, z_many, z_goods, z_trial, z_isKnown, z_always, .ref a_knot, .int g_knots, z_part, z_parts])), (a_knot, .inl (cI, 16, .inl g_knot))] H → va_D A [(a_this, .inr (5, [z_refusals, z_n, z_lines, z_set, z_state, z_weight, z_all, z_good, z_many, z_goods, z_trial, z_isKnown, z_always, .ref a_knot, .int g_knots, z_part, z_parts])), (a_knot, .inl (cI, 16, .inl g_knot))] → va_S A s.heap H locs → lv_has ls 4 [(0, .ref a_this), (1, .int x1), (2, .int x2), (3, .int x3)] → W p l e rX5_above s m args below meth c H locs 0 0 QQ (F0 m 2 ls []) := by
    intro n2
    induction n2 with
    | zero => intro x3 h; exact False.elim h
    | succ n2 ih2 =>
      intro x3 h H locs ls hP hD hS hl
      refine lv_iload_n hx hb dX5_above_2 rfl (lv_at hl 3 rfl) ?_
      refine lv_aload_n hx hb dX5_above_3 rfl (lv_at hl 0 rfl) ?_
      refine va_get (D := (dC, dI)) (ci := 5) (v := .int g_knots) (C := RX5) (T := TX5) (N := 17) hx hb hts in5 hown hK hP 0 rfl rfl 14 (by decide) f129 (fun _ h9 => h9) rfl dX5_above_4 ?_
      refine lv_icmp_ge (tgt := 44) hx hb dX5_above_7 (by decide) (fun k1 => ?_) (fun k1 => ?_)
      · have h := h.1 k1
        refine lv_bipush (v := (-9)) hx hb dX5_above_44 (by decide) ?_
        exact ret _ _ _ _ (-9) () dX5_above_46 h (reP hP [0, 1] rfl) (hD.sub [0, 1] (by decide) rfl) hS
      · have h := h.2 k1
        refine lv_aload_n hx hb dX5_above_10 rfl (lv_at hl 0 rfl) ?_
        refine va_get (D := (dC, dI)) (ci := 5) (v := .ref a_knot) (C := RX5) (T := TX5) (N := 17) hx hb hts in5 hown hK hP 0 rfl rfl 13 (by decide) f36 (fun _ h9 => h9) rfl dX5_above_11 ?_
        refine lv_iload_n hx hb dX5_above_14 rfl (lv_at hl 3 rfl) ?_
        obtain ⟨hi2, h⟩ := h
        refine va_iald (D := (dC, dI)) hx hb hK hP 1 0 rfl rfl hi2 dX5_above_15 ?_
        refine lv_iload_n hx hb dX5_above_16 rfl (lv_at hl 1 rfl) ?_
        refine lv_iand hx hb dX5_above_17 ?_
        refine lv_iload_n hx hb dX5_above_18 rfl (lv_at hl 1 rfl) ?_
        refine lv_icmp_ne (tgt := 38) hx hb dX5_above_19 (by decide) (fun k3 => ?_) (fun k3 => ?_)
        · have h := h.1 k3
          refine lv_iinc (v := x3 + 1) (lv' := [(3, .int (x3 + 1)), (0, .ref a_this), (1, .int x1), (2, .int x2)]) hx hb dX5_above_38 hl (k := 3) rfl rfl (by decide) rfl (fun ls hl => ?_)
          refine lv_goto (tgt := 2) hx hb dX5_above_41 (by decide) ?_
          exact ih2 (x3 + 1) h _ _ _ (reP hP [0, 1] rfl) (hD.sub [0, 1] (by decide) rfl) hS (lv_sub hl [1, 2, 3, 0] rfl)
        · have h := h.2 k3
          refine lv_iload_n hx hb dX5_above_22 rfl (lv_at hl 2 rfl) ?_
          refine lv_if_eq (tgt := 36) hx hb dX5_above_23 (by decide) (fun k4 => ?_) (fun k4 => ?_)
          · have h := h.1 k4
            refine lv_iload_n hx hb dX5_above_36 rfl (lv_at hl 3 rfl) ?_
            exact ret _ _ _ _ x3 () dX5_above_37 h (reP hP [0, 1] rfl) (hD.sub [0, 1] (by decide) rfl) hS
          · have h := h.2 k4
            refine lv_aload_n hx hb dX5_above_26 rfl (lv_at hl 0 rfl) ?_
            refine va_get (D := (dC, dI)) (ci := 5) (v := .ref a_knot) (C := RX5) (T := TX5) (N := 17) hx hb hts in5 hown hK hP 0 rfl rfl 13 (by decide) f36 (fun _ h9 => h9) rfl dX5_above_27 ?_
            refine lv_iload_n hx hb dX5_above_30 rfl (lv_at hl 3 rfl) ?_
            refine va_iald (D := (dC, dI)) hx hb hK hP 1 0 rfl rfl hi2 dX5_above_31 ?_
            refine lv_iload_n hx hb dX5_above_32 rfl (lv_at hl 1 rfl) ?_
            refine lv_icmp_eq (tgt := 38) hx hb dX5_above_33 (by decide) (fun k5 => ?_) (fun k5 => ?_)
            · have h := h.1 k5
              refine lv_iinc (v := x3 + 1) (lv' := [(3, .int (x3 + 1)), (0, .ref a_this), (1, .int x1), (2, .int x2)]) hx hb dX5_above_38 hl (k := 3) rfl rfl (by decide) rfl (fun ls hl => ?_)
              refine lv_goto (tgt := 2) hx hb dX5_above_41 (by decide) ?_
              exact ih2 (x3 + 1) h _ _ _ (reP hP [0, 1] rfl) (hD.sub [0, 1] (by decide) rfl) hS (lv_sub hl [1, 2, 3, 0] rfl)
            · have h := h.2 k5
              refine lv_iload_n hx hb dX5_above_36 rfl (lv_at hl 3 rfl) ?_
              exact ret _ _ _ _ x3 () dX5_above_37 h (reP hP [0, 1] rfl) (hD.sub [0, 1] (by decide) rfl) hS
  obtain ⟨n, h⟩ := h
  exact L2 n 0 h _ _ _ (reP hP [0, 1] rfl) (hD.sub [0, 1] (by decide) rfl) hS (lv_sub hl [1, 2, 3, 0] rfl)
/-! ### X5_partsOf partsOf(I)V -/
def rX5_partsOf : Room := { frames := 1, cells := 0, slots := 0, locals := 23 }
def q_X5_partsOf_J135 (x2 : Int32) (x3 : Int32) (x5 : Int32) (g_parts : Int32) (g_knot : Nat → Int32) (g_part : Nat → Int32) (k9 : Int32 → Int32 → Int32 → (Nat → Int32) → Prop) : Prop :=
  vp_in g_parts 8 ∧ vp_in x5 16 ∧ ∀ x2_3 : Int32, x2_3 = (x2 ||| (g_knot (Int32.toNatClampNeg x5))) → k9 x2_3 (x3 + 1) (g_parts + 1) (upd g_part (Int32.toNatClampNeg g_parts) x5)
def q_X5_partsOf_L84 (x1 : Int32) (x2 : Int32) (x3 : Int32) (x4 : Int32) (g_parts : Int32) (g_knot : Nat → Int32) (g_part : Nat → Int32) (k9 : Int32 → Int32 → Int32 → (Nat → Int32) → Prop) : Nat → Int32 → Int32 → Prop
  | 0 => fun _ _ => False
  | n + 1 => fun x5 x6 => (x1 ≤ x6 → q_X5_partsOf_J135 x2 x3 x5 g_parts g_knot g_part k9) ∧ (¬ x1 ≤ x6 → vp_in x6 16 ∧ (¬ (((g_knot (Int32.toNatClampNeg x6)) >>> (x4 &&& 31)) &&& 1) = 1 → (q_X5_partsOf_L84 x1 x2 x3 x4 g_parts g_knot g_part k9 n) x5 (x6 + 1)) ∧ ((((g_knot (Int32.toNatClampNeg x6)) >>> (x4 &&& 31)) &&& 1) = 1 → vp_in x1 16 ∧ (¬ ((g_knot (Int32.toNatClampNeg x6)) &&& ((g_knot (Int32.toNatClampNeg x1)) ^^^ (-1))) = 0 → (q_X5_partsOf_L84 x1 x2 x3 x4 g_parts g_knot g_part k9 n) x5 (x6 + 1)) ∧ (((g_knot (Int32.toNatClampNeg x6)) &&& ((g_knot (Int32.toNatClampNeg x1)) ^^^ (-1))) = 0 → (q_X5_partsOf_L84 x1 x2 x3 x4 g_parts g_knot g_part k9 n) x6 (x6 + 1))))
def q_X5_partsOf_L9 (x1 : Int32) (g_n : Int32) (g_knots : Int32) (g_good : Nat → Int32) (g_knot : Nat → Int32) (Q : Int32 → (Nat → Int32) → Prop) : Nat → Int32 → Int32 → Int32 → (Nat → Int32) → Prop
  | 0 => fun _ _ _ _ => False
  | n + 1 => fun x2 x3 g_parts g_part => (g_n ≤ x3 → Q g_parts g_part) ∧ (¬ g_n ≤ x3 → vp_in x1 16 ∧ q_X5_bits (g_knot (Int32.toNatClampNeg x1)) (fun r3 => (r3 ≤ 1 → Q g_parts g_part) ∧ (¬ r3 ≤ 1 → q_X5_columnAt g_n (g_good (Int32.toNatClampNeg 0)) x3 (fun r5 => ((((g_knot (Int32.toNatClampNeg x1)) >>> (r5 &&& 31)) &&& 1) = 0 → (q_X5_partsOf_L9 x1 g_n g_knots g_good g_knot Q n) x2 (x3 + 1) g_parts g_part) ∧ (¬ (((g_knot (Int32.toNatClampNeg x1)) >>> (r5 &&& 31)) &&& 1) = 0 → (¬ ((x2 >>> (r5 &&& 31)) &&& 1) = 1 → q_X5_above g_knots g_knot (1 <<< (r5 &&& 31)) (0 : Int32) (fun r8 => ∃ N : Nat, q_X5_partsOf_L84 x1 x2 x3 r5 g_parts g_knot g_part (fun y0 y1 y2 y3 => q_X5_partsOf_L9 x1 g_n g_knots g_good g_knot Q n y0 y1 y2 y3) N r8 0)) ∧ (((x2 >>> (r5 &&& 31)) &&& 1) = 1 → (q_X5_partsOf_L9 x1 g_n g_knots g_good g_knot Q n) x2 (x3 + 1) g_parts g_part))))))
def q_X5_partsOf (g_n : Int32) (g_knots : Int32) (g_parts : Int32) (g_good : Nat → Int32) (g_knot : Nat → Int32) (g_part : Nat → Int32) (x1 : Int32) (Q : Int32 → (Nat → Int32) → Prop) : Prop :=
  ∃ N : Nat, q_X5_partsOf_L9 x1 g_n g_knots g_good g_knot Q N 0 0 0 g_part
set_option maxRecDepth 100000 in
set_option maxHeartbeats 4000000 in
theorem c_X5_partsOf (l : Launch) (dC : Nat → ClassId) (dI : Nat → Nat → Nat) (cI cZ : ClassId) (a_this a_good a_knot a_part : Nat) (z_refusals z_lines z_set z_state z_weight z_all z_many z_goods z_trial z_isKnown z_always : Value) (g_n : Int32) (g_knots : Int32) (g_parts : Int32) (g_good : Nat → Int32) (g_knot : Nat → Int32) (g_part : Nat → Int32) (x1 : Int32) (Q : Int32 → (Nat → Int32) → Prop) (h : q_X5_partsOf g_n g_knots g_parts g_good g_knot g_part x1 Q) : MV l yX5_partsOf wsX5_partsOf rX5_partsOf (dC, dI) [(cI, .int), (cZ, .boolean)] [.ref a_this, .int x1] [(a_this, .inr (5, [z_refusals, .int g_n, z_lines, z_set, z_state, z_weight, z_all, .ref a_good, z_many, z_goods, z_trial, z_isKnown, z_always, .ref a_knot, .int g_knots, .ref a_part, .int g_parts])), (a_good, .inl (cI, 40320, .inl g_good)), (a_knot, .inl (cI, 16, .inl g_knot)), (a_part, .inl (cI, 8, .inl g_part))] (fun u : Int32 × (Nat → Int32) => Q u.1 u.2) (fun u : Int32 × (Nat → Int32) => [(a_this, .inr (5, [z_refusals, .int g_n, z_lines, z_set, z_state, z_weight, z_all, .ref a_good, z_many, z_goods, z_trial, z_isKnown, z_always, .ref a_knot, .int g_knots, .ref a_part, .int u.1])), (a_good, .inl (cI, 40320, .inl g_good)), (a_knot, .inl (cI, 16, .inl g_knot)), (a_part, .inl (cI, 8, .inl u.2))]) := by
  refine MV.of (cc := cX5_partsOf) (maxL := 7) (by decide +kernel) rfl (Nat.le_of_ble_eq_true rfl) ?_
  intro p e s m args below meth c A QQ ls hx hb hml hown hts hA hK hP hD hS hNW ret hl
  have hl : lv_has ls 7 [(0, .ref a_this), (1, .int x1)] := hl
  have hown : s.vm.findClass RX5 = some m.cls := hown
  have in5 : ∀ w ∈ u_ws RX5 TX5 17, w ∈ wsX5_partsOf := fun _ w9 => List.mem_cons_of_mem _ (List.mem_append_right _ w9)
  have f26 := hts (.fieldLink RX5 26 "OnesDeskModel" "good" "[I") (by decide +kernel)
  have f36 := hts (.fieldLink RX5 36 "OnesDeskModel" "knot" "[I") (by decide +kernel)
  have f39 := hts (.fieldLink RX5 39 "OnesDeskModel" "part" "[I") (by decide +kernel)
  have f46 := hts (.fieldLink RX5 46 "OnesDeskModel" "n" "I") (by decide +kernel)
  have f138 := hts (.fieldLink RX5 138 "OnesDeskModel" "parts" "I") (by decide +kernel)
  refine lv_aload_n hx hb dX5_partsOf_0 rfl (lv_at hl 0 rfl) ?_
  refine lv_iconst (v := 0) hx hb dX5_partsOf_1 (by decide) ?_
  refine va_put (D := (dC, dI)) (ci := 5) (v := .int 0) (ty := .int) (C := RX5) (T := TX5) (N := 17) hx hb hts in5 tyX5 tyX5_ok nmX5 hown hK hP hD hS 0 rfl rfl 16 (by decide) f138 (fun _ h9 => h9) rfl (by decide +kernel) rfl rfl (Nat.le_of_ble_eq_true rfl) dX5_partsOf_2 (fun H locs hP hD hS => ?_)
  have hP : va_P (dC, dI) vwCl [(a_this, .inr (5, [z_refusals, .int g_n, z_lines, z_set, z_state, z_weight, z_all, .ref a_good, z_many, z_goods, z_trial, z_isKnown, z_always, .ref a_knot, .int g_knots, .ref a_part, .int 0])), (a_good, .inl (cI, 40320, .inl g_good)), (a_knot, .inl (cI, 16, .inl g_knot)), (a_part, .inl (cI, 8, .inl g_part))] H := hP
  have hD : va_D A [(a_this, .inr (5, [z_refusals, .int g_n, z_lines, z_set, z_state, z_weight, z_all, .ref a_good, z_many, z_goods, z_trial, z_isKnown, z_always, .ref a_knot, .int g_knots, .ref a_part, .int 0])), (a_good, .inl (cI, 40320, .inl g_good)), (a_knot, .inl (cI, 16, .inl g_knot)), (a_part, .inl (cI, 8, .inl g_part))] := hD
  refine lv_iconst (v := 0) hx hb dX5_partsOf_5 (by decide) ?_
  refine lv_istore_n (lv' := [(2, .int 0), (0, .ref a_this), (1, .int x1)]) hx hb dX5_partsOf_6 rfl hl (by decide) rfl (fun ls hl => ?_)
  refine lv_iconst (v := 0) hx hb dX5_partsOf_7 (by decide) ?_
  refine lv_istore_n (lv' := [(3, .int 0), (2, .int 0), (0, .ref a_this), (1, .int x1)]) hx hb dX5_partsOf_8 rfl hl (by decide) rfl (fun ls hl => ?_)
  have L9 : ∀ (n9 : Nat), ∀ (x2 : Int32) (x3 : Int32) (g_parts : Int32) (g_part : Nat → Int32), q_X5_partsOf_L9 x1 g_n g_knots g_good g_knot Q n9 x2 x3 g_parts g_part → ∀ (H : Heap) (locs : List Loc) (ls : Array Slot), va_P (dC, dI) vwCl [(a_this, .inr (5, [z_refusals, .int g_n, z_lines, z_set, z_state, z_weight, z_all, .ref a_good, z_many, z_goods, z_trial, z_isKnown, z_always, .ref a_knot, .int g_knots, .ref a_part, .int g_parts])), (a_good, .inl (cI, 40320, .inl g_good)), (a_knot, .inl (cI, 16, .inl g_knot)), (a_part, .inl (cI, 8, .inl g_part))] H → va_D A [(a_this, .inr (5, [z_refusals, .int g_n, z_lines, z_set, z_state, z_weight, z_all, .ref a_good, z_many, z_goods, z_trial, z_isKnown, z_always, .ref a_knot, .int g_knots, .ref a_part, .int g_parts])), (a_good, .inl (cI, 40320, .inl g_good)), (a_knot, .inl (cI, 16, .inl g_knot)), (a_part, .inl (cI, 8, .inl g_part))] → va_S A s.heap H locs → lv_has ls 7 [(0, .ref a_this), (1, .int x1), (2, .int x2), (3, .int x3)] → W p l e rX5_partsOf s m args below meth c H locs 0 0 QQ (F0 m 9 ls []) := by
    intro n9
    induction n9 with
    | zero => intro x2 x3 g_parts g_part h; exact False.elim h
    | succ n9 ih9 =>
      intro x2 x3 g_parts g_part h H locs ls hP hD hS hl
      refine lv_iload_n hx hb dX5_partsOf_9 rfl (lv_at hl 3 rfl) ?_
      refine lv_aload_n hx hb dX5_partsOf_10 rfl (lv_at hl 0 rfl) ?_
      refine va_get (D := (dC, dI)) (ci := 5) (v := .int g_n) (C := RX5) (T := TX5) (N := 17) hx hb hts in5 hown hK hP 0 rfl rfl 1 (by decide) f46 (fun _ h9 => h9) rfl dX5_partsOf_11 ?_
      refine lv_icmp_ge (tgt := 172) hx hb dX5_partsOf_14 (by decide) (fun k1 => ?_) (fun k1 => ?_)
      · have h := h.1 k1
        exact ret _ _ _ _ (g_parts, g_part) dX5_partsOf_172 h (reP hP [0, 1, 2, 3] rfl) (hD.sub [0, 1, 2, 3] (by decide) rfl) hS
      · have h := h.2 k1
        refine lv_aload_n hx hb dX5_partsOf_17 rfl (lv_at hl 0 rfl) ?_
        refine va_get (D := (dC, dI)) (ci := 5) (v := .ref a_knot) (C := RX5) (T := TX5) (N := 17) hx hb hts in5 hown hK hP 0 rfl rfl 13 (by decide) f36 (fun _ h9 => h9) rfl dX5_partsOf_18 ?_
        refine lv_iload_n hx hb dX5_partsOf_21 rfl (lv_at hl 1 rfl) ?_
        obtain ⟨hi2, h⟩ := h
        refine va_iald (D := (dC, dI)) hx hb hK hP 2 0 rfl rfl hi2 dX5_partsOf_22 ?_
        refine MI.callS (As := [.int (g_knot (Int32.toNatClampNeg x1))]) (rest := []) (wr := [(a_this, .inr (5, [z_refusals, .int g_n, z_lines, z_set, z_state, z_weight, z_all, .ref a_good, z_many, z_goods, z_trial, z_isKnown, z_always, .ref a_knot, .int g_knots, .ref a_part, .int g_parts])), (a_good, .inl (cI, 40320, .inl g_good)), (a_knot, .inl (cI, 16, .inl g_knot)), (a_part, .inl (cI, 8, .inl g_part))]) (c_X5_bits l dC dI cI cZ (g_knot (Int32.toNatClampNeg x1)) _ h) ⟨hx, hb, hml, hown, hts⟩ (va_cwS 1 hts gX5_partsOf_X5_bits rfl rfl rfl (by decide +kernel) ⟨Nat.le_of_ble_eq_true rfl, Nat.le_of_ble_eq_true rfl⟩) hK hP hD hS hA hNW [] [0, 1, 2, 3] rfl rfl (by decide) (by decide) (by decide) rfl hl.1 rfl (Nat.le_of_ble_eq_true rfl) dX5_partsOf_23 ⟨Nat.zero_le _, Nat.zero_le _⟩ (fun r3 u H locs hw hP hD hS => ?_)
        have h := hw
        try dsimp only at h
        have hP : va_P (dC, dI) vwCl [(a_this, .inr (5, [z_refusals, .int g_n, z_lines, z_set, z_state, z_weight, z_all, .ref a_good, z_many, z_goods, z_trial, z_isKnown, z_always, .ref a_knot, .int g_knots, .ref a_part, .int g_parts])), (a_good, .inl (cI, 40320, .inl g_good)), (a_knot, .inl (cI, 16, .inl g_knot)), (a_part, .inl (cI, 8, .inl g_part))] H := hP
        have hD : va_D A [(a_this, .inr (5, [z_refusals, .int g_n, z_lines, z_set, z_state, z_weight, z_all, .ref a_good, z_many, z_goods, z_trial, z_isKnown, z_always, .ref a_knot, .int g_knots, .ref a_part, .int g_parts])), (a_good, .inl (cI, 40320, .inl g_good)), (a_knot, .inl (cI, 16, .inl g_knot)), (a_part, .inl (cI, 8, .inl g_part))] := hD
        refine lv_iconst (v := 1) hx hb dX5_partsOf_26 (by decide) ?_
        refine lv_icmp_le (tgt := 172) hx hb dX5_partsOf_27 (by decide) (fun k4 => ?_) (fun k4 => ?_)
        · have h := h.1 k4
          exact ret _ _ _ _ (g_parts, g_part) dX5_partsOf_172 h (reP hP [0, 1, 2, 3] rfl) (hD.sub [0, 1, 2, 3] (by decide) rfl) hS
        · have h := h.2 k4
          refine lv_aload_n hx hb dX5_partsOf_30 rfl (lv_at hl 0 rfl) ?_
          refine lv_aload_n hx hb dX5_partsOf_31 rfl (lv_at hl 0 rfl) ?_
          refine va_get (D := (dC, dI)) (ci := 5) (v := .ref a_good) (C := RX5) (T := TX5) (N := 17) hx hb hts in5 hown hK hP 0 rfl rfl 7 (by decide) f26 (fun _ h9 => h9) rfl dX5_partsOf_32 ?_
          refine lv_iconst (v := 0) hx hb dX5_partsOf_35 (by decide) ?_
          refine va_iald (D := (dC, dI)) hx hb hK hP 1 0 rfl rfl (show ¬ (_ ∨ _) by decide) dX5_partsOf_36 ?_
          refine lv_iload_n hx hb dX5_partsOf_37 rfl (lv_at hl 3 rfl) ?_
          refine MI.callV (As := [.int (g_good (Int32.toNatClampNeg 0)), .int x3]) (rest := []) (wr := [(a_good, .inl (cI, 40320, .inl g_good)), (a_knot, .inl (cI, 16, .inl g_knot)), (a_part, .inl (cI, 8, .inl g_part))]) (ci := 5) (q0 := 0) (c_X5_columnAt l dC dI cI cZ a_this z_refusals z_lines z_set z_state z_weight z_all (.ref a_good) z_many z_goods z_trial z_isKnown z_always (.ref a_knot) (.int g_knots) (.ref a_part) (.int g_parts) g_n (g_good (Int32.toNatClampNeg 0)) x3 _ h) ⟨hx, hb, hml, hown, hts⟩ (cwV 2 hts gX5_partsOf_X5_columnAt rfl rfl rfl (by decide +kernel) ⟨Nat.le_of_ble_eq_true rfl, Nat.le_of_ble_eq_true rfl⟩) hK hP hD hS hA hNW [0] [1, 2, 3] rfl rfl (by decide) (by decide) (by decide) rfl rfl rfl rfl hl.1 rfl (Nat.le_of_ble_eq_true rfl) dX5_partsOf_38 ⟨Nat.zero_le _, Nat.zero_le _⟩ (fun r5 u H locs hw hP hD hS => ?_)
          have h := hw
          try dsimp only at h
          have hP : va_P (dC, dI) vwCl [(a_good, .inl (cI, 40320, .inl g_good)), (a_knot, .inl (cI, 16, .inl g_knot)), (a_part, .inl (cI, 8, .inl g_part)), (a_this, .inr (5, [z_refusals, .int g_n, z_lines, z_set, z_state, z_weight, z_all, .ref a_good, z_many, z_goods, z_trial, z_isKnown, z_always, .ref a_knot, .int g_knots, .ref a_part, .int g_parts]))] H := hP
          have hD : va_D A [(a_good, .inl (cI, 40320, .inl g_good)), (a_knot, .inl (cI, 16, .inl g_knot)), (a_part, .inl (cI, 8, .inl g_part)), (a_this, .inr (5, [z_refusals, .int g_n, z_lines, z_set, z_state, z_weight, z_all, .ref a_good, z_many, z_goods, z_trial, z_isKnown, z_always, .ref a_knot, .int g_knots, .ref a_part, .int g_parts]))] := hD
          refine lv_istore (lv' := [(4, .int r5), (0, .ref a_this), (1, .int x1), (2, .int x2), (3, .int x3)]) hx hb dX5_partsOf_41 hl (by decide) rfl (fun ls hl => ?_)
          refine lv_aload_n hx hb dX5_partsOf_43 rfl (lv_at hl 1 rfl) ?_
          refine va_get (D := (dC, dI)) (ci := 5) (v := .ref a_knot) (C := RX5) (T := TX5) (N := 17) hx hb hts in5 hown hK hP 3 rfl rfl 13 (by decide) f36 (fun _ h9 => h9) rfl dX5_partsOf_44 ?_
          refine lv_iload_n hx hb dX5_partsOf_47 rfl (lv_at hl 2 rfl) ?_
          refine va_iald (D := (dC, dI)) hx hb hK hP 1 0 rfl rfl hi2 dX5_partsOf_48 ?_
          refine lv_iload hx hb dX5_partsOf_49 (lv_at hl 0 rfl) ?_
          refine lv_ishr hx hb dX5_partsOf_51 ?_
          refine lv_iconst (v := 1) hx hb dX5_partsOf_52 (by decide) ?_
          refine lv_iand hx hb dX5_partsOf_53 ?_
          refine lv_if_eq (tgt := 166) hx hb dX5_partsOf_54 (by decide) (fun k6 => ?_) (fun k6 => ?_)
          · have h := h.1 k6
            refine lv_iinc (v := x3 + 1) (lv' := [(3, .int (x3 + 1)), (4, .int r5), (0, .ref a_this), (1, .int x1), (2, .int x2)]) hx hb dX5_partsOf_166 hl (k := 4) rfl rfl (by decide) rfl (fun ls hl => ?_)
            refine lv_goto (tgt := 9) hx hb dX5_partsOf_169 (by decide) ?_
            exact ih9 x2 (x3 + 1) g_parts g_part h _ _ _ (reP hP [3, 0, 1, 2] rfl) (hD.sub [3, 0, 1, 2] (by decide) rfl) hS (lv_sub hl [2, 3, 4, 0] rfl)
          · have h := h.2 k6
            refine lv_iload_n hx hb dX5_partsOf_57 rfl (lv_at hl 3 rfl) ?_
            refine lv_iload hx hb dX5_partsOf_58 (lv_at hl 0 rfl) ?_
            refine lv_ishr hx hb dX5_partsOf_60 ?_
            refine lv_iconst (v := 1) hx hb dX5_partsOf_61 (by decide) ?_
            refine lv_iand hx hb dX5_partsOf_62 ?_
            refine lv_iconst (v := 1) hx hb dX5_partsOf_63 (by decide) ?_
            refine lv_icmp_ne (tgt := 70) hx hb dX5_partsOf_64 (by decide) (fun k7 => ?_) (fun k7 => ?_)
            · have h := h.1 k7
              refine lv_aload_n hx hb dX5_partsOf_70 rfl (lv_at hl 1 rfl) ?_
              refine lv_iconst (v := 1) hx hb dX5_partsOf_71 (by decide) ?_
              refine lv_iload hx hb dX5_partsOf_72 (lv_at hl 0 rfl) ?_
              refine lv_ishl hx hb dX5_partsOf_74 ?_
              refine lv_iconst (v := 0) hx hb dX5_partsOf_75 (by decide) ?_
              refine MI.callV (As := [.int (1 <<< (r5 &&& 31)), .int 0]) (rest := []) (wr := [(a_good, .inl (cI, 40320, .inl g_good)), (a_part, .inl (cI, 8, .inl g_part))]) (ci := 5) (q0 := 0) (c_X5_above l dC dI cI cZ a_this a_knot z_refusals (.int g_n) z_lines z_set z_state z_weight z_all (.ref a_good) z_many z_goods z_trial z_isKnown z_always (.ref a_part) (.int g_parts) g_knots g_knot (1 <<< (r5 &&& 31)) (0 : Int32) _ h) ⟨hx, hb, hml, hown, hts⟩ (cwV 2 hts gX5_partsOf_X5_above rfl rfl rfl (by decide +kernel) ⟨Nat.le_of_ble_eq_true rfl, Nat.le_of_ble_eq_true rfl⟩) hK hP hD hS hA hNW [3, 1] [0, 2] rfl rfl (by decide) (by decide) (by decide) rfl rfl rfl rfl hl.1 rfl (Nat.le_of_ble_eq_true rfl) dX5_partsOf_76 ⟨Nat.zero_le _, Nat.zero_le _⟩ (fun r8 u H locs hw hP hD hS => ?_)
              have h := hw
              try dsimp only at h
              have hP : va_P (dC, dI) vwCl [(a_good, .inl (cI, 40320, .inl g_good)), (a_part, .inl (cI, 8, .inl g_part)), (a_this, .inr (5, [z_refusals, .int g_n, z_lines, z_set, z_state, z_weight, z_all, .ref a_good, z_many, z_goods, z_trial, z_isKnown, z_always, .ref a_knot, .int g_knots, .ref a_part, .int g_parts])), (a_knot, .inl (cI, 16, .inl g_knot))] H := hP
              have hD : va_D A [(a_good, .inl (cI, 40320, .inl g_good)), (a_part, .inl (cI, 8, .inl g_part)), (a_this, .inr (5, [z_refusals, .int g_n, z_lines, z_set, z_state, z_weight, z_all, .ref a_good, z_many, z_goods, z_trial, z_isKnown, z_always, .ref a_knot, .int g_knots, .ref a_part, .int g_parts])), (a_knot, .inl (cI, 16, .inl g_knot))] := hD
              refine lv_istore (lv' := [(5, .int r8), (4, .int r5), (0, .ref a_this), (1, .int x1), (2, .int x2), (3, .int x3)]) hx hb dX5_partsOf_79 hl (by decide) rfl (fun ls hl => ?_)
              refine lv_iconst (v := 0) hx hb dX5_partsOf_81 (by decide) ?_
              refine lv_istore (lv' := [(6, .int 0), (5, .int r8), (4, .int r5), (0, .ref a_this), (1, .int x1), (2, .int x2), (3, .int x3)]) hx hb dX5_partsOf_82 hl (by decide) rfl (fun ls hl => ?_)
              have L84 : ∀ (x4 : Int32), ∀ (n84 : Nat), ∀ (x5 : Int32) (x6 : Int32), q_X5_partsOf_L84 x1 x2 x3 x4 g_parts g_knot g_part (q_X5_partsOf_L9 x1 g_n g_knots g_good g_knot Q n9) n84 x5 x6 → ∀ (H : Heap) (locs : List Loc) (ls : Array Slot), va_P (dC, dI) vwCl [(a_this, .inr (5, [z_refusals, .int g_n, z_lines, z_set, z_state, z_weight, z_all, .ref a_good, z_many, z_goods, z_trial, z_isKnown, z_always, .ref a_knot, .int g_knots, .ref a_part, .int g_parts])), (a_good, .inl (cI, 40320, .inl g_good)), (a_knot, .inl (cI, 16, .inl g_knot)), (a_part, .inl (cI, 8, .inl g_part))] H → va_D A [(a_this, .inr (5, [z_refusals, .int g_n, z_lines, z_set, z_state, z_weight, z_all, .ref a_good, z_many, z_goods, z_trial, z_isKnown, z_always, .ref a_knot, .int g_knots, .ref a_part, .int g_parts])), (a_good, .inl (cI, 40320, .inl g_good)), (a_knot, .inl (cI, 16, .inl g_knot)), (a_part, .inl (cI, 8, .inl g_part))] → va_S A s.heap H locs → lv_has ls 7 [(0, .ref a_this), (1, .int x1), (2, .int x2), (3, .int x3), (4, .int x4), (5, .int x5), (6, .int x6)] → W p l e rX5_partsOf s m args below meth c H locs 0 0 QQ (F0 m 84 ls []) := by
                intro x4
                intro n84
                induction n84 with
                | zero => intro x5 x6 h; exact False.elim h
                | succ n84 ih84 =>
                  intro x5 x6 h H locs ls hP hD hS hl
                  refine lv_iload hx hb dX5_partsOf_84 (lv_at hl 6 rfl) ?_
                  refine lv_iload_n hx hb dX5_partsOf_86 rfl (lv_at hl 1 rfl) ?_
                  refine lv_icmp_ge (tgt := 135) hx hb dX5_partsOf_87 (by decide) (fun k1 => ?_) (fun k1 => ?_)
                  · have h := h.1 k1
                    have J135 : q_X5_partsOf_J135 x2 x3 x5 g_parts g_knot g_part (q_X5_partsOf_L9 x1 g_n g_knots g_good g_knot Q n9) → ∀ (H : Heap) (locs : List Loc) (ls : Array Slot), va_P (dC, dI) vwCl [(a_this, .inr (5, [z_refusals, .int g_n, z_lines, z_set, z_state, z_weight, z_all, .ref a_good, z_many, z_goods, z_trial, z_isKnown, z_always, .ref a_knot, .int g_knots, .ref a_part, .int g_parts])), (a_good, .inl (cI, 40320, .inl g_good)), (a_knot, .inl (cI, 16, .inl g_knot)), (a_part, .inl (cI, 8, .inl g_part))] H → va_D A [(a_this, .inr (5, [z_refusals, .int g_n, z_lines, z_set, z_state, z_weight, z_all, .ref a_good, z_many, z_goods, z_trial, z_isKnown, z_always, .ref a_knot, .int g_knots, .ref a_part, .int g_parts])), (a_good, .inl (cI, 40320, .inl g_good)), (a_knot, .inl (cI, 16, .inl g_knot)), (a_part, .inl (cI, 8, .inl g_part))] → va_S A s.heap H locs → lv_has ls 7 [(0, .ref a_this), (1, .int x1), (2, .int x2), (3, .int x3), (5, .int x5)] → W p l e rX5_partsOf s m args below meth c H locs 0 0 QQ (F0 m 135 ls []) := by
                      intro  h H locs ls hP hD hS hl
                      refine lv_aload_n hx hb dX5_partsOf_135 rfl (lv_at hl 0 rfl) ?_
                      refine va_get (D := (dC, dI)) (ci := 5) (v := .ref a_part) (C := RX5) (T := TX5) (N := 17) hx hb hts in5 hown hK hP 0 rfl rfl 15 (by decide) f39 (fun _ h9 => h9) rfl dX5_partsOf_136 ?_
                      refine lv_aload_n hx hb dX5_partsOf_139 rfl (lv_at hl 0 rfl) ?_
                      refine va_get (D := (dC, dI)) (ci := 5) (v := .int g_parts) (C := RX5) (T := TX5) (N := 17) hx hb hts in5 hown hK hP 0 rfl rfl 16 (by decide) f138 (fun _ h9 => h9) rfl dX5_partsOf_140 ?_
                      refine lv_iload hx hb dX5_partsOf_143 (lv_at hl 4 rfl) ?_
                      obtain ⟨hi1, h⟩ := h
                      refine va_iast (D := (dC, dI)) hx hb hK hP hD hS 3 0 rfl rfl hi1 dX5_partsOf_145 (fun H locs hP hD hS => ?_)
                      have hP : va_P (dC, dI) vwCl [(a_this, .inr (5, [z_refusals, .int g_n, z_lines, z_set, z_state, z_weight, z_all, .ref a_good, z_many, z_goods, z_trial, z_isKnown, z_always, .ref a_knot, .int g_knots, .ref a_part, .int g_parts])), (a_good, .inl (cI, 40320, .inl g_good)), (a_knot, .inl (cI, 16, .inl g_knot)), (a_part, .inl (cI, 8, .inl (upd g_part (Int32.toNatClampNeg g_parts) x5)))] H := hP
                      have hD : va_D A [(a_this, .inr (5, [z_refusals, .int g_n, z_lines, z_set, z_state, z_weight, z_all, .ref a_good, z_many, z_goods, z_trial, z_isKnown, z_always, .ref a_knot, .int g_knots, .ref a_part, .int g_parts])), (a_good, .inl (cI, 40320, .inl g_good)), (a_knot, .inl (cI, 16, .inl g_knot)), (a_part, .inl (cI, 8, .inl (upd g_part (Int32.toNatClampNeg g_parts) x5)))] := hD
                      refine lv_aload_n hx hb dX5_partsOf_146 rfl (lv_at hl 0 rfl) ?_
                      refine lv_dup hx hb dX5_partsOf_147 rfl ?_
                      refine va_get (D := (dC, dI)) (ci := 5) (v := .int g_parts) (C := RX5) (T := TX5) (N := 17) hx hb hts in5 hown hK hP 0 rfl rfl 16 (by decide) f138 (fun _ h9 => h9) rfl dX5_partsOf_148 ?_
                      refine lv_iconst (v := 1) hx hb dX5_partsOf_151 (by decide) ?_
                      refine lv_iadd hx hb dX5_partsOf_152 ?_
                      refine va_put (D := (dC, dI)) (ci := 5) (v := .int (g_parts + 1)) (ty := .int) (C := RX5) (T := TX5) (N := 17) hx hb hts in5 tyX5 tyX5_ok nmX5 hown hK hP hD hS 0 rfl rfl 16 (by decide) f138 (fun _ h9 => h9) rfl (by decide +kernel) rfl rfl (Nat.le_of_ble_eq_true rfl) dX5_partsOf_153 (fun H locs hP hD hS => ?_)
                      have hP : va_P (dC, dI) vwCl [(a_this, .inr (5, [z_refusals, .int g_n, z_lines, z_set, z_state, z_weight, z_all, .ref a_good, z_many, z_goods, z_trial, z_isKnown, z_always, .ref a_knot, .int g_knots, .ref a_part, .int (g_parts + 1)])), (a_good, .inl (cI, 40320, .inl g_good)), (a_knot, .inl (cI, 16, .inl g_knot)), (a_part, .inl (cI, 8, .inl (upd g_part (Int32.toNatClampNeg g_parts) x5)))] H := hP
                      have hD : va_D A [(a_this, .inr (5, [z_refusals, .int g_n, z_lines, z_set, z_state, z_weight, z_all, .ref a_good, z_many, z_goods, z_trial, z_isKnown, z_always, .ref a_knot, .int g_knots, .ref a_part, .int (g_parts + 1)])), (a_good, .inl (cI, 40320, .inl g_good)), (a_knot, .inl (cI, 16, .inl g_knot)), (a_part, .inl (cI, 8, .inl (upd g_part (Int32.toNatClampNeg g_parts) x5)))] := hD
                      refine lv_iload_n hx hb dX5_partsOf_156 rfl (lv_at hl 2 rfl) ?_
                      refine lv_aload_n hx hb dX5_partsOf_157 rfl (lv_at hl 0 rfl) ?_
                      refine va_get (D := (dC, dI)) (ci := 5) (v := .ref a_knot) (C := RX5) (T := TX5) (N := 17) hx hb hts in5 hown hK hP 0 rfl rfl 13 (by decide) f36 (fun _ h9 => h9) rfl dX5_partsOf_158 ?_
                      refine lv_iload hx hb dX5_partsOf_161 (lv_at hl 4 rfl) ?_
                      obtain ⟨hi2, h⟩ := h
                      refine va_iald (D := (dC, dI)) hx hb hK hP 2 0 rfl rfl hi2 dX5_partsOf_163 ?_
                      refine lv_ior hx hb dX5_partsOf_164 ?_
                      refine lv_topi (fun x2_3 ex2_3 => ?_)
                      have h := h x2_3 ex2_3
                      refine lv_istore_n (lv' := [(2, .int x2_3), (0, .ref a_this), (1, .int x1), (3, .int x3), (5, .int x5)]) hx hb dX5_partsOf_165 rfl hl (by decide) rfl (fun ls hl => ?_)
                      refine lv_iinc (v := x3 + 1) (lv' := [(3, .int (x3 + 1)), (2, .int x2_3), (0, .ref a_this), (1, .int x1), (5, .int x5)]) hx hb dX5_partsOf_166 hl (k := 3) rfl rfl (by decide) rfl (fun ls hl => ?_)
                      refine lv_goto (tgt := 9) hx hb dX5_partsOf_169 (by decide) ?_
                      exact ih9 x2_3 (x3 + 1) (g_parts + 1) (upd g_part (Int32.toNatClampNeg g_parts) x5) h _ _ _ (reP hP [0, 1, 2, 3] rfl) (hD.sub [0, 1, 2, 3] (by decide) rfl) hS (lv_sub hl [2, 3, 1, 0] rfl)
                    exact J135 h _ _ _ (reP hP [0, 1, 2, 3] rfl) (hD.sub [0, 1, 2, 3] (by decide) rfl) hS (lv_sub hl [0, 1, 2, 3, 5] rfl)
                  · have h := h.2 k1
                    refine lv_aload_n hx hb dX5_partsOf_90 rfl (lv_at hl 0 rfl) ?_
                    refine va_get (D := (dC, dI)) (ci := 5) (v := .ref a_knot) (C := RX5) (T := TX5) (N := 17) hx hb hts in5 hown hK hP 0 rfl rfl 13 (by decide) f36 (fun _ h9 => h9) rfl dX5_partsOf_91 ?_
                    refine lv_iload hx hb dX5_partsOf_94 (lv_at hl 6 rfl) ?_
                    obtain ⟨hi2, h⟩ := h
                    refine va_iald (D := (dC, dI)) hx hb hK hP 2 0 rfl rfl hi2 dX5_partsOf_96 ?_
                    refine lv_iload hx hb dX5_partsOf_97 (lv_at hl 4 rfl) ?_
                    refine lv_ishr hx hb dX5_partsOf_99 ?_
                    refine lv_iconst (v := 1) hx hb dX5_partsOf_100 (by decide) ?_
                    refine lv_iand hx hb dX5_partsOf_101 ?_
                    refine lv_iconst (v := 1) hx hb dX5_partsOf_102 (by decide) ?_
                    refine lv_icmp_ne (tgt := 129) hx hb dX5_partsOf_103 (by decide) (fun k3 => ?_) (fun k3 => ?_)
                    · have h := h.1 k3
                      refine lv_iinc (v := x6 + 1) (lv' := [(6, .int (x6 + 1)), (0, .ref a_this), (1, .int x1), (2, .int x2), (3, .int x3), (4, .int x4), (5, .int x5)]) hx hb dX5_partsOf_129 hl (k := 6) rfl rfl (by decide) rfl (fun ls hl => ?_)
                      refine lv_goto (tgt := 84) hx hb dX5_partsOf_132 (by decide) ?_
                      exact ih84 x5 (x6 + 1) h _ _ _ (reP hP [0, 1, 2, 3] rfl) (hD.sub [0, 1, 2, 3] (by decide) rfl) hS (lv_sub hl [1, 2, 3, 4, 5, 6, 0] rfl)
                    · have h := h.2 k3
                      refine lv_aload_n hx hb dX5_partsOf_106 rfl (lv_at hl 0 rfl) ?_
                      refine va_get (D := (dC, dI)) (ci := 5) (v := .ref a_knot) (C := RX5) (T := TX5) (N := 17) hx hb hts in5 hown hK hP 0 rfl rfl 13 (by decide) f36 (fun _ h9 => h9) rfl dX5_partsOf_107 ?_
                      refine lv_iload hx hb dX5_partsOf_110 (lv_at hl 6 rfl) ?_
                      refine va_iald (D := (dC, dI)) hx hb hK hP 2 0 rfl rfl hi2 dX5_partsOf_112 ?_
                      refine lv_aload_n hx hb dX5_partsOf_113 rfl (lv_at hl 0 rfl) ?_
                      refine va_get (D := (dC, dI)) (ci := 5) (v := .ref a_knot) (C := RX5) (T := TX5) (N := 17) hx hb hts in5 hown hK hP 0 rfl rfl 13 (by decide) f36 (fun _ h9 => h9) rfl dX5_partsOf_114 ?_
                      refine lv_iload_n hx hb dX5_partsOf_117 rfl (lv_at hl 1 rfl) ?_
                      obtain ⟨hi4, h⟩ := h
                      refine va_iald (D := (dC, dI)) hx hb hK hP 2 0 rfl rfl hi4 dX5_partsOf_118 ?_
                      refine lv_iconst (v := (-1)) hx hb dX5_partsOf_119 (by decide) ?_
                      refine lv_ixor hx hb dX5_partsOf_120 ?_
                      refine lv_iand hx hb dX5_partsOf_121 ?_
                      refine lv_if_ne (tgt := 129) hx hb dX5_partsOf_122 (by decide) (fun k5 => ?_) (fun k5 => ?_)
                      · have h := h.1 k5
                        refine lv_iinc (v := x6 + 1) (lv' := [(6, .int (x6 + 1)), (0, .ref a_this), (1, .int x1), (2, .int x2), (3, .int x3), (4, .int x4), (5, .int x5)]) hx hb dX5_partsOf_129 hl (k := 6) rfl rfl (by decide) rfl (fun ls hl => ?_)
                        refine lv_goto (tgt := 84) hx hb dX5_partsOf_132 (by decide) ?_
                        exact ih84 x5 (x6 + 1) h _ _ _ (reP hP [0, 1, 2, 3] rfl) (hD.sub [0, 1, 2, 3] (by decide) rfl) hS (lv_sub hl [1, 2, 3, 4, 5, 6, 0] rfl)
                      · have h := h.2 k5
                        refine lv_iload hx hb dX5_partsOf_125 (lv_at hl 6 rfl) ?_
                        refine lv_istore (lv' := [(5, .int x6), (0, .ref a_this), (1, .int x1), (2, .int x2), (3, .int x3), (4, .int x4), (6, .int x6)]) hx hb dX5_partsOf_127 hl (by decide) rfl (fun ls hl => ?_)
                        refine lv_iinc (v := x6 + 1) (lv' := [(6, .int (x6 + 1)), (5, .int x6), (0, .ref a_this), (1, .int x1), (2, .int x2), (3, .int x3), (4, .int x4)]) hx hb dX5_partsOf_129 hl (k := 6) rfl rfl (by decide) rfl (fun ls hl => ?_)
                        refine lv_goto (tgt := 84) hx hb dX5_partsOf_132 (by decide) ?_
                        exact ih84 x6 (x6 + 1) h _ _ _ (reP hP [0, 1, 2, 3] rfl) (hD.sub [0, 1, 2, 3] (by decide) rfl) hS (lv_sub hl [2, 3, 4, 5, 6, 1, 0] rfl)
              obtain ⟨n, h⟩ := h
              exact L84 r5 n r8 0 h _ _ _ (reP hP [2, 0, 3, 1] rfl) (hD.sub [2, 0, 3, 1] (by decide) rfl) hS (lv_sub hl [3, 4, 5, 6, 2, 1, 0] rfl)
            · have h := h.2 k7
              refine lv_goto (tgt := 166) hx hb dX5_partsOf_67 (by decide) ?_
              refine lv_iinc (v := x3 + 1) (lv' := [(3, .int (x3 + 1)), (4, .int r5), (0, .ref a_this), (1, .int x1), (2, .int x2)]) hx hb dX5_partsOf_166 hl (k := 4) rfl rfl (by decide) rfl (fun ls hl => ?_)
              refine lv_goto (tgt := 9) hx hb dX5_partsOf_169 (by decide) ?_
              exact ih9 x2 (x3 + 1) g_parts g_part h _ _ _ (reP hP [3, 0, 1, 2] rfl) (hD.sub [3, 0, 1, 2] (by decide) rfl) hS (lv_sub hl [2, 3, 4, 0] rfl)
  obtain ⟨n, h⟩ := h
  exact L9 n 0 0 0 g_part h _ _ _ (reP hP [0, 1, 2, 3] rfl) (hD.sub [0, 1, 2, 3] (by decide) rfl) hS (lv_sub hl [2, 3, 1, 0] rfl)
/-! ### X5_knot knot(II)I -/
def rX5_knot : Room := { frames := 5, cells := 0, slots := 0, locals := 116 }
def q_X5_knot (g_n : Int32) (g_goods : Int32) (g_isKnown : Int32) (g_knots : Int32) (g_parts : Int32) (g_refusals : Nat → Int32) (g_good : Nat → Int32) (g_always : Nat → Int32) (g_knot : Nat → Int32) (g_part : Nat → Int32) (x1 : Int32) (x2 : Int32) (Q : Int32 → Int32 → Int32 → Int32 → (Nat → Int32) → (Nat → Int32) → (Nat → Int32) → (Nat → Int32) → Prop) : Prop :=
  q_X5_know g_n g_goods g_isKnown g_knots g_good g_always g_knot (fun g_isKnown_1 g_knots_2 g_always_3 g_knot_4 => q_X5_isIn x1 g_knots_2 (fun b6 => (b6 = true → q_X5_partsOf g_n g_knots_2 g_parts g_good g_knot_4 g_part x1 (fun g_parts_8 g_part_9 => (x2 = 0 → vp_in x1 16 ∧ Q (g_knot_4 (Int32.toNatClampNeg x1)) g_isKnown_1 g_knots_2 g_parts_8 g_refusals g_always_3 g_knot_4 g_part_9) ∧ (x2 = 1 → (3 ≤ g_parts_8 → vp_in (g_part_9 (Int32.toNatClampNeg 0)) 16 ∧ vp_in (g_part_9 (Int32.toNatClampNeg 1)) 16 ∧ vp_in ((g_knot_4 (Int32.toNatClampNeg (g_part_9 (Int32.toNatClampNeg 0)))) ||| (g_knot_4 (Int32.toNatClampNeg (g_part_9 (Int32.toNatClampNeg 1))))) 256 ∧ ((g_always_3 (Int32.toNatClampNeg ((g_knot_4 (Int32.toNatClampNeg (g_part_9 (Int32.toNatClampNeg 0)))) ||| (g_knot_4 (Int32.toNatClampNeg (g_part_9 (Int32.toNatClampNeg 1))))))) = 0 → Q 2 g_isKnown_1 g_knots_2 g_parts_8 g_refusals g_always_3 g_knot_4 g_part_9) ∧ (¬ (g_always_3 (Int32.toNatClampNeg ((g_knot_4 (Int32.toNatClampNeg (g_part_9 (Int32.toNatClampNeg 0)))) ||| (g_knot_4 (Int32.toNatClampNeg (g_part_9 (Int32.toNatClampNeg 1))))))) = 0 → Q 3 g_isKnown_1 g_knots_2 g_parts_8 g_refusals g_always_3 g_knot_4 g_part_9)) ∧ (¬ 3 ≤ g_parts_8 → Q (g_parts_8 / 2) g_isKnown_1 g_knots_2 g_parts_8 g_refusals g_always_3 g_knot_4 g_part_9)) ∧ (x2 = 2 → Q g_parts_8 g_isKnown_1 g_knots_2 g_parts_8 g_refusals g_always_3 g_knot_4 g_part_9) ∧ (x2 = 3 → vp_in x1 16 ∧ q_X5_above g_knots_2 g_knot_4 (g_knot_4 (Int32.toNatClampNeg x1)) (1 : Int32) (fun r17 => Q r17 g_isKnown_1 g_knots_2 g_parts_8 g_refusals g_always_3 g_knot_4 g_part_9)) ∧ (¬ x2 = 0 ∧ ¬ x2 = 1 ∧ ¬ x2 = 2 ∧ ¬ x2 = 3 → (x2 ≤ 3 → q_X5_refuse g_refusals ((-2) : Int32) (fun r20 g_refusals_19 => Q r20 g_isKnown_1 g_knots_2 g_parts_8 g_refusals_19 g_always_3 g_knot_4 g_part_9)) ∧ (¬ x2 ≤ 3 → (g_parts_8 ≤ (x2 - 4) → q_X5_refuse g_refusals ((-2) : Int32) (fun r23 g_refusals_22 => Q r23 g_isKnown_1 g_knots_2 g_parts_8 g_refusals_22 g_always_3 g_knot_4 g_part_9)) ∧ (¬ g_parts_8 ≤ (x2 - 4) → vp_in (x2 - 4) 8 ∧ Q (g_part_9 (Int32.toNatClampNeg (x2 - 4))) g_isKnown_1 g_knots_2 g_parts_8 g_refusals g_always_3 g_knot_4 g_part_9))))) ∧ (b6 = false → q_X5_refuse g_refusals ((-1) : Int32) (fun r26 g_refusals_25 => Q r26 g_isKnown_1 g_knots_2 g_parts g_refusals_25 g_always_3 g_knot_4 g_part))))
set_option maxRecDepth 100000 in
set_option maxHeartbeats 4000000 in
theorem c_X5_knot (l : Launch) (dC : Nat → ClassId) (dI : Nat → Nat → Nat) (cI cZ : ClassId) (a_this a_refusals a_good a_always a_knot a_part : Nat) (z_lines z_set z_state z_weight z_all z_many z_trial : Value) (g_n : Int32) (g_goods : Int32) (g_isKnown : Int32) (g_knots : Int32) (g_parts : Int32) (g_refusals : Nat → Int32) (g_good : Nat → Int32) (g_always : Nat → Int32) (g_knot : Nat → Int32) (g_part : Nat → Int32) (x1 : Int32) (x2 : Int32) (Q : Int32 → Int32 → Int32 → Int32 → (Nat → Int32) → (Nat → Int32) → (Nat → Int32) → (Nat → Int32) → Prop) (h : q_X5_knot g_n g_goods g_isKnown g_knots g_parts g_refusals g_good g_always g_knot g_part x1 x2 Q) : MI l yX5_knot wsX5_knot rX5_knot (dC, dI) [(cI, .int), (cZ, .boolean)] [.ref a_this, .int x1, .int x2] [(a_this, .inr (5, [.ref a_refusals, .int g_n, z_lines, z_set, z_state, z_weight, z_all, .ref a_good, z_many, .int g_goods, z_trial, .int g_isKnown, .ref a_always, .ref a_knot, .int g_knots, .ref a_part, .int g_parts])), (a_refusals, .inl (cI, 7, .inl g_refusals)), (a_good, .inl (cI, 40320, .inl g_good)), (a_always, .inl (cZ, 256, .inl g_always)), (a_knot, .inl (cI, 16, .inl g_knot)), (a_part, .inl (cI, 8, .inl g_part))] (fun (r : Int32) (u : Int32 × Int32 × Int32 × (Nat → Int32) × (Nat → Int32) × (Nat → Int32) × (Nat → Int32)) => Q r u.1 u.2.1 u.2.2.1 u.2.2.2.1 u.2.2.2.2.1 u.2.2.2.2.2.1 u.2.2.2.2.2.2) (fun u : Int32 × Int32 × Int32 × (Nat → Int32) × (Nat → Int32) × (Nat → Int32) × (Nat → Int32) => [(a_this, .inr (5, [.ref a_refusals, .int g_n, z_lines, z_set, z_state, z_weight, z_all, .ref a_good, z_many, .int g_goods, z_trial, .int u.1, .ref a_always, .ref a_knot, .int u.2.1, .ref a_part, .int u.2.2.1])), (a_refusals, .inl (cI, 7, .inl u.2.2.2.1)), (a_good, .inl (cI, 40320, .inl g_good)), (a_always, .inl (cZ, 256, .inl u.2.2.2.2.1)), (a_knot, .inl (cI, 16, .inl u.2.2.2.2.2.1)), (a_part, .inl (cI, 8, .inl u.2.2.2.2.2.2))]) := by
  refine MI.of (cc := cX5_knot) (maxL := 3) (by decide +kernel) rfl (Nat.le_of_ble_eq_true rfl) ?_
  intro p e s m args below meth c A QQ ls hx hb hml hown hts hA hK hP hD hS hNW ret hl
  have hl : lv_has ls 3 [(0, .ref a_this), (1, .int x1), (2, .int x2)] := hl
  have hown : s.vm.findClass RX5 = some m.cls := hown
  have in5 : ∀ w ∈ u_ws RX5 TX5 17, w ∈ wsX5_knot := fun _ w9 => List.mem_cons_of_mem _ (List.mem_append_right _ w9)
  have f32 := hts (.fieldLink RX5 32 "OnesDeskModel" "always" "[Z") (by decide +kernel)
  have f36 := hts (.fieldLink RX5 36 "OnesDeskModel" "knot" "[I") (by decide +kernel)
  have f39 := hts (.fieldLink RX5 39 "OnesDeskModel" "part" "[I") (by decide +kernel)
  have f129 := hts (.fieldLink RX5 129 "OnesDeskModel" "knots" "I") (by decide +kernel)
  have f138 := hts (.fieldLink RX5 138 "OnesDeskModel" "parts" "I") (by decide +kernel)
  refine lv_aload_n hx hb dX5_knot_0 rfl (lv_at hl 0 rfl) ?_
  refine MV.callV (As := []) (rest := []) (wr := [(a_refusals, .inl (cI, 7, .inl g_refusals)), (a_part, .inl (cI, 8, .inl g_part))]) (ci := 5) (q0 := 0) (c_X5_know l dC dI cI cZ a_this a_good a_always a_knot (.ref a_refusals) z_lines z_set z_state z_weight z_all z_many z_trial (.ref a_part) (.int g_parts) g_n g_goods g_isKnown g_knots g_good g_always g_knot _ h) ⟨hx, hb, hml, hown, hts⟩ (cwV 0 hts gX5_knot_X5_know rfl rfl rfl (by decide +kernel) ⟨Nat.le_of_ble_eq_true rfl, Nat.le_of_ble_eq_true rfl⟩) hK hP hD hS hA hNW [0, 2, 3, 4] [1, 5] rfl rfl (by decide) (by decide) (by decide) rfl rfl rfl rfl hl.1 rfl (Nat.le_of_ble_eq_true rfl) dX5_knot_1 ⟨Nat.zero_le _, Nat.zero_le _⟩ (fun u H locs hw hP hD hS => ?_)
  obtain ⟨g_isKnown_1, g_knots_2, g_always_3, g_knot_4⟩ := u
  have h := hw
  try dsimp only at h
  have hP : va_P (dC, dI) vwCl [(a_refusals, .inl (cI, 7, .inl g_refusals)), (a_part, .inl (cI, 8, .inl g_part)), (a_this, .inr (5, [.ref a_refusals, .int g_n, z_lines, z_set, z_state, z_weight, z_all, .ref a_good, z_many, .int g_goods, z_trial, .int g_isKnown_1, .ref a_always, .ref a_knot, .int g_knots_2, .ref a_part, .int g_parts])), (a_good, .inl (cI, 40320, .inl g_good)), (a_always, .inl (cZ, 256, .inl g_always_3)), (a_knot, .inl (cI, 16, .inl g_knot_4))] H := hP
  have hD : va_D A [(a_refusals, .inl (cI, 7, .inl g_refusals)), (a_part, .inl (cI, 8, .inl g_part)), (a_this, .inr (5, [.ref a_refusals, .int g_n, z_lines, z_set, z_state, z_weight, z_all, .ref a_good, z_many, .int g_goods, z_trial, .int g_isKnown_1, .ref a_always, .ref a_knot, .int g_knots_2, .ref a_part, .int g_parts])), (a_good, .inl (cI, 40320, .inl g_good)), (a_always, .inl (cZ, 256, .inl g_always_3)), (a_knot, .inl (cI, 16, .inl g_knot_4))] := hD
  refine lv_iload_n hx hb dX5_knot_4 rfl (lv_at hl 1 rfl) ?_
  refine lv_aload_n hx hb dX5_knot_5 rfl (lv_at hl 0 rfl) ?_
  refine va_get (D := (dC, dI)) (ci := 5) (v := .int g_knots_2) (C := RX5) (T := TX5) (N := 17) hx hb hts in5 hown hK hP 2 rfl rfl 14 (by decide) f129 (fun _ h9 => h9) rfl dX5_knot_6 ?_
  refine MI.callS (As := [.int x1, .int g_knots_2]) (rest := []) (wr := [(a_refusals, .inl (cI, 7, .inl g_refusals)), (a_part, .inl (cI, 8, .inl g_part)), (a_this, .inr (5, [.ref a_refusals, .int g_n, z_lines, z_set, z_state, z_weight, z_all, .ref a_good, z_many, .int g_goods, z_trial, .int g_isKnown_1, .ref a_always, .ref a_knot, .int g_knots_2, .ref a_part, .int g_parts])), (a_good, .inl (cI, 40320, .inl g_good)), (a_always, .inl (cZ, 256, .inl g_always_3)), (a_knot, .inl (cI, 16, .inl g_knot_4))]) (c_X5_isIn l dC dI cI cZ x1 g_knots_2 _ h) ⟨hx, hb, hml, hown, hts⟩ (va_cwS 2 hts gX5_knot_X5_isIn rfl rfl rfl (by decide +kernel) ⟨Nat.le_of_ble_eq_true rfl, Nat.le_of_ble_eq_true rfl⟩) hK hP hD hS hA hNW [] [0, 1, 2, 3, 4, 5] rfl rfl (by decide) (by decide) (by decide) rfl hl.1 rfl (Nat.le_of_ble_eq_true rfl) dX5_knot_9 ⟨Nat.zero_le _, Nat.zero_le _⟩ (fun r5 u H locs hw hP hD hS => ?_)
  obtain ⟨b6, rfl, hw⟩ := hw
  have h := hw
  try dsimp only at h
  have hP : va_P (dC, dI) vwCl [(a_refusals, .inl (cI, 7, .inl g_refusals)), (a_part, .inl (cI, 8, .inl g_part)), (a_this, .inr (5, [.ref a_refusals, .int g_n, z_lines, z_set, z_state, z_weight, z_all, .ref a_good, z_many, .int g_goods, z_trial, .int g_isKnown_1, .ref a_always, .ref a_knot, .int g_knots_2, .ref a_part, .int g_parts])), (a_good, .inl (cI, 40320, .inl g_good)), (a_always, .inl (cZ, 256, .inl g_always_3)), (a_knot, .inl (cI, 16, .inl g_knot_4))] H := hP
  have hD : va_D A [(a_refusals, .inl (cI, 7, .inl g_refusals)), (a_part, .inl (cI, 8, .inl g_part)), (a_this, .inr (5, [.ref a_refusals, .int g_n, z_lines, z_set, z_state, z_weight, z_all, .ref a_good, z_many, .int g_goods, z_trial, .int g_isKnown_1, .ref a_always, .ref a_knot, .int g_knots_2, .ref a_part, .int g_parts])), (a_good, .inl (cI, 40320, .inl g_good)), (a_always, .inl (cZ, 256, .inl g_always_3)), (a_knot, .inl (cI, 16, .inl g_knot_4))] := hD
  refine lv_if_ne (tgt := 21) hx hb dX5_knot_12 (by decide) (fun k7 => ?_) (fun k7 => ?_)
  · have h := h.1 (bI_1 k7)
    refine lv_aload_n hx hb dX5_knot_21 rfl (lv_at hl 0 rfl) ?_
    refine lv_iload_n hx hb dX5_knot_22 rfl (lv_at hl 1 rfl) ?_
    refine MV.callV (As := [.int x1]) (rest := []) (wr := [(a_refusals, .inl (cI, 7, .inl g_refusals)), (a_always, .inl (cZ, 256, .inl g_always_3))]) (ci := 5) (q0 := 0) (c_X5_partsOf l dC dI cI cZ a_this a_good a_knot a_part (.ref a_refusals) z_lines z_set z_state z_weight z_all z_many (.int g_goods) z_trial (.int g_isKnown_1) (.ref a_always) g_n g_knots_2 g_parts g_good g_knot_4 g_part x1 _ h) ⟨hx, hb, hml, hown, hts⟩ (cwV 1 hts gX5_knot_X5_partsOf rfl rfl rfl (by decide +kernel) ⟨Nat.le_of_ble_eq_true rfl, Nat.le_of_ble_eq_true rfl⟩) hK hP hD hS hA hNW [2, 3, 5, 1] [0, 4] rfl rfl (by decide) (by decide) (by decide) rfl rfl rfl rfl hl.1 rfl (Nat.le_of_ble_eq_true rfl) dX5_knot_23 ⟨Nat.zero_le _, Nat.zero_le _⟩ (fun u H locs hw hP hD hS => ?_)
    obtain ⟨g_parts_8, g_part_9⟩ := u
    have h := hw
    try dsimp only at h
    have hP : va_P (dC, dI) vwCl [(a_refusals, .inl (cI, 7, .inl g_refusals)), (a_always, .inl (cZ, 256, .inl g_always_3)), (a_this, .inr (5, [.ref a_refusals, .int g_n, z_lines, z_set, z_state, z_weight, z_all, .ref a_good, z_many, .int g_goods, z_trial, .int g_isKnown_1, .ref a_always, .ref a_knot, .int g_knots_2, .ref a_part, .int g_parts_8])), (a_good, .inl (cI, 40320, .inl g_good)), (a_knot, .inl (cI, 16, .inl g_knot_4)), (a_part, .inl (cI, 8, .inl g_part_9))] H := hP
    have hD : va_D A [(a_refusals, .inl (cI, 7, .inl g_refusals)), (a_always, .inl (cZ, 256, .inl g_always_3)), (a_this, .inr (5, [.ref a_refusals, .int g_n, z_lines, z_set, z_state, z_weight, z_all, .ref a_good, z_many, .int g_goods, z_trial, .int g_isKnown_1, .ref a_always, .ref a_knot, .int g_knots_2, .ref a_part, .int g_parts_8])), (a_good, .inl (cI, 40320, .inl g_good)), (a_knot, .inl (cI, 16, .inl g_knot_4)), (a_part, .inl (cI, 8, .inl g_part_9))] := hD
    refine lv_iload_n hx hb dX5_knot_26 rfl (lv_at hl 2 rfl) ?_
    obtain ⟨h0, h1, h2, h3, h⟩ := h
    by_cases e0 : x2 = 0
    · have h := h0 e0
      refine sw_in e0 hx hb dX5_knot_27 (by decide) (by decide) (off := 29) (tgt := 56) (by decide) (by decide) ?_
      refine lv_aload_n hx hb dX5_knot_56 rfl (lv_at hl 0 rfl) ?_
      refine va_get (D := (dC, dI)) (ci := 5) (v := .ref a_knot) (C := RX5) (T := TX5) (N := 17) hx hb hts in5 hown hK hP 2 rfl rfl 13 (by decide) f36 (fun _ h9 => h9) rfl dX5_knot_57 ?_
      refine lv_iload_n hx hb dX5_knot_60 rfl (lv_at hl 1 rfl) ?_
      obtain ⟨hi10, h⟩ := h
      refine va_iald (D := (dC, dI)) hx hb hK hP 4 0 rfl rfl hi10 dX5_knot_61 ?_
      exact ret _ _ _ _ (g_knot_4 (Int32.toNatClampNeg x1)) (g_isKnown_1, g_knots_2, g_parts_8, g_refusals, g_always_3, g_knot_4, g_part_9) dX5_knot_62 h (reP hP [2, 0, 3, 1, 4, 5] rfl) (hD.sub [2, 0, 3, 1, 4, 5] (by decide) rfl) hS
    by_cases e1 : x2 = 1
    · have h := h1 e1
      refine sw_in e1 hx hb dX5_knot_27 (by decide) (by decide) (off := 36) (tgt := 63) (by decide) (by decide) ?_
      refine lv_aload_n hx hb dX5_knot_63 rfl (lv_at hl 0 rfl) ?_
      refine va_get (D := (dC, dI)) (ci := 5) (v := .int g_parts_8) (C := RX5) (T := TX5) (N := 17) hx hb hts in5 hown hK hP 2 rfl rfl 16 (by decide) f138 (fun _ h9 => h9) rfl dX5_knot_64 ?_
      refine lv_iconst (v := 3) hx hb dX5_knot_67 (by decide) ?_
      refine lv_icmp_ge (tgt := 80) hx hb dX5_knot_68 (by decide) (fun k11 => ?_) (fun k11 => ?_)
      · have h := h.1 k11
        refine lv_aload_n hx hb dX5_knot_80 rfl (lv_at hl 0 rfl) ?_
        refine va_get (D := (dC, dI)) (ci := 5) (v := .ref a_always) (C := RX5) (T := TX5) (N := 17) hx hb hts in5 hown hK hP 2 rfl rfl 12 (by decide) f32 (fun _ h9 => h9) rfl dX5_knot_81 ?_
        refine lv_aload_n hx hb dX5_knot_84 rfl (lv_at hl 0 rfl) ?_
        refine va_get (D := (dC, dI)) (ci := 5) (v := .ref a_knot) (C := RX5) (T := TX5) (N := 17) hx hb hts in5 hown hK hP 2 rfl rfl 13 (by decide) f36 (fun _ h9 => h9) rfl dX5_knot_85 ?_
        refine lv_aload_n hx hb dX5_knot_88 rfl (lv_at hl 0 rfl) ?_
        refine va_get (D := (dC, dI)) (ci := 5) (v := .ref a_part) (C := RX5) (T := TX5) (N := 17) hx hb hts in5 hown hK hP 2 rfl rfl 15 (by decide) f39 (fun _ h9 => h9) rfl dX5_knot_89 ?_
        refine lv_iconst (v := 0) hx hb dX5_knot_92 (by decide) ?_
        refine va_iald (D := (dC, dI)) hx hb hK hP 5 0 rfl rfl (show ¬ (_ ∨ _) by decide) dX5_knot_93 ?_
        obtain ⟨hi12, h⟩ := h
        refine va_iald (D := (dC, dI)) hx hb hK hP 4 0 rfl rfl hi12 dX5_knot_94 ?_
        refine lv_aload_n hx hb dX5_knot_95 rfl (lv_at hl 0 rfl) ?_
        refine va_get (D := (dC, dI)) (ci := 5) (v := .ref a_knot) (C := RX5) (T := TX5) (N := 17) hx hb hts in5 hown hK hP 2 rfl rfl 13 (by decide) f36 (fun _ h9 => h9) rfl dX5_knot_96 ?_
        refine lv_aload_n hx hb dX5_knot_99 rfl (lv_at hl 0 rfl) ?_
        refine va_get (D := (dC, dI)) (ci := 5) (v := .ref a_part) (C := RX5) (T := TX5) (N := 17) hx hb hts in5 hown hK hP 2 rfl rfl 15 (by decide) f39 (fun _ h9 => h9) rfl dX5_knot_100 ?_
        refine lv_iconst (v := 1) hx hb dX5_knot_103 (by decide) ?_
        refine va_iald (D := (dC, dI)) hx hb hK hP 5 0 rfl rfl (show ¬ (_ ∨ _) by decide) dX5_knot_104 ?_
        obtain ⟨hi13, h⟩ := h
        refine va_iald (D := (dC, dI)) hx hb hK hP 4 0 rfl rfl hi13 dX5_knot_105 ?_
        refine lv_ior hx hb dX5_knot_106 ?_
        obtain ⟨hi14, h⟩ := h
        refine va_zald (D := (dC, dI)) hx hb hK hP 1 1 rfl rfl hi14 dX5_knot_107 ?_
        refine lv_if_eq (tgt := 115) hx hb dX5_knot_108 (by decide) (fun k15 => ?_) (fun k15 => ?_)
        · have h := h.1 k15
          refine lv_iconst (v := 2) hx hb dX5_knot_115 (by decide) ?_
          exact ret _ _ _ _ 2 (g_isKnown_1, g_knots_2, g_parts_8, g_refusals, g_always_3, g_knot_4, g_part_9) dX5_knot_116 h (reP hP [2, 0, 3, 1, 4, 5] rfl) (hD.sub [2, 0, 3, 1, 4, 5] (by decide) rfl) hS
        · have h := h.2 k15
          refine lv_iconst (v := 3) hx hb dX5_knot_111 (by decide) ?_
          refine lv_goto (tgt := 116) hx hb dX5_knot_112 (by decide) ?_
          exact ret _ _ _ _ 3 (g_isKnown_1, g_knots_2, g_parts_8, g_refusals, g_always_3, g_knot_4, g_part_9) dX5_knot_116 h (reP hP [2, 0, 3, 1, 4, 5] rfl) (hD.sub [2, 0, 3, 1, 4, 5] (by decide) rfl) hS
      · have h := h.2 k11
        refine lv_aload_n hx hb dX5_knot_71 rfl (lv_at hl 0 rfl) ?_
        refine va_get (D := (dC, dI)) (ci := 5) (v := .int g_parts_8) (C := RX5) (T := TX5) (N := 17) hx hb hts in5 hown hK hP 2 rfl rfl 16 (by decide) f138 (fun _ h9 => h9) rfl dX5_knot_72 ?_
        refine lv_iconst (v := 2) hx hb dX5_knot_75 (by decide) ?_
        refine lv_idiv hx hb dX5_knot_76 (by decide) ?_
        refine lv_goto (tgt := 116) hx hb dX5_knot_77 (by decide) ?_
        exact ret _ _ _ _ (g_parts_8 / 2) (g_isKnown_1, g_knots_2, g_parts_8, g_refusals, g_always_3, g_knot_4, g_part_9) dX5_knot_116 h (reP hP [2, 0, 3, 1, 4, 5] rfl) (hD.sub [2, 0, 3, 1, 4, 5] (by decide) rfl) hS
    by_cases e2 : x2 = 2
    · have h := h2 e2
      refine sw_in e2 hx hb dX5_knot_27 (by decide) (by decide) (off := 90) (tgt := 117) (by decide) (by decide) ?_
      refine lv_aload_n hx hb dX5_knot_117 rfl (lv_at hl 0 rfl) ?_
      refine va_get (D := (dC, dI)) (ci := 5) (v := .int g_parts_8) (C := RX5) (T := TX5) (N := 17) hx hb hts in5 hown hK hP 2 rfl rfl 16 (by decide) f138 (fun _ h9 => h9) rfl dX5_knot_118 ?_
      exact ret _ _ _ _ g_parts_8 (g_isKnown_1, g_knots_2, g_parts_8, g_refusals, g_always_3, g_knot_4, g_part_9) dX5_knot_121 h (reP hP [2, 0, 3, 1, 4, 5] rfl) (hD.sub [2, 0, 3, 1, 4, 5] (by decide) rfl) hS
    by_cases e3 : x2 = 3
    · have h := h3 e3
      refine sw_in e3 hx hb dX5_knot_27 (by decide) (by decide) (off := 95) (tgt := 122) (by decide) (by decide) ?_
      refine lv_aload_n hx hb dX5_knot_122 rfl (lv_at hl 0 rfl) ?_
      refine lv_aload_n hx hb dX5_knot_123 rfl (lv_at hl 0 rfl) ?_
      refine va_get (D := (dC, dI)) (ci := 5) (v := .ref a_knot) (C := RX5) (T := TX5) (N := 17) hx hb hts in5 hown hK hP 2 rfl rfl 13 (by decide) f36 (fun _ h9 => h9) rfl dX5_knot_124 ?_
      refine lv_iload_n hx hb dX5_knot_127 rfl (lv_at hl 1 rfl) ?_
      obtain ⟨hi16, h⟩ := h
      refine va_iald (D := (dC, dI)) hx hb hK hP 4 0 rfl rfl hi16 dX5_knot_128 ?_
      refine lv_iconst (v := 1) hx hb dX5_knot_129 (by decide) ?_
      refine MI.callV (As := [.int (g_knot_4 (Int32.toNatClampNeg x1)), .int 1]) (rest := []) (wr := [(a_refusals, .inl (cI, 7, .inl g_refusals)), (a_always, .inl (cZ, 256, .inl g_always_3)), (a_good, .inl (cI, 40320, .inl g_good)), (a_part, .inl (cI, 8, .inl g_part_9))]) (ci := 5) (q0 := 0) (c_X5_above l dC dI cI cZ a_this a_knot (.ref a_refusals) (.int g_n) z_lines z_set z_state z_weight z_all (.ref a_good) z_many (.int g_goods) z_trial (.int g_isKnown_1) (.ref a_always) (.ref a_part) (.int g_parts_8) g_knots_2 g_knot_4 (g_knot_4 (Int32.toNatClampNeg x1)) (1 : Int32) _ h) ⟨hx, hb, hml, hown, hts⟩ (cwV 2 hts gX5_knot_X5_above rfl rfl rfl (by decide +kernel) ⟨Nat.le_of_ble_eq_true rfl, Nat.le_of_ble_eq_true rfl⟩) hK hP hD hS hA hNW [2, 4] [0, 1, 3, 5] rfl rfl (by decide) (by decide) (by decide) rfl rfl rfl rfl hl.1 rfl (Nat.le_of_ble_eq_true rfl) dX5_knot_130 ⟨Nat.zero_le _, Nat.zero_le _⟩ (fun r17 u H locs hw hP hD hS => ?_)
      have h := hw
      try dsimp only at h
      have hP : va_P (dC, dI) vwCl [(a_refusals, .inl (cI, 7, .inl g_refusals)), (a_always, .inl (cZ, 256, .inl g_always_3)), (a_good, .inl (cI, 40320, .inl g_good)), (a_part, .inl (cI, 8, .inl g_part_9)), (a_this, .inr (5, [.ref a_refusals, .int g_n, z_lines, z_set, z_state, z_weight, z_all, .ref a_good, z_many, .int g_goods, z_trial, .int g_isKnown_1, .ref a_always, .ref a_knot, .int g_knots_2, .ref a_part, .int g_parts_8])), (a_knot, .inl (cI, 16, .inl g_knot_4))] H := hP
      have hD : va_D A [(a_refusals, .inl (cI, 7, .inl g_refusals)), (a_always, .inl (cZ, 256, .inl g_always_3)), (a_good, .inl (cI, 40320, .inl g_good)), (a_part, .inl (cI, 8, .inl g_part_9)), (a_this, .inr (5, [.ref a_refusals, .int g_n, z_lines, z_set, z_state, z_weight, z_all, .ref a_good, z_many, .int g_goods, z_trial, .int g_isKnown_1, .ref a_always, .ref a_knot, .int g_knots_2, .ref a_part, .int g_parts_8])), (a_knot, .inl (cI, 16, .inl g_knot_4))] := hD
      exact ret _ _ _ _ r17 (g_isKnown_1, g_knots_2, g_parts_8, g_refusals, g_always_3, g_knot_4, g_part_9) dX5_knot_133 h (reP hP [4, 0, 2, 1, 5, 3] rfl) (hD.sub [4, 0, 2, 1, 5, 3] (by decide) rfl) hS
    have h := h ⟨e0, e1, e2, e3⟩
    refine lv_tableOut (tgt := 134) hx hb dX5_knot_27 (by have i0 := lv_neT e0 (a := 0) rfl; have i1 := lv_neT e1 (a := 1) rfl; have i2 := lv_neT e2 (a := 2) rfl; have i3 := lv_neT e3 (a := 3) rfl; omega) (by decide) ?_
    refine lv_iload_n hx hb dX5_knot_134 rfl (lv_at hl 2 rfl) ?_
    refine lv_iconst (v := 3) hx hb dX5_knot_135 (by decide) ?_
    refine lv_icmp_le (tgt := 160) hx hb dX5_knot_136 (by decide) (fun k18 => ?_) (fun k18 => ?_)
    · have h := h.1 k18
      refine lv_aload_n hx hb dX5_knot_160 rfl (lv_at hl 0 rfl) ?_
      refine lv_bipush (v := (-2)) hx hb dX5_knot_161 (by decide) ?_
      refine MI.callV (As := [.int (-2)]) (rest := []) (wr := [(a_always, .inl (cZ, 256, .inl g_always_3)), (a_good, .inl (cI, 40320, .inl g_good)), (a_knot, .inl (cI, 16, .inl g_knot_4)), (a_part, .inl (cI, 8, .inl g_part_9))]) (ci := 5) (q0 := 0) (c_X5_refuse l dC dI cI cZ a_this a_refusals (.int g_n) z_lines z_set z_state z_weight z_all (.ref a_good) z_many (.int g_goods) z_trial (.int g_isKnown_1) (.ref a_always) (.ref a_knot) (.int g_knots_2) (.ref a_part) (.int g_parts_8) g_refusals ((-2) : Int32) _ h) ⟨hx, hb, hml, hown, hts⟩ (cwV 1 hts gX5_knot_X5_refuse rfl rfl rfl (by decide +kernel) ⟨Nat.le_of_ble_eq_true rfl, Nat.le_of_ble_eq_true rfl⟩) hK hP hD hS hA hNW [2, 0] [1, 3, 4, 5] rfl rfl (by decide) (by decide) (by decide) rfl rfl rfl rfl hl.1 rfl (Nat.le_of_ble_eq_true rfl) dX5_knot_163 ⟨Nat.zero_le _, Nat.zero_le _⟩ (fun r20 u H locs hw hP hD hS => ?_)
      obtain ⟨g_refusals_19, rfl⟩ : ∃ z, z = u := ⟨_, rfl⟩
      have h := hw
      try dsimp only at h
      have hP : va_P (dC, dI) vwCl [(a_always, .inl (cZ, 256, .inl g_always_3)), (a_good, .inl (cI, 40320, .inl g_good)), (a_knot, .inl (cI, 16, .inl g_knot_4)), (a_part, .inl (cI, 8, .inl g_part_9)), (a_this, .inr (5, [.ref a_refusals, .int g_n, z_lines, z_set, z_state, z_weight, z_all, .ref a_good, z_many, .int g_goods, z_trial, .int g_isKnown_1, .ref a_always, .ref a_knot, .int g_knots_2, .ref a_part, .int g_parts_8])), (a_refusals, .inl (cI, 7, .inl g_refusals_19))] H := hP
      have hD : va_D A [(a_always, .inl (cZ, 256, .inl g_always_3)), (a_good, .inl (cI, 40320, .inl g_good)), (a_knot, .inl (cI, 16, .inl g_knot_4)), (a_part, .inl (cI, 8, .inl g_part_9)), (a_this, .inr (5, [.ref a_refusals, .int g_n, z_lines, z_set, z_state, z_weight, z_all, .ref a_good, z_many, .int g_goods, z_trial, .int g_isKnown_1, .ref a_always, .ref a_knot, .int g_knots_2, .ref a_part, .int g_parts_8])), (a_refusals, .inl (cI, 7, .inl g_refusals_19))] := hD
      exact ret _ _ _ _ r20 (g_isKnown_1, g_knots_2, g_parts_8, g_refusals_19, g_always_3, g_knot_4, g_part_9) dX5_knot_166 h (reP hP [4, 5, 1, 0, 2, 3] rfl) (hD.sub [4, 5, 1, 0, 2, 3] (by decide) rfl) hS
    · have h := h.2 k18
      refine lv_iload_n hx hb dX5_knot_139 rfl (lv_at hl 2 rfl) ?_
      refine lv_iconst (v := 4) hx hb dX5_knot_140 (by decide) ?_
      refine lv_isub hx hb dX5_knot_141 ?_
      refine lv_aload_n hx hb dX5_knot_142 rfl (lv_at hl 0 rfl) ?_
      refine va_get (D := (dC, dI)) (ci := 5) (v := .int g_parts_8) (C := RX5) (T := TX5) (N := 17) hx hb hts in5 hown hK hP 2 rfl rfl 16 (by decide) f138 (fun _ h9 => h9) rfl dX5_knot_143 ?_
      refine lv_icmp_ge (tgt := 160) hx hb dX5_knot_146 (by decide) (fun k21 => ?_) (fun k21 => ?_)
      · have h := h.1 k21
        refine lv_aload_n hx hb dX5_knot_160 rfl (lv_at hl 0 rfl) ?_
        refine lv_bipush (v := (-2)) hx hb dX5_knot_161 (by decide) ?_
        refine MI.callV (As := [.int (-2)]) (rest := []) (wr := [(a_always, .inl (cZ, 256, .inl g_always_3)), (a_good, .inl (cI, 40320, .inl g_good)), (a_knot, .inl (cI, 16, .inl g_knot_4)), (a_part, .inl (cI, 8, .inl g_part_9))]) (ci := 5) (q0 := 0) (c_X5_refuse l dC dI cI cZ a_this a_refusals (.int g_n) z_lines z_set z_state z_weight z_all (.ref a_good) z_many (.int g_goods) z_trial (.int g_isKnown_1) (.ref a_always) (.ref a_knot) (.int g_knots_2) (.ref a_part) (.int g_parts_8) g_refusals ((-2) : Int32) _ h) ⟨hx, hb, hml, hown, hts⟩ (cwV 1 hts gX5_knot_X5_refuse rfl rfl rfl (by decide +kernel) ⟨Nat.le_of_ble_eq_true rfl, Nat.le_of_ble_eq_true rfl⟩) hK hP hD hS hA hNW [2, 0] [1, 3, 4, 5] rfl rfl (by decide) (by decide) (by decide) rfl rfl rfl rfl hl.1 rfl (Nat.le_of_ble_eq_true rfl) dX5_knot_163 ⟨Nat.zero_le _, Nat.zero_le _⟩ (fun r23 u H locs hw hP hD hS => ?_)
        obtain ⟨g_refusals_22, rfl⟩ : ∃ z, z = u := ⟨_, rfl⟩
        have h := hw
        try dsimp only at h
        have hP : va_P (dC, dI) vwCl [(a_always, .inl (cZ, 256, .inl g_always_3)), (a_good, .inl (cI, 40320, .inl g_good)), (a_knot, .inl (cI, 16, .inl g_knot_4)), (a_part, .inl (cI, 8, .inl g_part_9)), (a_this, .inr (5, [.ref a_refusals, .int g_n, z_lines, z_set, z_state, z_weight, z_all, .ref a_good, z_many, .int g_goods, z_trial, .int g_isKnown_1, .ref a_always, .ref a_knot, .int g_knots_2, .ref a_part, .int g_parts_8])), (a_refusals, .inl (cI, 7, .inl g_refusals_22))] H := hP
        have hD : va_D A [(a_always, .inl (cZ, 256, .inl g_always_3)), (a_good, .inl (cI, 40320, .inl g_good)), (a_knot, .inl (cI, 16, .inl g_knot_4)), (a_part, .inl (cI, 8, .inl g_part_9)), (a_this, .inr (5, [.ref a_refusals, .int g_n, z_lines, z_set, z_state, z_weight, z_all, .ref a_good, z_many, .int g_goods, z_trial, .int g_isKnown_1, .ref a_always, .ref a_knot, .int g_knots_2, .ref a_part, .int g_parts_8])), (a_refusals, .inl (cI, 7, .inl g_refusals_22))] := hD
        exact ret _ _ _ _ r23 (g_isKnown_1, g_knots_2, g_parts_8, g_refusals_22, g_always_3, g_knot_4, g_part_9) dX5_knot_166 h (reP hP [4, 5, 1, 0, 2, 3] rfl) (hD.sub [4, 5, 1, 0, 2, 3] (by decide) rfl) hS
      · have h := h.2 k21
        refine lv_aload_n hx hb dX5_knot_149 rfl (lv_at hl 0 rfl) ?_
        refine va_get (D := (dC, dI)) (ci := 5) (v := .ref a_part) (C := RX5) (T := TX5) (N := 17) hx hb hts in5 hown hK hP 2 rfl rfl 15 (by decide) f39 (fun _ h9 => h9) rfl dX5_knot_150 ?_
        refine lv_iload_n hx hb dX5_knot_153 rfl (lv_at hl 2 rfl) ?_
        refine lv_iconst (v := 4) hx hb dX5_knot_154 (by decide) ?_
        refine lv_isub hx hb dX5_knot_155 ?_
        obtain ⟨hi24, h⟩ := h
        refine va_iald (D := (dC, dI)) hx hb hK hP 5 0 rfl rfl hi24 dX5_knot_156 ?_
        refine lv_goto (tgt := 166) hx hb dX5_knot_157 (by decide) ?_
        exact ret _ _ _ _ (g_part_9 (Int32.toNatClampNeg (x2 - 4))) (g_isKnown_1, g_knots_2, g_parts_8, g_refusals, g_always_3, g_knot_4, g_part_9) dX5_knot_166 h (reP hP [2, 0, 3, 1, 4, 5] rfl) (hD.sub [2, 0, 3, 1, 4, 5] (by decide) rfl) hS
  · have h := h.2 (bI_0 k7)
    refine lv_aload_n hx hb dX5_knot_15 rfl (lv_at hl 0 rfl) ?_
    refine lv_iconst (v := (-1)) hx hb dX5_knot_16 (by decide) ?_
    refine MI.callV (As := [.int (-1)]) (rest := []) (wr := [(a_part, .inl (cI, 8, .inl g_part)), (a_good, .inl (cI, 40320, .inl g_good)), (a_always, .inl (cZ, 256, .inl g_always_3)), (a_knot, .inl (cI, 16, .inl g_knot_4))]) (ci := 5) (q0 := 0) (c_X5_refuse l dC dI cI cZ a_this a_refusals (.int g_n) z_lines z_set z_state z_weight z_all (.ref a_good) z_many (.int g_goods) z_trial (.int g_isKnown_1) (.ref a_always) (.ref a_knot) (.int g_knots_2) (.ref a_part) (.int g_parts) g_refusals ((-1) : Int32) _ h) ⟨hx, hb, hml, hown, hts⟩ (cwV 1 hts gX5_knot_X5_refuse rfl rfl rfl (by decide +kernel) ⟨Nat.le_of_ble_eq_true rfl, Nat.le_of_ble_eq_true rfl⟩) hK hP hD hS hA hNW [2, 0] [1, 3, 4, 5] rfl rfl (by decide) (by decide) (by decide) rfl rfl rfl rfl hl.1 rfl (Nat.le_of_ble_eq_true rfl) dX5_knot_17 ⟨Nat.zero_le _, Nat.zero_le _⟩ (fun r26 u H locs hw hP hD hS => ?_)
    obtain ⟨g_refusals_25, rfl⟩ : ∃ z, z = u := ⟨_, rfl⟩
    have h := hw
    try dsimp only at h
    have hP : va_P (dC, dI) vwCl [(a_part, .inl (cI, 8, .inl g_part)), (a_good, .inl (cI, 40320, .inl g_good)), (a_always, .inl (cZ, 256, .inl g_always_3)), (a_knot, .inl (cI, 16, .inl g_knot_4)), (a_this, .inr (5, [.ref a_refusals, .int g_n, z_lines, z_set, z_state, z_weight, z_all, .ref a_good, z_many, .int g_goods, z_trial, .int g_isKnown_1, .ref a_always, .ref a_knot, .int g_knots_2, .ref a_part, .int g_parts])), (a_refusals, .inl (cI, 7, .inl g_refusals_25))] H := hP
    have hD : va_D A [(a_part, .inl (cI, 8, .inl g_part)), (a_good, .inl (cI, 40320, .inl g_good)), (a_always, .inl (cZ, 256, .inl g_always_3)), (a_knot, .inl (cI, 16, .inl g_knot_4)), (a_this, .inr (5, [.ref a_refusals, .int g_n, z_lines, z_set, z_state, z_weight, z_all, .ref a_good, z_many, .int g_goods, z_trial, .int g_isKnown_1, .ref a_always, .ref a_knot, .int g_knots_2, .ref a_part, .int g_parts])), (a_refusals, .inl (cI, 7, .inl g_refusals_25))] := hD
    exact ret _ _ _ _ r26 (g_isKnown_1, g_knots_2, g_parts, g_refusals_25, g_always_3, g_knot_4, g_part) dX5_knot_20 h (reP hP [4, 5, 1, 2, 3, 0] rfl) (hD.sub [4, 5, 1, 2, 3, 0] (by decide) rfl) hS
/-! ### X5_join join(II)I -/
def rX5_join : Room := { frames := 5, cells := 0, slots := 0, locals := 116 }
def q_X5_join (g_n : Int32) (g_goods : Int32) (g_isKnown : Int32) (g_knots : Int32) (g_refusals : Nat → Int32) (g_good : Nat → Int32) (g_always : Nat → Int32) (g_knot : Nat → Int32) (x1 : Int32) (x2 : Int32) (Q : Int32 → Int32 → Int32 → (Nat → Int32) → (Nat → Int32) → (Nat → Int32) → Prop) : Prop :=
  q_X5_isColumn g_n x1 (fun b2 => (b2 = false → q_X5_refuse g_refusals ((-1) : Int32) (fun r5 g_refusals_4 => Q r5 g_isKnown g_knots g_refusals_4 g_always g_knot)) ∧ (b2 = true → q_X5_isColumn g_n x2 (fun b7 => (b7 = true → q_X5_know g_n g_goods g_isKnown g_knots g_good g_always g_knot (fun g_isKnown_9 g_knots_10 g_always_11 g_knot_12 => q_X5_above g_knots_10 g_knot_12 ((1 <<< (x1 &&& 31)) ||| (1 <<< (x2 &&& 31))) (0 : Int32) (fun r13 => Q r13 g_isKnown_9 g_knots_10 g_refusals g_always_11 g_knot_12))) ∧ (b7 = false → q_X5_refuse g_refusals ((-1) : Int32) (fun r15 g_refusals_14 => Q r15 g_isKnown g_knots g_refusals_14 g_always g_knot)))))
set_option maxRecDepth 100000 in
set_option maxHeartbeats 4000000 in
theorem c_X5_join (l : Launch) (dC : Nat → ClassId) (dI : Nat → Nat → Nat) (cI cZ : ClassId) (a_this a_refusals a_good a_always a_knot : Nat) (z_lines z_set z_state z_weight z_all z_many z_trial z_part z_parts : Value) (g_n : Int32) (g_goods : Int32) (g_isKnown : Int32) (g_knots : Int32) (g_refusals : Nat → Int32) (g_good : Nat → Int32) (g_always : Nat → Int32) (g_knot : Nat → Int32) (x1 : Int32) (x2 : Int32) (Q : Int32 → Int32 → Int32 → (Nat → Int32) → (Nat → Int32) → (Nat → Int32) → Prop) (h : q_X5_join g_n g_goods g_isKnown g_knots g_refusals g_good g_always g_knot x1 x2 Q) : MI l yX5_join wsX5_join rX5_join (dC, dI) [(cI, .int), (cZ, .boolean)] [.ref a_this, .int x1, .int x2] [(a_this, .inr (5, [.ref a_refusals, .int g_n, z_lines, z_set, z_state, z_weight, z_all, .ref a_good, z_many, .int g_goods, z_trial, .int g_isKnown, .ref a_always, .ref a_knot, .int g_knots, z_part, z_parts])), (a_refusals, .inl (cI, 7, .inl g_refusals)), (a_good, .inl (cI, 40320, .inl g_good)), (a_always, .inl (cZ, 256, .inl g_always)), (a_knot, .inl (cI, 16, .inl g_knot))] (fun (r : Int32) (u : Int32 × Int32 × (Nat → Int32) × (Nat → Int32) × (Nat → Int32)) => Q r u.1 u.2.1 u.2.2.1 u.2.2.2.1 u.2.2.2.2) (fun u : Int32 × Int32 × (Nat → Int32) × (Nat → Int32) × (Nat → Int32) => [(a_this, .inr (5, [.ref a_refusals, .int g_n, z_lines, z_set, z_state, z_weight, z_all, .ref a_good, z_many, .int g_goods, z_trial, .int u.1, .ref a_always, .ref a_knot, .int u.2.1, z_part, z_parts])), (a_refusals, .inl (cI, 7, .inl u.2.2.1)), (a_good, .inl (cI, 40320, .inl g_good)), (a_always, .inl (cZ, 256, .inl u.2.2.2.1)), (a_knot, .inl (cI, 16, .inl u.2.2.2.2))]) := by
  refine MI.of (cc := cX5_join) (maxL := 3) (by decide +kernel) rfl (Nat.le_of_ble_eq_true rfl) ?_
  intro p e s m args below meth c A QQ ls hx hb hml hown hts hA hK hP hD hS hNW ret hl
  have hl : lv_has ls 3 [(0, .ref a_this), (1, .int x1), (2, .int x2)] := hl
  have hown : s.vm.findClass RX5 = some m.cls := hown
  refine lv_aload_n hx hb dX5_join_0 rfl (lv_at hl 0 rfl) ?_
  refine lv_iload_n hx hb dX5_join_1 rfl (lv_at hl 1 rfl) ?_
  refine MI.callV (As := [.int x1]) (rest := []) (wr := [(a_refusals, .inl (cI, 7, .inl g_refusals)), (a_good, .inl (cI, 40320, .inl g_good)), (a_always, .inl (cZ, 256, .inl g_always)), (a_knot, .inl (cI, 16, .inl g_knot))]) (ci := 5) (q0 := 0) (c_X5_isColumn l dC dI cI cZ a_this (.ref a_refusals) z_lines z_set z_state z_weight z_all (.ref a_good) z_many (.int g_goods) z_trial (.int g_isKnown) (.ref a_always) (.ref a_knot) (.int g_knots) z_part z_parts g_n x1 _ h) ⟨hx, hb, hml, hown, hts⟩ (cwV 1 hts gX5_join_X5_isColumn rfl rfl rfl (by decide +kernel) ⟨Nat.le_of_ble_eq_true rfl, Nat.le_of_ble_eq_true rfl⟩) hK hP hD hS hA hNW [0] [1, 2, 3, 4] rfl rfl (by decide) (by decide) (by decide) rfl rfl rfl rfl hl.1 rfl (Nat.le_of_ble_eq_true rfl) dX5_join_2 ⟨Nat.zero_le _, Nat.zero_le _⟩ (fun r1 u H locs hw hP hD hS => ?_)
  obtain ⟨b2, rfl, hw⟩ := hw
  have h := hw
  try dsimp only at h
  have hP : va_P (dC, dI) vwCl [(a_refusals, .inl (cI, 7, .inl g_refusals)), (a_good, .inl (cI, 40320, .inl g_good)), (a_always, .inl (cZ, 256, .inl g_always)), (a_knot, .inl (cI, 16, .inl g_knot)), (a_this, .inr (5, [.ref a_refusals, .int g_n, z_lines, z_set, z_state, z_weight, z_all, .ref a_good, z_many, .int g_goods, z_trial, .int g_isKnown, .ref a_always, .ref a_knot, .int g_knots, z_part, z_parts]))] H := hP
  have hD : va_D A [(a_refusals, .inl (cI, 7, .inl g_refusals)), (a_good, .inl (cI, 40320, .inl g_good)), (a_always, .inl (cZ, 256, .inl g_always)), (a_knot, .inl (cI, 16, .inl g_knot)), (a_this, .inr (5, [.ref a_refusals, .int g_n, z_lines, z_set, z_state, z_weight, z_all, .ref a_good, z_many, .int g_goods, z_trial, .int g_isKnown, .ref a_always, .ref a_knot, .int g_knots, z_part, z_parts]))] := hD
  refine lv_if_eq (tgt := 16) hx hb dX5_join_5 (by decide) (fun k3 => ?_) (fun k3 => ?_)
  · have h := h.1 (bI_0 k3)
    refine lv_aload_n hx hb dX5_join_16 rfl (lv_at hl 0 rfl) ?_
    refine lv_iconst (v := (-1)) hx hb dX5_join_17 (by decide) ?_
    refine MI.callV (As := [.int (-1)]) (rest := []) (wr := [(a_good, .inl (cI, 40320, .inl g_good)), (a_always, .inl (cZ, 256, .inl g_always)), (a_knot, .inl (cI, 16, .inl g_knot))]) (ci := 5) (q0 := 0) (c_X5_refuse l dC dI cI cZ a_this a_refusals (.int g_n) z_lines z_set z_state z_weight z_all (.ref a_good) z_many (.int g_goods) z_trial (.int g_isKnown) (.ref a_always) (.ref a_knot) (.int g_knots) z_part z_parts g_refusals ((-1) : Int32) _ h) ⟨hx, hb, hml, hown, hts⟩ (cwV 1 hts gX5_join_X5_refuse rfl rfl rfl (by decide +kernel) ⟨Nat.le_of_ble_eq_true rfl, Nat.le_of_ble_eq_true rfl⟩) hK hP hD hS hA hNW [4, 0] [1, 2, 3] rfl rfl (by decide) (by decide) (by decide) rfl rfl rfl rfl hl.1 rfl (Nat.le_of_ble_eq_true rfl) dX5_join_18 ⟨Nat.zero_le _, Nat.zero_le _⟩ (fun r5 u H locs hw hP hD hS => ?_)
    obtain ⟨g_refusals_4, rfl⟩ : ∃ z, z = u := ⟨_, rfl⟩
    have h := hw
    try dsimp only at h
    have hP : va_P (dC, dI) vwCl [(a_good, .inl (cI, 40320, .inl g_good)), (a_always, .inl (cZ, 256, .inl g_always)), (a_knot, .inl (cI, 16, .inl g_knot)), (a_this, .inr (5, [.ref a_refusals, .int g_n, z_lines, z_set, z_state, z_weight, z_all, .ref a_good, z_many, .int g_goods, z_trial, .int g_isKnown, .ref a_always, .ref a_knot, .int g_knots, z_part, z_parts])), (a_refusals, .inl (cI, 7, .inl g_refusals_4))] H := hP
    have hD : va_D A [(a_good, .inl (cI, 40320, .inl g_good)), (a_always, .inl (cZ, 256, .inl g_always)), (a_knot, .inl (cI, 16, .inl g_knot)), (a_this, .inr (5, [.ref a_refusals, .int g_n, z_lines, z_set, z_state, z_weight, z_all, .ref a_good, z_many, .int g_goods, z_trial, .int g_isKnown, .ref a_always, .ref a_knot, .int g_knots, z_part, z_parts])), (a_refusals, .inl (cI, 7, .inl g_refusals_4))] := hD
    exact ret _ _ _ _ r5 (g_isKnown, g_knots, g_refusals_4, g_always, g_knot) dX5_join_21 h (reP hP [3, 4, 0, 1, 2] rfl) (hD.sub [3, 4, 0, 1, 2] (by decide) rfl) hS
  · have h := h.2 (bI_1 k3)
    refine lv_aload_n hx hb dX5_join_8 rfl (lv_at hl 0 rfl) ?_
    refine lv_iload_n hx hb dX5_join_9 rfl (lv_at hl 2 rfl) ?_
    refine MI.callV (As := [.int x2]) (rest := []) (wr := [(a_refusals, .inl (cI, 7, .inl g_refusals)), (a_good, .inl (cI, 40320, .inl g_good)), (a_always, .inl (cZ, 256, .inl g_always)), (a_knot, .inl (cI, 16, .inl g_knot))]) (ci := 5) (q0 := 0) (c_X5_isColumn l dC dI cI cZ a_this (.ref a_refusals) z_lines z_set z_state z_weight z_all (.ref a_good) z_many (.int g_goods) z_trial (.int g_isKnown) (.ref a_always) (.ref a_knot) (.int g_knots) z_part z_parts g_n x2 _ h) ⟨hx, hb, hml, hown, hts⟩ (cwV 1 hts gX5_join_X5_isColumn rfl rfl rfl (by decide +kernel) ⟨Nat.le_of_ble_eq_true rfl, Nat.le_of_ble_eq_true rfl⟩) hK hP hD hS hA hNW [4] [0, 1, 2, 3] rfl rfl (by decide) (by decide) (by decide) rfl rfl rfl rfl hl.1 rfl (Nat.le_of_ble_eq_true rfl) dX5_join_10 ⟨Nat.zero_le _, Nat.zero_le _⟩ (fun r6 u H locs hw hP hD hS => ?_)
    obtain ⟨b7, rfl, hw⟩ := hw
    have h := hw
    try dsimp only at h
    have hP : va_P (dC, dI) vwCl [(a_refusals, .inl (cI, 7, .inl g_refusals)), (a_good, .inl (cI, 40320, .inl g_good)), (a_always, .inl (cZ, 256, .inl g_always)), (a_knot, .inl (cI, 16, .inl g_knot)), (a_this, .inr (5, [.ref a_refusals, .int g_n, z_lines, z_set, z_state, z_weight, z_all, .ref a_good, z_many, .int g_goods, z_trial, .int g_isKnown, .ref a_always, .ref a_knot, .int g_knots, z_part, z_parts]))] H := hP
    have hD : va_D A [(a_refusals, .inl (cI, 7, .inl g_refusals)), (a_good, .inl (cI, 40320, .inl g_good)), (a_always, .inl (cZ, 256, .inl g_always)), (a_knot, .inl (cI, 16, .inl g_knot)), (a_this, .inr (5, [.ref a_refusals, .int g_n, z_lines, z_set, z_state, z_weight, z_all, .ref a_good, z_many, .int g_goods, z_trial, .int g_isKnown, .ref a_always, .ref a_knot, .int g_knots, z_part, z_parts]))] := hD
    refine lv_if_ne (tgt := 22) hx hb dX5_join_13 (by decide) (fun k8 => ?_) (fun k8 => ?_)
    · have h := h.1 (bI_1 k8)
      refine lv_aload_n hx hb dX5_join_22 rfl (lv_at hl 0 rfl) ?_
      refine MV.callV (As := []) (rest := []) (wr := [(a_refusals, .inl (cI, 7, .inl g_refusals))]) (ci := 5) (q0 := 0) (c_X5_know l dC dI cI cZ a_this a_good a_always a_knot (.ref a_refusals) z_lines z_set z_state z_weight z_all z_many z_trial z_part z_parts g_n g_goods g_isKnown g_knots g_good g_always g_knot _ h) ⟨hx, hb, hml, hown, hts⟩ (cwV 0 hts gX5_join_X5_know rfl rfl rfl (by decide +kernel) ⟨Nat.le_of_ble_eq_true rfl, Nat.le_of_ble_eq_true rfl⟩) hK hP hD hS hA hNW [4, 1, 2, 3] [0] rfl rfl (by decide) (by decide) (by decide) rfl rfl rfl rfl hl.1 rfl (Nat.le_of_ble_eq_true rfl) dX5_join_23 ⟨Nat.zero_le _, Nat.zero_le _⟩ (fun u H locs hw hP hD hS => ?_)
      obtain ⟨g_isKnown_9, g_knots_10, g_always_11, g_knot_12⟩ := u
      have h := hw
      try dsimp only at h
      have hP : va_P (dC, dI) vwCl [(a_refusals, .inl (cI, 7, .inl g_refusals)), (a_this, .inr (5, [.ref a_refusals, .int g_n, z_lines, z_set, z_state, z_weight, z_all, .ref a_good, z_many, .int g_goods, z_trial, .int g_isKnown_9, .ref a_always, .ref a_knot, .int g_knots_10, z_part, z_parts])), (a_good, .inl (cI, 40320, .inl g_good)), (a_always, .inl (cZ, 256, .inl g_always_11)), (a_knot, .inl (cI, 16, .inl g_knot_12))] H := hP
      have hD : va_D A [(a_refusals, .inl (cI, 7, .inl g_refusals)), (a_this, .inr (5, [.ref a_refusals, .int g_n, z_lines, z_set, z_state, z_weight, z_all, .ref a_good, z_many, .int g_goods, z_trial, .int g_isKnown_9, .ref a_always, .ref a_knot, .int g_knots_10, z_part, z_parts])), (a_good, .inl (cI, 40320, .inl g_good)), (a_always, .inl (cZ, 256, .inl g_always_11)), (a_knot, .inl (cI, 16, .inl g_knot_12))] := hD
      refine lv_aload_n hx hb dX5_join_26 rfl (lv_at hl 0 rfl) ?_
      refine lv_iconst (v := 1) hx hb dX5_join_27 (by decide) ?_
      refine lv_iload_n hx hb dX5_join_28 rfl (lv_at hl 1 rfl) ?_
      refine lv_ishl hx hb dX5_join_29 ?_
      refine lv_iconst (v := 1) hx hb dX5_join_30 (by decide) ?_
      refine lv_iload_n hx hb dX5_join_31 rfl (lv_at hl 2 rfl) ?_
      refine lv_ishl hx hb dX5_join_32 ?_
      refine lv_ior hx hb dX5_join_33 ?_
      refine lv_iconst (v := 0) hx hb dX5_join_34 (by decide) ?_
      refine MI.callV (As := [.int ((1 <<< (x1 &&& 31)) ||| (1 <<< (x2 &&& 31))), .int 0]) (rest := []) (wr := [(a_refusals, .inl (cI, 7, .inl g_refusals)), (a_good, .inl (cI, 40320, .inl g_good)), (a_always, .inl (cZ, 256, .inl g_always_11))]) (ci := 5) (q0 := 0) (c_X5_above l dC dI cI cZ a_this a_knot (.ref a_refusals) (.int g_n) z_lines z_set z_state z_weight z_all (.ref a_good) z_many (.int g_goods) z_trial (.int g_isKnown_9) (.ref a_always) z_part z_parts g_knots_10 g_knot_12 ((1 <<< (x1 &&& 31)) ||| (1 <<< (x2 &&& 31))) (0 : Int32) _ h) ⟨hx, hb, hml, hown, hts⟩ (cwV 2 hts gX5_join_X5_above rfl rfl rfl (by decide +kernel) ⟨Nat.le_of_ble_eq_true rfl, Nat.le_of_ble_eq_true rfl⟩) hK hP hD hS hA hNW [1, 4] [0, 2, 3] rfl rfl (by decide) (by decide) (by decide) rfl rfl rfl rfl hl.1 rfl (Nat.le_of_ble_eq_true rfl) dX5_join_35 ⟨Nat.zero_le _, Nat.zero_le _⟩ (fun r13 u H locs hw hP hD hS => ?_)
      have h := hw
      try dsimp only at h
      have hP : va_P (dC, dI) vwCl [(a_refusals, .inl (cI, 7, .inl g_refusals)), (a_good, .inl (cI, 40320, .inl g_good)), (a_always, .inl (cZ, 256, .inl g_always_11)), (a_this, .inr (5, [.ref a_refusals, .int g_n, z_lines, z_set, z_state, z_weight, z_all, .ref a_good, z_many, .int g_goods, z_trial, .int g_isKnown_9, .ref a_always, .ref a_knot, .int g_knots_10, z_part, z_parts])), (a_knot, .inl (cI, 16, .inl g_knot_12))] H := hP
      have hD : va_D A [(a_refusals, .inl (cI, 7, .inl g_refusals)), (a_good, .inl (cI, 40320, .inl g_good)), (a_always, .inl (cZ, 256, .inl g_always_11)), (a_this, .inr (5, [.ref a_refusals, .int g_n, z_lines, z_set, z_state, z_weight, z_all, .ref a_good, z_many, .int g_goods, z_trial, .int g_isKnown_9, .ref a_always, .ref a_knot, .int g_knots_10, z_part, z_parts])), (a_knot, .inl (cI, 16, .inl g_knot_12))] := hD
      exact ret _ _ _ _ r13 (g_isKnown_9, g_knots_10, g_refusals, g_always_11, g_knot_12) dX5_join_38 h (reP hP [3, 0, 1, 2, 4] rfl) (hD.sub [3, 0, 1, 2, 4] (by decide) rfl) hS
    · have h := h.2 (bI_0 k8)
      refine lv_aload_n hx hb dX5_join_16 rfl (lv_at hl 0 rfl) ?_
      refine lv_iconst (v := (-1)) hx hb dX5_join_17 (by decide) ?_
      refine MI.callV (As := [.int (-1)]) (rest := []) (wr := [(a_good, .inl (cI, 40320, .inl g_good)), (a_always, .inl (cZ, 256, .inl g_always)), (a_knot, .inl (cI, 16, .inl g_knot))]) (ci := 5) (q0 := 0) (c_X5_refuse l dC dI cI cZ a_this a_refusals (.int g_n) z_lines z_set z_state z_weight z_all (.ref a_good) z_many (.int g_goods) z_trial (.int g_isKnown) (.ref a_always) (.ref a_knot) (.int g_knots) z_part z_parts g_refusals ((-1) : Int32) _ h) ⟨hx, hb, hml, hown, hts⟩ (cwV 1 hts gX5_join_X5_refuse rfl rfl rfl (by decide +kernel) ⟨Nat.le_of_ble_eq_true rfl, Nat.le_of_ble_eq_true rfl⟩) hK hP hD hS hA hNW [4, 0] [1, 2, 3] rfl rfl (by decide) (by decide) (by decide) rfl rfl rfl rfl hl.1 rfl (Nat.le_of_ble_eq_true rfl) dX5_join_18 ⟨Nat.zero_le _, Nat.zero_le _⟩ (fun r15 u H locs hw hP hD hS => ?_)
      obtain ⟨g_refusals_14, rfl⟩ : ∃ z, z = u := ⟨_, rfl⟩
      have h := hw
      try dsimp only at h
      have hP : va_P (dC, dI) vwCl [(a_good, .inl (cI, 40320, .inl g_good)), (a_always, .inl (cZ, 256, .inl g_always)), (a_knot, .inl (cI, 16, .inl g_knot)), (a_this, .inr (5, [.ref a_refusals, .int g_n, z_lines, z_set, z_state, z_weight, z_all, .ref a_good, z_many, .int g_goods, z_trial, .int g_isKnown, .ref a_always, .ref a_knot, .int g_knots, z_part, z_parts])), (a_refusals, .inl (cI, 7, .inl g_refusals_14))] H := hP
      have hD : va_D A [(a_good, .inl (cI, 40320, .inl g_good)), (a_always, .inl (cZ, 256, .inl g_always)), (a_knot, .inl (cI, 16, .inl g_knot)), (a_this, .inr (5, [.ref a_refusals, .int g_n, z_lines, z_set, z_state, z_weight, z_all, .ref a_good, z_many, .int g_goods, z_trial, .int g_isKnown, .ref a_always, .ref a_knot, .int g_knots, z_part, z_parts])), (a_refusals, .inl (cI, 7, .inl g_refusals_14))] := hD
      exact ret _ _ _ _ r15 (g_isKnown, g_knots, g_refusals_14, g_always, g_knot) dX5_join_21 h (reP hP [3, 4, 0, 1, 2] rfl) (hD.sub [3, 4, 0, 1, 2] (by decide) rfl) hS
/-! ### X5_gapsOf gapsOf(I)I -/
def rX5_gapsOf : Room := { frames := 2, cells := 0, slots := 0, locals := 48 }
def q_X5_gapsOf_L4 (x1 : Int32) (g_n : Int32) (g_lines : Int32) (g_set : Nat → Int32) (g_state : Nat → Int32) (g_weight : Nat → Int32) (Q : Int32 → Prop) : Nat → Int32 → Int32 → Prop
  | 0 => fun _ _ => False
  | n + 1 => fun x2 x3 => (g_lines ≤ x3 → Q x2) ∧ (¬ g_lines ≤ x3 → vp_in x3 40 ∧ (¬ (g_state (Int32.toNatClampNeg x3)) = 1 → ∀ x2_4 : Int32, x2_4 = (x2 + 0) → (q_X5_gapsOf_L4 x1 g_n g_lines g_set g_state g_weight Q n) x2_4 (x3 + 1)) ∧ ((g_state (Int32.toNatClampNeg x3)) = 1 → q_X5_runs g_n x1 (g_set (Int32.toNatClampNeg x3)) (fun r5 => ∀ x2_6 : Int32, x2_6 = (x2 + ((g_weight (Int32.toNatClampNeg x3)) * (r5 - 1))) → (q_X5_gapsOf_L4 x1 g_n g_lines g_set g_state g_weight Q n) x2_6 (x3 + 1))))
def q_X5_gapsOf (g_n : Int32) (g_lines : Int32) (g_set : Nat → Int32) (g_state : Nat → Int32) (g_weight : Nat → Int32) (x1 : Int32) (Q : Int32 → Prop) : Prop :=
  ∃ N : Nat, q_X5_gapsOf_L4 x1 g_n g_lines g_set g_state g_weight Q N 0 0
set_option maxRecDepth 100000 in
set_option maxHeartbeats 4000000 in
theorem c_X5_gapsOf (l : Launch) (dC : Nat → ClassId) (dI : Nat → Nat → Nat) (cI cZ : ClassId) (a_this a_set a_state a_weight : Nat) (z_refusals z_all z_good z_many z_goods z_trial z_isKnown z_always z_knot z_knots z_part z_parts : Value) (g_n : Int32) (g_lines : Int32) (g_set : Nat → Int32) (g_state : Nat → Int32) (g_weight : Nat → Int32) (x1 : Int32) (Q : Int32 → Prop) (h : q_X5_gapsOf g_n g_lines g_set g_state g_weight x1 Q) : MI l yX5_gapsOf wsX5_gapsOf rX5_gapsOf (dC, dI) [(cI, .int), (cZ, .boolean)] [.ref a_this, .int x1] [(a_this, .inr (5, [z_refusals, .int g_n, .int g_lines, .ref a_set, .ref a_state, .ref a_weight, z_all, z_good, z_many, z_goods, z_trial, z_isKnown, z_always, z_knot, z_knots, z_part, z_parts])), (a_set, .inl (cI, 40, .inl g_set)), (a_state, .inl (cI, 40, .inl g_state)), (a_weight, .inl (cI, 40, .inl g_weight))] (fun (r : Int32) (u : Unit) => Q r) (fun u : Unit => [(a_this, .inr (5, [z_refusals, .int g_n, .int g_lines, .ref a_set, .ref a_state, .ref a_weight, z_all, z_good, z_many, z_goods, z_trial, z_isKnown, z_always, z_knot, z_knots, z_part, z_parts])), (a_set, .inl (cI, 40, .inl g_set)), (a_state, .inl (cI, 40, .inl g_state)), (a_weight, .inl (cI, 40, .inl g_weight))]) := by
  refine MI.of (cc := cX5_gapsOf) (maxL := 4) (by decide +kernel) rfl (Nat.le_of_ble_eq_true rfl) ?_
  intro p e s m args below meth c A QQ ls hx hb hml hown hts hA hK hP hD hS hNW ret hl
  have hl : lv_has ls 4 [(0, .ref a_this), (1, .int x1)] := hl
  have hown : s.vm.findClass RX5 = some m.cls := hown
  have in5 : ∀ w ∈ u_ws RX5 TX5 17, w ∈ wsX5_gapsOf := fun _ w9 => List.mem_cons_of_mem _ (List.mem_append_right _ w9)
  have f13 := hts (.fieldLink RX5 13 "OnesDeskModel" "set" "[I") (by decide +kernel)
  have f16 := hts (.fieldLink RX5 16 "OnesDeskModel" "state" "[I") (by decide +kernel)
  have f19 := hts (.fieldLink RX5 19 "OnesDeskModel" "weight" "[I") (by decide +kernel)
  have f50 := hts (.fieldLink RX5 50 "OnesDeskModel" "lines" "I") (by decide +kernel)
  refine lv_iconst (v := 0) hx hb dX5_gapsOf_0 (by decide) ?_
  refine lv_istore_n (lv' := [(2, .int 0), (0, .ref a_this), (1, .int x1)]) hx hb dX5_gapsOf_1 rfl hl (by decide) rfl (fun ls hl => ?_)
  refine lv_iconst (v := 0) hx hb dX5_gapsOf_2 (by decide) ?_
  refine lv_istore_n (lv' := [(3, .int 0), (2, .int 0), (0, .ref a_this), (1, .int x1)]) hx hb dX5_gapsOf_3 rfl hl (by decide) rfl (fun ls hl => ?_)
  have L4 : ∀ (n4 : Nat), ∀ (x2 : Int32) (x3 : Int32), q_X5_gapsOf_L4 x1 g_n g_lines g_set g_state g_weight Q n4 x2 x3 → ∀ (H : Heap) (locs : List Loc) (ls : Array Slot), va_P (dC, dI) vwCl [(a_this, .inr (5, [z_refusals, .int g_n, .int g_lines, .ref a_set, .ref a_state, .ref a_weight, z_all, z_good, z_many, z_goods, z_trial, z_isKnown, z_always, z_knot, z_knots, z_part, z_parts])), (a_set, .inl (cI, 40, .inl g_set)), (a_state, .inl (cI, 40, .inl g_state)), (a_weight, .inl (cI, 40, .inl g_weight))] H → va_D A [(a_this, .inr (5, [z_refusals, .int g_n, .int g_lines, .ref a_set, .ref a_state, .ref a_weight, z_all, z_good, z_many, z_goods, z_trial, z_isKnown, z_always, z_knot, z_knots, z_part, z_parts])), (a_set, .inl (cI, 40, .inl g_set)), (a_state, .inl (cI, 40, .inl g_state)), (a_weight, .inl (cI, 40, .inl g_weight))] → va_S A s.heap H locs → lv_has ls 4 [(0, .ref a_this), (1, .int x1), (2, .int x2), (3, .int x3)] → W p l e rX5_gapsOf s m args below meth c H locs 0 0 QQ (F0 m 4 ls []) := by
    intro n4
    induction n4 with
    | zero => intro x2 x3 h; exact False.elim h
    | succ n4 ih4 =>
      intro x2 x3 h H locs ls hP hD hS hl
      refine lv_iload_n hx hb dX5_gapsOf_4 rfl (lv_at hl 3 rfl) ?_
      refine lv_aload_n hx hb dX5_gapsOf_5 rfl (lv_at hl 0 rfl) ?_
      refine va_get (D := (dC, dI)) (ci := 5) (v := .int g_lines) (C := RX5) (T := TX5) (N := 17) hx hb hts in5 hown hK hP 0 rfl rfl 2 (by decide) f50 (fun _ h9 => h9) rfl dX5_gapsOf_6 ?_
      refine lv_icmp_ge (tgt := 55) hx hb dX5_gapsOf_9 (by decide) (fun k1 => ?_) (fun k1 => ?_)
      · have h := h.1 k1
        refine lv_iload_n hx hb dX5_gapsOf_55 rfl (lv_at hl 2 rfl) ?_
        exact ret _ _ _ _ x2 () dX5_gapsOf_56 h (reP hP [0, 1, 2, 3] rfl) (hD.sub [0, 1, 2, 3] (by decide) rfl) hS
      · have h := h.2 k1
        refine lv_iload_n hx hb dX5_gapsOf_12 rfl (lv_at hl 2 rfl) ?_
        refine lv_aload_n hx hb dX5_gapsOf_13 rfl (lv_at hl 0 rfl) ?_
        refine va_get (D := (dC, dI)) (ci := 5) (v := .ref a_state) (C := RX5) (T := TX5) (N := 17) hx hb hts in5 hown hK hP 0 rfl rfl 4 (by decide) f16 (fun _ h9 => h9) rfl dX5_gapsOf_14 ?_
        refine lv_iload_n hx hb dX5_gapsOf_17 rfl (lv_at hl 3 rfl) ?_
        obtain ⟨hi2, h⟩ := h
        refine va_iald (D := (dC, dI)) hx hb hK hP 2 0 rfl rfl hi2 dX5_gapsOf_18 ?_
        refine lv_iconst (v := 1) hx hb dX5_gapsOf_19 (by decide) ?_
        refine lv_icmp_ne (tgt := 46) hx hb dX5_gapsOf_20 (by decide) (fun k3 => ?_) (fun k3 => ?_)
        · have h := h.1 k3
          refine lv_iconst (v := 0) hx hb dX5_gapsOf_46 (by decide) ?_
          refine lv_iadd hx hb dX5_gapsOf_47 ?_
          refine lv_topi (fun x2_4 ex2_4 => ?_)
          have h := h x2_4 ex2_4
          refine lv_istore_n (lv' := [(2, .int x2_4), (0, .ref a_this), (1, .int x1), (3, .int x3)]) hx hb dX5_gapsOf_48 rfl hl (by decide) rfl (fun ls hl => ?_)
          refine lv_iinc (v := x3 + 1) (lv' := [(3, .int (x3 + 1)), (2, .int x2_4), (0, .ref a_this), (1, .int x1)]) hx hb dX5_gapsOf_49 hl (k := 3) rfl rfl (by decide) rfl (fun ls hl => ?_)
          refine lv_goto (tgt := 4) hx hb dX5_gapsOf_52 (by decide) ?_
          exact ih4 x2_4 (x3 + 1) h _ _ _ (reP hP [0, 1, 2, 3] rfl) (hD.sub [0, 1, 2, 3] (by decide) rfl) hS (lv_sub hl [2, 3, 1, 0] rfl)
        · have h := h.2 k3
          refine lv_aload_n hx hb dX5_gapsOf_23 rfl (lv_at hl 0 rfl) ?_
          refine va_get (D := (dC, dI)) (ci := 5) (v := .ref a_weight) (C := RX5) (T := TX5) (N := 17) hx hb hts in5 hown hK hP 0 rfl rfl 5 (by decide) f19 (fun _ h9 => h9) rfl dX5_gapsOf_24 ?_
          refine lv_iload_n hx hb dX5_gapsOf_27 rfl (lv_at hl 3 rfl) ?_
          refine va_iald (D := (dC, dI)) hx hb hK hP 3 0 rfl rfl hi2 dX5_gapsOf_28 ?_
          refine lv_aload_n hx hb dX5_gapsOf_29 rfl (lv_at hl 0 rfl) ?_
          refine lv_iload_n hx hb dX5_gapsOf_30 rfl (lv_at hl 1 rfl) ?_
          refine lv_aload_n hx hb dX5_gapsOf_31 rfl (lv_at hl 0 rfl) ?_
          refine va_get (D := (dC, dI)) (ci := 5) (v := .ref a_set) (C := RX5) (T := TX5) (N := 17) hx hb hts in5 hown hK hP 0 rfl rfl 3 (by decide) f13 (fun _ h9 => h9) rfl dX5_gapsOf_32 ?_
          refine lv_iload_n hx hb dX5_gapsOf_35 rfl (lv_at hl 3 rfl) ?_
          refine va_iald (D := (dC, dI)) hx hb hK hP 1 0 rfl rfl hi2 dX5_gapsOf_36 ?_
          refine MI.callV (As := [.int x1, .int (g_set (Int32.toNatClampNeg x3))]) (rest := [.int (g_weight (Int32.toNatClampNeg x3)), .int x2]) (wr := [(a_set, .inl (cI, 40, .inl g_set)), (a_state, .inl (cI, 40, .inl g_state)), (a_weight, .inl (cI, 40, .inl g_weight))]) (ci := 5) (q0 := 0) (c_X5_runs l dC dI cI cZ a_this z_refusals (.int g_lines) (.ref a_set) (.ref a_state) (.ref a_weight) z_all z_good z_many z_goods z_trial z_isKnown z_always z_knot z_knots z_part z_parts g_n x1 (g_set (Int32.toNatClampNeg x3)) _ h) ⟨hx, hb, hml, hown, hts⟩ (cwV 2 hts gX5_gapsOf_X5_runs rfl rfl rfl (by decide +kernel) ⟨Nat.le_of_ble_eq_true rfl, Nat.le_of_ble_eq_true rfl⟩) hK hP hD hS hA hNW [0] [1, 2, 3] rfl rfl (by decide) (by decide) (by decide) rfl rfl rfl rfl hl.1 rfl (Nat.le_of_ble_eq_true rfl) dX5_gapsOf_37 ⟨Nat.zero_le _, Nat.zero_le _⟩ (fun r5 u H locs hw hP hD hS => ?_)
          have h := hw
          try dsimp only at h
          have hP : va_P (dC, dI) vwCl [(a_set, .inl (cI, 40, .inl g_set)), (a_state, .inl (cI, 40, .inl g_state)), (a_weight, .inl (cI, 40, .inl g_weight)), (a_this, .inr (5, [z_refusals, .int g_n, .int g_lines, .ref a_set, .ref a_state, .ref a_weight, z_all, z_good, z_many, z_goods, z_trial, z_isKnown, z_always, z_knot, z_knots, z_part, z_parts]))] H := hP
          have hD : va_D A [(a_set, .inl (cI, 40, .inl g_set)), (a_state, .inl (cI, 40, .inl g_state)), (a_weight, .inl (cI, 40, .inl g_weight)), (a_this, .inr (5, [z_refusals, .int g_n, .int g_lines, .ref a_set, .ref a_state, .ref a_weight, z_all, z_good, z_many, z_goods, z_trial, z_isKnown, z_always, z_knot, z_knots, z_part, z_parts]))] := hD
          refine lv_iconst (v := 1) hx hb dX5_gapsOf_40 (by decide) ?_
          refine lv_isub hx hb dX5_gapsOf_41 ?_
          refine lv_imul hx hb dX5_gapsOf_42 ?_
          refine lv_goto (tgt := 47) hx hb dX5_gapsOf_43 (by decide) ?_
          refine lv_iadd hx hb dX5_gapsOf_47 ?_
          refine lv_topi (fun x2_6 ex2_6 => ?_)
          have h := h x2_6 ex2_6
          refine lv_istore_n (lv' := [(2, .int x2_6), (0, .ref a_this), (1, .int x1), (3, .int x3)]) hx hb dX5_gapsOf_48 rfl hl (by decide) rfl (fun ls hl => ?_)
          refine lv_iinc (v := x3 + 1) (lv' := [(3, .int (x3 + 1)), (2, .int x2_6), (0, .ref a_this), (1, .int x1)]) hx hb dX5_gapsOf_49 hl (k := 3) rfl rfl (by decide) rfl (fun ls hl => ?_)
          refine lv_goto (tgt := 4) hx hb dX5_gapsOf_52 (by decide) ?_
          exact ih4 x2_6 (x3 + 1) h _ _ _ (reP hP [3, 0, 1, 2] rfl) (hD.sub [3, 0, 1, 2] (by decide) rfl) hS (lv_sub hl [2, 3, 1, 0] rfl)
  obtain ⟨n, h⟩ := h
  exact L4 n 0 0 h _ _ _ (reP hP [0, 1, 2, 3] rfl) (hD.sub [0, 1, 2, 3] (by decide) rfl) hS (lv_sub hl [2, 3, 1, 0] rfl)
/-! ### X5_gaps gaps(I)I -/
def rX5_gaps : Room := { frames := 3, cells := 0, slots := 0, locals := 71 }
def q_X5_gaps (g_n : Int32) (g_lines : Int32) (g_goods : Int32) (g_refusals : Nat → Int32) (g_set : Nat → Int32) (g_state : Nat → Int32) (g_weight : Nat → Int32) (g_good : Nat → Int32) (x1 : Int32) (Q : Int32 → (Nat → Int32) → Prop) : Prop :=
  q_X5_isIn x1 g_goods (fun b2 => (b2 = false → q_X5_refuse g_refusals ((-1) : Int32) (fun r5 g_refusals_4 => Q r5 g_refusals_4)) ∧ (b2 = true → vp_in x1 40320 ∧ q_X5_gapsOf g_n g_lines g_set g_state g_weight (g_good (Int32.toNatClampNeg x1)) (fun r7 => Q r7 g_refusals)))
set_option maxRecDepth 100000 in
set_option maxHeartbeats 4000000 in
theorem c_X5_gaps (l : Launch) (dC : Nat → ClassId) (dI : Nat → Nat → Nat) (cI cZ : ClassId) (a_this a_refusals a_set a_state a_weight a_good : Nat) (z_all z_many z_trial z_isKnown z_always z_knot z_knots z_part z_parts : Value) (g_n : Int32) (g_lines : Int32) (g_goods : Int32) (g_refusals : Nat → Int32) (g_set : Nat → Int32) (g_state : Nat → Int32) (g_weight : Nat → Int32) (g_good : Nat → Int32) (x1 : Int32) (Q : Int32 → (Nat → Int32) → Prop) (h : q_X5_gaps g_n g_lines g_goods g_refusals g_set g_state g_weight g_good x1 Q) : MI l yX5_gaps wsX5_gaps rX5_gaps (dC, dI) [(cI, .int), (cZ, .boolean)] [.ref a_this, .int x1] [(a_this, .inr (5, [.ref a_refusals, .int g_n, .int g_lines, .ref a_set, .ref a_state, .ref a_weight, z_all, .ref a_good, z_many, .int g_goods, z_trial, z_isKnown, z_always, z_knot, z_knots, z_part, z_parts])), (a_refusals, .inl (cI, 7, .inl g_refusals)), (a_set, .inl (cI, 40, .inl g_set)), (a_state, .inl (cI, 40, .inl g_state)), (a_weight, .inl (cI, 40, .inl g_weight)), (a_good, .inl (cI, 40320, .inl g_good))] (fun (r : Int32) (u : (Nat → Int32)) => Q r u) (fun u : (Nat → Int32) => [(a_this, .inr (5, [.ref a_refusals, .int g_n, .int g_lines, .ref a_set, .ref a_state, .ref a_weight, z_all, .ref a_good, z_many, .int g_goods, z_trial, z_isKnown, z_always, z_knot, z_knots, z_part, z_parts])), (a_refusals, .inl (cI, 7, .inl u)), (a_set, .inl (cI, 40, .inl g_set)), (a_state, .inl (cI, 40, .inl g_state)), (a_weight, .inl (cI, 40, .inl g_weight)), (a_good, .inl (cI, 40320, .inl g_good))]) := by
  refine MI.of (cc := cX5_gaps) (maxL := 2) (by decide +kernel) rfl (Nat.le_of_ble_eq_true rfl) ?_
  intro p e s m args below meth c A QQ ls hx hb hml hown hts hA hK hP hD hS hNW ret hl
  have hl : lv_has ls 2 [(0, .ref a_this), (1, .int x1)] := hl
  have hown : s.vm.findClass RX5 = some m.cls := hown
  have in5 : ∀ w ∈ u_ws RX5 TX5 17, w ∈ wsX5_gaps := fun _ w9 => List.mem_cons_of_mem _ (List.mem_append_right _ w9)
  have f26 := hts (.fieldLink RX5 26 "OnesDeskModel" "good" "[I") (by decide +kernel)
  have f60 := hts (.fieldLink RX5 60 "OnesDeskModel" "goods" "I") (by decide +kernel)
  refine lv_iload_n hx hb dX5_gaps_0 rfl (lv_at hl 1 rfl) ?_
  refine lv_aload_n hx hb dX5_gaps_1 rfl (lv_at hl 0 rfl) ?_
  refine va_get (D := (dC, dI)) (ci := 5) (v := .int g_goods) (C := RX5) (T := TX5) (N := 17) hx hb hts in5 hown hK hP 0 rfl rfl 9 (by decide) f60 (fun _ h9 => h9) rfl dX5_gaps_2 ?_
  refine MI.callS (As := [.int x1, .int g_goods]) (rest := []) (wr := [(a_this, .inr (5, [.ref a_refusals, .int g_n, .int g_lines, .ref a_set, .ref a_state, .ref a_weight, z_all, .ref a_good, z_many, .int g_goods, z_trial, z_isKnown, z_always, z_knot, z_knots, z_part, z_parts])), (a_refusals, .inl (cI, 7, .inl g_refusals)), (a_set, .inl (cI, 40, .inl g_set)), (a_state, .inl (cI, 40, .inl g_state)), (a_weight, .inl (cI, 40, .inl g_weight)), (a_good, .inl (cI, 40320, .inl g_good))]) (c_X5_isIn l dC dI cI cZ x1 g_goods _ h) ⟨hx, hb, hml, hown, hts⟩ (va_cwS 2 hts gX5_gaps_X5_isIn rfl rfl rfl (by decide +kernel) ⟨Nat.le_of_ble_eq_true rfl, Nat.le_of_ble_eq_true rfl⟩) hK hP hD hS hA hNW [] [0, 1, 2, 3, 4, 5] rfl rfl (by decide) (by decide) (by decide) rfl hl.1 rfl (Nat.le_of_ble_eq_true rfl) dX5_gaps_5 ⟨Nat.zero_le _, Nat.zero_le _⟩ (fun r1 u H locs hw hP hD hS => ?_)
  obtain ⟨b2, rfl, hw⟩ := hw
  have h := hw
  try dsimp only at h
  have hP : va_P (dC, dI) vwCl [(a_this, .inr (5, [.ref a_refusals, .int g_n, .int g_lines, .ref a_set, .ref a_state, .ref a_weight, z_all, .ref a_good, z_many, .int g_goods, z_trial, z_isKnown, z_always, z_knot, z_knots, z_part, z_parts])), (a_refusals, .inl (cI, 7, .inl g_refusals)), (a_set, .inl (cI, 40, .inl g_set)), (a_state, .inl (cI, 40, .inl g_state)), (a_weight, .inl (cI, 40, .inl g_weight)), (a_good, .inl (cI, 40320, .inl g_good))] H := hP
  have hD : va_D A [(a_this, .inr (5, [.ref a_refusals, .int g_n, .int g_lines, .ref a_set, .ref a_state, .ref a_weight, z_all, .ref a_good, z_many, .int g_goods, z_trial, z_isKnown, z_always, z_knot, z_knots, z_part, z_parts])), (a_refusals, .inl (cI, 7, .inl g_refusals)), (a_set, .inl (cI, 40, .inl g_set)), (a_state, .inl (cI, 40, .inl g_state)), (a_weight, .inl (cI, 40, .inl g_weight)), (a_good, .inl (cI, 40320, .inl g_good))] := hD
  refine lv_if_eq (tgt := 24) hx hb dX5_gaps_8 (by decide) (fun k3 => ?_) (fun k3 => ?_)
  · have h := h.1 (bI_0 k3)
    refine lv_aload_n hx hb dX5_gaps_24 rfl (lv_at hl 0 rfl) ?_
    refine lv_iconst (v := (-1)) hx hb dX5_gaps_25 (by decide) ?_
    refine MI.callV (As := [.int (-1)]) (rest := []) (wr := [(a_set, .inl (cI, 40, .inl g_set)), (a_state, .inl (cI, 40, .inl g_state)), (a_weight, .inl (cI, 40, .inl g_weight)), (a_good, .inl (cI, 40320, .inl g_good))]) (ci := 5) (q0 := 0) (c_X5_refuse l dC dI cI cZ a_this a_refusals (.int g_n) (.int g_lines) (.ref a_set) (.ref a_state) (.ref a_weight) z_all (.ref a_good) z_many (.int g_goods) z_trial z_isKnown z_always z_knot z_knots z_part z_parts g_refusals ((-1) : Int32) _ h) ⟨hx, hb, hml, hown, hts⟩ (cwV 1 hts gX5_gaps_X5_refuse rfl rfl rfl (by decide +kernel) ⟨Nat.le_of_ble_eq_true rfl, Nat.le_of_ble_eq_true rfl⟩) hK hP hD hS hA hNW [0, 1] [2, 3, 4, 5] rfl rfl (by decide) (by decide) (by decide) rfl rfl rfl rfl hl.1 rfl (Nat.le_of_ble_eq_true rfl) dX5_gaps_26 ⟨Nat.zero_le _, Nat.zero_le _⟩ (fun r5 u H locs hw hP hD hS => ?_)
    obtain ⟨g_refusals_4, rfl⟩ : ∃ z, z = u := ⟨_, rfl⟩
    have h := hw
    try dsimp only at h
    have hP : va_P (dC, dI) vwCl [(a_set, .inl (cI, 40, .inl g_set)), (a_state, .inl (cI, 40, .inl g_state)), (a_weight, .inl (cI, 40, .inl g_weight)), (a_good, .inl (cI, 40320, .inl g_good)), (a_this, .inr (5, [.ref a_refusals, .int g_n, .int g_lines, .ref a_set, .ref a_state, .ref a_weight, z_all, .ref a_good, z_many, .int g_goods, z_trial, z_isKnown, z_always, z_knot, z_knots, z_part, z_parts])), (a_refusals, .inl (cI, 7, .inl g_refusals_4))] H := hP
    have hD : va_D A [(a_set, .inl (cI, 40, .inl g_set)), (a_state, .inl (cI, 40, .inl g_state)), (a_weight, .inl (cI, 40, .inl g_weight)), (a_good, .inl (cI, 40320, .inl g_good)), (a_this, .inr (5, [.ref a_refusals, .int g_n, .int g_lines, .ref a_set, .ref a_state, .ref a_weight, z_all, .ref a_good, z_many, .int g_goods, z_trial, z_isKnown, z_always, z_knot, z_knots, z_part, z_parts])), (a_refusals, .inl (cI, 7, .inl g_refusals_4))] := hD
    exact ret _ _ _ _ r5 g_refusals_4 dX5_gaps_29 h (reP hP [4, 5, 0, 1, 2, 3] rfl) (hD.sub [4, 5, 0, 1, 2, 3] (by decide) rfl) hS
  · have h := h.2 (bI_1 k3)
    refine lv_aload_n hx hb dX5_gaps_11 rfl (lv_at hl 0 rfl) ?_
    refine lv_aload_n hx hb dX5_gaps_12 rfl (lv_at hl 0 rfl) ?_
    refine va_get (D := (dC, dI)) (ci := 5) (v := .ref a_good) (C := RX5) (T := TX5) (N := 17) hx hb hts in5 hown hK hP 0 rfl rfl 7 (by decide) f26 (fun _ h9 => h9) rfl dX5_gaps_13 ?_
    refine lv_iload_n hx hb dX5_gaps_16 rfl (lv_at hl 1 rfl) ?_
    obtain ⟨hi6, h⟩ := h
    refine va_iald (D := (dC, dI)) hx hb hK hP 5 0 rfl rfl hi6 dX5_gaps_17 ?_
    refine MI.callV (As := [.int (g_good (Int32.toNatClampNeg x1))]) (rest := []) (wr := [(a_refusals, .inl (cI, 7, .inl g_refusals)), (a_good, .inl (cI, 40320, .inl g_good))]) (ci := 5) (q0 := 0) (c_X5_gapsOf l dC dI cI cZ a_this a_set a_state a_weight (.ref a_refusals) z_all (.ref a_good) z_many (.int g_goods) z_trial z_isKnown z_always z_knot z_knots z_part z_parts g_n g_lines g_set g_state g_weight (g_good (Int32.toNatClampNeg x1)) _ h) ⟨hx, hb, hml, hown, hts⟩ (cwV 1 hts gX5_gaps_X5_gapsOf rfl rfl rfl (by decide +kernel) ⟨Nat.le_of_ble_eq_true rfl, Nat.le_of_ble_eq_true rfl⟩) hK hP hD hS hA hNW [0, 2, 3, 4] [1, 5] rfl rfl (by decide) (by decide) (by decide) rfl rfl rfl rfl hl.1 rfl (Nat.le_of_ble_eq_true rfl) dX5_gaps_18 ⟨Nat.zero_le _, Nat.zero_le _⟩ (fun r7 u H locs hw hP hD hS => ?_)
    have h := hw
    try dsimp only at h
    have hP : va_P (dC, dI) vwCl [(a_refusals, .inl (cI, 7, .inl g_refusals)), (a_good, .inl (cI, 40320, .inl g_good)), (a_this, .inr (5, [.ref a_refusals, .int g_n, .int g_lines, .ref a_set, .ref a_state, .ref a_weight, z_all, .ref a_good, z_many, .int g_goods, z_trial, z_isKnown, z_always, z_knot, z_knots, z_part, z_parts])), (a_set, .inl (cI, 40, .inl g_set)), (a_state, .inl (cI, 40, .inl g_state)), (a_weight, .inl (cI, 40, .inl g_weight))] H := hP
    have hD : va_D A [(a_refusals, .inl (cI, 7, .inl g_refusals)), (a_good, .inl (cI, 40320, .inl g_good)), (a_this, .inr (5, [.ref a_refusals, .int g_n, .int g_lines, .ref a_set, .ref a_state, .ref a_weight, z_all, .ref a_good, z_many, .int g_goods, z_trial, z_isKnown, z_always, z_knot, z_knots, z_part, z_parts])), (a_set, .inl (cI, 40, .inl g_set)), (a_state, .inl (cI, 40, .inl g_state)), (a_weight, .inl (cI, 40, .inl g_weight))] := hD
    refine lv_goto (tgt := 29) hx hb dX5_gaps_21 (by decide) ?_
    exact ret _ _ _ _ r7 g_refusals dX5_gaps_29 h (reP hP [2, 0, 3, 4, 5, 1] rfl) (hD.sub [2, 0, 3, 4, 5, 1] (by decide) rfl) hS
/-! ### X5_best best()I -/
def rX5_best : Room := { frames := 3, cells := 0, slots := 0, locals := 71 }
def q_X5_best_L15 (g_n : Int32) (g_lines : Int32) (g_goods : Int32) (g_set : Nat → Int32) (g_state : Nat → Int32) (g_weight : Nat → Int32) (g_good : Nat → Int32) (Q : Int32 → Prop) : Nat → Int32 → Int32 → Int32 → Prop
  | 0 => fun _ _ _ => False
  | n + 1 => fun x1 x2 x3 => (g_goods ≤ x3 → Q x1) ∧ (¬ g_goods ≤ x3 → vp_in x3 40320 ∧ q_X5_gapsOf g_n g_lines g_set g_state g_weight (g_good (Int32.toNatClampNeg x3)) (fun r3 => (r3 < x2 → (q_X5_best_L15 g_n g_lines g_goods g_set g_state g_weight g_good Q n) x3 r3 (x3 + 1)) ∧ (¬ r3 < x2 → (q_X5_best_L15 g_n g_lines g_goods g_set g_state g_weight g_good Q n) x1 x2 (x3 + 1))))
def q_X5_best (g_n : Int32) (g_lines : Int32) (g_goods : Int32) (g_set : Nat → Int32) (g_state : Nat → Int32) (g_weight : Nat → Int32) (g_good : Nat → Int32) (Q : Int32 → Prop) : Prop :=
  q_X5_gapsOf g_n g_lines g_set g_state g_weight (g_good (Int32.toNatClampNeg 0)) (fun r1 => ∃ N : Nat, q_X5_best_L15 g_n g_lines g_goods g_set g_state g_weight g_good Q N 0 r1 1)
set_option maxRecDepth 100000 in
set_option maxHeartbeats 4000000 in
theorem c_X5_best (l : Launch) (dC : Nat → ClassId) (dI : Nat → Nat → Nat) (cI cZ : ClassId) (a_this a_set a_state a_weight a_good : Nat) (z_refusals z_all z_many z_trial z_isKnown z_always z_knot z_knots z_part z_parts : Value) (g_n : Int32) (g_lines : Int32) (g_goods : Int32) (g_set : Nat → Int32) (g_state : Nat → Int32) (g_weight : Nat → Int32) (g_good : Nat → Int32) (Q : Int32 → Prop) (h : q_X5_best g_n g_lines g_goods g_set g_state g_weight g_good Q) : MI l yX5_best wsX5_best rX5_best (dC, dI) [(cI, .int), (cZ, .boolean)] [.ref a_this] [(a_this, .inr (5, [z_refusals, .int g_n, .int g_lines, .ref a_set, .ref a_state, .ref a_weight, z_all, .ref a_good, z_many, .int g_goods, z_trial, z_isKnown, z_always, z_knot, z_knots, z_part, z_parts])), (a_set, .inl (cI, 40, .inl g_set)), (a_state, .inl (cI, 40, .inl g_state)), (a_weight, .inl (cI, 40, .inl g_weight)), (a_good, .inl (cI, 40320, .inl g_good))] (fun (r : Int32) (u : Unit) => Q r) (fun u : Unit => [(a_this, .inr (5, [z_refusals, .int g_n, .int g_lines, .ref a_set, .ref a_state, .ref a_weight, z_all, .ref a_good, z_many, .int g_goods, z_trial, z_isKnown, z_always, z_knot, z_knots, z_part, z_parts])), (a_set, .inl (cI, 40, .inl g_set)), (a_state, .inl (cI, 40, .inl g_state)), (a_weight, .inl (cI, 40, .inl g_weight)), (a_good, .inl (cI, 40320, .inl g_good))]) := by
  refine MI.of (cc := cX5_best) (maxL := 5) (by decide +kernel) rfl (Nat.le_of_ble_eq_true rfl) ?_
  intro p e s m args below meth c A QQ ls hx hb hml hown hts hA hK hP hD hS hNW ret hl
  have hl : lv_has ls 5 [(0, .ref a_this)] := hl
  have hown : s.vm.findClass RX5 = some m.cls := hown
  have in5 : ∀ w ∈ u_ws RX5 TX5 17, w ∈ wsX5_best := fun _ w9 => List.mem_cons_of_mem _ (List.mem_append_right _ w9)
  have f26 := hts (.fieldLink RX5 26 "OnesDeskModel" "good" "[I") (by decide +kernel)
  have f60 := hts (.fieldLink RX5 60 "OnesDeskModel" "goods" "I") (by decide +kernel)
  refine lv_iconst (v := 0) hx hb dX5_best_0 (by decide) ?_
  refine lv_istore_n (lv' := [(1, .int 0), (0, .ref a_this)]) hx hb dX5_best_1 rfl hl (by decide) rfl (fun ls hl => ?_)
  refine lv_aload_n hx hb dX5_best_2 rfl (lv_at hl 1 rfl) ?_
  refine lv_aload_n hx hb dX5_best_3 rfl (lv_at hl 1 rfl) ?_
  refine va_get (D := (dC, dI)) (ci := 5) (v := .ref a_good) (C := RX5) (T := TX5) (N := 17) hx hb hts in5 hown hK hP 0 rfl rfl 7 (by decide) f26 (fun _ h9 => h9) rfl dX5_best_4 ?_
  refine lv_iconst (v := 0) hx hb dX5_best_7 (by decide) ?_
  refine va_iald (D := (dC, dI)) hx hb hK hP 4 0 rfl rfl (show ¬ (_ ∨ _) by decide) dX5_best_8 ?_
  refine MI.callV (As := [.int (g_good (Int32.toNatClampNeg 0))]) (rest := []) (wr := [(a_good, .inl (cI, 40320, .inl g_good))]) (ci := 5) (q0 := 0) (c_X5_gapsOf l dC dI cI cZ a_this a_set a_state a_weight z_refusals z_all (.ref a_good) z_many (.int g_goods) z_trial z_isKnown z_always z_knot z_knots z_part z_parts g_n g_lines g_set g_state g_weight (g_good (Int32.toNatClampNeg 0)) _ h) ⟨hx, hb, hml, hown, hts⟩ (cwV 1 hts gX5_best_X5_gapsOf rfl rfl rfl (by decide +kernel) ⟨Nat.le_of_ble_eq_true rfl, Nat.le_of_ble_eq_true rfl⟩) hK hP hD hS hA hNW [0, 1, 2, 3] [4] rfl rfl (by decide) (by decide) (by decide) rfl rfl rfl rfl hl.1 rfl (Nat.le_of_ble_eq_true rfl) dX5_best_9 ⟨Nat.zero_le _, Nat.zero_le _⟩ (fun r1 u H locs hw hP hD hS => ?_)
  have h := hw
  try dsimp only at h
  have hP : va_P (dC, dI) vwCl [(a_good, .inl (cI, 40320, .inl g_good)), (a_this, .inr (5, [z_refusals, .int g_n, .int g_lines, .ref a_set, .ref a_state, .ref a_weight, z_all, .ref a_good, z_many, .int g_goods, z_trial, z_isKnown, z_always, z_knot, z_knots, z_part, z_parts])), (a_set, .inl (cI, 40, .inl g_set)), (a_state, .inl (cI, 40, .inl g_state)), (a_weight, .inl (cI, 40, .inl g_weight))] H := hP
  have hD : va_D A [(a_good, .inl (cI, 40320, .inl g_good)), (a_this, .inr (5, [z_refusals, .int g_n, .int g_lines, .ref a_set, .ref a_state, .ref a_weight, z_all, .ref a_good, z_many, .int g_goods, z_trial, z_isKnown, z_always, z_knot, z_knots, z_part, z_parts])), (a_set, .inl (cI, 40, .inl g_set)), (a_state, .inl (cI, 40, .inl g_state)), (a_weight, .inl (cI, 40, .inl g_weight))] := hD
  refine lv_istore_n (lv' := [(2, .int r1), (1, .int 0), (0, .ref a_this)]) hx hb dX5_best_12 rfl hl (by decide) rfl (fun ls hl => ?_)
  refine lv_iconst (v := 1) hx hb dX5_best_13 (by decide) ?_
  refine lv_istore_n (lv' := [(3, .int 1), (2, .int r1), (1, .int 0), (0, .ref a_this)]) hx hb dX5_best_14 rfl hl (by decide) rfl (fun ls hl => ?_)
  have L15 : ∀ (n15 : Nat), ∀ (x1 : Int32) (x2 : Int32) (x3 : Int32), q_X5_best_L15 g_n g_lines g_goods g_set g_state g_weight g_good Q n15 x1 x2 x3 → ∀ (H : Heap) (locs : List Loc) (ls : Array Slot), va_P (dC, dI) vwCl [(a_this, .inr (5, [z_refusals, .int g_n, .int g_lines, .ref a_set, .ref a_state, .ref a_weight, z_all, .ref a_good, z_many, .int g_goods, z_trial, z_isKnown, z_always, z_knot, z_knots, z_part, z_parts])), (a_set, .inl (cI, 40, .inl g_set)), (a_state, .inl (cI, 40, .inl g_state)), (a_weight, .inl (cI, 40, .inl g_weight)), (a_good, .inl (cI, 40320, .inl g_good))] H → va_D A [(a_this, .inr (5, [z_refusals, .int g_n, .int g_lines, .ref a_set, .ref a_state, .ref a_weight, z_all, .ref a_good, z_many, .int g_goods, z_trial, z_isKnown, z_always, z_knot, z_knots, z_part, z_parts])), (a_set, .inl (cI, 40, .inl g_set)), (a_state, .inl (cI, 40, .inl g_state)), (a_weight, .inl (cI, 40, .inl g_weight)), (a_good, .inl (cI, 40320, .inl g_good))] → va_S A s.heap H locs → lv_has ls 5 [(0, .ref a_this), (1, .int x1), (2, .int x2), (3, .int x3)] → W p l e rX5_best s m args below meth c H locs 0 0 QQ (F0 m 15 ls []) := by
    intro n15
    induction n15 with
    | zero => intro x1 x2 x3 h; exact False.elim h
    | succ n15 ih15 =>
      intro x1 x2 x3 h H locs ls hP hD hS hl
      refine lv_iload_n hx hb dX5_best_15 rfl (lv_at hl 3 rfl) ?_
      refine lv_aload_n hx hb dX5_best_16 rfl (lv_at hl 0 rfl) ?_
      refine va_get (D := (dC, dI)) (ci := 5) (v := .int g_goods) (C := RX5) (T := TX5) (N := 17) hx hb hts in5 hown hK hP 0 rfl rfl 9 (by decide) f60 (fun _ h9 => h9) rfl dX5_best_17 ?_
      refine lv_icmp_ge (tgt := 55) hx hb dX5_best_20 (by decide) (fun k1 => ?_) (fun k1 => ?_)
      · have h := h.1 k1
        refine lv_iload_n hx hb dX5_best_55 rfl (lv_at hl 1 rfl) ?_
        exact ret _ _ _ _ x1 () dX5_best_56 h (reP hP [0, 1, 2, 3, 4] rfl) (hD.sub [0, 1, 2, 3, 4] (by decide) rfl) hS
      · have h := h.2 k1
        refine lv_aload_n hx hb dX5_best_23 rfl (lv_at hl 0 rfl) ?_
        refine lv_aload_n hx hb dX5_best_24 rfl (lv_at hl 0 rfl) ?_
        refine va_get (D := (dC, dI)) (ci := 5) (v := .ref a_good) (C := RX5) (T := TX5) (N := 17) hx hb hts in5 hown hK hP 0 rfl rfl 7 (by decide) f26 (fun _ h9 => h9) rfl dX5_best_25 ?_
        refine lv_iload_n hx hb dX5_best_28 rfl (lv_at hl 3 rfl) ?_
        obtain ⟨hi2, h⟩ := h
        refine va_iald (D := (dC, dI)) hx hb hK hP 4 0 rfl rfl hi2 dX5_best_29 ?_
        refine MI.callV (As := [.int (g_good (Int32.toNatClampNeg x3))]) (rest := []) (wr := [(a_good, .inl (cI, 40320, .inl g_good))]) (ci := 5) (q0 := 0) (c_X5_gapsOf l dC dI cI cZ a_this a_set a_state a_weight z_refusals z_all (.ref a_good) z_many (.int g_goods) z_trial z_isKnown z_always z_knot z_knots z_part z_parts g_n g_lines g_set g_state g_weight (g_good (Int32.toNatClampNeg x3)) _ h) ⟨hx, hb, hml, hown, hts⟩ (cwV 1 hts gX5_best_X5_gapsOf rfl rfl rfl (by decide +kernel) ⟨Nat.le_of_ble_eq_true rfl, Nat.le_of_ble_eq_true rfl⟩) hK hP hD hS hA hNW [0, 1, 2, 3] [4] rfl rfl (by decide) (by decide) (by decide) rfl rfl rfl rfl hl.1 rfl (Nat.le_of_ble_eq_true rfl) dX5_best_30 ⟨Nat.zero_le _, Nat.zero_le _⟩ (fun r3 u H locs hw hP hD hS => ?_)
        have h := hw
        try dsimp only at h
        have hP : va_P (dC, dI) vwCl [(a_good, .inl (cI, 40320, .inl g_good)), (a_this, .inr (5, [z_refusals, .int g_n, .int g_lines, .ref a_set, .ref a_state, .ref a_weight, z_all, .ref a_good, z_many, .int g_goods, z_trial, z_isKnown, z_always, z_knot, z_knots, z_part, z_parts])), (a_set, .inl (cI, 40, .inl g_set)), (a_state, .inl (cI, 40, .inl g_state)), (a_weight, .inl (cI, 40, .inl g_weight))] H := hP
        have hD : va_D A [(a_good, .inl (cI, 40320, .inl g_good)), (a_this, .inr (5, [z_refusals, .int g_n, .int g_lines, .ref a_set, .ref a_state, .ref a_weight, z_all, .ref a_good, z_many, .int g_goods, z_trial, z_isKnown, z_always, z_knot, z_knots, z_part, z_parts])), (a_set, .inl (cI, 40, .inl g_set)), (a_state, .inl (cI, 40, .inl g_state)), (a_weight, .inl (cI, 40, .inl g_weight))] := hD
        refine lv_istore (lv' := [(4, .int r3), (0, .ref a_this), (1, .int x1), (2, .int x2), (3, .int x3)]) hx hb dX5_best_33 hl (by decide) rfl (fun ls hl => ?_)
        refine lv_iload hx hb dX5_best_35 (lv_at hl 0 rfl) ?_
        refine lv_iload_n hx hb dX5_best_37 rfl (lv_at hl 3 rfl) ?_
        refine lv_icmp_lt (tgt := 44) hx hb dX5_best_38 (by decide) (fun k4 => ?_) (fun k4 => ?_)
        · have h := h.1 k4
          refine lv_iload hx hb dX5_best_44 (lv_at hl 0 rfl) ?_
          refine lv_istore_n (lv' := [(2, .int r3), (4, .int r3), (0, .ref a_this), (1, .int x1), (3, .int x3)]) hx hb dX5_best_46 rfl hl (by decide) rfl (fun ls hl => ?_)
          refine lv_iload_n hx hb dX5_best_47 rfl (lv_at hl 4 rfl) ?_
          refine lv_istore_n (lv' := [(1, .int x3), (2, .int r3), (4, .int r3), (0, .ref a_this), (3, .int x3)]) hx hb dX5_best_48 rfl hl (by decide) rfl (fun ls hl => ?_)
          refine lv_iinc (v := x3 + 1) (lv' := [(3, .int (x3 + 1)), (1, .int x3), (2, .int r3), (4, .int r3), (0, .ref a_this)]) hx hb dX5_best_49 hl (k := 4) rfl rfl (by decide) rfl (fun ls hl => ?_)
          refine lv_goto (tgt := 15) hx hb dX5_best_52 (by decide) ?_
          exact ih15 x3 r3 (x3 + 1) h _ _ _ (reP hP [1, 2, 3, 4, 0] rfl) (hD.sub [1, 2, 3, 4, 0] (by decide) rfl) hS (lv_sub hl [4, 1, 2, 0] rfl)
        · have h := h.2 k4
          refine lv_goto (tgt := 49) hx hb dX5_best_41 (by decide) ?_
          refine lv_iinc (v := x3 + 1) (lv' := [(3, .int (x3 + 1)), (4, .int r3), (0, .ref a_this), (1, .int x1), (2, .int x2)]) hx hb dX5_best_49 hl (k := 4) rfl rfl (by decide) rfl (fun ls hl => ?_)
          refine lv_goto (tgt := 15) hx hb dX5_best_52 (by decide) ?_
          exact ih15 x1 x2 (x3 + 1) h _ _ _ (reP hP [1, 2, 3, 4, 0] rfl) (hD.sub [1, 2, 3, 4, 0] (by decide) rfl) hS (lv_sub hl [2, 3, 4, 0] rfl)
  obtain ⟨n, h⟩ := h
  exact L15 n 0 r1 1 h _ _ _ (reP hP [1, 2, 3, 4, 0] rfl) (hD.sub [1, 2, 3, 4, 0] (by decide) rfl) hS (lv_sub hl [3, 2, 1, 0] rfl)
/-! ### X5_within within(I)I -/
def rX5_within : Room := { frames := 3, cells := 0, slots := 0, locals := 71 }
def q_X5_within_L4 (x1 : Int32) (g_n : Int32) (g_lines : Int32) (g_goods : Int32) (g_set : Nat → Int32) (g_state : Nat → Int32) (g_weight : Nat → Int32) (g_good : Nat → Int32) (Q : Int32 → Prop) : Nat → Int32 → Int32 → Prop
  | 0 => fun _ _ => False
  | n + 1 => fun x2 x3 => (g_goods ≤ x3 → Q x2) ∧ (¬ g_goods ≤ x3 → vp_in x3 40320 ∧ q_X5_gapsOf g_n g_lines g_set g_state g_weight (g_good (Int32.toNatClampNeg x3)) (fun r3 => ∀ t6 : Int32, t6 = (if x1 < r3 then 0 else 1) → ∀ x2_7 : Int32, x2_7 = (x2 + t6) → (q_X5_within_L4 x1 g_n g_lines g_goods g_set g_state g_weight g_good Q n) x2_7 (x3 + 1)))
def q_X5_within (g_n : Int32) (g_lines : Int32) (g_goods : Int32) (g_set : Nat → Int32) (g_state : Nat → Int32) (g_weight : Nat → Int32) (g_good : Nat → Int32) (x1 : Int32) (Q : Int32 → Prop) : Prop :=
  ∃ N : Nat, q_X5_within_L4 x1 g_n g_lines g_goods g_set g_state g_weight g_good Q N 0 0
set_option maxRecDepth 100000 in
set_option maxHeartbeats 4000000 in
theorem c_X5_within (l : Launch) (dC : Nat → ClassId) (dI : Nat → Nat → Nat) (cI cZ : ClassId) (a_this a_set a_state a_weight a_good : Nat) (z_refusals z_all z_many z_trial z_isKnown z_always z_knot z_knots z_part z_parts : Value) (g_n : Int32) (g_lines : Int32) (g_goods : Int32) (g_set : Nat → Int32) (g_state : Nat → Int32) (g_weight : Nat → Int32) (g_good : Nat → Int32) (x1 : Int32) (Q : Int32 → Prop) (h : q_X5_within g_n g_lines g_goods g_set g_state g_weight g_good x1 Q) : MI l yX5_within wsX5_within rX5_within (dC, dI) [(cI, .int), (cZ, .boolean)] [.ref a_this, .int x1] [(a_this, .inr (5, [z_refusals, .int g_n, .int g_lines, .ref a_set, .ref a_state, .ref a_weight, z_all, .ref a_good, z_many, .int g_goods, z_trial, z_isKnown, z_always, z_knot, z_knots, z_part, z_parts])), (a_set, .inl (cI, 40, .inl g_set)), (a_state, .inl (cI, 40, .inl g_state)), (a_weight, .inl (cI, 40, .inl g_weight)), (a_good, .inl (cI, 40320, .inl g_good))] (fun (r : Int32) (u : Unit) => Q r) (fun u : Unit => [(a_this, .inr (5, [z_refusals, .int g_n, .int g_lines, .ref a_set, .ref a_state, .ref a_weight, z_all, .ref a_good, z_many, .int g_goods, z_trial, z_isKnown, z_always, z_knot, z_knots, z_part, z_parts])), (a_set, .inl (cI, 40, .inl g_set)), (a_state, .inl (cI, 40, .inl g_state)), (a_weight, .inl (cI, 40, .inl g_weight)), (a_good, .inl (cI, 40320, .inl g_good))]) := by
  refine MI.of (cc := cX5_within) (maxL := 4) (by decide +kernel) rfl (Nat.le_of_ble_eq_true rfl) ?_
  intro p e s m args below meth c A QQ ls hx hb hml hown hts hA hK hP hD hS hNW ret hl
  have hl : lv_has ls 4 [(0, .ref a_this), (1, .int x1)] := hl
  have hown : s.vm.findClass RX5 = some m.cls := hown
  have in5 : ∀ w ∈ u_ws RX5 TX5 17, w ∈ wsX5_within := fun _ w9 => List.mem_cons_of_mem _ (List.mem_append_right _ w9)
  have f26 := hts (.fieldLink RX5 26 "OnesDeskModel" "good" "[I") (by decide +kernel)
  have f60 := hts (.fieldLink RX5 60 "OnesDeskModel" "goods" "I") (by decide +kernel)
  refine lv_iconst (v := 0) hx hb dX5_within_0 (by decide) ?_
  refine lv_istore_n (lv' := [(2, .int 0), (0, .ref a_this), (1, .int x1)]) hx hb dX5_within_1 rfl hl (by decide) rfl (fun ls hl => ?_)
  refine lv_iconst (v := 0) hx hb dX5_within_2 (by decide) ?_
  refine lv_istore_n (lv' := [(3, .int 0), (2, .int 0), (0, .ref a_this), (1, .int x1)]) hx hb dX5_within_3 rfl hl (by decide) rfl (fun ls hl => ?_)
  have L4 : ∀ (n4 : Nat), ∀ (x2 : Int32) (x3 : Int32), q_X5_within_L4 x1 g_n g_lines g_goods g_set g_state g_weight g_good Q n4 x2 x3 → ∀ (H : Heap) (locs : List Loc) (ls : Array Slot), va_P (dC, dI) vwCl [(a_this, .inr (5, [z_refusals, .int g_n, .int g_lines, .ref a_set, .ref a_state, .ref a_weight, z_all, .ref a_good, z_many, .int g_goods, z_trial, z_isKnown, z_always, z_knot, z_knots, z_part, z_parts])), (a_set, .inl (cI, 40, .inl g_set)), (a_state, .inl (cI, 40, .inl g_state)), (a_weight, .inl (cI, 40, .inl g_weight)), (a_good, .inl (cI, 40320, .inl g_good))] H → va_D A [(a_this, .inr (5, [z_refusals, .int g_n, .int g_lines, .ref a_set, .ref a_state, .ref a_weight, z_all, .ref a_good, z_many, .int g_goods, z_trial, z_isKnown, z_always, z_knot, z_knots, z_part, z_parts])), (a_set, .inl (cI, 40, .inl g_set)), (a_state, .inl (cI, 40, .inl g_state)), (a_weight, .inl (cI, 40, .inl g_weight)), (a_good, .inl (cI, 40320, .inl g_good))] → va_S A s.heap H locs → lv_has ls 4 [(0, .ref a_this), (1, .int x1), (2, .int x2), (3, .int x3)] → W p l e rX5_within s m args below meth c H locs 0 0 QQ (F0 m 4 ls []) := by
    intro n4
    induction n4 with
    | zero => intro x2 x3 h; exact False.elim h
    | succ n4 ih4 =>
      intro x2 x3 h H locs ls hP hD hS hl
      refine lv_iload_n hx hb dX5_within_4 rfl (lv_at hl 3 rfl) ?_
      refine lv_aload_n hx hb dX5_within_5 rfl (lv_at hl 0 rfl) ?_
      refine va_get (D := (dC, dI)) (ci := 5) (v := .int g_goods) (C := RX5) (T := TX5) (N := 17) hx hb hts in5 hown hK hP 0 rfl rfl 9 (by decide) f60 (fun _ h9 => h9) rfl dX5_within_6 ?_
      refine lv_icmp_ge (tgt := 40) hx hb dX5_within_9 (by decide) (fun k1 => ?_) (fun k1 => ?_)
      · have h := h.1 k1
        refine lv_iload_n hx hb dX5_within_40 rfl (lv_at hl 2 rfl) ?_
        exact ret _ _ _ _ x2 () dX5_within_41 h (reP hP [0, 1, 2, 3, 4] rfl) (hD.sub [0, 1, 2, 3, 4] (by decide) rfl) hS
      · have h := h.2 k1
        refine lv_iload_n hx hb dX5_within_12 rfl (lv_at hl 2 rfl) ?_
        refine lv_aload_n hx hb dX5_within_13 rfl (lv_at hl 0 rfl) ?_
        refine lv_aload_n hx hb dX5_within_14 rfl (lv_at hl 0 rfl) ?_
        refine va_get (D := (dC, dI)) (ci := 5) (v := .ref a_good) (C := RX5) (T := TX5) (N := 17) hx hb hts in5 hown hK hP 0 rfl rfl 7 (by decide) f26 (fun _ h9 => h9) rfl dX5_within_15 ?_
        refine lv_iload_n hx hb dX5_within_18 rfl (lv_at hl 3 rfl) ?_
        obtain ⟨hi2, h⟩ := h
        refine va_iald (D := (dC, dI)) hx hb hK hP 4 0 rfl rfl hi2 dX5_within_19 ?_
        refine MI.callV (As := [.int (g_good (Int32.toNatClampNeg x3))]) (rest := [.int x2]) (wr := [(a_good, .inl (cI, 40320, .inl g_good))]) (ci := 5) (q0 := 0) (c_X5_gapsOf l dC dI cI cZ a_this a_set a_state a_weight z_refusals z_all (.ref a_good) z_many (.int g_goods) z_trial z_isKnown z_always z_knot z_knots z_part z_parts g_n g_lines g_set g_state g_weight (g_good (Int32.toNatClampNeg x3)) _ h) ⟨hx, hb, hml, hown, hts⟩ (cwV 1 hts gX5_within_X5_gapsOf rfl rfl rfl (by decide +kernel) ⟨Nat.le_of_ble_eq_true rfl, Nat.le_of_ble_eq_true rfl⟩) hK hP hD hS hA hNW [0, 1, 2, 3] [4] rfl rfl (by decide) (by decide) (by decide) rfl rfl rfl rfl hl.1 rfl (Nat.le_of_ble_eq_true rfl) dX5_within_20 ⟨Nat.zero_le _, Nat.zero_le _⟩ (fun r3 u H locs hw hP hD hS => ?_)
        have h := hw
        try dsimp only at h
        have hP : va_P (dC, dI) vwCl [(a_good, .inl (cI, 40320, .inl g_good)), (a_this, .inr (5, [z_refusals, .int g_n, .int g_lines, .ref a_set, .ref a_state, .ref a_weight, z_all, .ref a_good, z_many, .int g_goods, z_trial, z_isKnown, z_always, z_knot, z_knots, z_part, z_parts])), (a_set, .inl (cI, 40, .inl g_set)), (a_state, .inl (cI, 40, .inl g_state)), (a_weight, .inl (cI, 40, .inl g_weight))] H := hP
        have hD : va_D A [(a_good, .inl (cI, 40320, .inl g_good)), (a_this, .inr (5, [z_refusals, .int g_n, .int g_lines, .ref a_set, .ref a_state, .ref a_weight, z_all, .ref a_good, z_many, .int g_goods, z_trial, z_isKnown, z_always, z_knot, z_knots, z_part, z_parts])), (a_set, .inl (cI, 40, .inl g_set)), (a_state, .inl (cI, 40, .inl g_state)), (a_weight, .inl (cI, 40, .inl g_weight))] := hD
        refine lv_iload_n hx hb dX5_within_23 rfl (lv_at hl 1 rfl) ?_
        have K4 : ∀ t6 : Int32, t6 = (if x1 < r3 then 0 else 1) → W p l e rX5_within s m args below meth c H locs 0 0 QQ (F0 m 32 ls [.int t6, .int x2]) := by
          intro t6 et6
          have h := h t6 et6
          refine lv_iadd hx hb dX5_within_32 ?_
          refine lv_topi (fun x2_7 ex2_7 => ?_)
          have h := h x2_7 ex2_7
          refine lv_istore_n (lv' := [(2, .int x2_7), (0, .ref a_this), (1, .int x1), (3, .int x3)]) hx hb dX5_within_33 rfl hl (by decide) rfl (fun ls hl => ?_)
          refine lv_iinc (v := x3 + 1) (lv' := [(3, .int (x3 + 1)), (2, .int x2_7), (0, .ref a_this), (1, .int x1)]) hx hb dX5_within_34 hl (k := 3) rfl rfl (by decide) rfl (fun ls hl => ?_)
          refine lv_goto (tgt := 4) hx hb dX5_within_37 (by decide) ?_
          exact ih4 x2_7 (x3 + 1) h _ _ _ (reP hP [1, 2, 3, 4, 0] rfl) (hD.sub [1, 2, 3, 4, 0] (by decide) rfl) hS (lv_sub hl [2, 3, 1, 0] rfl)
        refine lv_icmp_gt (tgt := 31) hx hb dX5_within_24 (by decide) (fun k5 => ?_) (fun k5 => ?_)
        · refine lv_iconst (v := 0) hx hb dX5_within_31 (by decide) ?_
          exact K4 _ (by rw [if_pos k5])
        · refine lv_iconst (v := 1) hx hb dX5_within_27 (by decide) ?_
          refine lv_goto (tgt := 32) hx hb dX5_within_28 (by decide) ?_
          exact K4 _ (by rw [if_neg k5])
  obtain ⟨n, h⟩ := h
  exact L4 n 0 0 h _ _ _ (reP hP [0, 1, 2, 3, 4] rfl) (hD.sub [0, 1, 2, 3, 4] (by decide) rfl) hS (lv_sub hl [2, 3, 1, 0] rfl)
/-! ### X5_spare spare(I)I -/
def rX5_spare : Room := { frames := 5, cells := 0, slots := 0, locals := 119 }
def q_X5_spare (g_n : Int32) (g_lines : Int32) (g_many : Int32) (g_goods : Int32) (g_refusals : Nat → Int32) (g_set : Nat → Int32) (g_state : Nat → Int32) (g_all : Nat → Int32) (g_trial : Nat → Int32) (x1 : Int32) (Q : Int32 → (Nat → Int32) → (Nat → Int32) → Prop) : Prop :=
  q_X5_isLine g_lines x1 (fun b2 => (b2 = true → vp_in x1 40 ∧ ((g_state (Int32.toNatClampNeg x1)) = 0 → q_X5_goodWithout g_n g_lines g_many g_set g_state g_all g_trial x1 (fun r7 g_trial_6 => (¬ r7 = g_goods → Q 0 g_refusals g_trial_6) ∧ (r7 = g_goods → Q 1 g_refusals g_trial_6))) ∧ (¬ (g_state (Int32.toNatClampNeg x1)) = 0 → q_X5_refuse g_refusals ((-3) : Int32) (fun r10 g_refusals_9 => Q r10 g_refusals_9 g_trial))) ∧ (b2 = false → q_X5_refuse g_refusals ((-1) : Int32) (fun r12 g_refusals_11 => Q r12 g_refusals_11 g_trial)))
set_option maxRecDepth 100000 in
set_option maxHeartbeats 4000000 in
theorem c_X5_spare (l : Launch) (dC : Nat → ClassId) (dI : Nat → Nat → Nat) (cI cZ : ClassId) (a_this a_refusals a_set a_state a_all a_trial : Nat) (z_weight z_good z_isKnown z_always z_knot z_knots z_part z_parts : Value) (g_n : Int32) (g_lines : Int32) (g_many : Int32) (g_goods : Int32) (g_refusals : Nat → Int32) (g_set : Nat → Int32) (g_state : Nat → Int32) (g_all : Nat → Int32) (g_trial : Nat → Int32) (x1 : Int32) (Q : Int32 → (Nat → Int32) → (Nat → Int32) → Prop) (h : q_X5_spare g_n g_lines g_many g_goods g_refusals g_set g_state g_all g_trial x1 Q) : MI l yX5_spare wsX5_spare rX5_spare (dC, dI) [(cI, .int), (cZ, .boolean)] [.ref a_this, .int x1] [(a_this, .inr (5, [.ref a_refusals, .int g_n, .int g_lines, .ref a_set, .ref a_state, z_weight, .ref a_all, z_good, .int g_many, .int g_goods, .ref a_trial, z_isKnown, z_always, z_knot, z_knots, z_part, z_parts])), (a_refusals, .inl (cI, 7, .inl g_refusals)), (a_set, .inl (cI, 40, .inl g_set)), (a_state, .inl (cI, 40, .inl g_state)), (a_all, .inl (cI, 40320, .inl g_all)), (a_trial, .inl (cI, 40320, .inl g_trial))] (fun (r : Int32) (u : (Nat → Int32) × (Nat → Int32)) => Q r u.1 u.2) (fun u : (Nat → Int32) × (Nat → Int32) => [(a_this, .inr (5, [.ref a_refusals, .int g_n, .int g_lines, .ref a_set, .ref a_state, z_weight, .ref a_all, z_good, .int g_many, .int g_goods, .ref a_trial, z_isKnown, z_always, z_knot, z_knots, z_part, z_parts])), (a_refusals, .inl (cI, 7, .inl u.1)), (a_set, .inl (cI, 40, .inl g_set)), (a_state, .inl (cI, 40, .inl g_state)), (a_all, .inl (cI, 40320, .inl g_all)), (a_trial, .inl (cI, 40320, .inl u.2))]) := by
  refine MI.of (cc := cX5_spare) (maxL := 2) (by decide +kernel) rfl (Nat.le_of_ble_eq_true rfl) ?_
  intro p e s m args below meth c A QQ ls hx hb hml hown hts hA hK hP hD hS hNW ret hl
  have hl : lv_has ls 2 [(0, .ref a_this), (1, .int x1)] := hl
  have hown : s.vm.findClass RX5 = some m.cls := hown
  have in5 : ∀ w ∈ u_ws RX5 TX5 17, w ∈ wsX5_spare := fun _ w9 => List.mem_cons_of_mem _ (List.mem_append_right _ w9)
  have f16 := hts (.fieldLink RX5 16 "OnesDeskModel" "state" "[I") (by decide +kernel)
  have f29 := hts (.fieldLink RX5 29 "OnesDeskModel" "trial" "[I") (by decide +kernel)
  have f60 := hts (.fieldLink RX5 60 "OnesDeskModel" "goods" "I") (by decide +kernel)
  refine lv_aload_n hx hb dX5_spare_0 rfl (lv_at hl 0 rfl) ?_
  refine lv_iload_n hx hb dX5_spare_1 rfl (lv_at hl 1 rfl) ?_
  refine MI.callV (As := [.int x1]) (rest := []) (wr := [(a_refusals, .inl (cI, 7, .inl g_refusals)), (a_set, .inl (cI, 40, .inl g_set)), (a_state, .inl (cI, 40, .inl g_state)), (a_all, .inl (cI, 40320, .inl g_all)), (a_trial, .inl (cI, 40320, .inl g_trial))]) (ci := 5) (q0 := 0) (c_X5_isLine l dC dI cI cZ a_this (.ref a_refusals) (.int g_n) (.ref a_set) (.ref a_state) z_weight (.ref a_all) z_good (.int g_many) (.int g_goods) (.ref a_trial) z_isKnown z_always z_knot z_knots z_part z_parts g_lines x1 _ h) ⟨hx, hb, hml, hown, hts⟩ (cwV 1 hts gX5_spare_X5_isLine rfl rfl rfl (by decide +kernel) ⟨Nat.le_of_ble_eq_true rfl, Nat.le_of_ble_eq_true rfl⟩) hK hP hD hS hA hNW [0] [1, 2, 3, 4, 5] rfl rfl (by decide) (by decide) (by decide) rfl rfl rfl rfl hl.1 rfl (Nat.le_of_ble_eq_true rfl) dX5_spare_2 ⟨Nat.zero_le _, Nat.zero_le _⟩ (fun r1 u H locs hw hP hD hS => ?_)
  obtain ⟨b2, rfl, hw⟩ := hw
  have h := hw
  try dsimp only at h
  have hP : va_P (dC, dI) vwCl [(a_refusals, .inl (cI, 7, .inl g_refusals)), (a_set, .inl (cI, 40, .inl g_set)), (a_state, .inl (cI, 40, .inl g_state)), (a_all, .inl (cI, 40320, .inl g_all)), (a_trial, .inl (cI, 40320, .inl g_trial)), (a_this, .inr (5, [.ref a_refusals, .int g_n, .int g_lines, .ref a_set, .ref a_state, z_weight, .ref a_all, z_good, .int g_many, .int g_goods, .ref a_trial, z_isKnown, z_always, z_knot, z_knots, z_part, z_parts]))] H := hP
  have hD : va_D A [(a_refusals, .inl (cI, 7, .inl g_refusals)), (a_set, .inl (cI, 40, .inl g_set)), (a_state, .inl (cI, 40, .inl g_state)), (a_all, .inl (cI, 40320, .inl g_all)), (a_trial, .inl (cI, 40320, .inl g_trial)), (a_this, .inr (5, [.ref a_refusals, .int g_n, .int g_lines, .ref a_set, .ref a_state, z_weight, .ref a_all, z_good, .int g_many, .int g_goods, .ref a_trial, z_isKnown, z_always, z_knot, z_knots, z_part, z_parts]))] := hD
  refine lv_if_ne (tgt := 14) hx hb dX5_spare_5 (by decide) (fun k3 => ?_) (fun k3 => ?_)
  · have h := h.1 (bI_1 k3)
    refine lv_aload_n hx hb dX5_spare_14 rfl (lv_at hl 0 rfl) ?_
    refine va_get (D := (dC, dI)) (ci := 5) (v := .ref a_state) (C := RX5) (T := TX5) (N := 17) hx hb hts in5 hown hK hP 5 rfl rfl 4 (by decide) f16 (fun _ h9 => h9) rfl dX5_spare_15 ?_
    refine lv_iload_n hx hb dX5_spare_18 rfl (lv_at hl 1 rfl) ?_
    obtain ⟨hi4, h⟩ := h
    refine va_iald (D := (dC, dI)) hx hb hK hP 2 0 rfl rfl hi4 dX5_spare_19 ?_
    refine lv_if_eq (tgt := 30) hx hb dX5_spare_20 (by decide) (fun k5 => ?_) (fun k5 => ?_)
    · have h := h.1 k5
      refine lv_aload_n hx hb dX5_spare_30 rfl (lv_at hl 0 rfl) ?_
      refine lv_aload_n hx hb dX5_spare_31 rfl (lv_at hl 0 rfl) ?_
      refine va_get (D := (dC, dI)) (ci := 5) (v := .ref a_trial) (C := RX5) (T := TX5) (N := 17) hx hb hts in5 hown hK hP 5 rfl rfl 10 (by decide) f29 (fun _ h9 => h9) rfl dX5_spare_32 ?_
      refine lv_iload_n hx hb dX5_spare_35 rfl (lv_at hl 1 rfl) ?_
      refine MI.callV (As := [.ref a_trial, .int x1]) (rest := []) (wr := [(a_refusals, .inl (cI, 7, .inl g_refusals))]) (ci := 5) (q0 := 0) (c_X5_goodWithout l dC dI cI cZ a_this a_set a_state a_all a_trial (.ref a_refusals) z_weight z_good (.int g_goods) (.ref a_trial) z_isKnown z_always z_knot z_knots z_part z_parts g_n g_lines g_many g_set g_state g_all g_trial x1 _ h) ⟨hx, hb, hml, hown, hts⟩ (cwV 2 hts gX5_spare_X5_goodWithout rfl rfl rfl (by decide +kernel) ⟨Nat.le_of_ble_eq_true rfl, Nat.le_of_ble_eq_true rfl⟩) hK hP hD hS hA hNW [5, 1, 2, 3, 4] [0] rfl rfl (by decide) (by decide) (by decide) rfl rfl rfl rfl hl.1 rfl (Nat.le_of_ble_eq_true rfl) dX5_spare_36 ⟨Nat.zero_le _, Nat.zero_le _⟩ (fun r7 u H locs hw hP hD hS => ?_)
      obtain ⟨g_trial_6, rfl⟩ : ∃ z, z = u := ⟨_, rfl⟩
      have h := hw
      try dsimp only at h
      have hP : va_P (dC, dI) vwCl [(a_refusals, .inl (cI, 7, .inl g_refusals)), (a_this, .inr (5, [.ref a_refusals, .int g_n, .int g_lines, .ref a_set, .ref a_state, z_weight, .ref a_all, z_good, .int g_many, .int g_goods, .ref a_trial, z_isKnown, z_always, z_knot, z_knots, z_part, z_parts])), (a_set, .inl (cI, 40, .inl g_set)), (a_state, .inl (cI, 40, .inl g_state)), (a_all, .inl (cI, 40320, .inl g_all)), (a_trial, .inl (cI, 40320, .inl g_trial_6))] H := hP
      have hD : va_D A [(a_refusals, .inl (cI, 7, .inl g_refusals)), (a_this, .inr (5, [.ref a_refusals, .int g_n, .int g_lines, .ref a_set, .ref a_state, z_weight, .ref a_all, z_good, .int g_many, .int g_goods, .ref a_trial, z_isKnown, z_always, z_knot, z_knots, z_part, z_parts])), (a_set, .inl (cI, 40, .inl g_set)), (a_state, .inl (cI, 40, .inl g_state)), (a_all, .inl (cI, 40320, .inl g_all)), (a_trial, .inl (cI, 40320, .inl g_trial_6))] := hD
      refine lv_aload_n hx hb dX5_spare_39 rfl (lv_at hl 0 rfl) ?_
      refine va_get (D := (dC, dI)) (ci := 5) (v := .int g_goods) (C := RX5) (T := TX5) (N := 17) hx hb hts in5 hown hK hP 1 rfl rfl 9 (by decide) f60 (fun _ h9 => h9) rfl dX5_spare_40 ?_
      refine lv_icmp_ne (tgt := 50) hx hb dX5_spare_43 (by decide) (fun k8 => ?_) (fun k8 => ?_)
      · have h := h.1 k8
        refine lv_iconst (v := 0) hx hb dX5_spare_50 (by decide) ?_
        exact ret _ _ _ _ 0 (g_refusals, g_trial_6) dX5_spare_51 h (reP hP [1, 0, 2, 3, 4, 5] rfl) (hD.sub [1, 0, 2, 3, 4, 5] (by decide) rfl) hS
      · have h := h.2 k8
        refine lv_iconst (v := 1) hx hb dX5_spare_46 (by decide) ?_
        refine lv_goto (tgt := 51) hx hb dX5_spare_47 (by decide) ?_
        exact ret _ _ _ _ 1 (g_refusals, g_trial_6) dX5_spare_51 h (reP hP [1, 0, 2, 3, 4, 5] rfl) (hD.sub [1, 0, 2, 3, 4, 5] (by decide) rfl) hS
    · have h := h.2 k5
      refine lv_aload_n hx hb dX5_spare_23 rfl (lv_at hl 0 rfl) ?_
      refine lv_bipush (v := (-3)) hx hb dX5_spare_24 (by decide) ?_
      refine MI.callV (As := [.int (-3)]) (rest := []) (wr := [(a_set, .inl (cI, 40, .inl g_set)), (a_state, .inl (cI, 40, .inl g_state)), (a_all, .inl (cI, 40320, .inl g_all)), (a_trial, .inl (cI, 40320, .inl g_trial))]) (ci := 5) (q0 := 0) (c_X5_refuse l dC dI cI cZ a_this a_refusals (.int g_n) (.int g_lines) (.ref a_set) (.ref a_state) z_weight (.ref a_all) z_good (.int g_many) (.int g_goods) (.ref a_trial) z_isKnown z_always z_knot z_knots z_part z_parts g_refusals ((-3) : Int32) _ h) ⟨hx, hb, hml, hown, hts⟩ (cwV 1 hts gX5_spare_X5_refuse rfl rfl rfl (by decide +kernel) ⟨Nat.le_of_ble_eq_true rfl, Nat.le_of_ble_eq_true rfl⟩) hK hP hD hS hA hNW [5, 0] [1, 2, 3, 4] rfl rfl (by decide) (by decide) (by decide) rfl rfl rfl rfl hl.1 rfl (Nat.le_of_ble_eq_true rfl) dX5_spare_26 ⟨Nat.zero_le _, Nat.zero_le _⟩ (fun r10 u H locs hw hP hD hS => ?_)
      obtain ⟨g_refusals_9, rfl⟩ : ∃ z, z = u := ⟨_, rfl⟩
      have h := hw
      try dsimp only at h
      have hP : va_P (dC, dI) vwCl [(a_set, .inl (cI, 40, .inl g_set)), (a_state, .inl (cI, 40, .inl g_state)), (a_all, .inl (cI, 40320, .inl g_all)), (a_trial, .inl (cI, 40320, .inl g_trial)), (a_this, .inr (5, [.ref a_refusals, .int g_n, .int g_lines, .ref a_set, .ref a_state, z_weight, .ref a_all, z_good, .int g_many, .int g_goods, .ref a_trial, z_isKnown, z_always, z_knot, z_knots, z_part, z_parts])), (a_refusals, .inl (cI, 7, .inl g_refusals_9))] H := hP
      have hD : va_D A [(a_set, .inl (cI, 40, .inl g_set)), (a_state, .inl (cI, 40, .inl g_state)), (a_all, .inl (cI, 40320, .inl g_all)), (a_trial, .inl (cI, 40320, .inl g_trial)), (a_this, .inr (5, [.ref a_refusals, .int g_n, .int g_lines, .ref a_set, .ref a_state, z_weight, .ref a_all, z_good, .int g_many, .int g_goods, .ref a_trial, z_isKnown, z_always, z_knot, z_knots, z_part, z_parts])), (a_refusals, .inl (cI, 7, .inl g_refusals_9))] := hD
      exact ret _ _ _ _ r10 (g_refusals_9, g_trial) dX5_spare_29 h (reP hP [4, 5, 0, 1, 2, 3] rfl) (hD.sub [4, 5, 0, 1, 2, 3] (by decide) rfl) hS
  · have h := h.2 (bI_0 k3)
    refine lv_aload_n hx hb dX5_spare_8 rfl (lv_at hl 0 rfl) ?_
    refine lv_iconst (v := (-1)) hx hb dX5_spare_9 (by decide) ?_
    refine MI.callV (As := [.int (-1)]) (rest := []) (wr := [(a_set, .inl (cI, 40, .inl g_set)), (a_state, .inl (cI, 40, .inl g_state)), (a_all, .inl (cI, 40320, .inl g_all)), (a_trial, .inl (cI, 40320, .inl g_trial))]) (ci := 5) (q0 := 0) (c_X5_refuse l dC dI cI cZ a_this a_refusals (.int g_n) (.int g_lines) (.ref a_set) (.ref a_state) z_weight (.ref a_all) z_good (.int g_many) (.int g_goods) (.ref a_trial) z_isKnown z_always z_knot z_knots z_part z_parts g_refusals ((-1) : Int32) _ h) ⟨hx, hb, hml, hown, hts⟩ (cwV 1 hts gX5_spare_X5_refuse rfl rfl rfl (by decide +kernel) ⟨Nat.le_of_ble_eq_true rfl, Nat.le_of_ble_eq_true rfl⟩) hK hP hD hS hA hNW [5, 0] [1, 2, 3, 4] rfl rfl (by decide) (by decide) (by decide) rfl rfl rfl rfl hl.1 rfl (Nat.le_of_ble_eq_true rfl) dX5_spare_10 ⟨Nat.zero_le _, Nat.zero_le _⟩ (fun r12 u H locs hw hP hD hS => ?_)
    obtain ⟨g_refusals_11, rfl⟩ : ∃ z, z = u := ⟨_, rfl⟩
    have h := hw
    try dsimp only at h
    have hP : va_P (dC, dI) vwCl [(a_set, .inl (cI, 40, .inl g_set)), (a_state, .inl (cI, 40, .inl g_state)), (a_all, .inl (cI, 40320, .inl g_all)), (a_trial, .inl (cI, 40320, .inl g_trial)), (a_this, .inr (5, [.ref a_refusals, .int g_n, .int g_lines, .ref a_set, .ref a_state, z_weight, .ref a_all, z_good, .int g_many, .int g_goods, .ref a_trial, z_isKnown, z_always, z_knot, z_knots, z_part, z_parts])), (a_refusals, .inl (cI, 7, .inl g_refusals_11))] H := hP
    have hD : va_D A [(a_set, .inl (cI, 40, .inl g_set)), (a_state, .inl (cI, 40, .inl g_state)), (a_all, .inl (cI, 40320, .inl g_all)), (a_trial, .inl (cI, 40320, .inl g_trial)), (a_this, .inr (5, [.ref a_refusals, .int g_n, .int g_lines, .ref a_set, .ref a_state, z_weight, .ref a_all, z_good, .int g_many, .int g_goods, .ref a_trial, z_isKnown, z_always, z_knot, z_knots, z_part, z_parts])), (a_refusals, .inl (cI, 7, .inl g_refusals_11))] := hD
    exact ret _ _ _ _ r12 (g_refusals_11, g_trial) dX5_spare_13 h (reP hP [4, 5, 0, 1, 2, 3] rfl) (hD.sub [4, 5, 0, 1, 2, 3] (by decide) rfl) hS
/-! ### X5_inState inState(I)I -/
def rX5_inState : Room := { frames := 0, cells := 0, slots := 0, locals := 0 }
def q_X5_inState_L4 (x1 : Int32) (g_lines : Int32) (g_state : Nat → Int32) (Q : Int32 → Prop) : Nat → Int32 → Int32 → Prop
  | 0 => fun _ _ => False
  | n + 1 => fun x2 x3 => (g_lines ≤ x3 → Q x2) ∧ (¬ g_lines ≤ x3 → vp_in x3 40 ∧ ∀ t5 : Int32, t5 = (if (g_state (Int32.toNatClampNeg x3)) = x1 then 1 else 0) → ∀ x2_6 : Int32, x2_6 = (x2 + t5) → (q_X5_inState_L4 x1 g_lines g_state Q n) x2_6 (x3 + 1))
def q_X5_inState (g_lines : Int32) (g_state : Nat → Int32) (x1 : Int32) (Q : Int32 → Prop) : Prop :=
  ∃ N : Nat, q_X5_inState_L4 x1 g_lines g_state Q N 0 0
set_option maxRecDepth 100000 in
set_option maxHeartbeats 4000000 in
theorem c_X5_inState (l : Launch) (dC : Nat → ClassId) (dI : Nat → Nat → Nat) (cI cZ : ClassId) (a_this a_state : Nat) (z_refusals z_n z_set z_weight z_all z_good z_many z_goods z_trial z_isKnown z_always z_knot z_knots z_part z_parts : Value) (g_lines : Int32) (g_state : Nat → Int32) (x1 : Int32) (Q : Int32 → Prop) (h : q_X5_inState g_lines g_state x1 Q) : MI l yX5_inState wsX5_inState rX5_inState (dC, dI) [(cI, .int), (cZ, .boolean)] [.ref a_this, .int x1] [(a_this, .inr (5, [z_refusals, z_n, .int g_lines, z_set, .ref a_state, z_weight, z_all, z_good, z_many, z_goods, z_trial, z_isKnown, z_always, z_knot, z_knots, z_part, z_parts])), (a_state, .inl (cI, 40, .inl g_state))] (fun (r : Int32) (u : Unit) => Q r) (fun u : Unit => [(a_this, .inr (5, [z_refusals, z_n, .int g_lines, z_set, .ref a_state, z_weight, z_all, z_good, z_many, z_goods, z_trial, z_isKnown, z_always, z_knot, z_knots, z_part, z_parts])), (a_state, .inl (cI, 40, .inl g_state))]) := by
  refine MI.of (cc := cX5_inState) (maxL := 4) (by decide +kernel) rfl (Nat.le_of_ble_eq_true rfl) ?_
  intro p e s m args below meth c A QQ ls hx hb hml hown hts hA hK hP hD hS hNW ret hl
  have hl : lv_has ls 4 [(0, .ref a_this), (1, .int x1)] := hl
  have hown : s.vm.findClass RX5 = some m.cls := hown
  have in5 : ∀ w ∈ u_ws RX5 TX5 17, w ∈ wsX5_inState := fun _ w9 => List.mem_cons_of_mem _ (List.mem_append_right _ w9)
  have f16 := hts (.fieldLink RX5 16 "OnesDeskModel" "state" "[I") (by decide +kernel)
  have f50 := hts (.fieldLink RX5 50 "OnesDeskModel" "lines" "I") (by decide +kernel)
  refine lv_iconst (v := 0) hx hb dX5_inState_0 (by decide) ?_
  refine lv_istore_n (lv' := [(2, .int 0), (0, .ref a_this), (1, .int x1)]) hx hb dX5_inState_1 rfl hl (by decide) rfl (fun ls hl => ?_)
  refine lv_iconst (v := 0) hx hb dX5_inState_2 (by decide) ?_
  refine lv_istore_n (lv' := [(3, .int 0), (2, .int 0), (0, .ref a_this), (1, .int x1)]) hx hb dX5_inState_3 rfl hl (by decide) rfl (fun ls hl => ?_)
  have L4 : ∀ (n4 : Nat), ∀ (x2 : Int32) (x3 : Int32), q_X5_inState_L4 x1 g_lines g_state Q n4 x2 x3 → ∀ (H : Heap) (locs : List Loc) (ls : Array Slot), va_P (dC, dI) vwCl [(a_this, .inr (5, [z_refusals, z_n, .int g_lines, z_set, .ref a_state, z_weight, z_all, z_good, z_many, z_goods, z_trial, z_isKnown, z_always, z_knot, z_knots, z_part, z_parts])), (a_state, .inl (cI, 40, .inl g_state))] H → va_D A [(a_this, .inr (5, [z_refusals, z_n, .int g_lines, z_set, .ref a_state, z_weight, z_all, z_good, z_many, z_goods, z_trial, z_isKnown, z_always, z_knot, z_knots, z_part, z_parts])), (a_state, .inl (cI, 40, .inl g_state))] → va_S A s.heap H locs → lv_has ls 4 [(0, .ref a_this), (1, .int x1), (2, .int x2), (3, .int x3)] → W p l e rX5_inState s m args below meth c H locs 0 0 QQ (F0 m 4 ls []) := by
    intro n4
    induction n4 with
    | zero => intro x2 x3 h; exact False.elim h
    | succ n4 ih4 =>
      intro x2 x3 h H locs ls hP hD hS hl
      refine lv_iload_n hx hb dX5_inState_4 rfl (lv_at hl 3 rfl) ?_
      refine lv_aload_n hx hb dX5_inState_5 rfl (lv_at hl 0 rfl) ?_
      refine va_get (D := (dC, dI)) (ci := 5) (v := .int g_lines) (C := RX5) (T := TX5) (N := 17) hx hb hts in5 hown hK hP 0 rfl rfl 2 (by decide) f50 (fun _ h9 => h9) rfl dX5_inState_6 ?_
      refine lv_icmp_ge (tgt := 36) hx hb dX5_inState_9 (by decide) (fun k1 => ?_) (fun k1 => ?_)
      · have h := h.1 k1
        refine lv_iload_n hx hb dX5_inState_36 rfl (lv_at hl 2 rfl) ?_
        exact ret _ _ _ _ x2 () dX5_inState_37 h (reP hP [0, 1] rfl) (hD.sub [0, 1] (by decide) rfl) hS
      · have h := h.2 k1
        refine lv_iload_n hx hb dX5_inState_12 rfl (lv_at hl 2 rfl) ?_
        refine lv_aload_n hx hb dX5_inState_13 rfl (lv_at hl 0 rfl) ?_
        refine va_get (D := (dC, dI)) (ci := 5) (v := .ref a_state) (C := RX5) (T := TX5) (N := 17) hx hb hts in5 hown hK hP 0 rfl rfl 4 (by decide) f16 (fun _ h9 => h9) rfl dX5_inState_14 ?_
        refine lv_iload_n hx hb dX5_inState_17 rfl (lv_at hl 3 rfl) ?_
        obtain ⟨hi2, h⟩ := h
        refine va_iald (D := (dC, dI)) hx hb hK hP 1 0 rfl rfl hi2 dX5_inState_18 ?_
        refine lv_iload_n hx hb dX5_inState_19 rfl (lv_at hl 1 rfl) ?_
        have K3 : ∀ t5 : Int32, t5 = (if (g_state (Int32.toNatClampNeg x3)) = x1 then 1 else 0) → W p l e rX5_inState s m args below meth c H locs 0 0 QQ (F0 m 28 ls [.int t5, .int x2]) := by
          intro t5 et5
          have h := h t5 et5
          refine lv_iadd hx hb dX5_inState_28 ?_
          refine lv_topi (fun x2_6 ex2_6 => ?_)
          have h := h x2_6 ex2_6
          refine lv_istore_n (lv' := [(2, .int x2_6), (0, .ref a_this), (1, .int x1), (3, .int x3)]) hx hb dX5_inState_29 rfl hl (by decide) rfl (fun ls hl => ?_)
          refine lv_iinc (v := x3 + 1) (lv' := [(3, .int (x3 + 1)), (2, .int x2_6), (0, .ref a_this), (1, .int x1)]) hx hb dX5_inState_30 hl (k := 3) rfl rfl (by decide) rfl (fun ls hl => ?_)
          refine lv_goto (tgt := 4) hx hb dX5_inState_33 (by decide) ?_
          exact ih4 x2_6 (x3 + 1) h _ _ _ (reP hP [0, 1] rfl) (hD.sub [0, 1] (by decide) rfl) hS (lv_sub hl [2, 3, 1, 0] rfl)
        refine lv_icmp_ne (tgt := 27) hx hb dX5_inState_20 (by decide) (fun k4 => ?_) (fun k4 => ?_)
        · refine lv_iconst (v := 0) hx hb dX5_inState_27 (by decide) ?_
          exact K3 _ (by rw [if_neg k4])
        · refine lv_iconst (v := 1) hx hb dX5_inState_23 (by decide) ?_
          refine lv_goto (tgt := 28) hx hb dX5_inState_24 (by decide) ?_
          exact K3 _ (by rw [if_pos k4])
  obtain ⟨n, h⟩ := h
  exact L4 n 0 0 h _ _ _ (reP hP [0, 1] rfl) (hD.sub [0, 1] (by decide) rfl) hS (lv_sub hl [2, 3, 1, 0] rfl)
/-! ### X5_count count(I)I -/
def rX5_count : Room := { frames := 1, cells := 0, slots := 0, locals := 23 }
def q_X5_count_J22 (x1 : Int32) (g_n : Int32) (g_lines : Int32) (g_state : Nat → Int32) (Q : Int32 → Prop) : Prop :=
  (x1 = 0 → Q g_n) ∧ (x1 = 1 → Q g_lines) ∧ (x1 = 2 → q_X5_inState g_lines g_state (x1 - 2) (fun r1 => Q r1)) ∧ (x1 = 3 → q_X5_inState g_lines g_state (x1 - 2) (fun r2 => Q r2)) ∧ (x1 = 4 → q_X5_inState g_lines g_state (x1 - 2) (fun r3 => Q r3)) ∧ (¬ x1 = 0 ∧ ¬ x1 = 1 ∧ ¬ x1 = 2 ∧ ¬ x1 = 3 ∧ ¬ x1 = 4 → Q (-9))
def q_X5_count (g_n : Int32) (g_lines : Int32) (g_refusals : Nat → Int32) (g_state : Nat → Int32) (x1 : Int32) (Q : Int32 → Prop) : Prop :=
  (x1 ≤ 10 → q_X5_count_J22 x1 g_n g_lines g_state Q) ∧ (¬ x1 ≤ 10 → (17 ≤ x1 → q_X5_count_J22 x1 g_n g_lines g_state Q) ∧ (¬ 17 ≤ x1 → vp_in (x1 - 10) 7 ∧ Q (g_refusals (Int32.toNatClampNeg (x1 - 10)))))
set_option maxRecDepth 100000 in
set_option maxHeartbeats 4000000 in
theorem c_X5_count (l : Launch) (dC : Nat → ClassId) (dI : Nat → Nat → Nat) (cI cZ : ClassId) (a_this a_refusals a_state : Nat) (z_set z_weight z_all z_good z_many z_goods z_trial z_isKnown z_always z_knot z_knots z_part z_parts : Value) (g_n : Int32) (g_lines : Int32) (g_refusals : Nat → Int32) (g_state : Nat → Int32) (x1 : Int32) (Q : Int32 → Prop) (h : q_X5_count g_n g_lines g_refusals g_state x1 Q) : MI l yX5_count wsX5_count rX5_count (dC, dI) [(cI, .int), (cZ, .boolean)] [.ref a_this, .int x1] [(a_this, .inr (5, [.ref a_refusals, .int g_n, .int g_lines, z_set, .ref a_state, z_weight, z_all, z_good, z_many, z_goods, z_trial, z_isKnown, z_always, z_knot, z_knots, z_part, z_parts])), (a_refusals, .inl (cI, 7, .inl g_refusals)), (a_state, .inl (cI, 40, .inl g_state))] (fun (r : Int32) (u : Unit) => Q r) (fun u : Unit => [(a_this, .inr (5, [.ref a_refusals, .int g_n, .int g_lines, z_set, .ref a_state, z_weight, z_all, z_good, z_many, z_goods, z_trial, z_isKnown, z_always, z_knot, z_knots, z_part, z_parts])), (a_refusals, .inl (cI, 7, .inl g_refusals)), (a_state, .inl (cI, 40, .inl g_state))]) := by
  refine MI.of (cc := cX5_count) (maxL := 2) (by decide +kernel) rfl (Nat.le_of_ble_eq_true rfl) ?_
  intro p e s m args below meth c A QQ ls hx hb hml hown hts hA hK hP hD hS hNW ret hl
  have hl : lv_has ls 2 [(0, .ref a_this), (1, .int x1)] := hl
  have hown : s.vm.findClass RX5 = some m.cls := hown
  have in5 : ∀ w ∈ u_ws RX5 TX5 17, w ∈ wsX5_count := fun _ w9 => List.mem_cons_of_mem _ (List.mem_append_right _ w9)
  have f7 := hts (.fieldLink RX5 7 "OnesDeskModel" "refusals" "[I") (by decide +kernel)
  have f46 := hts (.fieldLink RX5 46 "OnesDeskModel" "n" "I") (by decide +kernel)
  have f50 := hts (.fieldLink RX5 50 "OnesDeskModel" "lines" "I") (by decide +kernel)
  refine lv_iload_n hx hb dX5_count_0 rfl (lv_at hl 1 rfl) ?_
  refine lv_bipush (v := 10) hx hb dX5_count_1 (by decide) ?_
  have J22 : q_X5_count_J22 x1 g_n g_lines g_state Q → ∀ (H : Heap) (locs : List Loc) (ls : Array Slot), va_P (dC, dI) vwCl [(a_this, .inr (5, [.ref a_refusals, .int g_n, .int g_lines, z_set, .ref a_state, z_weight, z_all, z_good, z_many, z_goods, z_trial, z_isKnown, z_always, z_knot, z_knots, z_part, z_parts])), (a_refusals, .inl (cI, 7, .inl g_refusals)), (a_state, .inl (cI, 40, .inl g_state))] H → va_D A [(a_this, .inr (5, [.ref a_refusals, .int g_n, .int g_lines, z_set, .ref a_state, z_weight, z_all, z_good, z_many, z_goods, z_trial, z_isKnown, z_always, z_knot, z_knots, z_part, z_parts])), (a_refusals, .inl (cI, 7, .inl g_refusals)), (a_state, .inl (cI, 40, .inl g_state))] → va_S A s.heap H locs → lv_has ls 2 [(0, .ref a_this), (1, .int x1)] → W p l e rX5_count s m args below meth c H locs 0 0 QQ (F0 m 22 ls []) := by
    intro  h H locs ls hP hD hS hl
    refine lv_iload_n hx hb dX5_count_22 rfl (lv_at hl 1 rfl) ?_
    obtain ⟨h0, h1, h2, h3, h4, h⟩ := h
    by_cases e0 : x1 = 0
    · have h := h0 e0
      refine sw_in e0 hx hb dX5_count_23 (by decide) (by decide) (off := 33) (tgt := 56) (by decide) (by decide) ?_
      refine lv_aload_n hx hb dX5_count_56 rfl (lv_at hl 0 rfl) ?_
      refine va_get (D := (dC, dI)) (ci := 5) (v := .int g_n) (C := RX5) (T := TX5) (N := 17) hx hb hts in5 hown hK hP 0 rfl rfl 1 (by decide) f46 (fun _ h9 => h9) rfl dX5_count_57 ?_
      exact ret _ _ _ _ g_n () dX5_count_60 h (reP hP [0, 1, 2] rfl) (hD.sub [0, 1, 2] (by decide) rfl) hS
    by_cases e1 : x1 = 1
    · have h := h1 e1
      refine sw_in e1 hx hb dX5_count_23 (by decide) (by decide) (off := 38) (tgt := 61) (by decide) (by decide) ?_
      refine lv_aload_n hx hb dX5_count_61 rfl (lv_at hl 0 rfl) ?_
      refine va_get (D := (dC, dI)) (ci := 5) (v := .int g_lines) (C := RX5) (T := TX5) (N := 17) hx hb hts in5 hown hK hP 0 rfl rfl 2 (by decide) f50 (fun _ h9 => h9) rfl dX5_count_62 ?_
      exact ret _ _ _ _ g_lines () dX5_count_65 h (reP hP [0, 1, 2] rfl) (hD.sub [0, 1, 2] (by decide) rfl) hS
    by_cases e2 : x1 = 2
    · have h := h2 e2
      refine sw_in e2 hx hb dX5_count_23 (by decide) (by decide) (off := 43) (tgt := 66) (by decide) (by decide) ?_
      refine lv_aload_n hx hb dX5_count_66 rfl (lv_at hl 0 rfl) ?_
      refine lv_iload_n hx hb dX5_count_67 rfl (lv_at hl 1 rfl) ?_
      refine lv_iconst (v := 2) hx hb dX5_count_68 (by decide) ?_
      refine lv_isub hx hb dX5_count_69 ?_
      refine MI.callV (As := [.int (x1 - 2)]) (rest := []) (wr := [(a_refusals, .inl (cI, 7, .inl g_refusals))]) (ci := 5) (q0 := 0) (c_X5_inState l dC dI cI cZ a_this a_state (.ref a_refusals) (.int g_n) z_set z_weight z_all z_good z_many z_goods z_trial z_isKnown z_always z_knot z_knots z_part z_parts g_lines g_state (x1 - 2) _ h) ⟨hx, hb, hml, hown, hts⟩ (cwV 1 hts gX5_count_X5_inState rfl rfl rfl (by decide +kernel) ⟨Nat.le_of_ble_eq_true rfl, Nat.le_of_ble_eq_true rfl⟩) hK hP hD hS hA hNW [0, 2] [1] rfl rfl (by decide) (by decide) (by decide) rfl rfl rfl rfl hl.1 rfl (Nat.le_of_ble_eq_true rfl) dX5_count_70 ⟨Nat.zero_le _, Nat.zero_le _⟩ (fun r1 u H locs hw hP hD hS => ?_)
      have h := hw
      try dsimp only at h
      have hP : va_P (dC, dI) vwCl [(a_refusals, .inl (cI, 7, .inl g_refusals)), (a_this, .inr (5, [.ref a_refusals, .int g_n, .int g_lines, z_set, .ref a_state, z_weight, z_all, z_good, z_many, z_goods, z_trial, z_isKnown, z_always, z_knot, z_knots, z_part, z_parts])), (a_state, .inl (cI, 40, .inl g_state))] H := hP
      have hD : va_D A [(a_refusals, .inl (cI, 7, .inl g_refusals)), (a_this, .inr (5, [.ref a_refusals, .int g_n, .int g_lines, z_set, .ref a_state, z_weight, z_all, z_good, z_many, z_goods, z_trial, z_isKnown, z_always, z_knot, z_knots, z_part, z_parts])), (a_state, .inl (cI, 40, .inl g_state))] := hD
      exact ret _ _ _ _ r1 () dX5_count_73 h (reP hP [1, 0, 2] rfl) (hD.sub [1, 0, 2] (by decide) rfl) hS
    by_cases e3 : x1 = 3
    · have h := h3 e3
      refine sw_in e3 hx hb dX5_count_23 (by decide) (by decide) (off := 43) (tgt := 66) (by decide) (by decide) ?_
      refine lv_aload_n hx hb dX5_count_66 rfl (lv_at hl 0 rfl) ?_
      refine lv_iload_n hx hb dX5_count_67 rfl (lv_at hl 1 rfl) ?_
      refine lv_iconst (v := 2) hx hb dX5_count_68 (by decide) ?_
      refine lv_isub hx hb dX5_count_69 ?_
      refine MI.callV (As := [.int (x1 - 2)]) (rest := []) (wr := [(a_refusals, .inl (cI, 7, .inl g_refusals))]) (ci := 5) (q0 := 0) (c_X5_inState l dC dI cI cZ a_this a_state (.ref a_refusals) (.int g_n) z_set z_weight z_all z_good z_many z_goods z_trial z_isKnown z_always z_knot z_knots z_part z_parts g_lines g_state (x1 - 2) _ h) ⟨hx, hb, hml, hown, hts⟩ (cwV 1 hts gX5_count_X5_inState rfl rfl rfl (by decide +kernel) ⟨Nat.le_of_ble_eq_true rfl, Nat.le_of_ble_eq_true rfl⟩) hK hP hD hS hA hNW [0, 2] [1] rfl rfl (by decide) (by decide) (by decide) rfl rfl rfl rfl hl.1 rfl (Nat.le_of_ble_eq_true rfl) dX5_count_70 ⟨Nat.zero_le _, Nat.zero_le _⟩ (fun r2 u H locs hw hP hD hS => ?_)
      have h := hw
      try dsimp only at h
      have hP : va_P (dC, dI) vwCl [(a_refusals, .inl (cI, 7, .inl g_refusals)), (a_this, .inr (5, [.ref a_refusals, .int g_n, .int g_lines, z_set, .ref a_state, z_weight, z_all, z_good, z_many, z_goods, z_trial, z_isKnown, z_always, z_knot, z_knots, z_part, z_parts])), (a_state, .inl (cI, 40, .inl g_state))] H := hP
      have hD : va_D A [(a_refusals, .inl (cI, 7, .inl g_refusals)), (a_this, .inr (5, [.ref a_refusals, .int g_n, .int g_lines, z_set, .ref a_state, z_weight, z_all, z_good, z_many, z_goods, z_trial, z_isKnown, z_always, z_knot, z_knots, z_part, z_parts])), (a_state, .inl (cI, 40, .inl g_state))] := hD
      exact ret _ _ _ _ r2 () dX5_count_73 h (reP hP [1, 0, 2] rfl) (hD.sub [1, 0, 2] (by decide) rfl) hS
    by_cases e4 : x1 = 4
    · have h := h4 e4
      refine sw_in e4 hx hb dX5_count_23 (by decide) (by decide) (off := 43) (tgt := 66) (by decide) (by decide) ?_
      refine lv_aload_n hx hb dX5_count_66 rfl (lv_at hl 0 rfl) ?_
      refine lv_iload_n hx hb dX5_count_67 rfl (lv_at hl 1 rfl) ?_
      refine lv_iconst (v := 2) hx hb dX5_count_68 (by decide) ?_
      refine lv_isub hx hb dX5_count_69 ?_
      refine MI.callV (As := [.int (x1 - 2)]) (rest := []) (wr := [(a_refusals, .inl (cI, 7, .inl g_refusals))]) (ci := 5) (q0 := 0) (c_X5_inState l dC dI cI cZ a_this a_state (.ref a_refusals) (.int g_n) z_set z_weight z_all z_good z_many z_goods z_trial z_isKnown z_always z_knot z_knots z_part z_parts g_lines g_state (x1 - 2) _ h) ⟨hx, hb, hml, hown, hts⟩ (cwV 1 hts gX5_count_X5_inState rfl rfl rfl (by decide +kernel) ⟨Nat.le_of_ble_eq_true rfl, Nat.le_of_ble_eq_true rfl⟩) hK hP hD hS hA hNW [0, 2] [1] rfl rfl (by decide) (by decide) (by decide) rfl rfl rfl rfl hl.1 rfl (Nat.le_of_ble_eq_true rfl) dX5_count_70 ⟨Nat.zero_le _, Nat.zero_le _⟩ (fun r3 u H locs hw hP hD hS => ?_)
      have h := hw
      try dsimp only at h
      have hP : va_P (dC, dI) vwCl [(a_refusals, .inl (cI, 7, .inl g_refusals)), (a_this, .inr (5, [.ref a_refusals, .int g_n, .int g_lines, z_set, .ref a_state, z_weight, z_all, z_good, z_many, z_goods, z_trial, z_isKnown, z_always, z_knot, z_knots, z_part, z_parts])), (a_state, .inl (cI, 40, .inl g_state))] H := hP
      have hD : va_D A [(a_refusals, .inl (cI, 7, .inl g_refusals)), (a_this, .inr (5, [.ref a_refusals, .int g_n, .int g_lines, z_set, .ref a_state, z_weight, z_all, z_good, z_many, z_goods, z_trial, z_isKnown, z_always, z_knot, z_knots, z_part, z_parts])), (a_state, .inl (cI, 40, .inl g_state))] := hD
      exact ret _ _ _ _ r3 () dX5_count_73 h (reP hP [1, 0, 2] rfl) (hD.sub [1, 0, 2] (by decide) rfl) hS
    have h := h ⟨e0, e1, e2, e3, e4⟩
    refine lv_tableOut (tgt := 74) hx hb dX5_count_23 (by have i0 := lv_neT e0 (a := 0) rfl; have i1 := lv_neT e1 (a := 1) rfl; have i2 := lv_neT e2 (a := 2) rfl; have i3 := lv_neT e3 (a := 3) rfl; have i4 := lv_neT e4 (a := 4) rfl; omega) (by decide) ?_
    refine lv_bipush (v := (-9)) hx hb dX5_count_74 (by decide) ?_
    exact ret _ _ _ _ (-9) () dX5_count_76 h (reP hP [0, 1, 2] rfl) (hD.sub [0, 1, 2] (by decide) rfl) hS
  refine lv_icmp_le (tgt := 22) hx hb dX5_count_3 (by decide) (fun k1 => ?_) (fun k1 => ?_)
  · have h := h.1 k1
    exact J22 h _ _ _ (reP hP [0, 1, 2] rfl) (hD.sub [0, 1, 2] (by decide) rfl) hS (lv_sub hl [0, 1] rfl)
  · have h := h.2 k1
    refine lv_iload_n hx hb dX5_count_6 rfl (lv_at hl 1 rfl) ?_
    refine lv_bipush (v := 17) hx hb dX5_count_7 (by decide) ?_
    refine lv_icmp_ge (tgt := 22) hx hb dX5_count_9 (by decide) (fun k2 => ?_) (fun k2 => ?_)
    · have h := h.1 k2
      exact J22 h _ _ _ (reP hP [0, 1, 2] rfl) (hD.sub [0, 1, 2] (by decide) rfl) hS (lv_sub hl [0, 1] rfl)
    · have h := h.2 k2
      refine lv_aload_n hx hb dX5_count_12 rfl (lv_at hl 0 rfl) ?_
      refine va_get (D := (dC, dI)) (ci := 5) (v := .ref a_refusals) (C := RX5) (T := TX5) (N := 17) hx hb hts in5 hown hK hP 0 rfl rfl 0 (by decide) f7 (fun _ h9 => h9) rfl dX5_count_13 ?_
      refine lv_iload_n hx hb dX5_count_16 rfl (lv_at hl 1 rfl) ?_
      refine lv_bipush (v := 10) hx hb dX5_count_17 (by decide) ?_
      refine lv_isub hx hb dX5_count_19 ?_
      obtain ⟨hi3, h⟩ := h
      refine va_iald (D := (dC, dI)) hx hb hK hP 1 0 rfl rfl hi3 dX5_count_20 ?_
      exact ret _ _ _ _ (g_refusals (Int32.toNatClampNeg (x1 - 10))) () dX5_count_21 h (reP hP [0, 1, 2] rfl) (hD.sub [0, 1, 2] (by decide) rfl) hS
