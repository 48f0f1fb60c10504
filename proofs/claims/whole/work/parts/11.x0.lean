/-! ### X0_has has(I)Z -/
def rX0_has : Room := { frames := 0, cells := 0, slots := 0, locals := 0 }
def q_X0_has (g_told : Int32) (x1 : Int32) (Q : Bool → Prop) : Prop :=
  (x1 < 0 → Q false) ∧ (¬ x1 < 0 → (g_told ≤ x1 → Q false) ∧ (¬ g_told ≤ x1 → (40 ≤ x1 → Q false) ∧ (¬ 40 ≤ x1 → Q true)))
set_option maxRecDepth 100000 in
set_option maxHeartbeats 4000000 in
theorem c_X0_has (l : Launch) (dC : Nat → ClassId) (dI : Nat → Nat → Nat) (cI cZ : ClassId) (a_this : Nat) (z_sets z_states z_weights : Value) (g_told : Int32) (x1 : Int32) (Q : Bool → Prop) (h : q_X0_has g_told x1 Q) : MB l yX0_has wsX0_has rX0_has (dC, dI) [(cI, .int), (cZ, .boolean)] [.ref a_this, .int x1] [(a_this, .inr (0, [z_sets, z_states, z_weights, .int g_told]))] (fun (r : Bool) (u : Unit) => Q r) (fun u : Unit => [(a_this, .inr (0, [z_sets, z_states, z_weights, .int g_told]))]) := by
  refine MB.of (cc := cX0_has) (maxL := 2) (by decide +kernel) rfl (Nat.le_of_ble_eq_true rfl) ?_
  intro p e s m args below meth c A QQ ls hx hb hml hown hts hA hK hP hD hS hNW ret hl
  have hl : lv_has ls 2 [(0, .ref a_this), (1, .int x1)] := hl
  have hown : s.vm.findClass RX0 = some m.cls := hown
  have in0 : ∀ w ∈ u_ws RX0 TX0 4, w ∈ wsX0_has := fun _ w9 => List.mem_cons_of_mem _ (List.mem_append_right _ w9)
  have f21 := hts (.fieldLink RX0 21 "OnesDesk$Lines" "told" "I") (by decide +kernel)
  refine lv_iload_n hx hb dX0_has_0 rfl (lv_at hl 1 rfl) ?_
  refine lv_if_lt (tgt := 22) hx hb dX0_has_1 (by decide) (fun k1 => ?_) (fun k1 => ?_)
  · have h := h.1 k1
    refine lv_iconst (v := 0) hx hb dX0_has_22 (by decide) ?_
    exact ret _ _ _ _ false () dX0_has_23 h (reP hP [0] rfl) (hD.sub [0] (by decide) rfl) hS
  · have h := h.2 k1
    refine lv_iload_n hx hb dX0_has_4 rfl (lv_at hl 1 rfl) ?_
    refine lv_aload_n hx hb dX0_has_5 rfl (lv_at hl 0 rfl) ?_
    refine va_get (D := (dC, dI)) (ci := 0) (v := .int g_told) (C := RX0) (T := TX0) (N := 4) hx hb hts in0 hown hK hP 0 rfl rfl 3 (by decide) f21 (fun _ h9 => h9) rfl dX0_has_6 ?_
    refine lv_icmp_ge (tgt := 22) hx hb dX0_has_9 (by decide) (fun k2 => ?_) (fun k2 => ?_)
    · have h := h.1 k2
      refine lv_iconst (v := 0) hx hb dX0_has_22 (by decide) ?_
      exact ret _ _ _ _ false () dX0_has_23 h (reP hP [0] rfl) (hD.sub [0] (by decide) rfl) hS
    · have h := h.2 k2
      refine lv_iload_n hx hb dX0_has_12 rfl (lv_at hl 1 rfl) ?_
      refine lv_bipush (v := 40) hx hb dX0_has_13 (by decide) ?_
      refine lv_icmp_ge (tgt := 22) hx hb dX0_has_15 (by decide) (fun k3 => ?_) (fun k3 => ?_)
      · have h := h.1 k3
        refine lv_iconst (v := 0) hx hb dX0_has_22 (by decide) ?_
        exact ret _ _ _ _ false () dX0_has_23 h (reP hP [0] rfl) (hD.sub [0] (by decide) rfl) hS
      · have h := h.2 k3
        refine lv_iconst (v := 1) hx hb dX0_has_18 (by decide) ?_
        refine lv_goto (tgt := 23) hx hb dX0_has_19 (by decide) ?_
        exact ret _ _ _ _ true () dX0_has_23 h (reP hP [0] rfl) (hD.sub [0] (by decide) rfl) hS
/-! ### X0_add add(I)I -/
def rX0_add : Room := { frames := 0, cells := 0, slots := 0, locals := 0 }
def q_X0_add (g_told : Int32) (g_sets : Nat → Int32) (g_states : Nat → Int32) (g_weights : Nat → Int32) (x1 : Int32) (Q : Int32 → Int32 → (Nat → Int32) → (Nat → Int32) → (Nat → Int32) → Prop) : Prop :=
  (40 ≤ g_told → Q g_told g_told g_sets g_states g_weights) ∧ (¬ 40 ≤ g_told → vp_in g_told 40 ∧ Q g_told (g_told + 1) (upd g_sets (Int32.toNatClampNeg g_told) x1) (upd g_states (Int32.toNatClampNeg g_told) 1) (upd g_weights (Int32.toNatClampNeg g_told) 1))
set_option maxRecDepth 100000 in
set_option maxHeartbeats 4000000 in
theorem c_X0_add (l : Launch) (dC : Nat → ClassId) (dI : Nat → Nat → Nat) (cI cZ : ClassId) (a_this a_sets a_states a_weights : Nat) (g_told : Int32) (g_sets : Nat → Int32) (g_states : Nat → Int32) (g_weights : Nat → Int32) (x1 : Int32) (Q : Int32 → Int32 → (Nat → Int32) → (Nat → Int32) → (Nat → Int32) → Prop) (h : q_X0_add g_told g_sets g_states g_weights x1 Q) : MI l yX0_add wsX0_add rX0_add (dC, dI) [(cI, .int), (cZ, .boolean)] [.ref a_this, .int x1] [(a_this, .inr (0, [.ref a_sets, .ref a_states, .ref a_weights, .int g_told])), (a_sets, .inl (cI, 40, .inl g_sets)), (a_states, .inl (cI, 40, .inl g_states)), (a_weights, .inl (cI, 40, .inl g_weights))] (fun (r : Int32) (u : Int32 × (Nat → Int32) × (Nat → Int32) × (Nat → Int32)) => Q r u.1 u.2.1 u.2.2.1 u.2.2.2) (fun u : Int32 × (Nat → Int32) × (Nat → Int32) × (Nat → Int32) => [(a_this, .inr (0, [.ref a_sets, .ref a_states, .ref a_weights, .int u.1])), (a_sets, .inl (cI, 40, .inl u.2.1)), (a_states, .inl (cI, 40, .inl u.2.2.1)), (a_weights, .inl (cI, 40, .inl u.2.2.2))]) := by
  refine MI.of (cc := cX0_add) (maxL := 3) (by decide +kernel) rfl (Nat.le_of_ble_eq_true rfl) ?_
  intro p e s m args below meth c A QQ ls hx hb hml hown hts hA hK hP hD hS hNW ret hl
  have hl : lv_has ls 3 [(0, .ref a_this), (1, .int x1)] := hl
  have hown : s.vm.findClass RX0 = some m.cls := hown
  have in0 : ∀ w ∈ u_ws RX0 TX0 4, w ∈ wsX0_add := fun _ w9 => List.mem_cons_of_mem _ (List.mem_append_right _ w9)
  have f9 := hts (.fieldLink RX0 9 "OnesDesk$Lines" "sets" "[I") (by decide +kernel)
  have f15 := hts (.fieldLink RX0 15 "OnesDesk$Lines" "states" "[I") (by decide +kernel)
  have f18 := hts (.fieldLink RX0 18 "OnesDesk$Lines" "weights" "[I") (by decide +kernel)
  have f21 := hts (.fieldLink RX0 21 "OnesDesk$Lines" "told" "I") (by decide +kernel)
  refine lv_aload_n hx hb dX0_add_0 rfl (lv_at hl 0 rfl) ?_
  refine va_get (D := (dC, dI)) (ci := 0) (v := .int g_told) (C := RX0) (T := TX0) (N := 4) hx hb hts in0 hown hK hP 0 rfl rfl 3 (by decide) f21 (fun _ h9 => h9) rfl dX0_add_1 ?_
  refine lv_istore_n (lv' := [(2, .int g_told), (0, .ref a_this), (1, .int x1)]) hx hb dX0_add_4 rfl hl (by decide) rfl (fun ls hl => ?_)
  refine lv_iload_n hx hb dX0_add_5 rfl (lv_at hl 0 rfl) ?_
  refine lv_bipush (v := 40) hx hb dX0_add_6 (by decide) ?_
  refine lv_icmp_ge (tgt := 42) hx hb dX0_add_8 (by decide) (fun k1 => ?_) (fun k1 => ?_)
  · have h := h.1 k1
    refine lv_iload_n hx hb dX0_add_42 rfl (lv_at hl 0 rfl) ?_
    exact ret _ _ _ _ g_told (g_told, g_sets, g_states, g_weights) dX0_add_43 h (reP hP [0, 1, 2, 3] rfl) (hD.sub [0, 1, 2, 3] (by decide) rfl) hS
  · have h := h.2 k1
    refine lv_aload_n hx hb dX0_add_11 rfl (lv_at hl 1 rfl) ?_
    refine va_get (D := (dC, dI)) (ci := 0) (v := .ref a_sets) (C := RX0) (T := TX0) (N := 4) hx hb hts in0 hown hK hP 0 rfl rfl 0 (by decide) f9 (fun _ h9 => h9) rfl dX0_add_12 ?_
    refine lv_iload_n hx hb dX0_add_15 rfl (lv_at hl 0 rfl) ?_
    refine lv_iload_n hx hb dX0_add_16 rfl (lv_at hl 2 rfl) ?_
    obtain ⟨hi2, h⟩ := h
    refine va_iast (D := (dC, dI)) hx hb hK hP hD hS 1 0 rfl rfl hi2 dX0_add_17 (fun H locs hP hD hS => ?_)
    have hP : va_P (dC, dI) vwCl [(a_this, .inr (0, [.ref a_sets, .ref a_states, .ref a_weights, .int g_told])), (a_sets, .inl (cI, 40, .inl (upd g_sets (Int32.toNatClampNeg g_told) x1))), (a_states, .inl (cI, 40, .inl g_states)), (a_weights, .inl (cI, 40, .inl g_weights))] H := hP
    have hD : va_D A [(a_this, .inr (0, [.ref a_sets, .ref a_states, .ref a_weights, .int g_told])), (a_sets, .inl (cI, 40, .inl (upd g_sets (Int32.toNatClampNeg g_told) x1))), (a_states, .inl (cI, 40, .inl g_states)), (a_weights, .inl (cI, 40, .inl g_weights))] := hD
    refine lv_aload_n hx hb dX0_add_18 rfl (lv_at hl 1 rfl) ?_
    refine va_get (D := (dC, dI)) (ci := 0) (v := .ref a_states) (C := RX0) (T := TX0) (N := 4) hx hb hts in0 hown hK hP 0 rfl rfl 1 (by decide) f15 (fun _ h9 => h9) rfl dX0_add_19 ?_
    refine lv_iload_n hx hb dX0_add_22 rfl (lv_at hl 0 rfl) ?_
    refine lv_iconst (v := 1) hx hb dX0_add_23 (by decide) ?_
    refine va_iast (D := (dC, dI)) hx hb hK hP hD hS 2 0 rfl rfl hi2 dX0_add_24 (fun H locs hP hD hS => ?_)
    have hP : va_P (dC, dI) vwCl [(a_this, .inr (0, [.ref a_sets, .ref a_states, .ref a_weights, .int g_told])), (a_sets, .inl (cI, 40, .inl (upd g_sets (Int32.toNatClampNeg g_told) x1))), (a_states, .inl (cI, 40, .inl (upd g_states (Int32.toNatClampNeg g_told) 1))), (a_weights, .inl (cI, 40, .inl g_weights))] H := hP
    have hD : va_D A [(a_this, .inr (0, [.ref a_sets, .ref a_states, .ref a_weights, .int g_told])), (a_sets, .inl (cI, 40, .inl (upd g_sets (Int32.toNatClampNeg g_told) x1))), (a_states, .inl (cI, 40, .inl (upd g_states (Int32.toNatClampNeg g_told) 1))), (a_weights, .inl (cI, 40, .inl g_weights))] := hD
    refine lv_aload_n hx hb dX0_add_25 rfl (lv_at hl 1 rfl) ?_
    refine va_get (D := (dC, dI)) (ci := 0) (v := .ref a_weights) (C := RX0) (T := TX0) (N := 4) hx hb hts in0 hown hK hP 0 rfl rfl 2 (by decide) f18 (fun _ h9 => h9) rfl dX0_add_26 ?_
    refine lv_iload_n hx hb dX0_add_29 rfl (lv_at hl 0 rfl) ?_
    refine lv_iconst (v := 1) hx hb dX0_add_30 (by decide) ?_
    refine va_iast (D := (dC, dI)) hx hb hK hP hD hS 3 0 rfl rfl hi2 dX0_add_31 (fun H locs hP hD hS => ?_)
    have hP : va_P (dC, dI) vwCl [(a_this, .inr (0, [.ref a_sets, .ref a_states, .ref a_weights, .int g_told])), (a_sets, .inl (cI, 40, .inl (upd g_sets (Int32.toNatClampNeg g_told) x1))), (a_states, .inl (cI, 40, .inl (upd g_states (Int32.toNatClampNeg g_told) 1))), (a_weights, .inl (cI, 40, .inl (upd g_weights (Int32.toNatClampNeg g_told) 1)))] H := hP
    have hD : va_D A [(a_this, .inr (0, [.ref a_sets, .ref a_states, .ref a_weights, .int g_told])), (a_sets, .inl (cI, 40, .inl (upd g_sets (Int32.toNatClampNeg g_told) x1))), (a_states, .inl (cI, 40, .inl (upd g_states (Int32.toNatClampNeg g_told) 1))), (a_weights, .inl (cI, 40, .inl (upd g_weights (Int32.toNatClampNeg g_told) 1)))] := hD
    refine lv_aload_n hx hb dX0_add_32 rfl (lv_at hl 1 rfl) ?_
    refine lv_dup hx hb dX0_add_33 rfl ?_
    refine va_get (D := (dC, dI)) (ci := 0) (v := .int g_told) (C := RX0) (T := TX0) (N := 4) hx hb hts in0 hown hK hP 0 rfl rfl 3 (by decide) f21 (fun _ h9 => h9) rfl dX0_add_34 ?_
    refine lv_iconst (v := 1) hx hb dX0_add_37 (by decide) ?_
    refine lv_iadd hx hb dX0_add_38 ?_
    refine va_put (D := (dC, dI)) (ci := 0) (v := .int (g_told + 1)) (ty := .int) (C := RX0) (T := TX0) (N := 4) hx hb hts in0 tyX0 tyX0_ok nmX0 hown hK hP hD hS 0 rfl rfl 3 (by decide) f21 (fun _ h9 => h9) rfl (by decide +kernel) rfl rfl (Nat.le_of_ble_eq_true rfl) dX0_add_39 (fun H locs hP hD hS => ?_)
    have hP : va_P (dC, dI) vwCl [(a_this, .inr (0, [.ref a_sets, .ref a_states, .ref a_weights, .int (g_told + 1)])), (a_sets, .inl (cI, 40, .inl (upd g_sets (Int32.toNatClampNeg g_told) x1))), (a_states, .inl (cI, 40, .inl (upd g_states (Int32.toNatClampNeg g_told) 1))), (a_weights, .inl (cI, 40, .inl (upd g_weights (Int32.toNatClampNeg g_told) 1)))] H := hP
    have hD : va_D A [(a_this, .inr (0, [.ref a_sets, .ref a_states, .ref a_weights, .int (g_told + 1)])), (a_sets, .inl (cI, 40, .inl (upd g_sets (Int32.toNatClampNeg g_told) x1))), (a_states, .inl (cI, 40, .inl (upd g_states (Int32.toNatClampNeg g_told) 1))), (a_weights, .inl (cI, 40, .inl (upd g_weights (Int32.toNatClampNeg g_told) 1)))] := hD
    refine lv_iload_n hx hb dX0_add_42 rfl (lv_at hl 0 rfl) ?_
    exact ret _ _ _ _ g_told ((g_told + 1), (upd g_sets (Int32.toNatClampNeg g_told) x1), (upd g_states (Int32.toNatClampNeg g_told) 1), (upd g_weights (Int32.toNatClampNeg g_told) 1)) dX0_add_43 h (reP hP [0, 1, 2, 3] rfl) (hD.sub [0, 1, 2, 3] (by decide) rfl) hS
/-! ### X0_howMany howMany(I)I -/
def rX0_howMany : Room := { frames := 0, cells := 0, slots := 0, locals := 0 }
def q_X0_howMany_L4 (x1 : Int32) (g_told : Int32) (g_states : Nat → Int32) (Q : Int32 → Prop) : Nat → Int32 → Int32 → Prop
  | 0 => fun _ _ => False
  | n + 1 => fun x2 x3 => (g_told ≤ x3 → Q x2) ∧ (¬ g_told ≤ x3 → vp_in x3 40 ∧ (¬ (g_states (Int32.toNatClampNeg x3)) = x1 → (q_X0_howMany_L4 x1 g_told g_states Q n) x2 (x3 + 1)) ∧ ((g_states (Int32.toNatClampNeg x3)) = x1 → (q_X0_howMany_L4 x1 g_told g_states Q n) (x2 + 1) (x3 + 1)))
def q_X0_howMany (g_told : Int32) (g_states : Nat → Int32) (x1 : Int32) (Q : Int32 → Prop) : Prop :=
  ∃ N : Nat, q_X0_howMany_L4 x1 g_told g_states Q N 0 0
set_option maxRecDepth 100000 in
set_option maxHeartbeats 4000000 in
theorem c_X0_howMany (l : Launch) (dC : Nat → ClassId) (dI : Nat → Nat → Nat) (cI cZ : ClassId) (a_this a_states : Nat) (z_sets z_weights : Value) (g_told : Int32) (g_states : Nat → Int32) (x1 : Int32) (Q : Int32 → Prop) (h : q_X0_howMany g_told g_states x1 Q) : MI l yX0_howMany wsX0_howMany rX0_howMany (dC, dI) [(cI, .int), (cZ, .boolean)] [.ref a_this, .int x1] [(a_this, .inr (0, [z_sets, .ref a_states, z_weights, .int g_told])), (a_states, .inl (cI, 40, .inl g_states))] (fun (r : Int32) (u : Unit) => Q r) (fun u : Unit => [(a_this, .inr (0, [z_sets, .ref a_states, z_weights, .int g_told])), (a_states, .inl (cI, 40, .inl g_states))]) := by
  refine MI.of (cc := cX0_howMany) (maxL := 4) (by decide +kernel) rfl (Nat.le_of_ble_eq_true rfl) ?_
  intro p e s m args below meth c A QQ ls hx hb hml hown hts hA hK hP hD hS hNW ret hl
  have hl : lv_has ls 4 [(0, .ref a_this), (1, .int x1)] := hl
  have hown : s.vm.findClass RX0 = some m.cls := hown
  have in0 : ∀ w ∈ u_ws RX0 TX0 4, w ∈ wsX0_howMany := fun _ w9 => List.mem_cons_of_mem _ (List.mem_append_right _ w9)
  have f15 := hts (.fieldLink RX0 15 "OnesDesk$Lines" "states" "[I") (by decide +kernel)
  have f21 := hts (.fieldLink RX0 21 "OnesDesk$Lines" "told" "I") (by decide +kernel)
  refine lv_iconst (v := 0) hx hb dX0_howMany_0 (by decide) ?_
  refine lv_istore_n (lv' := [(2, .int 0), (0, .ref a_this), (1, .int x1)]) hx hb dX0_howMany_1 rfl hl (by decide) rfl (fun ls hl => ?_)
  refine lv_iconst (v := 0) hx hb dX0_howMany_2 (by decide) ?_
  refine lv_istore_n (lv' := [(3, .int 0), (2, .int 0), (0, .ref a_this), (1, .int x1)]) hx hb dX0_howMany_3 rfl hl (by decide) rfl (fun ls hl => ?_)
  have L4 : ∀ (n4 : Nat), ∀ (x2 : Int32) (x3 : Int32), q_X0_howMany_L4 x1 g_told g_states Q n4 x2 x3 → ∀ (H : Heap) (locs : List Loc) (ls : Array Slot), va_P (dC, dI) vwCl [(a_this, .inr (0, [z_sets, .ref a_states, z_weights, .int g_told])), (a_states, .inl (cI, 40, .inl g_states))] H → va_D A [(a_this, .inr (0, [z_sets, .ref a_states, z_weights, .int g_told])), (a_states, .inl (cI, 40, .inl g_states))] → va_S A s.heap H locs → lv_has ls 4 [(0, .ref a_this), (1, .int x1), (2, .int x2), (3, .int x3)] → W p l e rX0_howMany s m args below meth c H locs 0 0 QQ (F0 m 4 ls []) := by
    intro n4
    induction n4 with
    | zero => intro x2 x3 h; exact False.elim h
    | succ n4 ih4 =>
      intro x2 x3 h H locs ls hP hD hS hl
      refine lv_iload_n hx hb dX0_howMany_4 rfl (lv_at hl 3 rfl) ?_
      refine lv_aload_n hx hb dX0_howMany_5 rfl (lv_at hl 0 rfl) ?_
      refine va_get (D := (dC, dI)) (ci := 0) (v := .int g_told) (C := RX0) (T := TX0) (N := 4) hx hb hts in0 hown hK hP 0 rfl rfl 3 (by decide) f21 (fun _ h9 => h9) rfl dX0_howMany_6 ?_
      refine lv_icmp_ge (tgt := 31) hx hb dX0_howMany_9 (by decide) (fun k1 => ?_) (fun k1 => ?_)
      · have h := h.1 k1
        refine lv_iload_n hx hb dX0_howMany_31 rfl (lv_at hl 2 rfl) ?_
        exact ret _ _ _ _ x2 () dX0_howMany_32 h (reP hP [0, 1] rfl) (hD.sub [0, 1] (by decide) rfl) hS
      · have h := h.2 k1
        refine lv_aload_n hx hb dX0_howMany_12 rfl (lv_at hl 0 rfl) ?_
        refine va_get (D := (dC, dI)) (ci := 0) (v := .ref a_states) (C := RX0) (T := TX0) (N := 4) hx hb hts in0 hown hK hP 0 rfl rfl 1 (by decide) f15 (fun _ h9 => h9) rfl dX0_howMany_13 ?_
        refine lv_iload_n hx hb dX0_howMany_16 rfl (lv_at hl 3 rfl) ?_
        obtain ⟨hi2, h⟩ := h
        refine va_iald (D := (dC, dI)) hx hb hK hP 1 0 rfl rfl hi2 dX0_howMany_17 ?_
        refine lv_iload_n hx hb dX0_howMany_18 rfl (lv_at hl 1 rfl) ?_
        refine lv_icmp_ne (tgt := 25) hx hb dX0_howMany_19 (by decide) (fun k3 => ?_) (fun k3 => ?_)
        · have h := h.1 k3
          refine lv_iinc (v := x3 + 1) (lv' := [(3, .int (x3 + 1)), (0, .ref a_this), (1, .int x1), (2, .int x2)]) hx hb dX0_howMany_25 hl (k := 3) rfl rfl (by decide) rfl (fun ls hl => ?_)
          refine lv_goto (tgt := 4) hx hb dX0_howMany_28 (by decide) ?_
          exact ih4 x2 (x3 + 1) h _ _ _ (reP hP [0, 1] rfl) (hD.sub [0, 1] (by decide) rfl) hS (lv_sub hl [1, 2, 3, 0] rfl)
        · have h := h.2 k3
          refine lv_iinc (v := x2 + 1) (lv' := [(2, .int (x2 + 1)), (0, .ref a_this), (1, .int x1), (3, .int x3)]) hx hb dX0_howMany_22 hl (k := 2) rfl rfl (by decide) rfl (fun ls hl => ?_)
          refine lv_iinc (v := x3 + 1) (lv' := [(3, .int (x3 + 1)), (2, .int (x2 + 1)), (0, .ref a_this), (1, .int x1)]) hx hb dX0_howMany_25 hl (k := 3) rfl rfl (by decide) rfl (fun ls hl => ?_)
          refine lv_goto (tgt := 4) hx hb dX0_howMany_28 (by decide) ?_
          exact ih4 (x2 + 1) (x3 + 1) h _ _ _ (reP hP [0, 1] rfl) (hD.sub [0, 1] (by decide) rfl) hS (lv_sub hl [2, 3, 1, 0] rfl)
  obtain ⟨n, h⟩ := h
  exact L4 n 0 0 h _ _ _ (reP hP [0, 1] rfl) (hD.sub [0, 1] (by decide) rfl) hS (lv_sub hl [2, 3, 1, 0] rfl)
