/-! ### X1_letAll letAll(I)V -/
def rX1_letAll : Room := { frames := 0, cells := 0, slots := 0, locals := 0 }
def q_X1_letAll_L16 (g_columns : Int32) (g_full : Int32) (Q : Int32 → Int32 → (Nat → Int32) → Prop) : Nat → Int32 → (Nat → Int32) → Prop
  | 0 => fun _ _ => False
  | n + 1 => fun x2 g_open => (g_full < x2 → Q g_columns g_full g_open) ∧ (¬ g_full < x2 → vp_in x2 256 ∧ (q_X1_letAll_L16 g_columns g_full Q n) (x2 + 1) (upd g_open (Int32.toNatClampNeg x2) (g_full &&& (x2 ^^^ (-1)))))
def q_X1_letAll (g_columns : Int32) (g_full : Int32) (g_open : Nat → Int32) (x1 : Int32) (Q : Int32 → Int32 → (Nat → Int32) → Prop) : Prop :=
  ∃ N : Nat, q_X1_letAll_L16 x1 ((1 <<< (x1 &&& 31)) - 1) Q N 0 g_open
set_option maxRecDepth 100000 in
set_option maxHeartbeats 4000000 in
theorem c_X1_letAll (l : Launch) (dC : Nat → ClassId) (dI : Nat → Nat → Nat) (cI cZ : ClassId) (a_this a_open : Nat) (z_ways : Value) (g_columns : Int32) (g_full : Int32) (g_open : Nat → Int32) (x1 : Int32) (Q : Int32 → Int32 → (Nat → Int32) → Prop) (h : q_X1_letAll g_columns g_full g_open x1 Q) : MV l yX1_letAll wsX1_letAll rX1_letAll (dC, dI) [(cI, .int), (cZ, .boolean)] [.ref a_this, .int x1] [(a_this, .inr (1, [.ref a_open, z_ways, .int g_columns, .int g_full])), (a_open, .inl (cI, 256, .inl g_open))] (fun u : Int32 × Int32 × (Nat → Int32) => Q u.1 u.2.1 u.2.2) (fun u : Int32 × Int32 × (Nat → Int32) => [(a_this, .inr (1, [.ref a_open, z_ways, .int u.1, .int u.2.1])), (a_open, .inl (cI, 256, .inl u.2.2))]) := by
  refine MV.of (cc := cX1_letAll) (maxL := 3) (by decide +kernel) rfl (Nat.le_of_ble_eq_true rfl) ?_
  intro p e s m args below meth c A QQ ls hx hb hml hown hts hA hK hP hD hS hNW ret hl
  have hl : lv_has ls 3 [(0, .ref a_this), (1, .int x1)] := hl
  have hown : s.vm.findClass RX1 = some m.cls := hown
  have in1 : ∀ w ∈ u_ws RX1 TX1 4, w ∈ wsX1_letAll := fun _ w9 => List.mem_cons_of_mem _ (List.mem_append_right _ w9)
  have f9 := hts (.fieldLink RX1 9 "OnesDesk$Rows" "open" "[I") (by decide +kernel)
  have f18 := hts (.fieldLink RX1 18 "OnesDesk$Rows" "columns" "I") (by decide +kernel)
  have f22 := hts (.fieldLink RX1 22 "OnesDesk$Rows" "full" "I") (by decide +kernel)
  refine lv_aload_n hx hb dX1_letAll_0 rfl (lv_at hl 0 rfl) ?_
  refine lv_iload_n hx hb dX1_letAll_1 rfl (lv_at hl 1 rfl) ?_
  refine va_put (D := (dC, dI)) (ci := 1) (v := .int x1) (ty := .int) (C := RX1) (T := TX1) (N := 4) hx hb hts in1 tyX1 tyX1_ok nmX1 hown hK hP hD hS 0 rfl rfl 2 (by decide) f18 (fun _ h9 => h9) rfl (by decide +kernel) rfl rfl (Nat.le_of_ble_eq_true rfl) dX1_letAll_2 (fun H locs hP hD hS => ?_)
  have hP : va_P (dC, dI) vwCl [(a_this, .inr (1, [.ref a_open, z_ways, .int x1, .int g_full])), (a_open, .inl (cI, 256, .inl g_open))] H := hP
  have hD : va_D A [(a_this, .inr (1, [.ref a_open, z_ways, .int x1, .int g_full])), (a_open, .inl (cI, 256, .inl g_open))] := hD
  refine lv_aload_n hx hb dX1_letAll_5 rfl (lv_at hl 0 rfl) ?_
  refine lv_iconst (v := 1) hx hb dX1_letAll_6 (by decide) ?_
  refine lv_iload_n hx hb dX1_letAll_7 rfl (lv_at hl 1 rfl) ?_
  refine lv_ishl hx hb dX1_letAll_8 ?_
  refine lv_iconst (v := 1) hx hb dX1_letAll_9 (by decide) ?_
  refine lv_isub hx hb dX1_letAll_10 ?_
  refine va_put (D := (dC, dI)) (ci := 1) (v := .int ((1 <<< (x1 &&& 31)) - 1)) (ty := .int) (C := RX1) (T := TX1) (N := 4) hx hb hts in1 tyX1 tyX1_ok nmX1 hown hK hP hD hS 0 rfl rfl 3 (by decide) f22 (fun _ h9 => h9) rfl (by decide +kernel) rfl rfl (Nat.le_of_ble_eq_true rfl) dX1_letAll_11 (fun H locs hP hD hS => ?_)
  have hP : va_P (dC, dI) vwCl [(a_this, .inr (1, [.ref a_open, z_ways, .int x1, .int ((1 <<< (x1 &&& 31)) - 1)])), (a_open, .inl (cI, 256, .inl g_open))] H := hP
  have hD : va_D A [(a_this, .inr (1, [.ref a_open, z_ways, .int x1, .int ((1 <<< (x1 &&& 31)) - 1)])), (a_open, .inl (cI, 256, .inl g_open))] := hD
  refine lv_iconst (v := 0) hx hb dX1_letAll_14 (by decide) ?_
  refine lv_istore_n (lv' := [(2, .int 0), (0, .ref a_this), (1, .int x1)]) hx hb dX1_letAll_15 rfl hl (by decide) rfl (fun ls hl => ?_)
  have L16 : ∀ (g_columns : Int32) (g_full : Int32), ∀ (n16 : Nat), ∀ (x2 : Int32) (g_open : Nat → Int32), q_X1_letAll_L16 g_columns g_full Q n16 x2 g_open → ∀ (H : Heap) (locs : List Loc) (ls : Array Slot), va_P (dC, dI) vwCl [(a_this, .inr (1, [.ref a_open, z_ways, .int g_columns, .int g_full])), (a_open, .inl (cI, 256, .inl g_open))] H → va_D A [(a_this, .inr (1, [.ref a_open, z_ways, .int g_columns, .int g_full])), (a_open, .inl (cI, 256, .inl g_open))] → va_S A s.heap H locs → lv_has ls 3 [(0, .ref a_this), (2, .int x2)] → W p l e rX1_letAll s m args below meth c H locs 0 0 QQ (F0 m 16 ls []) := by
    intro g_columns g_full
    intro n16
    induction n16 with
    | zero => intro x2 g_open h; exact False.elim h
    | succ n16 ih16 =>
      intro x2 g_open h H locs ls hP hD hS hl
      refine lv_iload_n hx hb dX1_letAll_16 rfl (lv_at hl 1 rfl) ?_
      refine lv_aload_n hx hb dX1_letAll_17 rfl (lv_at hl 0 rfl) ?_
      refine va_get (D := (dC, dI)) (ci := 1) (v := .int g_full) (C := RX1) (T := TX1) (N := 4) hx hb hts in1 hown hK hP 0 rfl rfl 3 (by decide) f22 (fun _ h9 => h9) rfl dX1_letAll_18 ?_
      refine lv_icmp_gt (tgt := 44) hx hb dX1_letAll_21 (by decide) (fun k1 => ?_) (fun k1 => ?_)
      · have h := h.1 k1
        exact ret _ _ _ _ (g_columns, g_full, g_open) dX1_letAll_44 h (reP hP [0, 1] rfl) (hD.sub [0, 1] (by decide) rfl) hS
      · have h := h.2 k1
        refine lv_aload_n hx hb dX1_letAll_24 rfl (lv_at hl 0 rfl) ?_
        refine va_get (D := (dC, dI)) (ci := 1) (v := .ref a_open) (C := RX1) (T := TX1) (N := 4) hx hb hts in1 hown hK hP 0 rfl rfl 0 (by decide) f9 (fun _ h9 => h9) rfl dX1_letAll_25 ?_
        refine lv_iload_n hx hb dX1_letAll_28 rfl (lv_at hl 1 rfl) ?_
        refine lv_aload_n hx hb dX1_letAll_29 rfl (lv_at hl 0 rfl) ?_
        refine va_get (D := (dC, dI)) (ci := 1) (v := .int g_full) (C := RX1) (T := TX1) (N := 4) hx hb hts in1 hown hK hP 0 rfl rfl 3 (by decide) f22 (fun _ h9 => h9) rfl dX1_letAll_30 ?_
        refine lv_iload_n hx hb dX1_letAll_33 rfl (lv_at hl 1 rfl) ?_
        refine lv_iconst (v := (-1)) hx hb dX1_letAll_34 (by decide) ?_
        refine lv_ixor hx hb dX1_letAll_35 ?_
        refine lv_iand hx hb dX1_letAll_36 ?_
        obtain ⟨hi2, h⟩ := h
        refine va_iast (D := (dC, dI)) hx hb hK hP hD hS 1 0 rfl rfl hi2 dX1_letAll_37 (fun H locs hP hD hS => ?_)
        have hP : va_P (dC, dI) vwCl [(a_this, .inr (1, [.ref a_open, z_ways, .int g_columns, .int g_full])), (a_open, .inl (cI, 256, .inl (upd g_open (Int32.toNatClampNeg x2) (g_full &&& (x2 ^^^ (-1))))))] H := hP
        have hD : va_D A [(a_this, .inr (1, [.ref a_open, z_ways, .int g_columns, .int g_full])), (a_open, .inl (cI, 256, .inl (upd g_open (Int32.toNatClampNeg x2) (g_full &&& (x2 ^^^ (-1))))))] := hD
        refine lv_iinc (v := x2 + 1) (lv' := [(2, .int (x2 + 1)), (0, .ref a_this)]) hx hb dX1_letAll_38 hl (k := 1) rfl rfl (by decide) rfl (fun ls hl => ?_)
        refine lv_goto (tgt := 16) hx hb dX1_letAll_41 (by decide) ?_
        exact ih16 (x2 + 1) (upd g_open (Int32.toNatClampNeg x2) (g_full &&& (x2 ^^^ (-1)))) h _ _ _ (reP hP [0, 1] rfl) (hD.sub [0, 1] (by decide) rfl) hS (lv_sub hl [1, 0] rfl)
  obtain ⟨n, h⟩ := h
  exact L16 x1 ((1 <<< (x1 &&& 31)) - 1) n 0 g_open h _ _ _ (reP hP [0, 1] rfl) (hD.sub [0, 1] (by decide) rfl) hS (lv_sub hl [1, 0] rfl)
/-! ### X1_copy copy(LOnesDesk$Rows;)V -/
def rX1_copy : Room := { frames := 0, cells := 0, slots := 0, locals := 0 }
def q_X1_copy_L18 (g_columns : Int32) (g_full : Int32) (g_p1_open : Nat → Int32) (g_p1_ways : Nat → Int32) (Q : Int32 → Int32 → (Nat → Int32) → (Nat → Int32) → Prop) : Nat → Int32 → (Nat → Int32) → (Nat → Int32) → Prop
  | 0 => fun _ _ _ => False
  | n + 1 => fun x2 g_open g_ways => (g_full < x2 → Q g_columns g_full g_open g_ways) ∧ (¬ g_full < x2 → vp_in x2 256 ∧ (q_X1_copy_L18 g_columns g_full g_p1_open g_p1_ways Q n) (x2 + 1) (upd g_open (Int32.toNatClampNeg x2) (g_p1_open (Int32.toNatClampNeg x2))) (upd g_ways (Int32.toNatClampNeg x2) (g_p1_ways (Int32.toNatClampNeg x2))))
def q_X1_copy (g_columns : Int32) (g_full : Int32) (g_open : Nat → Int32) (g_ways : Nat → Int32) (g_p1_columns : Int32) (g_p1_full : Int32) (g_p1_open : Nat → Int32) (g_p1_ways : Nat → Int32) (Q : Int32 → Int32 → (Nat → Int32) → (Nat → Int32) → Prop) : Prop :=
  ∃ N : Nat, q_X1_copy_L18 g_p1_columns g_p1_full g_p1_open g_p1_ways Q N 0 g_open g_ways
set_option maxRecDepth 100000 in
set_option maxHeartbeats 4000000 in
theorem c_X1_copy (l : Launch) (dC : Nat → ClassId) (dI : Nat → Nat → Nat) (cI cZ : ClassId) (a_this a_open a_ways a_p1 a_p1_open a_p1_ways : Nat) (g_columns : Int32) (g_full : Int32) (g_open : Nat → Int32) (g_ways : Nat → Int32) (g_p1_columns : Int32) (g_p1_full : Int32) (g_p1_open : Nat → Int32) (g_p1_ways : Nat → Int32) (Q : Int32 → Int32 → (Nat → Int32) → (Nat → Int32) → Prop) (h : q_X1_copy g_columns g_full g_open g_ways g_p1_columns g_p1_full g_p1_open g_p1_ways Q) : MV l yX1_copy wsX1_copy rX1_copy (dC, dI) [(cI, .int), (cZ, .boolean)] [.ref a_this, .ref a_p1] [(a_this, .inr (1, [.ref a_open, .ref a_ways, .int g_columns, .int g_full])), (a_open, .inl (cI, 256, .inl g_open)), (a_ways, .inl (cI, 256, .inl g_ways)), (a_p1, .inr (1, [.ref a_p1_open, .ref a_p1_ways, .int g_p1_columns, .int g_p1_full])), (a_p1_open, .inl (cI, 256, .inl g_p1_open)), (a_p1_ways, .inl (cI, 256, .inl g_p1_ways))] (fun u : Int32 × Int32 × (Nat → Int32) × (Nat → Int32) => Q u.1 u.2.1 u.2.2.1 u.2.2.2) (fun u : Int32 × Int32 × (Nat → Int32) × (Nat → Int32) => [(a_this, .inr (1, [.ref a_open, .ref a_ways, .int u.1, .int u.2.1])), (a_open, .inl (cI, 256, .inl u.2.2.1)), (a_ways, .inl (cI, 256, .inl u.2.2.2)), (a_p1, .inr (1, [.ref a_p1_open, .ref a_p1_ways, .int g_p1_columns, .int g_p1_full])), (a_p1_open, .inl (cI, 256, .inl g_p1_open)), (a_p1_ways, .inl (cI, 256, .inl g_p1_ways))]) := by
  refine MV.of (cc := cX1_copy) (maxL := 3) (by decide +kernel) rfl (Nat.le_of_ble_eq_true rfl) ?_
  intro p e s m args below meth c A QQ ls hx hb hml hown hts hA hK hP hD hS hNW ret hl
  have hl : lv_has ls 3 [(0, .ref a_this), (1, .ref a_p1)] := hl
  have hown : s.vm.findClass RX1 = some m.cls := hown
  have in1 : ∀ w ∈ u_ws RX1 TX1 4, w ∈ wsX1_copy := fun _ w9 => List.mem_cons_of_mem _ (List.mem_append_right _ w9)
  have f9 := hts (.fieldLink RX1 9 "OnesDesk$Rows" "open" "[I") (by decide +kernel)
  have f15 := hts (.fieldLink RX1 15 "OnesDesk$Rows" "ways" "[I") (by decide +kernel)
  have f18 := hts (.fieldLink RX1 18 "OnesDesk$Rows" "columns" "I") (by decide +kernel)
  have f22 := hts (.fieldLink RX1 22 "OnesDesk$Rows" "full" "I") (by decide +kernel)
  refine lv_aload_n hx hb dX1_copy_0 rfl (lv_at hl 0 rfl) ?_
  refine lv_aload_n hx hb dX1_copy_1 rfl (lv_at hl 1 rfl) ?_
  refine va_get (D := (dC, dI)) (ci := 1) (v := .int g_p1_columns) (C := RX1) (T := TX1) (N := 4) hx hb hts in1 hown hK hP 3 rfl rfl 2 (by decide) f18 (fun _ h9 => h9) rfl dX1_copy_2 ?_
  refine va_put (D := (dC, dI)) (ci := 1) (v := .int g_p1_columns) (ty := .int) (C := RX1) (T := TX1) (N := 4) hx hb hts in1 tyX1 tyX1_ok nmX1 hown hK hP hD hS 0 rfl rfl 2 (by decide) f18 (fun _ h9 => h9) rfl (by decide +kernel) rfl rfl (Nat.le_of_ble_eq_true rfl) dX1_copy_5 (fun H locs hP hD hS => ?_)
  have hP : va_P (dC, dI) vwCl [(a_this, .inr (1, [.ref a_open, .ref a_ways, .int g_p1_columns, .int g_full])), (a_open, .inl (cI, 256, .inl g_open)), (a_ways, .inl (cI, 256, .inl g_ways)), (a_p1, .inr (1, [.ref a_p1_open, .ref a_p1_ways, .int g_p1_columns, .int g_p1_full])), (a_p1_open, .inl (cI, 256, .inl g_p1_open)), (a_p1_ways, .inl (cI, 256, .inl g_p1_ways))] H := hP
  have hD : va_D A [(a_this, .inr (1, [.ref a_open, .ref a_ways, .int g_p1_columns, .int g_full])), (a_open, .inl (cI, 256, .inl g_open)), (a_ways, .inl (cI, 256, .inl g_ways)), (a_p1, .inr (1, [.ref a_p1_open, .ref a_p1_ways, .int g_p1_columns, .int g_p1_full])), (a_p1_open, .inl (cI, 256, .inl g_p1_open)), (a_p1_ways, .inl (cI, 256, .inl g_p1_ways))] := hD
  refine lv_aload_n hx hb dX1_copy_8 rfl (lv_at hl 0 rfl) ?_
  refine lv_aload_n hx hb dX1_copy_9 rfl (lv_at hl 1 rfl) ?_
  refine va_get (D := (dC, dI)) (ci := 1) (v := .int g_p1_full) (C := RX1) (T := TX1) (N := 4) hx hb hts in1 hown hK hP 3 rfl rfl 3 (by decide) f22 (fun _ h9 => h9) rfl dX1_copy_10 ?_
  refine va_put (D := (dC, dI)) (ci := 1) (v := .int g_p1_full) (ty := .int) (C := RX1) (T := TX1) (N := 4) hx hb hts in1 tyX1 tyX1_ok nmX1 hown hK hP hD hS 0 rfl rfl 3 (by decide) f22 (fun _ h9 => h9) rfl (by decide +kernel) rfl rfl (Nat.le_of_ble_eq_true rfl) dX1_copy_13 (fun H locs hP hD hS => ?_)
  have hP : va_P (dC, dI) vwCl [(a_this, .inr (1, [.ref a_open, .ref a_ways, .int g_p1_columns, .int g_p1_full])), (a_open, .inl (cI, 256, .inl g_open)), (a_ways, .inl (cI, 256, .inl g_ways)), (a_p1, .inr (1, [.ref a_p1_open, .ref a_p1_ways, .int g_p1_columns, .int g_p1_full])), (a_p1_open, .inl (cI, 256, .inl g_p1_open)), (a_p1_ways, .inl (cI, 256, .inl g_p1_ways))] H := hP
  have hD : va_D A [(a_this, .inr (1, [.ref a_open, .ref a_ways, .int g_p1_columns, .int g_p1_full])), (a_open, .inl (cI, 256, .inl g_open)), (a_ways, .inl (cI, 256, .inl g_ways)), (a_p1, .inr (1, [.ref a_p1_open, .ref a_p1_ways, .int g_p1_columns, .int g_p1_full])), (a_p1_open, .inl (cI, 256, .inl g_p1_open)), (a_p1_ways, .inl (cI, 256, .inl g_p1_ways))] := hD
  refine lv_iconst (v := 0) hx hb dX1_copy_16 (by decide) ?_
  refine lv_istore_n (lv' := [(2, .int 0), (0, .ref a_this), (1, .ref a_p1)]) hx hb dX1_copy_17 rfl hl (by decide) rfl (fun ls hl => ?_)
  have L18 : ∀ (g_columns : Int32) (g_full : Int32), ∀ (n18 : Nat), ∀ (x2 : Int32) (g_open : Nat → Int32) (g_ways : Nat → Int32), q_X1_copy_L18 g_columns g_full g_p1_open g_p1_ways Q n18 x2 g_open g_ways → ∀ (H : Heap) (locs : List Loc) (ls : Array Slot), va_P (dC, dI) vwCl [(a_this, .inr (1, [.ref a_open, .ref a_ways, .int g_columns, .int g_full])), (a_open, .inl (cI, 256, .inl g_open)), (a_ways, .inl (cI, 256, .inl g_ways)), (a_p1, .inr (1, [.ref a_p1_open, .ref a_p1_ways, .int g_p1_columns, .int g_p1_full])), (a_p1_open, .inl (cI, 256, .inl g_p1_open)), (a_p1_ways, .inl (cI, 256, .inl g_p1_ways))] H → va_D A [(a_this, .inr (1, [.ref a_open, .ref a_ways, .int g_columns, .int g_full])), (a_open, .inl (cI, 256, .inl g_open)), (a_ways, .inl (cI, 256, .inl g_ways)), (a_p1, .inr (1, [.ref a_p1_open, .ref a_p1_ways, .int g_p1_columns, .int g_p1_full])), (a_p1_open, .inl (cI, 256, .inl g_p1_open)), (a_p1_ways, .inl (cI, 256, .inl g_p1_ways))] → va_S A s.heap H locs → lv_has ls 3 [(0, .ref a_this), (1, .ref a_p1), (2, .int x2)] → W p l e rX1_copy s m args below meth c H locs 0 0 QQ (F0 m 18 ls []) := by
    intro g_columns g_full
    intro n18
    induction n18 with
    | zero => intro x2 g_open g_ways h; exact False.elim h
    | succ n18 ih18 =>
      intro x2 g_open g_ways h H locs ls hP hD hS hl
      refine lv_iload_n hx hb dX1_copy_18 rfl (lv_at hl 2 rfl) ?_
      refine lv_aload_n hx hb dX1_copy_19 rfl (lv_at hl 0 rfl) ?_
      refine va_get (D := (dC, dI)) (ci := 1) (v := .int g_full) (C := RX1) (T := TX1) (N := 4) hx hb hts in1 hown hK hP 0 rfl rfl 3 (by decide) f22 (fun _ h9 => h9) rfl dX1_copy_20 ?_
      refine lv_icmp_gt (tgt := 56) hx hb dX1_copy_23 (by decide) (fun k1 => ?_) (fun k1 => ?_)
      · have h := h.1 k1
        exact ret _ _ _ _ (g_columns, g_full, g_open, g_ways) dX1_copy_56 h (reP hP [0, 1, 2, 3, 4, 5] rfl) (hD.sub [0, 1, 2, 3, 4, 5] (by decide) rfl) hS
      · have h := h.2 k1
        refine lv_aload_n hx hb dX1_copy_26 rfl (lv_at hl 0 rfl) ?_
        refine va_get (D := (dC, dI)) (ci := 1) (v := .ref a_open) (C := RX1) (T := TX1) (N := 4) hx hb hts in1 hown hK hP 0 rfl rfl 0 (by decide) f9 (fun _ h9 => h9) rfl dX1_copy_27 ?_
        refine lv_iload_n hx hb dX1_copy_30 rfl (lv_at hl 2 rfl) ?_
        refine lv_aload_n hx hb dX1_copy_31 rfl (lv_at hl 1 rfl) ?_
        refine va_get (D := (dC, dI)) (ci := 1) (v := .ref a_p1_open) (C := RX1) (T := TX1) (N := 4) hx hb hts in1 hown hK hP 3 rfl rfl 0 (by decide) f9 (fun _ h9 => h9) rfl dX1_copy_32 ?_
        refine lv_iload_n hx hb dX1_copy_35 rfl (lv_at hl 2 rfl) ?_
        obtain ⟨hi2, h⟩ := h
        refine va_iald (D := (dC, dI)) hx hb hK hP 4 0 rfl rfl hi2 dX1_copy_36 ?_
        refine va_iast (D := (dC, dI)) hx hb hK hP hD hS 1 0 rfl rfl hi2 dX1_copy_37 (fun H locs hP hD hS => ?_)
        have hP : va_P (dC, dI) vwCl [(a_this, .inr (1, [.ref a_open, .ref a_ways, .int g_columns, .int g_full])), (a_open, .inl (cI, 256, .inl (upd g_open (Int32.toNatClampNeg x2) (g_p1_open (Int32.toNatClampNeg x2))))), (a_ways, .inl (cI, 256, .inl g_ways)), (a_p1, .inr (1, [.ref a_p1_open, .ref a_p1_ways, .int g_p1_columns, .int g_p1_full])), (a_p1_open, .inl (cI, 256, .inl g_p1_open)), (a_p1_ways, .inl (cI, 256, .inl g_p1_ways))] H := hP
        have hD : va_D A [(a_this, .inr (1, [.ref a_open, .ref a_ways, .int g_columns, .int g_full])), (a_open, .inl (cI, 256, .inl (upd g_open (Int32.toNatClampNeg x2) (g_p1_open (Int32.toNatClampNeg x2))))), (a_ways, .inl (cI, 256, .inl g_ways)), (a_p1, .inr (1, [.ref a_p1_open, .ref a_p1_ways, .int g_p1_columns, .int g_p1_full])), (a_p1_open, .inl (cI, 256, .inl g_p1_open)), (a_p1_ways, .inl (cI, 256, .inl g_p1_ways))] := hD
        refine lv_aload_n hx hb dX1_copy_38 rfl (lv_at hl 0 rfl) ?_
        refine va_get (D := (dC, dI)) (ci := 1) (v := .ref a_ways) (C := RX1) (T := TX1) (N := 4) hx hb hts in1 hown hK hP 0 rfl rfl 1 (by decide) f15 (fun _ h9 => h9) rfl dX1_copy_39 ?_
        refine lv_iload_n hx hb dX1_copy_42 rfl (lv_at hl 2 rfl) ?_
        refine lv_aload_n hx hb dX1_copy_43 rfl (lv_at hl 1 rfl) ?_
        refine va_get (D := (dC, dI)) (ci := 1) (v := .ref a_p1_ways) (C := RX1) (T := TX1) (N := 4) hx hb hts in1 hown hK hP 3 rfl rfl 1 (by decide) f15 (fun _ h9 => h9) rfl dX1_copy_44 ?_
        refine lv_iload_n hx hb dX1_copy_47 rfl (lv_at hl 2 rfl) ?_
        refine va_iald (D := (dC, dI)) hx hb hK hP 5 0 rfl rfl hi2 dX1_copy_48 ?_
        refine va_iast (D := (dC, dI)) hx hb hK hP hD hS 2 0 rfl rfl hi2 dX1_copy_49 (fun H locs hP hD hS => ?_)
        have hP : va_P (dC, dI) vwCl [(a_this, .inr (1, [.ref a_open, .ref a_ways, .int g_columns, .int g_full])), (a_open, .inl (cI, 256, .inl (upd g_open (Int32.toNatClampNeg x2) (g_p1_open (Int32.toNatClampNeg x2))))), (a_ways, .inl (cI, 256, .inl (upd g_ways (Int32.toNatClampNeg x2) (g_p1_ways (Int32.toNatClampNeg x2))))), (a_p1, .inr (1, [.ref a_p1_open, .ref a_p1_ways, .int g_p1_columns, .int g_p1_full])), (a_p1_open, .inl (cI, 256, .inl g_p1_open)), (a_p1_ways, .inl (cI, 256, .inl g_p1_ways))] H := hP
        have hD : va_D A [(a_this, .inr (1, [.ref a_open, .ref a_ways, .int g_columns, .int g_full])), (a_open, .inl (cI, 256, .inl (upd g_open (Int32.toNatClampNeg x2) (g_p1_open (Int32.toNatClampNeg x2))))), (a_ways, .inl (cI, 256, .inl (upd g_ways (Int32.toNatClampNeg x2) (g_p1_ways (Int32.toNatClampNeg x2))))), (a_p1, .inr (1, [.ref a_p1_open, .ref a_p1_ways, .int g_p1_columns, .int g_p1_full])), (a_p1_open, .inl (cI, 256, .inl g_p1_open)), (a_p1_ways, .inl (cI, 256, .inl g_p1_ways))] := hD
        refine lv_iinc (v := x2 + 1) (lv' := [(2, .int (x2 + 1)), (0, .ref a_this), (1, .ref a_p1)]) hx hb dX1_copy_50 hl (k := 2) rfl rfl (by decide) rfl (fun ls hl => ?_)
        refine lv_goto (tgt := 18) hx hb dX1_copy_53 (by decide) ?_
        exact ih18 (x2 + 1) (upd g_open (Int32.toNatClampNeg x2) (g_p1_open (Int32.toNatClampNeg x2))) (upd g_ways (Int32.toNatClampNeg x2) (g_p1_ways (Int32.toNatClampNeg x2))) h _ _ _ (reP hP [0, 1, 2, 3, 4, 5] rfl) (hD.sub [0, 1, 2, 3, 4, 5] (by decide) rfl) hS (lv_sub hl [1, 2, 0] rfl)
  obtain ⟨n, h⟩ := h
  exact L18 g_p1_columns g_p1_full n 0 g_open g_ways h _ _ _ (reP hP [0, 1, 2, 3, 4, 5] rfl) (hD.sub [0, 1, 2, 3, 4, 5] (by decide) rfl) hS (lv_sub hl [1, 2, 0] rfl)
/-! ### X1_keep keep(I)V -/
def rX1_keep : Room := { frames := 0, cells := 0, slots := 0, locals := 0 }
def q_X1_keep_L2 (x1 : Int32) (g_full : Int32) (Q : (Nat → Int32) → Prop) : Nat → Int32 → (Nat → Int32) → Prop
  | 0 => fun _ _ => False
  | n + 1 => fun x2 g_open => (g_full < x2 → Q g_open) ∧ (¬ g_full < x2 → ∀ t4 : Int32, t4 = (if (x1 &&& x2) = 0 then 0 else 1) → ∀ t7 : Int32, t7 = (if (x1 &&& (x2 ^^^ (-1))) = 0 then 0 else 1) → (t4 = 0 → (q_X1_keep_L2 x1 g_full Q n) (x2 + 1) g_open) ∧ (¬ t4 = 0 → (t7 = 0 → (q_X1_keep_L2 x1 g_full Q n) (x2 + 1) g_open) ∧ (¬ t7 = 0 → vp_in x2 256 ∧ (q_X1_keep_L2 x1 g_full Q n) (x2 + 1) (upd g_open (Int32.toNatClampNeg x2) ((g_open (Int32.toNatClampNeg x2)) &&& x1)))))
def q_X1_keep (g_full : Int32) (g_open : Nat → Int32) (x1 : Int32) (Q : (Nat → Int32) → Prop) : Prop :=
  ∃ N : Nat, q_X1_keep_L2 x1 g_full Q N 0 g_open
set_option maxRecDepth 100000 in
set_option maxHeartbeats 4000000 in
theorem c_X1_keep (l : Launch) (dC : Nat → ClassId) (dI : Nat → Nat → Nat) (cI cZ : ClassId) (a_this a_open : Nat) (z_ways z_columns : Value) (g_full : Int32) (g_open : Nat → Int32) (x1 : Int32) (Q : (Nat → Int32) → Prop) (h : q_X1_keep g_full g_open x1 Q) : MV l yX1_keep wsX1_keep rX1_keep (dC, dI) [(cI, .int), (cZ, .boolean)] [.ref a_this, .int x1] [(a_this, .inr (1, [.ref a_open, z_ways, z_columns, .int g_full])), (a_open, .inl (cI, 256, .inl g_open))] (fun u : (Nat → Int32) => Q u) (fun u : (Nat → Int32) => [(a_this, .inr (1, [.ref a_open, z_ways, z_columns, .int g_full])), (a_open, .inl (cI, 256, .inl u))]) := by
  refine MV.of (cc := cX1_keep) (maxL := 5) (by decide +kernel) rfl (Nat.le_of_ble_eq_true rfl) ?_
  intro p e s m args below meth c A QQ ls hx hb hml hown hts hA hK hP hD hS hNW ret hl
  have hl : lv_has ls 5 [(0, .ref a_this), (1, .int x1)] := hl
  have hown : s.vm.findClass RX1 = some m.cls := hown
  have in1 : ∀ w ∈ u_ws RX1 TX1 4, w ∈ wsX1_keep := fun _ w9 => List.mem_cons_of_mem _ (List.mem_append_right _ w9)
  have f9 := hts (.fieldLink RX1 9 "OnesDesk$Rows" "open" "[I") (by decide +kernel)
  have f22 := hts (.fieldLink RX1 22 "OnesDesk$Rows" "full" "I") (by decide +kernel)
  refine lv_iconst (v := 0) hx hb dX1_keep_0 (by decide) ?_
  refine lv_istore_n (lv' := [(2, .int 0), (0, .ref a_this), (1, .int x1)]) hx hb dX1_keep_1 rfl hl (by decide) rfl (fun ls hl => ?_)
  have L2 : ∀ (n2 : Nat), ∀ (x2 : Int32) (g_open : Nat → Int32), q_X1_keep_L2 x1 g_full Q n2 x2 g_open → ∀ (H : Heap) (locs : List Loc) (ls : Array Slot), va_P (dC, dI) vwCl [(a_this, .inr (1, [.ref a_open, z_ways, z_columns, .int g_full])), (a_open, .inl (cI, 256, .inl g_open))] H → va_D A [(a_this, .inr (1, [.ref a_open, z_ways, z_columns, .int g_full])), (a_open, .inl (cI, 256, .inl g_open))] → va_S A s.heap H locs → lv_has ls 5 [(0, .ref a_this), (1, .int x1), (2, .int x2)] → W p l e rX1_keep s m args below meth c H locs 0 0 QQ (F0 m 2 ls []) := by
    intro n2
    induction n2 with
    | zero => intro x2 g_open h; exact False.elim h
    | succ n2 ih2 =>
      intro x2 g_open h H locs ls hP hD hS hl
      refine lv_iload_n hx hb dX1_keep_2 rfl (lv_at hl 2 rfl) ?_
      refine lv_aload_n hx hb dX1_keep_3 rfl (lv_at hl 0 rfl) ?_
      refine va_get (D := (dC, dI)) (ci := 1) (v := .int g_full) (C := RX1) (T := TX1) (N := 4) hx hb hts in1 hown hK hP 0 rfl rfl 3 (by decide) f22 (fun _ h9 => h9) rfl dX1_keep_4 ?_
      refine lv_icmp_gt (tgt := 62) hx hb dX1_keep_7 (by decide) (fun k1 => ?_) (fun k1 => ?_)
      · have h := h.1 k1
        exact ret _ _ _ _ g_open dX1_keep_62 h (reP hP [0, 1] rfl) (hD.sub [0, 1] (by decide) rfl) hS
      · have h := h.2 k1
        refine lv_iload_n hx hb dX1_keep_10 rfl (lv_at hl 1 rfl) ?_
        refine lv_iload_n hx hb dX1_keep_11 rfl (lv_at hl 2 rfl) ?_
        refine lv_iand hx hb dX1_keep_12 ?_
        have K2 : ∀ t4 : Int32, t4 = (if (x1 &&& x2) = 0 then 0 else 1) → W p l e rX1_keep s m args below meth c H locs 0 0 QQ (F0 m 21 ls [.int t4]) := by
          intro t4 et4
          have h := h t4 et4
          refine lv_istore_n (lv' := [(3, .int t4), (0, .ref a_this), (1, .int x1), (2, .int x2)]) hx hb dX1_keep_21 rfl hl (by decide) rfl (fun ls hl => ?_)
          refine lv_iload_n hx hb dX1_keep_22 rfl (lv_at hl 2 rfl) ?_
          refine lv_iload_n hx hb dX1_keep_23 rfl (lv_at hl 3 rfl) ?_
          refine lv_iconst (v := (-1)) hx hb dX1_keep_24 (by decide) ?_
          refine lv_ixor hx hb dX1_keep_25 ?_
          refine lv_iand hx hb dX1_keep_26 ?_
          have K5 : ∀ t7 : Int32, t7 = (if (x1 &&& (x2 ^^^ (-1))) = 0 then 0 else 1) → W p l e rX1_keep s m args below meth c H locs 0 0 QQ (F0 m 35 ls [.int t7]) := by
            intro t7 et7
            have h := h t7 et7
            refine lv_istore (lv' := [(4, .int t7), (3, .int t4), (0, .ref a_this), (1, .int x1), (2, .int x2)]) hx hb dX1_keep_35 hl (by decide) rfl (fun ls hl => ?_)
            refine lv_iload_n hx hb dX1_keep_37 rfl (lv_at hl 1 rfl) ?_
            refine lv_if_eq (tgt := 56) hx hb dX1_keep_38 (by decide) (fun k8 => ?_) (fun k8 => ?_)
            · have h := h.1 k8
              refine lv_iinc (v := x2 + 1) (lv' := [(2, .int (x2 + 1)), (4, .int t7), (3, .int t4), (0, .ref a_this), (1, .int x1)]) hx hb dX1_keep_56 hl (k := 4) rfl rfl (by decide) rfl (fun ls hl => ?_)
              refine lv_goto (tgt := 2) hx hb dX1_keep_59 (by decide) ?_
              exact ih2 (x2 + 1) g_open h _ _ _ (reP hP [0, 1] rfl) (hD.sub [0, 1] (by decide) rfl) hS (lv_sub hl [3, 4, 0] rfl)
            · have h := h.2 k8
              refine lv_iload hx hb dX1_keep_41 (lv_at hl 0 rfl) ?_
              refine lv_if_eq (tgt := 56) hx hb dX1_keep_43 (by decide) (fun k9 => ?_) (fun k9 => ?_)
              · have h := h.1 k9
                refine lv_iinc (v := x2 + 1) (lv' := [(2, .int (x2 + 1)), (4, .int t7), (3, .int t4), (0, .ref a_this), (1, .int x1)]) hx hb dX1_keep_56 hl (k := 4) rfl rfl (by decide) rfl (fun ls hl => ?_)
                refine lv_goto (tgt := 2) hx hb dX1_keep_59 (by decide) ?_
                exact ih2 (x2 + 1) g_open h _ _ _ (reP hP [0, 1] rfl) (hD.sub [0, 1] (by decide) rfl) hS (lv_sub hl [3, 4, 0] rfl)
              · have h := h.2 k9
                refine lv_aload_n hx hb dX1_keep_46 rfl (lv_at hl 2 rfl) ?_
                refine va_get (D := (dC, dI)) (ci := 1) (v := .ref a_open) (C := RX1) (T := TX1) (N := 4) hx hb hts in1 hown hK hP 0 rfl rfl 0 (by decide) f9 (fun _ h9 => h9) rfl dX1_keep_47 ?_
                refine lv_iload_n hx hb dX1_keep_50 rfl (lv_at hl 4 rfl) ?_
                refine lv_dup2_11 hx hb dX1_keep_51 rfl rfl ?_
                obtain ⟨hi10, h⟩ := h
                refine va_iald (D := (dC, dI)) hx hb hK hP 1 0 rfl rfl hi10 dX1_keep_52 ?_
                refine lv_iload_n hx hb dX1_keep_53 rfl (lv_at hl 3 rfl) ?_
                refine lv_iand hx hb dX1_keep_54 ?_
                refine va_iast (D := (dC, dI)) hx hb hK hP hD hS 1 0 rfl rfl hi10 dX1_keep_55 (fun H locs hP hD hS => ?_)
                have hP : va_P (dC, dI) vwCl [(a_this, .inr (1, [.ref a_open, z_ways, z_columns, .int g_full])), (a_open, .inl (cI, 256, .inl (upd g_open (Int32.toNatClampNeg x2) ((g_open (Int32.toNatClampNeg x2)) &&& x1))))] H := hP
                have hD : va_D A [(a_this, .inr (1, [.ref a_open, z_ways, z_columns, .int g_full])), (a_open, .inl (cI, 256, .inl (upd g_open (Int32.toNatClampNeg x2) ((g_open (Int32.toNatClampNeg x2)) &&& x1))))] := hD
                refine lv_iinc (v := x2 + 1) (lv' := [(2, .int (x2 + 1)), (4, .int t7), (3, .int t4), (0, .ref a_this), (1, .int x1)]) hx hb dX1_keep_56 hl (k := 4) rfl rfl (by decide) rfl (fun ls hl => ?_)
                refine lv_goto (tgt := 2) hx hb dX1_keep_59 (by decide) ?_
                exact ih2 (x2 + 1) (upd g_open (Int32.toNatClampNeg x2) ((g_open (Int32.toNatClampNeg x2)) &&& x1)) h _ _ _ (reP hP [0, 1] rfl) (hD.sub [0, 1] (by decide) rfl) hS (lv_sub hl [3, 4, 0] rfl)
          refine lv_if_eq (tgt := 34) hx hb dX1_keep_27 (by decide) (fun k6 => ?_) (fun k6 => ?_)
          · refine lv_iconst (v := 0) hx hb dX1_keep_34 (by decide) ?_
            exact K5 _ (by rw [if_pos k6])
          · refine lv_iconst (v := 1) hx hb dX1_keep_30 (by decide) ?_
            refine lv_goto (tgt := 35) hx hb dX1_keep_31 (by decide) ?_
            exact K5 _ (by rw [if_neg k6])
        refine lv_if_eq (tgt := 20) hx hb dX1_keep_13 (by decide) (fun k3 => ?_) (fun k3 => ?_)
        · refine lv_iconst (v := 0) hx hb dX1_keep_20 (by decide) ?_
          exact K2 _ (by rw [if_pos k3])
        · refine lv_iconst (v := 1) hx hb dX1_keep_16 (by decide) ?_
          refine lv_goto (tgt := 21) hx hb dX1_keep_17 (by decide) ?_
          exact K2 _ (by rw [if_neg k3])
  obtain ⟨n, h⟩ := h
  exact L2 n 0 g_open h _ _ _ (reP hP [0, 1] rfl) (hD.sub [0, 1] (by decide) rfl) hS (lv_sub hl [1, 2, 0] rfl)
/-! ### X1_putBetween putBetween(III)V -/
def rX1_putBetween : Room := { frames := 0, cells := 0, slots := 0, locals := 0 }
def q_X1_putBetween_L3 (x1 : Int32) (x2 : Int32) (x3 : Int32) (g_full : Int32) (Q : (Nat → Int32) → Prop) : Nat → Int32 → (Nat → Int32) → Prop
  | 0 => fun _ _ => False
  | n + 1 => fun x4 g_open => (g_full < x4 → Q g_open) ∧ (¬ g_full < x4 → (¬ ((x4 >>> (x1 &&& 31)) &&& 1) = ((x4 >>> (x3 &&& 31)) &&& 1) → (q_X1_putBetween_L3 x1 x2 x3 g_full Q n) (x4 + 1) g_open) ∧ (((x4 >>> (x1 &&& 31)) &&& 1) = ((x4 >>> (x3 &&& 31)) &&& 1) → vp_in x4 256 ∧ (q_X1_putBetween_L3 x1 x2 x3 g_full Q n) (x4 + 1) (upd g_open (Int32.toNatClampNeg x4) ((g_open (Int32.toNatClampNeg x4)) &&& ((1 <<< (x2 &&& 31)) ^^^ (-1))))))
def q_X1_putBetween (g_full : Int32) (g_open : Nat → Int32) (x1 : Int32) (x2 : Int32) (x3 : Int32) (Q : (Nat → Int32) → Prop) : Prop :=
  ∃ N : Nat, q_X1_putBetween_L3 x1 x2 x3 g_full Q N 0 g_open
set_option maxRecDepth 100000 in
set_option maxHeartbeats 4000000 in
theorem c_X1_putBetween (l : Launch) (dC : Nat → ClassId) (dI : Nat → Nat → Nat) (cI cZ : ClassId) (a_this a_open : Nat) (z_ways z_columns : Value) (g_full : Int32) (g_open : Nat → Int32) (x1 : Int32) (x2 : Int32) (x3 : Int32) (Q : (Nat → Int32) → Prop) (h : q_X1_putBetween g_full g_open x1 x2 x3 Q) : MV l yX1_putBetween wsX1_putBetween rX1_putBetween (dC, dI) [(cI, .int), (cZ, .boolean)] [.ref a_this, .int x1, .int x2, .int x3] [(a_this, .inr (1, [.ref a_open, z_ways, z_columns, .int g_full])), (a_open, .inl (cI, 256, .inl g_open))] (fun u : (Nat → Int32) => Q u) (fun u : (Nat → Int32) => [(a_this, .inr (1, [.ref a_open, z_ways, z_columns, .int g_full])), (a_open, .inl (cI, 256, .inl u))]) := by
  refine MV.of (cc := cX1_putBetween) (maxL := 5) (by decide +kernel) rfl (Nat.le_of_ble_eq_true rfl) ?_
  intro p e s m args below meth c A QQ ls hx hb hml hown hts hA hK hP hD hS hNW ret hl
  have hl : lv_has ls 5 [(0, .ref a_this), (1, .int x1), (2, .int x2), (3, .int x3)] := hl
  have hown : s.vm.findClass RX1 = some m.cls := hown
  have in1 : ∀ w ∈ u_ws RX1 TX1 4, w ∈ wsX1_putBetween := fun _ w9 => List.mem_cons_of_mem _ (List.mem_append_right _ w9)
  have f9 := hts (.fieldLink RX1 9 "OnesDesk$Rows" "open" "[I") (by decide +kernel)
  have f22 := hts (.fieldLink RX1 22 "OnesDesk$Rows" "full" "I") (by decide +kernel)
  refine lv_iconst (v := 0) hx hb dX1_putBetween_0 (by decide) ?_
  refine lv_istore (lv' := [(4, .int 0), (0, .ref a_this), (1, .int x1), (2, .int x2), (3, .int x3)]) hx hb dX1_putBetween_1 hl (by decide) rfl (fun ls hl => ?_)
  have L3 : ∀ (n3 : Nat), ∀ (x4 : Int32) (g_open : Nat → Int32), q_X1_putBetween_L3 x1 x2 x3 g_full Q n3 x4 g_open → ∀ (H : Heap) (locs : List Loc) (ls : Array Slot), va_P (dC, dI) vwCl [(a_this, .inr (1, [.ref a_open, z_ways, z_columns, .int g_full])), (a_open, .inl (cI, 256, .inl g_open))] H → va_D A [(a_this, .inr (1, [.ref a_open, z_ways, z_columns, .int g_full])), (a_open, .inl (cI, 256, .inl g_open))] → va_S A s.heap H locs → lv_has ls 5 [(0, .ref a_this), (1, .int x1), (2, .int x2), (3, .int x3), (4, .int x4)] → W p l e rX1_putBetween s m args below meth c H locs 0 0 QQ (F0 m 3 ls []) := by
    intro n3
    induction n3 with
    | zero => intro x4 g_open h; exact False.elim h
    | succ n3 ih3 =>
      intro x4 g_open h H locs ls hP hD hS hl
      refine lv_iload hx hb dX1_putBetween_3 (lv_at hl 4 rfl) ?_
      refine lv_aload_n hx hb dX1_putBetween_5 rfl (lv_at hl 0 rfl) ?_
      refine va_get (D := (dC, dI)) (ci := 1) (v := .int g_full) (C := RX1) (T := TX1) (N := 4) hx hb hts in1 hown hK hP 0 rfl rfl 3 (by decide) f22 (fun _ h9 => h9) rfl dX1_putBetween_6 ?_
      refine lv_icmp_gt (tgt := 48) hx hb dX1_putBetween_9 (by decide) (fun k1 => ?_) (fun k1 => ?_)
      · have h := h.1 k1
        exact ret _ _ _ _ g_open dX1_putBetween_48 h (reP hP [0, 1] rfl) (hD.sub [0, 1] (by decide) rfl) hS
      · have h := h.2 k1
        refine lv_iload hx hb dX1_putBetween_12 (lv_at hl 4 rfl) ?_
        refine lv_iload_n hx hb dX1_putBetween_14 rfl (lv_at hl 1 rfl) ?_
        refine lv_ishr hx hb dX1_putBetween_15 ?_
        refine lv_iconst (v := 1) hx hb dX1_putBetween_16 (by decide) ?_
        refine lv_iand hx hb dX1_putBetween_17 ?_
        refine lv_iload hx hb dX1_putBetween_18 (lv_at hl 4 rfl) ?_
        refine lv_iload_n hx hb dX1_putBetween_20 rfl (lv_at hl 3 rfl) ?_
        refine lv_ishr hx hb dX1_putBetween_21 ?_
        refine lv_iconst (v := 1) hx hb dX1_putBetween_22 (by decide) ?_
        refine lv_iand hx hb dX1_putBetween_23 ?_
        refine lv_icmp_ne (tgt := 42) hx hb dX1_putBetween_24 (by decide) (fun k2 => ?_) (fun k2 => ?_)
        · have h := h.1 k2
          refine lv_iinc (v := x4 + 1) (lv' := [(4, .int (x4 + 1)), (0, .ref a_this), (1, .int x1), (2, .int x2), (3, .int x3)]) hx hb dX1_putBetween_42 hl (k := 4) rfl rfl (by decide) rfl (fun ls hl => ?_)
          refine lv_goto (tgt := 3) hx hb dX1_putBetween_45 (by decide) ?_
          exact ih3 (x4 + 1) g_open h _ _ _ (reP hP [0, 1] rfl) (hD.sub [0, 1] (by decide) rfl) hS (lv_sub hl [1, 2, 3, 4, 0] rfl)
        · have h := h.2 k2
          refine lv_aload_n hx hb dX1_putBetween_27 rfl (lv_at hl 0 rfl) ?_
          refine va_get (D := (dC, dI)) (ci := 1) (v := .ref a_open) (C := RX1) (T := TX1) (N := 4) hx hb hts in1 hown hK hP 0 rfl rfl 0 (by decide) f9 (fun _ h9 => h9) rfl dX1_putBetween_28 ?_
          refine lv_iload hx hb dX1_putBetween_31 (lv_at hl 4 rfl) ?_
          refine lv_dup2_11 hx hb dX1_putBetween_33 rfl rfl ?_
          obtain ⟨hi3, h⟩ := h
          refine va_iald (D := (dC, dI)) hx hb hK hP 1 0 rfl rfl hi3 dX1_putBetween_34 ?_
          refine lv_iconst (v := 1) hx hb dX1_putBetween_35 (by decide) ?_
          refine lv_iload_n hx hb dX1_putBetween_36 rfl (lv_at hl 2 rfl) ?_
          refine lv_ishl hx hb dX1_putBetween_37 ?_
          refine lv_iconst (v := (-1)) hx hb dX1_putBetween_38 (by decide) ?_
          refine lv_ixor hx hb dX1_putBetween_39 ?_
          refine lv_iand hx hb dX1_putBetween_40 ?_
          refine va_iast (D := (dC, dI)) hx hb hK hP hD hS 1 0 rfl rfl hi3 dX1_putBetween_41 (fun H locs hP hD hS => ?_)
          have hP : va_P (dC, dI) vwCl [(a_this, .inr (1, [.ref a_open, z_ways, z_columns, .int g_full])), (a_open, .inl (cI, 256, .inl (upd g_open (Int32.toNatClampNeg x4) ((g_open (Int32.toNatClampNeg x4)) &&& ((1 <<< (x2 &&& 31)) ^^^ (-1))))))] H := hP
          have hD : va_D A [(a_this, .inr (1, [.ref a_open, z_ways, z_columns, .int g_full])), (a_open, .inl (cI, 256, .inl (upd g_open (Int32.toNatClampNeg x4) ((g_open (Int32.toNatClampNeg x4)) &&& ((1 <<< (x2 &&& 31)) ^^^ (-1))))))] := hD
          refine lv_iinc (v := x4 + 1) (lv' := [(4, .int (x4 + 1)), (0, .ref a_this), (1, .int x1), (2, .int x2), (3, .int x3)]) hx hb dX1_putBetween_42 hl (k := 4) rfl rfl (by decide) rfl (fun ls hl => ?_)
          refine lv_goto (tgt := 3) hx hb dX1_putBetween_45 (by decide) ?_
          exact ih3 (x4 + 1) (upd g_open (Int32.toNatClampNeg x4) ((g_open (Int32.toNatClampNeg x4)) &&& ((1 <<< (x2 &&& 31)) ^^^ (-1)))) h _ _ _ (reP hP [0, 1] rfl) (hD.sub [0, 1] (by decide) rfl) hS (lv_sub hl [1, 2, 3, 4, 0] rfl)
  obtain ⟨n, h⟩ := h
  exact L3 n 0 g_open h _ _ _ (reP hP [0, 1] rfl) (hD.sub [0, 1] (by decide) rfl) hS (lv_sub hl [1, 2, 3, 4, 0] rfl)
/-! ### X1_putAtEnds putAtEnds(I)V -/
def rX1_putAtEnds : Room := { frames := 0, cells := 0, slots := 0, locals := 0 }
def q_X1_putAtEnds_L13 (x1 : Int32) (x2 : Int32) (g_full : Int32) (Q : (Nat → Int32) → Prop) : Nat → Int32 → (Nat → Int32) → Prop
  | 0 => fun _ _ => False
  | n + 1 => fun x3 g_open => (g_full < x3 → Q g_open) ∧ (¬ g_full < x3 → (x3 = x2 → (q_X1_putAtEnds_L13 x1 x2 g_full Q n) (x3 + 1) g_open) ∧ (¬ x3 = x2 → vp_in x3 256 ∧ (q_X1_putAtEnds_L13 x1 x2 g_full Q n) (x3 + 1) (upd g_open (Int32.toNatClampNeg x3) ((g_open (Int32.toNatClampNeg x3)) &&& ((1 <<< (x1 &&& 31)) ^^^ (-1))))))
def q_X1_putAtEnds (g_full : Int32) (g_open : Nat → Int32) (x1 : Int32) (Q : (Nat → Int32) → Prop) : Prop :=
  ∀ x2 : Int32, x2 = (g_full &&& ((1 <<< (x1 &&& 31)) ^^^ (-1))) → ∃ N : Nat, q_X1_putAtEnds_L13 x1 x2 g_full Q N 1 g_open
set_option maxRecDepth 100000 in
set_option maxHeartbeats 4000000 in
theorem c_X1_putAtEnds (l : Launch) (dC : Nat → ClassId) (dI : Nat → Nat → Nat) (cI cZ : ClassId) (a_this a_open : Nat) (z_ways z_columns : Value) (g_full : Int32) (g_open : Nat → Int32) (x1 : Int32) (Q : (Nat → Int32) → Prop) (h : q_X1_putAtEnds g_full g_open x1 Q) : MV l yX1_putAtEnds wsX1_putAtEnds rX1_putAtEnds (dC, dI) [(cI, .int), (cZ, .boolean)] [.ref a_this, .int x1] [(a_this, .inr (1, [.ref a_open, z_ways, z_columns, .int g_full])), (a_open, .inl (cI, 256, .inl g_open))] (fun u : (Nat → Int32) => Q u) (fun u : (Nat → Int32) => [(a_this, .inr (1, [.ref a_open, z_ways, z_columns, .int g_full])), (a_open, .inl (cI, 256, .inl u))]) := by
  refine MV.of (cc := cX1_putAtEnds) (maxL := 4) (by decide +kernel) rfl (Nat.le_of_ble_eq_true rfl) ?_
  intro p e s m args below meth c A QQ ls hx hb hml hown hts hA hK hP hD hS hNW ret hl
  have hl : lv_has ls 4 [(0, .ref a_this), (1, .int x1)] := hl
  have hown : s.vm.findClass RX1 = some m.cls := hown
  have in1 : ∀ w ∈ u_ws RX1 TX1 4, w ∈ wsX1_putAtEnds := fun _ w9 => List.mem_cons_of_mem _ (List.mem_append_right _ w9)
  have f9 := hts (.fieldLink RX1 9 "OnesDesk$Rows" "open" "[I") (by decide +kernel)
  have f22 := hts (.fieldLink RX1 22 "OnesDesk$Rows" "full" "I") (by decide +kernel)
  refine lv_aload_n hx hb dX1_putAtEnds_0 rfl (lv_at hl 0 rfl) ?_
  refine va_get (D := (dC, dI)) (ci := 1) (v := .int g_full) (C := RX1) (T := TX1) (N := 4) hx hb hts in1 hown hK hP 0 rfl rfl 3 (by decide) f22 (fun _ h9 => h9) rfl dX1_putAtEnds_1 ?_
  refine lv_iconst (v := 1) hx hb dX1_putAtEnds_4 (by decide) ?_
  refine lv_iload_n hx hb dX1_putAtEnds_5 rfl (lv_at hl 1 rfl) ?_
  refine lv_ishl hx hb dX1_putAtEnds_6 ?_
  refine lv_iconst (v := (-1)) hx hb dX1_putAtEnds_7 (by decide) ?_
  refine lv_ixor hx hb dX1_putAtEnds_8 ?_
  refine lv_iand hx hb dX1_putAtEnds_9 ?_
  refine lv_topi (fun x2 ex2 => ?_)
  have h := h x2 ex2
  refine lv_istore_n (lv' := [(2, .int x2), (0, .ref a_this), (1, .int x1)]) hx hb dX1_putAtEnds_10 rfl hl (by decide) rfl (fun ls hl => ?_)
  refine lv_iconst (v := 1) hx hb dX1_putAtEnds_11 (by decide) ?_
  refine lv_istore_n (lv' := [(3, .int 1), (2, .int x2), (0, .ref a_this), (1, .int x1)]) hx hb dX1_putAtEnds_12 rfl hl (by decide) rfl (fun ls hl => ?_)
  have L13 : ∀ (n13 : Nat), ∀ (x3 : Int32) (g_open : Nat → Int32), q_X1_putAtEnds_L13 x1 x2 g_full Q n13 x3 g_open → ∀ (H : Heap) (locs : List Loc) (ls : Array Slot), va_P (dC, dI) vwCl [(a_this, .inr (1, [.ref a_open, z_ways, z_columns, .int g_full])), (a_open, .inl (cI, 256, .inl g_open))] H → va_D A [(a_this, .inr (1, [.ref a_open, z_ways, z_columns, .int g_full])), (a_open, .inl (cI, 256, .inl g_open))] → va_S A s.heap H locs → lv_has ls 4 [(0, .ref a_this), (1, .int x1), (2, .int x2), (3, .int x3)] → W p l e rX1_putAtEnds s m args below meth c H locs 0 0 QQ (F0 m 13 ls []) := by
    intro n13
    induction n13 with
    | zero => intro x3 g_open h; exact False.elim h
    | succ n13 ih13 =>
      intro x3 g_open h H locs ls hP hD hS hl
      refine lv_iload_n hx hb dX1_putAtEnds_13 rfl (lv_at hl 3 rfl) ?_
      refine lv_aload_n hx hb dX1_putAtEnds_14 rfl (lv_at hl 0 rfl) ?_
      refine va_get (D := (dC, dI)) (ci := 1) (v := .int g_full) (C := RX1) (T := TX1) (N := 4) hx hb hts in1 hown hK hP 0 rfl rfl 3 (by decide) f22 (fun _ h9 => h9) rfl dX1_putAtEnds_15 ?_
      refine lv_icmp_gt (tgt := 46) hx hb dX1_putAtEnds_18 (by decide) (fun k1 => ?_) (fun k1 => ?_)
      · have h := h.1 k1
        exact ret _ _ _ _ g_open dX1_putAtEnds_46 h (reP hP [0, 1] rfl) (hD.sub [0, 1] (by decide) rfl) hS
      · have h := h.2 k1
        refine lv_iload_n hx hb dX1_putAtEnds_21 rfl (lv_at hl 3 rfl) ?_
        refine lv_iload_n hx hb dX1_putAtEnds_22 rfl (lv_at hl 2 rfl) ?_
        refine lv_icmp_eq (tgt := 40) hx hb dX1_putAtEnds_23 (by decide) (fun k2 => ?_) (fun k2 => ?_)
        · have h := h.1 k2
          refine lv_iinc (v := x3 + 1) (lv' := [(3, .int (x3 + 1)), (0, .ref a_this), (1, .int x1), (2, .int x2)]) hx hb dX1_putAtEnds_40 hl (k := 3) rfl rfl (by decide) rfl (fun ls hl => ?_)
          refine lv_goto (tgt := 13) hx hb dX1_putAtEnds_43 (by decide) ?_
          exact ih13 (x3 + 1) g_open h _ _ _ (reP hP [0, 1] rfl) (hD.sub [0, 1] (by decide) rfl) hS (lv_sub hl [1, 2, 3, 0] rfl)
        · have h := h.2 k2
          refine lv_aload_n hx hb dX1_putAtEnds_26 rfl (lv_at hl 0 rfl) ?_
          refine va_get (D := (dC, dI)) (ci := 1) (v := .ref a_open) (C := RX1) (T := TX1) (N := 4) hx hb hts in1 hown hK hP 0 rfl rfl 0 (by decide) f9 (fun _ h9 => h9) rfl dX1_putAtEnds_27 ?_
          refine lv_iload_n hx hb dX1_putAtEnds_30 rfl (lv_at hl 3 rfl) ?_
          refine lv_dup2_11 hx hb dX1_putAtEnds_31 rfl rfl ?_
          obtain ⟨hi3, h⟩ := h
          refine va_iald (D := (dC, dI)) hx hb hK hP 1 0 rfl rfl hi3 dX1_putAtEnds_32 ?_
          refine lv_iconst (v := 1) hx hb dX1_putAtEnds_33 (by decide) ?_
          refine lv_iload_n hx hb dX1_putAtEnds_34 rfl (lv_at hl 1 rfl) ?_
          refine lv_ishl hx hb dX1_putAtEnds_35 ?_
          refine lv_iconst (v := (-1)) hx hb dX1_putAtEnds_36 (by decide) ?_
          refine lv_ixor hx hb dX1_putAtEnds_37 ?_
          refine lv_iand hx hb dX1_putAtEnds_38 ?_
          refine va_iast (D := (dC, dI)) hx hb hK hP hD hS 1 0 rfl rfl hi3 dX1_putAtEnds_39 (fun H locs hP hD hS => ?_)
          have hP : va_P (dC, dI) vwCl [(a_this, .inr (1, [.ref a_open, z_ways, z_columns, .int g_full])), (a_open, .inl (cI, 256, .inl (upd g_open (Int32.toNatClampNeg x3) ((g_open (Int32.toNatClampNeg x3)) &&& ((1 <<< (x1 &&& 31)) ^^^ (-1))))))] H := hP
          have hD : va_D A [(a_this, .inr (1, [.ref a_open, z_ways, z_columns, .int g_full])), (a_open, .inl (cI, 256, .inl (upd g_open (Int32.toNatClampNeg x3) ((g_open (Int32.toNatClampNeg x3)) &&& ((1 <<< (x1 &&& 31)) ^^^ (-1))))))] := hD
          refine lv_iinc (v := x3 + 1) (lv' := [(3, .int (x3 + 1)), (0, .ref a_this), (1, .int x1), (2, .int x2)]) hx hb dX1_putAtEnds_40 hl (k := 3) rfl rfl (by decide) rfl (fun ls hl => ?_)
          refine lv_goto (tgt := 13) hx hb dX1_putAtEnds_43 (by decide) ?_
          exact ih13 (x3 + 1) (upd g_open (Int32.toNatClampNeg x3) ((g_open (Int32.toNatClampNeg x3)) &&& ((1 <<< (x1 &&& 31)) ^^^ (-1)))) h _ _ _ (reP hP [0, 1] rfl) (hD.sub [0, 1] (by decide) rfl) hS (lv_sub hl [1, 2, 3, 0] rfl)
  obtain ⟨n, h⟩ := h
  exact L13 n 1 g_open h _ _ _ (reP hP [0, 1] rfl) (hD.sub [0, 1] (by decide) rfl) hS (lv_sub hl [2, 3, 1, 0] rfl)
/-! ### X1_mayFollow mayFollow(II)Z -/
def rX1_mayFollow : Room := { frames := 0, cells := 0, slots := 0, locals := 0 }
def q_X1_mayFollow (g_open : Nat → Int32) (x1 : Int32) (x2 : Int32) (Q : Bool → Prop) : Prop :=
  vp_in x1 256 ∧ (¬ (((g_open (Int32.toNatClampNeg x1)) >>> (x2 &&& 31)) &&& 1) = 1 → Q false) ∧ ((((g_open (Int32.toNatClampNeg x1)) >>> (x2 &&& 31)) &&& 1) = 1 → Q true)
set_option maxRecDepth 100000 in
set_option maxHeartbeats 4000000 in
theorem c_X1_mayFollow (l : Launch) (dC : Nat → ClassId) (dI : Nat → Nat → Nat) (cI cZ : ClassId) (a_this a_open : Nat) (z_ways z_columns z_full : Value) (g_open : Nat → Int32) (x1 : Int32) (x2 : Int32) (Q : Bool → Prop) (h : q_X1_mayFollow g_open x1 x2 Q) : MB l yX1_mayFollow wsX1_mayFollow rX1_mayFollow (dC, dI) [(cI, .int), (cZ, .boolean)] [.ref a_this, .int x1, .int x2] [(a_this, .inr (1, [.ref a_open, z_ways, z_columns, z_full])), (a_open, .inl (cI, 256, .inl g_open))] (fun (r : Bool) (u : Unit) => Q r) (fun u : Unit => [(a_this, .inr (1, [.ref a_open, z_ways, z_columns, z_full])), (a_open, .inl (cI, 256, .inl g_open))]) := by
  refine MB.of (cc := cX1_mayFollow) (maxL := 3) (by decide +kernel) rfl (Nat.le_of_ble_eq_true rfl) ?_
  intro p e s m args below meth c A QQ ls hx hb hml hown hts hA hK hP hD hS hNW ret hl
  have hl : lv_has ls 3 [(0, .ref a_this), (1, .int x1), (2, .int x2)] := hl
  have hown : s.vm.findClass RX1 = some m.cls := hown
  have in1 : ∀ w ∈ u_ws RX1 TX1 4, w ∈ wsX1_mayFollow := fun _ w9 => List.mem_cons_of_mem _ (List.mem_append_right _ w9)
  have f9 := hts (.fieldLink RX1 9 "OnesDesk$Rows" "open" "[I") (by decide +kernel)
  refine lv_aload_n hx hb dX1_mayFollow_0 rfl (lv_at hl 0 rfl) ?_
  refine va_get (D := (dC, dI)) (ci := 1) (v := .ref a_open) (C := RX1) (T := TX1) (N := 4) hx hb hts in1 hown hK hP 0 rfl rfl 0 (by decide) f9 (fun _ h9 => h9) rfl dX1_mayFollow_1 ?_
  refine lv_iload_n hx hb dX1_mayFollow_4 rfl (lv_at hl 1 rfl) ?_
  obtain ⟨hi1, h⟩ := h
  refine va_iald (D := (dC, dI)) hx hb hK hP 1 0 rfl rfl hi1 dX1_mayFollow_5 ?_
  refine lv_iload_n hx hb dX1_mayFollow_6 rfl (lv_at hl 2 rfl) ?_
  refine lv_ishr hx hb dX1_mayFollow_7 ?_
  refine lv_iconst (v := 1) hx hb dX1_mayFollow_8 (by decide) ?_
  refine lv_iand hx hb dX1_mayFollow_9 ?_
  refine lv_iconst (v := 1) hx hb dX1_mayFollow_10 (by decide) ?_
  refine lv_icmp_ne (tgt := 18) hx hb dX1_mayFollow_11 (by decide) (fun k2 => ?_) (fun k2 => ?_)
  · have h := h.1 k2
    refine lv_iconst (v := 0) hx hb dX1_mayFollow_18 (by decide) ?_
    exact ret _ _ _ _ false () dX1_mayFollow_19 h (reP hP [0, 1] rfl) (hD.sub [0, 1] (by decide) rfl) hS
  · have h := h.2 k2
    refine lv_iconst (v := 1) hx hb dX1_mayFollow_14 (by decide) ?_
    refine lv_goto (tgt := 19) hx hb dX1_mayFollow_15 (by decide) ?_
    exact ret _ _ _ _ true () dX1_mayFollow_19 h (reP hP [0, 1] rfl) (hD.sub [0, 1] (by decide) rfl) hS
/-! ### X1_reckon reckon()I -/
def rX1_reckon : Room := { frames := 1, cells := 0, slots := 0, locals := 22 }
def q_X1_reckon_L34 (x1 : Int32) (g_columns : Int32) (g_open : Nat → Int32) (g_ways : Nat → Int32) (k17 : Int32 → (Nat → Int32) → Prop) : Nat → Int32 → Int32 → Prop
  | 0 => fun _ _ => False
  | n + 1 => fun x2 x3 => (g_columns ≤ x3 → vp_in x1 256 ∧ k17 (x1 + (-1)) (upd g_ways (Int32.toNatClampNeg x1) x2)) ∧ (¬ g_columns ≤ x3 → q_X1_mayFollow g_open x1 x3 (fun b4 => (b4 = false → (q_X1_reckon_L34 x1 g_columns g_open g_ways k17 n) x2 (x3 + 1)) ∧ (b4 = true → vp_in (x1 ||| (1 <<< (x3 &&& 31))) 256 ∧ ∀ x2_7 : Int32, x2_7 = (x2 + (g_ways (Int32.toNatClampNeg (x1 ||| (1 <<< (x3 &&& 31)))))) → (q_X1_reckon_L34 x1 g_columns g_open g_ways k17 n) x2_7 (x3 + 1))))
def q_X1_reckon_L17 (g_columns : Int32) (g_open : Nat → Int32) (Q : Int32 → (Nat → Int32) → Prop) : Nat → Int32 → (Nat → Int32) → Prop
  | 0 => fun _ _ => False
  | n + 1 => fun x1 g_ways => (x1 < 0 → Q (g_ways (Int32.toNatClampNeg 0)) g_ways) ∧ (¬ x1 < 0 → vp_in x1 256 ∧ ((g_open (Int32.toNatClampNeg x1)) = 0 → (q_X1_reckon_L17 g_columns g_open Q n) (x1 + (-1)) (upd g_ways (Int32.toNatClampNeg x1) 0)) ∧ (¬ (g_open (Int32.toNatClampNeg x1)) = 0 → ∃ N : Nat, q_X1_reckon_L34 x1 g_columns g_open g_ways (fun y0 y1 => q_X1_reckon_L17 g_columns g_open Q n y0 y1) N 0 0))
def q_X1_reckon (g_columns : Int32) (g_full : Int32) (g_open : Nat → Int32) (g_ways : Nat → Int32) (Q : Int32 → (Nat → Int32) → Prop) : Prop :=
  vp_in g_full 256 ∧ ∀ x1 : Int32, x1 = (g_full - 1) → ∃ N : Nat, q_X1_reckon_L17 g_columns g_open Q N x1 (upd g_ways (Int32.toNatClampNeg g_full) 1)
set_option maxRecDepth 100000 in
set_option maxHeartbeats 4000000 in
theorem c_X1_reckon (l : Launch) (dC : Nat → ClassId) (dI : Nat → Nat → Nat) (cI cZ : ClassId) (a_this a_open a_ways : Nat) (g_columns : Int32) (g_full : Int32) (g_open : Nat → Int32) (g_ways : Nat → Int32) (Q : Int32 → (Nat → Int32) → Prop) (h : q_X1_reckon g_columns g_full g_open g_ways Q) : MI l yX1_reckon wsX1_reckon rX1_reckon (dC, dI) [(cI, .int), (cZ, .boolean)] [.ref a_this] [(a_this, .inr (1, [.ref a_open, .ref a_ways, .int g_columns, .int g_full])), (a_open, .inl (cI, 256, .inl g_open)), (a_ways, .inl (cI, 256, .inl g_ways))] (fun (r : Int32) (u : (Nat → Int32)) => Q r u) (fun u : (Nat → Int32) => [(a_this, .inr (1, [.ref a_open, .ref a_ways, .int g_columns, .int g_full])), (a_open, .inl (cI, 256, .inl g_open)), (a_ways, .inl (cI, 256, .inl u))]) := by
  refine MI.of (cc := cX1_reckon) (maxL := 4) (by decide +kernel) rfl (Nat.le_of_ble_eq_true rfl) ?_
  intro p e s m args below meth c A QQ ls hx hb hml hown hts hA hK hP hD hS hNW ret hl
  have hl : lv_has ls 4 [(0, .ref a_this)] := hl
  have hown : s.vm.findClass RX1 = some m.cls := hown
  have in1 : ∀ w ∈ u_ws RX1 TX1 4, w ∈ wsX1_reckon := fun _ w9 => List.mem_cons_of_mem _ (List.mem_append_right _ w9)
  have f9 := hts (.fieldLink RX1 9 "OnesDesk$Rows" "open" "[I") (by decide +kernel)
  have f15 := hts (.fieldLink RX1 15 "OnesDesk$Rows" "ways" "[I") (by decide +kernel)
  have f18 := hts (.fieldLink RX1 18 "OnesDesk$Rows" "columns" "I") (by decide +kernel)
  have f22 := hts (.fieldLink RX1 22 "OnesDesk$Rows" "full" "I") (by decide +kernel)
  refine lv_aload_n hx hb dX1_reckon_0 rfl (lv_at hl 0 rfl) ?_
  refine va_get (D := (dC, dI)) (ci := 1) (v := .ref a_ways) (C := RX1) (T := TX1) (N := 4) hx hb hts in1 hown hK hP 0 rfl rfl 1 (by decide) f15 (fun _ h9 => h9) rfl dX1_reckon_1 ?_
  refine lv_aload_n hx hb dX1_reckon_4 rfl (lv_at hl 0 rfl) ?_
  refine va_get (D := (dC, dI)) (ci := 1) (v := .int g_full) (C := RX1) (T := TX1) (N := 4) hx hb hts in1 hown hK hP 0 rfl rfl 3 (by decide) f22 (fun _ h9 => h9) rfl dX1_reckon_5 ?_
  refine lv_iconst (v := 1) hx hb dX1_reckon_8 (by decide) ?_
  obtain ⟨hi1, h⟩ := h
  refine va_iast (D := (dC, dI)) hx hb hK hP hD hS 2 0 rfl rfl hi1 dX1_reckon_9 (fun H locs hP hD hS => ?_)
  have hP : va_P (dC, dI) vwCl [(a_this, .inr (1, [.ref a_open, .ref a_ways, .int g_columns, .int g_full])), (a_open, .inl (cI, 256, .inl g_open)), (a_ways, .inl (cI, 256, .inl (upd g_ways (Int32.toNatClampNeg g_full) 1)))] H := hP
  have hD : va_D A [(a_this, .inr (1, [.ref a_open, .ref a_ways, .int g_columns, .int g_full])), (a_open, .inl (cI, 256, .inl g_open)), (a_ways, .inl (cI, 256, .inl (upd g_ways (Int32.toNatClampNeg g_full) 1)))] := hD
  refine lv_aload_n hx hb dX1_reckon_10 rfl (lv_at hl 0 rfl) ?_
  refine va_get (D := (dC, dI)) (ci := 1) (v := .int g_full) (C := RX1) (T := TX1) (N := 4) hx hb hts in1 hown hK hP 0 rfl rfl 3 (by decide) f22 (fun _ h9 => h9) rfl dX1_reckon_11 ?_
  refine lv_iconst (v := 1) hx hb dX1_reckon_14 (by decide) ?_
  refine lv_isub hx hb dX1_reckon_15 ?_
  refine lv_topi (fun x1 ex1 => ?_)
  have h := h x1 ex1
  refine lv_istore_n (lv' := [(1, .int x1), (0, .ref a_this)]) hx hb dX1_reckon_16 rfl hl (by decide) rfl (fun ls hl => ?_)
  have L17 : ∀ (n17 : Nat), ∀ (x1 : Int32) (g_ways : Nat → Int32), q_X1_reckon_L17 g_columns g_open Q n17 x1 g_ways → ∀ (H : Heap) (locs : List Loc) (ls : Array Slot), va_P (dC, dI) vwCl [(a_this, .inr (1, [.ref a_open, .ref a_ways, .int g_columns, .int g_full])), (a_open, .inl (cI, 256, .inl g_open)), (a_ways, .inl (cI, 256, .inl g_ways))] H → va_D A [(a_this, .inr (1, [.ref a_open, .ref a_ways, .int g_columns, .int g_full])), (a_open, .inl (cI, 256, .inl g_open)), (a_ways, .inl (cI, 256, .inl g_ways))] → va_S A s.heap H locs → lv_has ls 4 [(0, .ref a_this), (1, .int x1)] → W p l e rX1_reckon s m args below meth c H locs 0 0 QQ (F0 m 17 ls []) := by
    intro n17
    induction n17 with
    | zero => intro x1 g_ways h; exact False.elim h
    | succ n17 ih17 =>
      intro x1 g_ways h H locs ls hP hD hS hl
      refine lv_iload_n hx hb dX1_reckon_17 rfl (lv_at hl 1 rfl) ?_
      refine lv_if_lt (tgt := 83) hx hb dX1_reckon_18 (by decide) (fun k1 => ?_) (fun k1 => ?_)
      · have h := h.1 k1
        refine lv_aload_n hx hb dX1_reckon_83 rfl (lv_at hl 0 rfl) ?_
        refine va_get (D := (dC, dI)) (ci := 1) (v := .ref a_ways) (C := RX1) (T := TX1) (N := 4) hx hb hts in1 hown hK hP 0 rfl rfl 1 (by decide) f15 (fun _ h9 => h9) rfl dX1_reckon_84 ?_
        refine lv_iconst (v := 0) hx hb dX1_reckon_87 (by decide) ?_
        refine va_iald (D := (dC, dI)) hx hb hK hP 2 0 rfl rfl (show ¬ (_ ∨ _) by decide) dX1_reckon_88 ?_
        exact ret _ _ _ _ (g_ways (Int32.toNatClampNeg 0)) g_ways dX1_reckon_89 h (reP hP [0, 1, 2] rfl) (hD.sub [0, 1, 2] (by decide) rfl) hS
      · have h := h.2 k1
        refine lv_iconst (v := 0) hx hb dX1_reckon_21 (by decide) ?_
        refine lv_istore_n (lv' := [(2, .int 0), (0, .ref a_this), (1, .int x1)]) hx hb dX1_reckon_22 rfl hl (by decide) rfl (fun ls hl => ?_)
        refine lv_aload_n hx hb dX1_reckon_23 rfl (lv_at hl 1 rfl) ?_
        refine va_get (D := (dC, dI)) (ci := 1) (v := .ref a_open) (C := RX1) (T := TX1) (N := 4) hx hb hts in1 hown hK hP 0 rfl rfl 0 (by decide) f9 (fun _ h9 => h9) rfl dX1_reckon_24 ?_
        refine lv_iload_n hx hb dX1_reckon_27 rfl (lv_at hl 2 rfl) ?_
        obtain ⟨hi2, h⟩ := h
        refine va_iald (D := (dC, dI)) hx hb hK hP 1 0 rfl rfl hi2 dX1_reckon_28 ?_
        refine lv_if_eq (tgt := 70) hx hb dX1_reckon_29 (by decide) (fun k3 => ?_) (fun k3 => ?_)
        · have h := h.1 k3
          refine lv_aload_n hx hb dX1_reckon_70 rfl (lv_at hl 1 rfl) ?_
          refine va_get (D := (dC, dI)) (ci := 1) (v := .ref a_ways) (C := RX1) (T := TX1) (N := 4) hx hb hts in1 hown hK hP 0 rfl rfl 1 (by decide) f15 (fun _ h9 => h9) rfl dX1_reckon_71 ?_
          refine lv_iload_n hx hb dX1_reckon_74 rfl (lv_at hl 2 rfl) ?_
          refine lv_iload_n hx hb dX1_reckon_75 rfl (lv_at hl 0 rfl) ?_
          refine va_iast (D := (dC, dI)) hx hb hK hP hD hS 2 0 rfl rfl hi2 dX1_reckon_76 (fun H locs hP hD hS => ?_)
          have hP : va_P (dC, dI) vwCl [(a_this, .inr (1, [.ref a_open, .ref a_ways, .int g_columns, .int g_full])), (a_open, .inl (cI, 256, .inl g_open)), (a_ways, .inl (cI, 256, .inl (upd g_ways (Int32.toNatClampNeg x1) 0)))] H := hP
          have hD : va_D A [(a_this, .inr (1, [.ref a_open, .ref a_ways, .int g_columns, .int g_full])), (a_open, .inl (cI, 256, .inl g_open)), (a_ways, .inl (cI, 256, .inl (upd g_ways (Int32.toNatClampNeg x1) 0)))] := hD
          refine lv_iinc (v := x1 + (-1)) (lv' := [(1, .int (x1 + (-1))), (2, .int 0), (0, .ref a_this)]) hx hb dX1_reckon_77 hl (k := 2) rfl rfl (by decide) rfl (fun ls hl => ?_)
          refine lv_goto (tgt := 17) hx hb dX1_reckon_80 (by decide) ?_
          exact ih17 (x1 + (-1)) (upd g_ways (Int32.toNatClampNeg x1) 0) h _ _ _ (reP hP [0, 1, 2] rfl) (hD.sub [0, 1, 2] (by decide) rfl) hS (lv_sub hl [2, 0] rfl)
        · have h := h.2 k3
          refine lv_iconst (v := 0) hx hb dX1_reckon_32 (by decide) ?_
          refine lv_istore_n (lv' := [(3, .int 0), (2, .int 0), (0, .ref a_this), (1, .int x1)]) hx hb dX1_reckon_33 rfl hl (by decide) rfl (fun ls hl => ?_)
          have L34 : ∀ (n34 : Nat), ∀ (x2 : Int32) (x3 : Int32), q_X1_reckon_L34 x1 g_columns g_open g_ways (q_X1_reckon_L17 g_columns g_open Q n17) n34 x2 x3 → ∀ (H : Heap) (locs : List Loc) (ls : Array Slot), va_P (dC, dI) vwCl [(a_this, .inr (1, [.ref a_open, .ref a_ways, .int g_columns, .int g_full])), (a_open, .inl (cI, 256, .inl g_open)), (a_ways, .inl (cI, 256, .inl g_ways))] H → va_D A [(a_this, .inr (1, [.ref a_open, .ref a_ways, .int g_columns, .int g_full])), (a_open, .inl (cI, 256, .inl g_open)), (a_ways, .inl (cI, 256, .inl g_ways))] → va_S A s.heap H locs → lv_has ls 4 [(0, .ref a_this), (1, .int x1), (2, .int x2), (3, .int x3)] → W p l e rX1_reckon s m args below meth c H locs 0 0 QQ (F0 m 34 ls []) := by
            intro n34
            induction n34 with
            | zero => intro x2 x3 h; exact False.elim h
            | succ n34 ih34 =>
              intro x2 x3 h H locs ls hP hD hS hl
              refine lv_iload_n hx hb dX1_reckon_34 rfl (lv_at hl 3 rfl) ?_
              refine lv_aload_n hx hb dX1_reckon_35 rfl (lv_at hl 0 rfl) ?_
              refine va_get (D := (dC, dI)) (ci := 1) (v := .int g_columns) (C := RX1) (T := TX1) (N := 4) hx hb hts in1 hown hK hP 0 rfl rfl 2 (by decide) f18 (fun _ h9 => h9) rfl dX1_reckon_36 ?_
              refine lv_icmp_ge (tgt := 70) hx hb dX1_reckon_39 (by decide) (fun k1 => ?_) (fun k1 => ?_)
              · have h := h.1 k1
                refine lv_aload_n hx hb dX1_reckon_70 rfl (lv_at hl 0 rfl) ?_
                refine va_get (D := (dC, dI)) (ci := 1) (v := .ref a_ways) (C := RX1) (T := TX1) (N := 4) hx hb hts in1 hown hK hP 0 rfl rfl 1 (by decide) f15 (fun _ h9 => h9) rfl dX1_reckon_71 ?_
                refine lv_iload_n hx hb dX1_reckon_74 rfl (lv_at hl 1 rfl) ?_
                refine lv_iload_n hx hb dX1_reckon_75 rfl (lv_at hl 2 rfl) ?_
                obtain ⟨hi2, h⟩ := h
                refine va_iast (D := (dC, dI)) hx hb hK hP hD hS 2 0 rfl rfl hi2 dX1_reckon_76 (fun H locs hP hD hS => ?_)
                have hP : va_P (dC, dI) vwCl [(a_this, .inr (1, [.ref a_open, .ref a_ways, .int g_columns, .int g_full])), (a_open, .inl (cI, 256, .inl g_open)), (a_ways, .inl (cI, 256, .inl (upd g_ways (Int32.toNatClampNeg x1) x2)))] H := hP
                have hD : va_D A [(a_this, .inr (1, [.ref a_open, .ref a_ways, .int g_columns, .int g_full])), (a_open, .inl (cI, 256, .inl g_open)), (a_ways, .inl (cI, 256, .inl (upd g_ways (Int32.toNatClampNeg x1) x2)))] := hD
                refine lv_iinc (v := x1 + (-1)) (lv' := [(1, .int (x1 + (-1))), (0, .ref a_this), (2, .int x2), (3, .int x3)]) hx hb dX1_reckon_77 hl (k := 1) rfl rfl (by decide) rfl (fun ls hl => ?_)
                refine lv_goto (tgt := 17) hx hb dX1_reckon_80 (by decide) ?_
                exact ih17 (x1 + (-1)) (upd g_ways (Int32.toNatClampNeg x1) x2) h _ _ _ (reP hP [0, 1, 2] rfl) (hD.sub [0, 1, 2] (by decide) rfl) hS (lv_sub hl [1, 0] rfl)
              · have h := h.2 k1
                refine lv_aload_n hx hb dX1_reckon_42 rfl (lv_at hl 0 rfl) ?_
                refine lv_iload_n hx hb dX1_reckon_43 rfl (lv_at hl 1 rfl) ?_
                refine lv_iload_n hx hb dX1_reckon_44 rfl (lv_at hl 3 rfl) ?_
                refine MI.callV (As := [.int x1, .int x3]) (rest := []) (wr := [(a_ways, .inl (cI, 256, .inl g_ways))]) (ci := 1) (q0 := 0) (c_X1_mayFollow l dC dI cI cZ a_this a_open (.ref a_ways) (.int g_columns) (.int g_full) g_open x1 x3 _ h) ⟨hx, hb, hml, hown, hts⟩ (cwV 2 hts gX1_reckon_X1_mayFollow rfl rfl rfl (by decide +kernel) ⟨Nat.le_of_ble_eq_true rfl, Nat.le_of_ble_eq_true rfl⟩) hK hP hD hS hA hNW [0, 1] [2] rfl rfl (by decide) (by decide) (by decide) rfl rfl rfl rfl hl.1 rfl (Nat.le_of_ble_eq_true rfl) dX1_reckon_45 ⟨Nat.zero_le _, Nat.zero_le _⟩ (fun r3 u H locs hw hP hD hS => ?_)
                obtain ⟨b4, rfl, hw⟩ := hw
                have h := hw
                try dsimp only at h
                have hP : va_P (dC, dI) vwCl [(a_ways, .inl (cI, 256, .inl g_ways)), (a_this, .inr (1, [.ref a_open, .ref a_ways, .int g_columns, .int g_full])), (a_open, .inl (cI, 256, .inl g_open))] H := hP
                have hD : va_D A [(a_ways, .inl (cI, 256, .inl g_ways)), (a_this, .inr (1, [.ref a_open, .ref a_ways, .int g_columns, .int g_full])), (a_open, .inl (cI, 256, .inl g_open))] := hD
                refine lv_if_eq (tgt := 64) hx hb dX1_reckon_48 (by decide) (fun k5 => ?_) (fun k5 => ?_)
                · have h := h.1 (bI_0 k5)
                  refine lv_iinc (v := x3 + 1) (lv' := [(3, .int (x3 + 1)), (0, .ref a_this), (1, .int x1), (2, .int x2)]) hx hb dX1_reckon_64 hl (k := 3) rfl rfl (by decide) rfl (fun ls hl => ?_)
                  refine lv_goto (tgt := 34) hx hb dX1_reckon_67 (by decide) ?_
                  exact ih34 x2 (x3 + 1) h _ _ _ (reP hP [1, 2, 0] rfl) (hD.sub [1, 2, 0] (by decide) rfl) hS (lv_sub hl [1, 2, 3, 0] rfl)
                · have h := h.2 (bI_1 k5)
                  refine lv_iload_n hx hb dX1_reckon_51 rfl (lv_at hl 2 rfl) ?_
                  refine lv_aload_n hx hb dX1_reckon_52 rfl (lv_at hl 0 rfl) ?_
                  refine va_get (D := (dC, dI)) (ci := 1) (v := .ref a_ways) (C := RX1) (T := TX1) (N := 4) hx hb hts in1 hown hK hP 1 rfl rfl 1 (by decide) f15 (fun _ h9 => h9) rfl dX1_reckon_53 ?_
                  refine lv_iload_n hx hb dX1_reckon_56 rfl (lv_at hl 1 rfl) ?_
                  refine lv_iconst (v := 1) hx hb dX1_reckon_57 (by decide) ?_
                  refine lv_iload_n hx hb dX1_reckon_58 rfl (lv_at hl 3 rfl) ?_
                  refine lv_ishl hx hb dX1_reckon_59 ?_
                  refine lv_ior hx hb dX1_reckon_60 ?_
                  obtain ⟨hi6, h⟩ := h
                  refine va_iald (D := (dC, dI)) hx hb hK hP 0 0 rfl rfl hi6 dX1_reckon_61 ?_
                  refine lv_iadd hx hb dX1_reckon_62 ?_
                  refine lv_topi (fun x2_7 ex2_7 => ?_)
                  have h := h x2_7 ex2_7
                  refine lv_istore_n (lv' := [(2, .int x2_7), (0, .ref a_this), (1, .int x1), (3, .int x3)]) hx hb dX1_reckon_63 rfl hl (by decide) rfl (fun ls hl => ?_)
                  refine lv_iinc (v := x3 + 1) (lv' := [(3, .int (x3 + 1)), (2, .int x2_7), (0, .ref a_this), (1, .int x1)]) hx hb dX1_reckon_64 hl (k := 3) rfl rfl (by decide) rfl (fun ls hl => ?_)
                  refine lv_goto (tgt := 34) hx hb dX1_reckon_67 (by decide) ?_
                  exact ih34 x2_7 (x3 + 1) h _ _ _ (reP hP [1, 2, 0] rfl) (hD.sub [1, 2, 0] (by decide) rfl) hS (lv_sub hl [2, 3, 1, 0] rfl)
          obtain ⟨n, h⟩ := h
          exact L34 n 0 0 h _ _ _ (reP hP [0, 1, 2] rfl) (hD.sub [0, 1, 2] (by decide) rfl) hS (lv_sub hl [2, 3, 1, 0] rfl)
  obtain ⟨n, h⟩ := h
  exact L17 n x1 (upd g_ways (Int32.toNatClampNeg g_full) 1) h _ _ _ (reP hP [0, 1, 2] rfl) (hD.sub [0, 1, 2] (by decide) rfl) hS (lv_sub hl [1, 0] rfl)
/-! ### X1_isReached isReached(I)Z -/
def rX1_isReached : Room := { frames := 1, cells := 0, slots := 0, locals := 22 }
def q_X1_isReached_J42 (x1 : Int32) (Q : Bool → Prop) : Prop :=
  (¬ x1 = 0 → Q false) ∧ (x1 = 0 → Q true)
def q_X1_isReached_L2 (x1 : Int32) (g_columns : Int32) (g_open : Nat → Int32) (Q : Bool → Prop) : Nat → Int32 → Prop
  | 0 => fun _ => False
  | n + 1 => fun x2 => (g_columns ≤ x2 → q_X1_isReached_J42 x1 Q) ∧ (¬ g_columns ≤ x2 → (¬ ((x1 >>> (x2 &&& 31)) &&& 1) = 1 → (q_X1_isReached_L2 x1 g_columns g_open Q n) (x2 + 1)) ∧ (((x1 >>> (x2 &&& 31)) &&& 1) = 1 → q_X1_mayFollow g_open (x1 &&& ((1 <<< (x2 &&& 31)) ^^^ (-1))) x2 (fun b4 => (b4 = false → (q_X1_isReached_L2 x1 g_columns g_open Q n) (x2 + 1)) ∧ (b4 = true → Q true))))
def q_X1_isReached (g_columns : Int32) (g_open : Nat → Int32) (x1 : Int32) (Q : Bool → Prop) : Prop :=
  ∃ N : Nat, q_X1_isReached_L2 x1 g_columns g_open Q N 0
set_option maxRecDepth 100000 in
set_option maxHeartbeats 4000000 in
theorem c_X1_isReached (l : Launch) (dC : Nat → ClassId) (dI : Nat → Nat → Nat) (cI cZ : ClassId) (a_this a_open : Nat) (z_ways z_full : Value) (g_columns : Int32) (g_open : Nat → Int32) (x1 : Int32) (Q : Bool → Prop) (h : q_X1_isReached g_columns g_open x1 Q) : MB l yX1_isReached wsX1_isReached rX1_isReached (dC, dI) [(cI, .int), (cZ, .boolean)] [.ref a_this, .int x1] [(a_this, .inr (1, [.ref a_open, z_ways, .int g_columns, z_full])), (a_open, .inl (cI, 256, .inl g_open))] (fun (r : Bool) (u : Unit) => Q r) (fun u : Unit => [(a_this, .inr (1, [.ref a_open, z_ways, .int g_columns, z_full])), (a_open, .inl (cI, 256, .inl g_open))]) := by
  refine MB.of (cc := cX1_isReached) (maxL := 3) (by decide +kernel) rfl (Nat.le_of_ble_eq_true rfl) ?_
  intro p e s m args below meth c A QQ ls hx hb hml hown hts hA hK hP hD hS hNW ret hl
  have hl : lv_has ls 3 [(0, .ref a_this), (1, .int x1)] := hl
  have hown : s.vm.findClass RX1 = some m.cls := hown
  have in1 : ∀ w ∈ u_ws RX1 TX1 4, w ∈ wsX1_isReached := fun _ w9 => List.mem_cons_of_mem _ (List.mem_append_right _ w9)
  have f18 := hts (.fieldLink RX1 18 "OnesDesk$Rows" "columns" "I") (by decide +kernel)
  refine lv_iconst (v := 0) hx hb dX1_isReached_0 (by decide) ?_
  refine lv_istore_n (lv' := [(2, .int 0), (0, .ref a_this), (1, .int x1)]) hx hb dX1_isReached_1 rfl hl (by decide) rfl (fun ls hl => ?_)
  have L2 : ∀ (n2 : Nat), ∀ (x2 : Int32), q_X1_isReached_L2 x1 g_columns g_open Q n2 x2 → ∀ (H : Heap) (locs : List Loc) (ls : Array Slot), va_P (dC, dI) vwCl [(a_this, .inr (1, [.ref a_open, z_ways, .int g_columns, z_full])), (a_open, .inl (cI, 256, .inl g_open))] H → va_D A [(a_this, .inr (1, [.ref a_open, z_ways, .int g_columns, z_full])), (a_open, .inl (cI, 256, .inl g_open))] → va_S A s.heap H locs → lv_has ls 3 [(0, .ref a_this), (1, .int x1), (2, .int x2)] → W p l e rX1_isReached s m args below meth c H locs 0 0 QQ (F0 m 2 ls []) := by
    intro n2
    induction n2 with
    | zero => intro x2 h; exact False.elim h
    | succ n2 ih2 =>
      intro x2 h H locs ls hP hD hS hl
      refine lv_iload_n hx hb dX1_isReached_2 rfl (lv_at hl 2 rfl) ?_
      refine lv_aload_n hx hb dX1_isReached_3 rfl (lv_at hl 0 rfl) ?_
      refine va_get (D := (dC, dI)) (ci := 1) (v := .int g_columns) (C := RX1) (T := TX1) (N := 4) hx hb hts in1 hown hK hP 0 rfl rfl 2 (by decide) f18 (fun _ h9 => h9) rfl dX1_isReached_4 ?_
      refine lv_icmp_ge (tgt := 42) hx hb dX1_isReached_7 (by decide) (fun k1 => ?_) (fun k1 => ?_)
      · have h := h.1 k1
        have J42 : q_X1_isReached_J42 x1 Q → ∀ (H : Heap) (locs : List Loc) (ls : Array Slot), va_P (dC, dI) vwCl [(a_this, .inr (1, [.ref a_open, z_ways, .int g_columns, z_full])), (a_open, .inl (cI, 256, .inl g_open))] H → va_D A [(a_this, .inr (1, [.ref a_open, z_ways, .int g_columns, z_full])), (a_open, .inl (cI, 256, .inl g_open))] → va_S A s.heap H locs → lv_has ls 3 [(0, .ref a_this), (1, .int x1)] → W p l e rX1_isReached s m args below meth c H locs 0 0 QQ (F0 m 42 ls []) := by
          intro  h H locs ls hP hD hS hl
          refine lv_iload_n hx hb dX1_isReached_42 rfl (lv_at hl 1 rfl) ?_
          refine lv_if_ne (tgt := 50) hx hb dX1_isReached_43 (by decide) (fun k1 => ?_) (fun k1 => ?_)
          · have h := h.1 k1
            refine lv_iconst (v := 0) hx hb dX1_isReached_50 (by decide) ?_
            exact ret _ _ _ _ false () dX1_isReached_51 h (reP hP [0, 1] rfl) (hD.sub [0, 1] (by decide) rfl) hS
          · have h := h.2 k1
            refine lv_iconst (v := 1) hx hb dX1_isReached_46 (by decide) ?_
            refine lv_goto (tgt := 51) hx hb dX1_isReached_47 (by decide) ?_
            exact ret _ _ _ _ true () dX1_isReached_51 h (reP hP [0, 1] rfl) (hD.sub [0, 1] (by decide) rfl) hS
        exact J42 h _ _ _ (reP hP [0, 1] rfl) (hD.sub [0, 1] (by decide) rfl) hS (lv_sub hl [0, 1] rfl)
      · have h := h.2 k1
        refine lv_iload_n hx hb dX1_isReached_10 rfl (lv_at hl 1 rfl) ?_
        refine lv_iload_n hx hb dX1_isReached_11 rfl (lv_at hl 2 rfl) ?_
        refine lv_ishr hx hb dX1_isReached_12 ?_
        refine lv_iconst (v := 1) hx hb dX1_isReached_13 (by decide) ?_
        refine lv_iand hx hb dX1_isReached_14 ?_
        refine lv_iconst (v := 1) hx hb dX1_isReached_15 (by decide) ?_
        refine lv_icmp_ne (tgt := 36) hx hb dX1_isReached_16 (by decide) (fun k2 => ?_) (fun k2 => ?_)
        · have h := h.1 k2
          refine lv_iinc (v := x2 + 1) (lv' := [(2, .int (x2 + 1)), (0, .ref a_this), (1, .int x1)]) hx hb dX1_isReached_36 hl (k := 2) rfl rfl (by decide) rfl (fun ls hl => ?_)
          refine lv_goto (tgt := 2) hx hb dX1_isReached_39 (by decide) ?_
          exact ih2 (x2 + 1) h _ _ _ (reP hP [0, 1] rfl) (hD.sub [0, 1] (by decide) rfl) hS (lv_sub hl [1, 2, 0] rfl)
        · have h := h.2 k2
          refine lv_aload_n hx hb dX1_isReached_19 rfl (lv_at hl 0 rfl) ?_
          refine lv_iload_n hx hb dX1_isReached_20 rfl (lv_at hl 1 rfl) ?_
          refine lv_iconst (v := 1) hx hb dX1_isReached_21 (by decide) ?_
          refine lv_iload_n hx hb dX1_isReached_22 rfl (lv_at hl 2 rfl) ?_
          refine lv_ishl hx hb dX1_isReached_23 ?_
          refine lv_iconst (v := (-1)) hx hb dX1_isReached_24 (by decide) ?_
          refine lv_ixor hx hb dX1_isReached_25 ?_
          refine lv_iand hx hb dX1_isReached_26 ?_
          refine lv_iload_n hx hb dX1_isReached_27 rfl (lv_at hl 2 rfl) ?_
          refine MI.callV (As := [.int (x1 &&& ((1 <<< (x2 &&& 31)) ^^^ (-1))), .int x2]) (rest := []) (wr := []) (ci := 1) (q0 := 0) (c_X1_mayFollow l dC dI cI cZ a_this a_open z_ways (.int g_columns) z_full g_open (x1 &&& ((1 <<< (x2 &&& 31)) ^^^ (-1))) x2 _ h) ⟨hx, hb, hml, hown, hts⟩ (cwV 2 hts gX1_isReached_X1_mayFollow rfl rfl rfl (by decide +kernel) ⟨Nat.le_of_ble_eq_true rfl, Nat.le_of_ble_eq_true rfl⟩) hK hP hD hS hA hNW [0, 1] [] rfl rfl (by decide) (by decide) (by decide) rfl rfl rfl rfl hl.1 rfl (Nat.le_of_ble_eq_true rfl) dX1_isReached_28 ⟨Nat.zero_le _, Nat.zero_le _⟩ (fun r3 u H locs hw hP hD hS => ?_)
          obtain ⟨b4, rfl, hw⟩ := hw
          have h := hw
          try dsimp only at h
          have hP : va_P (dC, dI) vwCl [(a_this, .inr (1, [.ref a_open, z_ways, .int g_columns, z_full])), (a_open, .inl (cI, 256, .inl g_open))] H := hP
          have hD : va_D A [(a_this, .inr (1, [.ref a_open, z_ways, .int g_columns, z_full])), (a_open, .inl (cI, 256, .inl g_open))] := hD
          refine lv_if_eq (tgt := 36) hx hb dX1_isReached_31 (by decide) (fun k5 => ?_) (fun k5 => ?_)
          · have h := h.1 (bI_0 k5)
            refine lv_iinc (v := x2 + 1) (lv' := [(2, .int (x2 + 1)), (0, .ref a_this), (1, .int x1)]) hx hb dX1_isReached_36 hl (k := 2) rfl rfl (by decide) rfl (fun ls hl => ?_)
            refine lv_goto (tgt := 2) hx hb dX1_isReached_39 (by decide) ?_
            exact ih2 (x2 + 1) h _ _ _ (reP hP [0, 1] rfl) (hD.sub [0, 1] (by decide) rfl) hS (lv_sub hl [1, 2, 0] rfl)
          · have h := h.2 (bI_1 k5)
            refine lv_iconst (v := 1) hx hb dX1_isReached_34 (by decide) ?_
            exact ret _ _ _ _ true () dX1_isReached_35 h (reP hP [0, 1] rfl) (hD.sub [0, 1] (by decide) rfl) hS
  obtain ⟨n, h⟩ := h
  exact L2 n 0 h _ _ _ (reP hP [0, 1] rfl) (hD.sub [0, 1] (by decide) rfl) hS (lv_sub hl [1, 2, 0] rfl)
/-! ### X1_closeDeadWays closeDeadWays()V -/
def rX1_closeDeadWays : Room := { frames := 2, cells := 0, slots := 0, locals := 44 }
def q_X1_closeDeadWays_L27 (x1 : Int32) (g_columns : Int32) (g_ways : Nat → Int32) (k2 : Int32 → (Nat → Int32) → Prop) : Nat → Int32 → (Nat → Int32) → Prop
  | 0 => fun _ _ => False
  | n + 1 => fun x2 g_open => (g_columns ≤ x2 → k2 (x1 + 1) g_open) ∧ (¬ g_columns ≤ x2 → q_X1_mayFollow g_open x1 x2 (fun b3 => (b3 = false → (q_X1_closeDeadWays_L27 x1 g_columns g_ways k2 n) (x2 + 1) g_open) ∧ (b3 = true → vp_in (x1 ||| (1 <<< (x2 &&& 31))) 256 ∧ (¬ (g_ways (Int32.toNatClampNeg (x1 ||| (1 <<< (x2 &&& 31))))) = 0 → (q_X1_closeDeadWays_L27 x1 g_columns g_ways k2 n) (x2 + 1) g_open) ∧ ((g_ways (Int32.toNatClampNeg (x1 ||| (1 <<< (x2 &&& 31))))) = 0 → vp_in x1 256 ∧ (q_X1_closeDeadWays_L27 x1 g_columns g_ways k2 n) (x2 + 1) (upd g_open (Int32.toNatClampNeg x1) ((g_open (Int32.toNatClampNeg x1)) &&& ((1 <<< (x2 &&& 31)) ^^^ (-1))))))))
def q_X1_closeDeadWays_J25 (x1 : Int32) (g_columns : Int32) (g_ways : Nat → Int32) (k2 : Int32 → (Nat → Int32) → Prop) (g_open : Nat → Int32) : Prop :=
  ∃ N : Nat, q_X1_closeDeadWays_L27 x1 g_columns g_ways k2 N 0 g_open
def q_X1_closeDeadWays_L2 (g_columns : Int32) (g_full : Int32) (g_ways : Nat → Int32) (Q : (Nat → Int32) → Prop) : Nat → Int32 → (Nat → Int32) → Prop
  | 0 => fun _ _ => False
  | n + 1 => fun x1 g_open => (g_full < x1 → Q g_open) ∧ (¬ g_full < x1 → q_X1_isReached g_columns g_open x1 (fun b3 => (b3 = true → q_X1_closeDeadWays_J25 x1 g_columns g_ways (fun y0 y1 => q_X1_closeDeadWays_L2 g_columns g_full g_ways Q n y0 y1) g_open) ∧ (b3 = false → vp_in x1 256 ∧ q_X1_closeDeadWays_J25 x1 g_columns g_ways (fun y0 y1 => q_X1_closeDeadWays_L2 g_columns g_full g_ways Q n y0 y1) (upd g_open (Int32.toNatClampNeg x1) 0))))
def q_X1_closeDeadWays (g_columns : Int32) (g_full : Int32) (g_open : Nat → Int32) (g_ways : Nat → Int32) (Q : (Nat → Int32) → Prop) : Prop :=
  ∃ N : Nat, q_X1_closeDeadWays_L2 g_columns g_full g_ways Q N 0 g_open
set_option maxRecDepth 100000 in
set_option maxHeartbeats 4000000 in
theorem c_X1_closeDeadWays (l : Launch) (dC : Nat → ClassId) (dI : Nat → Nat → Nat) (cI cZ : ClassId) (a_this a_open a_ways : Nat) (g_columns : Int32) (g_full : Int32) (g_open : Nat → Int32) (g_ways : Nat → Int32) (Q : (Nat → Int32) → Prop) (h : q_X1_closeDeadWays g_columns g_full g_open g_ways Q) : MV l yX1_closeDeadWays wsX1_closeDeadWays rX1_closeDeadWays (dC, dI) [(cI, .int), (cZ, .boolean)] [.ref a_this] [(a_this, .inr (1, [.ref a_open, .ref a_ways, .int g_columns, .int g_full])), (a_open, .inl (cI, 256, .inl g_open)), (a_ways, .inl (cI, 256, .inl g_ways))] (fun u : (Nat → Int32) => Q u) (fun u : (Nat → Int32) => [(a_this, .inr (1, [.ref a_open, .ref a_ways, .int g_columns, .int g_full])), (a_open, .inl (cI, 256, .inl u)), (a_ways, .inl (cI, 256, .inl g_ways))]) := by
  refine MV.of (cc := cX1_closeDeadWays) (maxL := 3) (by decide +kernel) rfl (Nat.le_of_ble_eq_true rfl) ?_
  intro p e s m args below meth c A QQ ls hx hb hml hown hts hA hK hP hD hS hNW ret hl
  have hl : lv_has ls 3 [(0, .ref a_this)] := hl
  have hown : s.vm.findClass RX1 = some m.cls := hown
  have in1 : ∀ w ∈ u_ws RX1 TX1 4, w ∈ wsX1_closeDeadWays := fun _ w9 => List.mem_cons_of_mem _ (List.mem_append_right _ w9)
  have f9 := hts (.fieldLink RX1 9 "OnesDesk$Rows" "open" "[I") (by decide +kernel)
  have f15 := hts (.fieldLink RX1 15 "OnesDesk$Rows" "ways" "[I") (by decide +kernel)
  have f18 := hts (.fieldLink RX1 18 "OnesDesk$Rows" "columns" "I") (by decide +kernel)
  have f22 := hts (.fieldLink RX1 22 "OnesDesk$Rows" "full" "I") (by decide +kernel)
  refine lv_iconst (v := 0) hx hb dX1_closeDeadWays_0 (by decide) ?_
  refine lv_istore_n (lv' := [(1, .int 0), (0, .ref a_this)]) hx hb dX1_closeDeadWays_1 rfl hl (by decide) rfl (fun ls hl => ?_)
  have L2 : ∀ (n2 : Nat), ∀ (x1 : Int32) (g_open : Nat → Int32), q_X1_closeDeadWays_L2 g_columns g_full g_ways Q n2 x1 g_open → ∀ (H : Heap) (locs : List Loc) (ls : Array Slot), va_P (dC, dI) vwCl [(a_this, .inr (1, [.ref a_open, .ref a_ways, .int g_columns, .int g_full])), (a_open, .inl (cI, 256, .inl g_open)), (a_ways, .inl (cI, 256, .inl g_ways))] H → va_D A [(a_this, .inr (1, [.ref a_open, .ref a_ways, .int g_columns, .int g_full])), (a_open, .inl (cI, 256, .inl g_open)), (a_ways, .inl (cI, 256, .inl g_ways))] → va_S A s.heap H locs → lv_has ls 3 [(0, .ref a_this), (1, .int x1)] → W p l e rX1_closeDeadWays s m args below meth c H locs 0 0 QQ (F0 m 2 ls []) := by
    intro n2
    induction n2 with
    | zero => intro x1 g_open h; exact False.elim h
    | succ n2 ih2 =>
      intro x1 g_open h H locs ls hP hD hS hl
      refine lv_iload_n hx hb dX1_closeDeadWays_2 rfl (lv_at hl 1 rfl) ?_
      refine lv_aload_n hx hb dX1_closeDeadWays_3 rfl (lv_at hl 0 rfl) ?_
      refine va_get (D := (dC, dI)) (ci := 1) (v := .int g_full) (C := RX1) (T := TX1) (N := 4) hx hb hts in1 hown hK hP 0 rfl rfl 3 (by decide) f22 (fun _ h9 => h9) rfl dX1_closeDeadWays_4 ?_
      refine lv_icmp_gt (tgt := 83) hx hb dX1_closeDeadWays_7 (by decide) (fun k1 => ?_) (fun k1 => ?_)
      · have h := h.1 k1
        exact ret _ _ _ _ g_open dX1_closeDeadWays_83 h (reP hP [0, 1, 2] rfl) (hD.sub [0, 1, 2] (by decide) rfl) hS
      · have h := h.2 k1
        refine lv_aload_n hx hb dX1_closeDeadWays_10 rfl (lv_at hl 0 rfl) ?_
        refine lv_iload_n hx hb dX1_closeDeadWays_11 rfl (lv_at hl 1 rfl) ?_
        refine MI.callV (As := [.int x1]) (rest := []) (wr := [(a_ways, .inl (cI, 256, .inl g_ways))]) (ci := 1) (q0 := 0) (c_X1_isReached l dC dI cI cZ a_this a_open (.ref a_ways) (.int g_full) g_columns g_open x1 _ h) ⟨hx, hb, hml, hown, hts⟩ (cwV 1 hts gX1_closeDeadWays_X1_isReached rfl rfl rfl (by decide +kernel) ⟨Nat.le_of_ble_eq_true rfl, Nat.le_of_ble_eq_true rfl⟩) hK hP hD hS hA hNW [0, 1] [2] rfl rfl (by decide) (by decide) (by decide) rfl rfl rfl rfl hl.1 rfl (Nat.le_of_ble_eq_true rfl) dX1_closeDeadWays_12 ⟨Nat.zero_le _, Nat.zero_le _⟩ (fun r2 u H locs hw hP hD hS => ?_)
        obtain ⟨b3, rfl, hw⟩ := hw
        have h := hw
        try dsimp only at h
        have hP : va_P (dC, dI) vwCl [(a_ways, .inl (cI, 256, .inl g_ways)), (a_this, .inr (1, [.ref a_open, .ref a_ways, .int g_columns, .int g_full])), (a_open, .inl (cI, 256, .inl g_open))] H := hP
        have hD : va_D A [(a_ways, .inl (cI, 256, .inl g_ways)), (a_this, .inr (1, [.ref a_open, .ref a_ways, .int g_columns, .int g_full])), (a_open, .inl (cI, 256, .inl g_open))] := hD
        have J25 : ∀ (g_open : Nat → Int32), q_X1_closeDeadWays_J25 x1 g_columns g_ways (q_X1_closeDeadWays_L2 g_columns g_full g_ways Q n2) g_open → ∀ (H : Heap) (locs : List Loc) (ls : Array Slot), va_P (dC, dI) vwCl [(a_this, .inr (1, [.ref a_open, .ref a_ways, .int g_columns, .int g_full])), (a_open, .inl (cI, 256, .inl g_open)), (a_ways, .inl (cI, 256, .inl g_ways))] H → va_D A [(a_this, .inr (1, [.ref a_open, .ref a_ways, .int g_columns, .int g_full])), (a_open, .inl (cI, 256, .inl g_open)), (a_ways, .inl (cI, 256, .inl g_ways))] → va_S A s.heap H locs → lv_has ls 3 [(0, .ref a_this), (1, .int x1)] → W p l e rX1_closeDeadWays s m args below meth c H locs 0 0 QQ (F0 m 25 ls []) := by
          intro g_open h H locs ls hP hD hS hl
          refine lv_iconst (v := 0) hx hb dX1_closeDeadWays_25 (by decide) ?_
          refine lv_istore_n (lv' := [(2, .int 0), (0, .ref a_this), (1, .int x1)]) hx hb dX1_closeDeadWays_26 rfl hl (by decide) rfl (fun ls hl => ?_)
          have L27 : ∀ (n27 : Nat), ∀ (x2 : Int32) (g_open : Nat → Int32), q_X1_closeDeadWays_L27 x1 g_columns g_ways (q_X1_closeDeadWays_L2 g_columns g_full g_ways Q n2) n27 x2 g_open → ∀ (H : Heap) (locs : List Loc) (ls : Array Slot), va_P (dC, dI) vwCl [(a_this, .inr (1, [.ref a_open, .ref a_ways, .int g_columns, .int g_full])), (a_open, .inl (cI, 256, .inl g_open)), (a_ways, .inl (cI, 256, .inl g_ways))] H → va_D A [(a_this, .inr (1, [.ref a_open, .ref a_ways, .int g_columns, .int g_full])), (a_open, .inl (cI, 256, .inl g_open)), (a_ways, .inl (cI, 256, .inl g_ways))] → va_S A s.heap H locs → lv_has ls 3 [(0, .ref a_this), (1, .int x1), (2, .int x2)] → W p l e rX1_closeDeadWays s m args below meth c H locs 0 0 QQ (F0 m 27 ls []) := by
            intro n27
            induction n27 with
            | zero => intro x2 g_open h; exact False.elim h
            | succ n27 ih27 =>
              intro x2 g_open h H locs ls hP hD hS hl
              refine lv_iload_n hx hb dX1_closeDeadWays_27 rfl (lv_at hl 2 rfl) ?_
              refine lv_aload_n hx hb dX1_closeDeadWays_28 rfl (lv_at hl 0 rfl) ?_
              refine va_get (D := (dC, dI)) (ci := 1) (v := .int g_columns) (C := RX1) (T := TX1) (N := 4) hx hb hts in1 hown hK hP 0 rfl rfl 2 (by decide) f18 (fun _ h9 => h9) rfl dX1_closeDeadWays_29 ?_
              refine lv_icmp_ge (tgt := 77) hx hb dX1_closeDeadWays_32 (by decide) (fun k1 => ?_) (fun k1 => ?_)
              · have h := h.1 k1
                refine lv_iinc (v := x1 + 1) (lv' := [(1, .int (x1 + 1)), (0, .ref a_this), (2, .int x2)]) hx hb dX1_closeDeadWays_77 hl (k := 1) rfl rfl (by decide) rfl (fun ls hl => ?_)
                refine lv_goto (tgt := 2) hx hb dX1_closeDeadWays_80 (by decide) ?_
                exact ih2 (x1 + 1) g_open h _ _ _ (reP hP [0, 1, 2] rfl) (hD.sub [0, 1, 2] (by decide) rfl) hS (lv_sub hl [1, 0] rfl)
              · have h := h.2 k1
                refine lv_aload_n hx hb dX1_closeDeadWays_35 rfl (lv_at hl 0 rfl) ?_
                refine lv_iload_n hx hb dX1_closeDeadWays_36 rfl (lv_at hl 1 rfl) ?_
                refine lv_iload_n hx hb dX1_closeDeadWays_37 rfl (lv_at hl 2 rfl) ?_
                refine MI.callV (As := [.int x1, .int x2]) (rest := []) (wr := [(a_ways, .inl (cI, 256, .inl g_ways))]) (ci := 1) (q0 := 0) (c_X1_mayFollow l dC dI cI cZ a_this a_open (.ref a_ways) (.int g_columns) (.int g_full) g_open x1 x2 _ h) ⟨hx, hb, hml, hown, hts⟩ (cwV 2 hts gX1_closeDeadWays_X1_mayFollow rfl rfl rfl (by decide +kernel) ⟨Nat.le_of_ble_eq_true rfl, Nat.le_of_ble_eq_true rfl⟩) hK hP hD hS hA hNW [0, 1] [2] rfl rfl (by decide) (by decide) (by decide) rfl rfl rfl rfl hl.1 rfl (Nat.le_of_ble_eq_true rfl) dX1_closeDeadWays_38 ⟨Nat.zero_le _, Nat.zero_le _⟩ (fun r2 u H locs hw hP hD hS => ?_)
                obtain ⟨b3, rfl, hw⟩ := hw
                have h := hw
                try dsimp only at h
                have hP : va_P (dC, dI) vwCl [(a_ways, .inl (cI, 256, .inl g_ways)), (a_this, .inr (1, [.ref a_open, .ref a_ways, .int g_columns, .int g_full])), (a_open, .inl (cI, 256, .inl g_open))] H := hP
                have hD : va_D A [(a_ways, .inl (cI, 256, .inl g_ways)), (a_this, .inr (1, [.ref a_open, .ref a_ways, .int g_columns, .int g_full])), (a_open, .inl (cI, 256, .inl g_open))] := hD
                refine lv_if_eq (tgt := 71) hx hb dX1_closeDeadWays_41 (by decide) (fun k4 => ?_) (fun k4 => ?_)
                · have h := h.1 (bI_0 k4)
                  refine lv_iinc (v := x2 + 1) (lv' := [(2, .int (x2 + 1)), (0, .ref a_this), (1, .int x1)]) hx hb dX1_closeDeadWays_71 hl (k := 2) rfl rfl (by decide) rfl (fun ls hl => ?_)
                  refine lv_goto (tgt := 27) hx hb dX1_closeDeadWays_74 (by decide) ?_
                  exact ih27 (x2 + 1) g_open h _ _ _ (reP hP [1, 2, 0] rfl) (hD.sub [1, 2, 0] (by decide) rfl) hS (lv_sub hl [1, 2, 0] rfl)
                · have h := h.2 (bI_1 k4)
                  refine lv_aload_n hx hb dX1_closeDeadWays_44 rfl (lv_at hl 0 rfl) ?_
                  refine va_get (D := (dC, dI)) (ci := 1) (v := .ref a_ways) (C := RX1) (T := TX1) (N := 4) hx hb hts in1 hown hK hP 1 rfl rfl 1 (by decide) f15 (fun _ h9 => h9) rfl dX1_closeDeadWays_45 ?_
                  refine lv_iload_n hx hb dX1_closeDeadWays_48 rfl (lv_at hl 1 rfl) ?_
                  refine lv_iconst (v := 1) hx hb dX1_closeDeadWays_49 (by decide) ?_
                  refine lv_iload_n hx hb dX1_closeDeadWays_50 rfl (lv_at hl 2 rfl) ?_
                  refine lv_ishl hx hb dX1_closeDeadWays_51 ?_
                  refine lv_ior hx hb dX1_closeDeadWays_52 ?_
                  obtain ⟨hi5, h⟩ := h
                  refine va_iald (D := (dC, dI)) hx hb hK hP 0 0 rfl rfl hi5 dX1_closeDeadWays_53 ?_
                  refine lv_if_ne (tgt := 71) hx hb dX1_closeDeadWays_54 (by decide) (fun k6 => ?_) (fun k6 => ?_)
                  · have h := h.1 k6
                    refine lv_iinc (v := x2 + 1) (lv' := [(2, .int (x2 + 1)), (0, .ref a_this), (1, .int x1)]) hx hb dX1_closeDeadWays_71 hl (k := 2) rfl rfl (by decide) rfl (fun ls hl => ?_)
                    refine lv_goto (tgt := 27) hx hb dX1_closeDeadWays_74 (by decide) ?_
                    exact ih27 (x2 + 1) g_open h _ _ _ (reP hP [1, 2, 0] rfl) (hD.sub [1, 2, 0] (by decide) rfl) hS (lv_sub hl [1, 2, 0] rfl)
                  · have h := h.2 k6
                    refine lv_aload_n hx hb dX1_closeDeadWays_57 rfl (lv_at hl 0 rfl) ?_
                    refine va_get (D := (dC, dI)) (ci := 1) (v := .ref a_open) (C := RX1) (T := TX1) (N := 4) hx hb hts in1 hown hK hP 1 rfl rfl 0 (by decide) f9 (fun _ h9 => h9) rfl dX1_closeDeadWays_58 ?_
                    refine lv_iload_n hx hb dX1_closeDeadWays_61 rfl (lv_at hl 1 rfl) ?_
                    refine lv_dup2_11 hx hb dX1_closeDeadWays_62 rfl rfl ?_
                    obtain ⟨hi7, h⟩ := h
                    refine va_iald (D := (dC, dI)) hx hb hK hP 2 0 rfl rfl hi7 dX1_closeDeadWays_63 ?_
                    refine lv_iconst (v := 1) hx hb dX1_closeDeadWays_64 (by decide) ?_
                    refine lv_iload_n hx hb dX1_closeDeadWays_65 rfl (lv_at hl 2 rfl) ?_
                    refine lv_ishl hx hb dX1_closeDeadWays_66 ?_
                    refine lv_iconst (v := (-1)) hx hb dX1_closeDeadWays_67 (by decide) ?_
                    refine lv_ixor hx hb dX1_closeDeadWays_68 ?_
                    refine lv_iand hx hb dX1_closeDeadWays_69 ?_
                    refine va_iast (D := (dC, dI)) hx hb hK hP hD hS 2 0 rfl rfl hi7 dX1_closeDeadWays_70 (fun H locs hP hD hS => ?_)
                    have hP : va_P (dC, dI) vwCl [(a_ways, .inl (cI, 256, .inl g_ways)), (a_this, .inr (1, [.ref a_open, .ref a_ways, .int g_columns, .int g_full])), (a_open, .inl (cI, 256, .inl (upd g_open (Int32.toNatClampNeg x1) ((g_open (Int32.toNatClampNeg x1)) &&& ((1 <<< (x2 &&& 31)) ^^^ (-1))))))] H := hP
                    have hD : va_D A [(a_ways, .inl (cI, 256, .inl g_ways)), (a_this, .inr (1, [.ref a_open, .ref a_ways, .int g_columns, .int g_full])), (a_open, .inl (cI, 256, .inl (upd g_open (Int32.toNatClampNeg x1) ((g_open (Int32.toNatClampNeg x1)) &&& ((1 <<< (x2 &&& 31)) ^^^ (-1))))))] := hD
                    refine lv_iinc (v := x2 + 1) (lv' := [(2, .int (x2 + 1)), (0, .ref a_this), (1, .int x1)]) hx hb dX1_closeDeadWays_71 hl (k := 2) rfl rfl (by decide) rfl (fun ls hl => ?_)
                    refine lv_goto (tgt := 27) hx hb dX1_closeDeadWays_74 (by decide) ?_
                    exact ih27 (x2 + 1) (upd g_open (Int32.toNatClampNeg x1) ((g_open (Int32.toNatClampNeg x1)) &&& ((1 <<< (x2 &&& 31)) ^^^ (-1)))) h _ _ _ (reP hP [1, 2, 0] rfl) (hD.sub [1, 2, 0] (by decide) rfl) hS (lv_sub hl [1, 2, 0] rfl)
          obtain ⟨n, h⟩ := h
          exact L27 n 0 g_open h _ _ _ (reP hP [0, 1, 2] rfl) (hD.sub [0, 1, 2] (by decide) rfl) hS (lv_sub hl [1, 2, 0] rfl)
        refine lv_if_ne (tgt := 25) hx hb dX1_closeDeadWays_15 (by decide) (fun k4 => ?_) (fun k4 => ?_)
        · have h := h.1 (bI_1 k4)
          exact J25 g_open h _ _ _ (reP hP [1, 2, 0] rfl) (hD.sub [1, 2, 0] (by decide) rfl) hS (lv_sub hl [0, 1] rfl)
        · have h := h.2 (bI_0 k4)
          refine lv_aload_n hx hb dX1_closeDeadWays_18 rfl (lv_at hl 0 rfl) ?_
          refine va_get (D := (dC, dI)) (ci := 1) (v := .ref a_open) (C := RX1) (T := TX1) (N := 4) hx hb hts in1 hown hK hP 1 rfl rfl 0 (by decide) f9 (fun _ h9 => h9) rfl dX1_closeDeadWays_19 ?_
          refine lv_iload_n hx hb dX1_closeDeadWays_22 rfl (lv_at hl 1 rfl) ?_
          refine lv_iconst (v := 0) hx hb dX1_closeDeadWays_23 (by decide) ?_
          obtain ⟨hi5, h⟩ := h
          refine va_iast (D := (dC, dI)) hx hb hK hP hD hS 2 0 rfl rfl hi5 dX1_closeDeadWays_24 (fun H locs hP hD hS => ?_)
          have hP : va_P (dC, dI) vwCl [(a_ways, .inl (cI, 256, .inl g_ways)), (a_this, .inr (1, [.ref a_open, .ref a_ways, .int g_columns, .int g_full])), (a_open, .inl (cI, 256, .inl (upd g_open (Int32.toNatClampNeg x1) 0)))] H := hP
          have hD : va_D A [(a_ways, .inl (cI, 256, .inl g_ways)), (a_this, .inr (1, [.ref a_open, .ref a_ways, .int g_columns, .int g_full])), (a_open, .inl (cI, 256, .inl (upd g_open (Int32.toNatClampNeg x1) 0)))] := hD
          exact J25 (upd g_open (Int32.toNatClampNeg x1) 0) h _ _ _ (reP hP [1, 2, 0] rfl) (hD.sub [1, 2, 0] (by decide) rfl) hS (lv_sub hl [0, 1] rfl)
  obtain ⟨n, h⟩ := h
  exact L2 n 0 g_open h _ _ _ (reP hP [0, 1, 2] rfl) (hD.sub [0, 1, 2] (by decide) rfl) hS (lv_sub hl [1, 0] rfl)
/-! ### X1_howMany howMany()I -/
def rX1_howMany : Room := { frames := 0, cells := 0, slots := 0, locals := 0 }
def q_X1_howMany (g_ways : Nat → Int32) (Q : Int32 → Prop) : Prop :=
  Q (g_ways (Int32.toNatClampNeg 0))
set_option maxRecDepth 100000 in
set_option maxHeartbeats 4000000 in
theorem c_X1_howMany (l : Launch) (dC : Nat → ClassId) (dI : Nat → Nat → Nat) (cI cZ : ClassId) (a_this a_ways : Nat) (z_open z_columns z_full : Value) (g_ways : Nat → Int32) (Q : Int32 → Prop) (h : q_X1_howMany g_ways Q) : MI l yX1_howMany wsX1_howMany rX1_howMany (dC, dI) [(cI, .int), (cZ, .boolean)] [.ref a_this] [(a_this, .inr (1, [z_open, .ref a_ways, z_columns, z_full])), (a_ways, .inl (cI, 256, .inl g_ways))] (fun (r : Int32) (u : Unit) => Q r) (fun u : Unit => [(a_this, .inr (1, [z_open, .ref a_ways, z_columns, z_full])), (a_ways, .inl (cI, 256, .inl g_ways))]) := by
  refine MI.of (cc := cX1_howMany) (maxL := 1) (by decide +kernel) rfl (Nat.le_of_ble_eq_true rfl) ?_
  intro p e s m args below meth c A QQ ls hx hb hml hown hts hA hK hP hD hS hNW ret hl
  have hl : lv_has ls 1 [(0, .ref a_this)] := hl
  have hown : s.vm.findClass RX1 = some m.cls := hown
  have in1 : ∀ w ∈ u_ws RX1 TX1 4, w ∈ wsX1_howMany := fun _ w9 => List.mem_cons_of_mem _ (List.mem_append_right _ w9)
  have f15 := hts (.fieldLink RX1 15 "OnesDesk$Rows" "ways" "[I") (by decide +kernel)
  refine lv_aload_n hx hb dX1_howMany_0 rfl (lv_at hl 0 rfl) ?_
  refine va_get (D := (dC, dI)) (ci := 1) (v := .ref a_ways) (C := RX1) (T := TX1) (N := 4) hx hb hts in1 hown hK hP 0 rfl rfl 1 (by decide) f15 (fun _ h9 => h9) rfl dX1_howMany_1 ?_
  refine lv_iconst (v := 0) hx hb dX1_howMany_4 (by decide) ?_
  refine va_iald (D := (dC, dI)) hx hb hK hP 1 0 rfl rfl (show ¬ (_ ∨ _) by decide) dX1_howMany_5 ?_
  exact ret _ _ _ _ (g_ways (Int32.toNatClampNeg 0)) () dX1_howMany_6 h (reP hP [0, 1] rfl) (hD.sub [0, 1] (by decide) rfl) hS
/-! ### X1_rowsAhead rowsAhead(II)I -/
def rX1_rowsAhead : Room := { frames := 1, cells := 0, slots := 0, locals := 22 }
def q_X1_rowsAhead_L5 (x1 : Int32) (x2 : Int32) (g_open : Nat → Int32) (g_ways : Nat → Int32) (Q : Int32 → Prop) : Nat → Int32 → Int32 → Prop
  | 0 => fun _ _ => False
  | n + 1 => fun x3 x4 => (x2 ≤ x4 → Q x3) ∧ (¬ x2 ≤ x4 → q_X1_mayFollow g_open x1 x4 (fun b3 => (b3 = false → (q_X1_rowsAhead_L5 x1 x2 g_open g_ways Q n) x3 (x4 + 1)) ∧ (b3 = true → vp_in (x1 ||| (1 <<< (x4 &&& 31))) 256 ∧ ∀ x3_6 : Int32, x3_6 = (x3 + (g_ways (Int32.toNatClampNeg (x1 ||| (1 <<< (x4 &&& 31)))))) → (q_X1_rowsAhead_L5 x1 x2 g_open g_ways Q n) x3_6 (x4 + 1))))
def q_X1_rowsAhead (g_open : Nat → Int32) (g_ways : Nat → Int32) (x1 : Int32) (x2 : Int32) (Q : Int32 → Prop) : Prop :=
  ∃ N : Nat, q_X1_rowsAhead_L5 x1 x2 g_open g_ways Q N 0 0
set_option maxRecDepth 100000 in
set_option maxHeartbeats 4000000 in
theorem c_X1_rowsAhead (l : Launch) (dC : Nat → ClassId) (dI : Nat → Nat → Nat) (cI cZ : ClassId) (a_this a_open a_ways : Nat) (z_columns z_full : Value) (g_open : Nat → Int32) (g_ways : Nat → Int32) (x1 : Int32) (x2 : Int32) (Q : Int32 → Prop) (h : q_X1_rowsAhead g_open g_ways x1 x2 Q) : MI l yX1_rowsAhead wsX1_rowsAhead rX1_rowsAhead (dC, dI) [(cI, .int), (cZ, .boolean)] [.ref a_this, .int x1, .int x2] [(a_this, .inr (1, [.ref a_open, .ref a_ways, z_columns, z_full])), (a_open, .inl (cI, 256, .inl g_open)), (a_ways, .inl (cI, 256, .inl g_ways))] (fun (r : Int32) (u : Unit) => Q r) (fun u : Unit => [(a_this, .inr (1, [.ref a_open, .ref a_ways, z_columns, z_full])), (a_open, .inl (cI, 256, .inl g_open)), (a_ways, .inl (cI, 256, .inl g_ways))]) := by
  refine MI.of (cc := cX1_rowsAhead) (maxL := 5) (by decide +kernel) rfl (Nat.le_of_ble_eq_true rfl) ?_
  intro p e s m args below meth c A QQ ls hx hb hml hown hts hA hK hP hD hS hNW ret hl
  have hl : lv_has ls 5 [(0, .ref a_this), (1, .int x1), (2, .int x2)] := hl
  have hown : s.vm.findClass RX1 = some m.cls := hown
  have in1 : ∀ w ∈ u_ws RX1 TX1 4, w ∈ wsX1_rowsAhead := fun _ w9 => List.mem_cons_of_mem _ (List.mem_append_right _ w9)
  have f15 := hts (.fieldLink RX1 15 "OnesDesk$Rows" "ways" "[I") (by decide +kernel)
  refine lv_iconst (v := 0) hx hb dX1_rowsAhead_0 (by decide) ?_
  refine lv_istore_n (lv' := [(3, .int 0), (0, .ref a_this), (1, .int x1), (2, .int x2)]) hx hb dX1_rowsAhead_1 rfl hl (by decide) rfl (fun ls hl => ?_)
  refine lv_iconst (v := 0) hx hb dX1_rowsAhead_2 (by decide) ?_
  refine lv_istore (lv' := [(4, .int 0), (3, .int 0), (0, .ref a_this), (1, .int x1), (2, .int x2)]) hx hb dX1_rowsAhead_3 hl (by decide) rfl (fun ls hl => ?_)
  have L5 : ∀ (n5 : Nat), ∀ (x3 : Int32) (x4 : Int32), q_X1_rowsAhead_L5 x1 x2 g_open g_ways Q n5 x3 x4 → ∀ (H : Heap) (locs : List Loc) (ls : Array Slot), va_P (dC, dI) vwCl [(a_this, .inr (1, [.ref a_open, .ref a_ways, z_columns, z_full])), (a_open, .inl (cI, 256, .inl g_open)), (a_ways, .inl (cI, 256, .inl g_ways))] H → va_D A [(a_this, .inr (1, [.ref a_open, .ref a_ways, z_columns, z_full])), (a_open, .inl (cI, 256, .inl g_open)), (a_ways, .inl (cI, 256, .inl g_ways))] → va_S A s.heap H locs → lv_has ls 5 [(0, .ref a_this), (1, .int x1), (2, .int x2), (3, .int x3), (4, .int x4)] → W p l e rX1_rowsAhead s m args below meth c H locs 0 0 QQ (F0 m 5 ls []) := by
    intro n5
    induction n5 with
    | zero => intro x3 x4 h; exact False.elim h
    | succ n5 ih5 =>
      intro x3 x4 h H locs ls hP hD hS hl
      refine lv_iload hx hb dX1_rowsAhead_5 (lv_at hl 4 rfl) ?_
      refine lv_iload_n hx hb dX1_rowsAhead_7 rfl (lv_at hl 2 rfl) ?_
      refine lv_icmp_ge (tgt := 41) hx hb dX1_rowsAhead_8 (by decide) (fun k1 => ?_) (fun k1 => ?_)
      · have h := h.1 k1
        refine lv_iload_n hx hb dX1_rowsAhead_41 rfl (lv_at hl 3 rfl) ?_
        exact ret _ _ _ _ x3 () dX1_rowsAhead_42 h (reP hP [0, 1, 2] rfl) (hD.sub [0, 1, 2] (by decide) rfl) hS
      · have h := h.2 k1
        refine lv_aload_n hx hb dX1_rowsAhead_11 rfl (lv_at hl 0 rfl) ?_
        refine lv_iload_n hx hb dX1_rowsAhead_12 rfl (lv_at hl 1 rfl) ?_
        refine lv_iload hx hb dX1_rowsAhead_13 (lv_at hl 4 rfl) ?_
        refine MI.callV (As := [.int x1, .int x4]) (rest := []) (wr := [(a_ways, .inl (cI, 256, .inl g_ways))]) (ci := 1) (q0 := 0) (c_X1_mayFollow l dC dI cI cZ a_this a_open (.ref a_ways) z_columns z_full g_open x1 x4 _ h) ⟨hx, hb, hml, hown, hts⟩ (cwV 2 hts gX1_rowsAhead_X1_mayFollow rfl rfl rfl (by decide +kernel) ⟨Nat.le_of_ble_eq_true rfl, Nat.le_of_ble_eq_true rfl⟩) hK hP hD hS hA hNW [0, 1] [2] rfl rfl (by decide) (by decide) (by decide) rfl rfl rfl rfl hl.1 rfl (Nat.le_of_ble_eq_true rfl) dX1_rowsAhead_15 ⟨Nat.zero_le _, Nat.zero_le _⟩ (fun r2 u H locs hw hP hD hS => ?_)
        obtain ⟨b3, rfl, hw⟩ := hw
        have h := hw
        try dsimp only at h
        have hP : va_P (dC, dI) vwCl [(a_ways, .inl (cI, 256, .inl g_ways)), (a_this, .inr (1, [.ref a_open, .ref a_ways, z_columns, z_full])), (a_open, .inl (cI, 256, .inl g_open))] H := hP
        have hD : va_D A [(a_ways, .inl (cI, 256, .inl g_ways)), (a_this, .inr (1, [.ref a_open, .ref a_ways, z_columns, z_full])), (a_open, .inl (cI, 256, .inl g_open))] := hD
        refine lv_if_eq (tgt := 35) hx hb dX1_rowsAhead_18 (by decide) (fun k4 => ?_) (fun k4 => ?_)
        · have h := h.1 (bI_0 k4)
          refine lv_iinc (v := x4 + 1) (lv' := [(4, .int (x4 + 1)), (0, .ref a_this), (1, .int x1), (2, .int x2), (3, .int x3)]) hx hb dX1_rowsAhead_35 hl (k := 4) rfl rfl (by decide) rfl (fun ls hl => ?_)
          refine lv_goto (tgt := 5) hx hb dX1_rowsAhead_38 (by decide) ?_
          exact ih5 x3 (x4 + 1) h _ _ _ (reP hP [1, 2, 0] rfl) (hD.sub [1, 2, 0] (by decide) rfl) hS (lv_sub hl [1, 2, 3, 4, 0] rfl)
        · have h := h.2 (bI_1 k4)
          refine lv_iload_n hx hb dX1_rowsAhead_21 rfl (lv_at hl 3 rfl) ?_
          refine lv_aload_n hx hb dX1_rowsAhead_22 rfl (lv_at hl 0 rfl) ?_
          refine va_get (D := (dC, dI)) (ci := 1) (v := .ref a_ways) (C := RX1) (T := TX1) (N := 4) hx hb hts in1 hown hK hP 1 rfl rfl 1 (by decide) f15 (fun _ h9 => h9) rfl dX1_rowsAhead_23 ?_
          refine lv_iload_n hx hb dX1_rowsAhead_26 rfl (lv_at hl 1 rfl) ?_
          refine lv_iconst (v := 1) hx hb dX1_rowsAhead_27 (by decide) ?_
          refine lv_iload hx hb dX1_rowsAhead_28 (lv_at hl 4 rfl) ?_
          refine lv_ishl hx hb dX1_rowsAhead_30 ?_
          refine lv_ior hx hb dX1_rowsAhead_31 ?_
          obtain ⟨hi5, h⟩ := h
          refine va_iald (D := (dC, dI)) hx hb hK hP 0 0 rfl rfl hi5 dX1_rowsAhead_32 ?_
          refine lv_iadd hx hb dX1_rowsAhead_33 ?_
          refine lv_topi (fun x3_6 ex3_6 => ?_)
          have h := h x3_6 ex3_6
          refine lv_istore_n (lv' := [(3, .int x3_6), (0, .ref a_this), (1, .int x1), (2, .int x2), (4, .int x4)]) hx hb dX1_rowsAhead_34 rfl hl (by decide) rfl (fun ls hl => ?_)
          refine lv_iinc (v := x4 + 1) (lv' := [(4, .int (x4 + 1)), (3, .int x3_6), (0, .ref a_this), (1, .int x1), (2, .int x2)]) hx hb dX1_rowsAhead_35 hl (k := 4) rfl rfl (by decide) rfl (fun ls hl => ?_)
          refine lv_goto (tgt := 5) hx hb dX1_rowsAhead_38 (by decide) ?_
          exact ih5 x3_6 (x4 + 1) h _ _ _ (reP hP [1, 2, 0] rfl) (hD.sub [1, 2, 0] (by decide) rfl) hS (lv_sub hl [2, 3, 4, 1, 0] rfl)
  obtain ⟨n, h⟩ := h
  exact L5 n 0 0 h _ _ _ (reP hP [0, 1, 2] rfl) (hD.sub [0, 1, 2] (by decide) rfl) hS (lv_sub hl [2, 3, 4, 1, 0] rfl)
/-! ### X1_columnOfRest columnOfRest(II)I -/
def rX1_columnOfRest : Room := { frames := 1, cells := 0, slots := 0, locals := 22 }
def q_X1_columnOfRest_L5 (x1 : Int32) (g_columns : Int32) (g_open : Nat → Int32) (g_ways : Nat → Int32) (Q : Int32 → Prop) : Nat → Int32 → Int32 → Prop
  | 0 => fun _ _ => False
  | n + 1 => fun x3 x4 => (g_columns ≤ x4 → Q 0) ∧ (¬ g_columns ≤ x4 → q_X1_mayFollow g_open x1 x4 (fun b3 => (b3 = false → (q_X1_columnOfRest_L5 x1 g_columns g_open g_ways Q n) x3 (x4 + 1)) ∧ (b3 = true → vp_in (x1 ||| (1 <<< (x4 &&& 31))) 256 ∧ ∀ x5 : Int32, x5 = (g_ways (Int32.toNatClampNeg (x1 ||| (1 <<< (x4 &&& 31))))) → (x5 ≤ x3 → ∀ x3_7 : Int32, x3_7 = (x3 - x5) → (q_X1_columnOfRest_L5 x1 g_columns g_open g_ways Q n) x3_7 (x4 + 1)) ∧ (¬ x5 ≤ x3 → Q x4))))
def q_X1_columnOfRest (g_columns : Int32) (g_open : Nat → Int32) (g_ways : Nat → Int32) (x1 : Int32) (x2 : Int32) (Q : Int32 → Prop) : Prop :=
  ∃ N : Nat, q_X1_columnOfRest_L5 x1 g_columns g_open g_ways Q N x2 0
set_option maxRecDepth 100000 in
set_option maxHeartbeats 4000000 in
theorem c_X1_columnOfRest (l : Launch) (dC : Nat → ClassId) (dI : Nat → Nat → Nat) (cI cZ : ClassId) (a_this a_open a_ways : Nat) (z_full : Value) (g_columns : Int32) (g_open : Nat → Int32) (g_ways : Nat → Int32) (x1 : Int32) (x2 : Int32) (Q : Int32 → Prop) (h : q_X1_columnOfRest g_columns g_open g_ways x1 x2 Q) : MI l yX1_columnOfRest wsX1_columnOfRest rX1_columnOfRest (dC, dI) [(cI, .int), (cZ, .boolean)] [.ref a_this, .int x1, .int x2] [(a_this, .inr (1, [.ref a_open, .ref a_ways, .int g_columns, z_full])), (a_open, .inl (cI, 256, .inl g_open)), (a_ways, .inl (cI, 256, .inl g_ways))] (fun (r : Int32) (u : Unit) => Q r) (fun u : Unit => [(a_this, .inr (1, [.ref a_open, .ref a_ways, .int g_columns, z_full])), (a_open, .inl (cI, 256, .inl g_open)), (a_ways, .inl (cI, 256, .inl g_ways))]) := by
  refine MI.of (cc := cX1_columnOfRest) (maxL := 6) (by decide +kernel) rfl (Nat.le_of_ble_eq_true rfl) ?_
  intro p e s m args below meth c A QQ ls hx hb hml hown hts hA hK hP hD hS hNW ret hl
  have hl : lv_has ls 6 [(0, .ref a_this), (1, .int x1), (2, .int x2)] := hl
  have hown : s.vm.findClass RX1 = some m.cls := hown
  have in1 : ∀ w ∈ u_ws RX1 TX1 4, w ∈ wsX1_columnOfRest := fun _ w9 => List.mem_cons_of_mem _ (List.mem_append_right _ w9)
  have f15 := hts (.fieldLink RX1 15 "OnesDesk$Rows" "ways" "[I") (by decide +kernel)
  have f18 := hts (.fieldLink RX1 18 "OnesDesk$Rows" "columns" "I") (by decide +kernel)
  refine lv_iload_n hx hb dX1_columnOfRest_0 rfl (lv_at hl 2 rfl) ?_
  refine lv_istore_n (lv' := [(3, .int x2), (0, .ref a_this), (1, .int x1), (2, .int x2)]) hx hb dX1_columnOfRest_1 rfl hl (by decide) rfl (fun ls hl => ?_)
  refine lv_iconst (v := 0) hx hb dX1_columnOfRest_2 (by decide) ?_
  refine lv_istore (lv' := [(4, .int 0), (3, .int x2), (0, .ref a_this), (1, .int x1), (2, .int x2)]) hx hb dX1_columnOfRest_3 hl (by decide) rfl (fun ls hl => ?_)
  have L5 : ∀ (n5 : Nat), ∀ (x3 : Int32) (x4 : Int32), q_X1_columnOfRest_L5 x1 g_columns g_open g_ways Q n5 x3 x4 → ∀ (H : Heap) (locs : List Loc) (ls : Array Slot), va_P (dC, dI) vwCl [(a_this, .inr (1, [.ref a_open, .ref a_ways, .int g_columns, z_full])), (a_open, .inl (cI, 256, .inl g_open)), (a_ways, .inl (cI, 256, .inl g_ways))] H → va_D A [(a_this, .inr (1, [.ref a_open, .ref a_ways, .int g_columns, z_full])), (a_open, .inl (cI, 256, .inl g_open)), (a_ways, .inl (cI, 256, .inl g_ways))] → va_S A s.heap H locs → lv_has ls 6 [(0, .ref a_this), (1, .int x1), (3, .int x3), (4, .int x4)] → W p l e rX1_columnOfRest s m args below meth c H locs 0 0 QQ (F0 m 5 ls []) := by
    intro n5
    induction n5 with
    | zero => intro x3 x4 h; exact False.elim h
    | succ n5 ih5 =>
      intro x3 x4 h H locs ls hP hD hS hl
      refine lv_iload hx hb dX1_columnOfRest_5 (lv_at hl 3 rfl) ?_
      refine lv_aload_n hx hb dX1_columnOfRest_7 rfl (lv_at hl 0 rfl) ?_
      refine va_get (D := (dC, dI)) (ci := 1) (v := .int g_columns) (C := RX1) (T := TX1) (N := 4) hx hb hts in1 hown hK hP 0 rfl rfl 2 (by decide) f18 (fun _ h9 => h9) rfl dX1_columnOfRest_8 ?_
      refine lv_icmp_ge (tgt := 57) hx hb dX1_columnOfRest_11 (by decide) (fun k1 => ?_) (fun k1 => ?_)
      · have h := h.1 k1
        refine lv_iconst (v := 0) hx hb dX1_columnOfRest_57 (by decide) ?_
        exact ret _ _ _ _ 0 () dX1_columnOfRest_58 h (reP hP [0, 1, 2] rfl) (hD.sub [0, 1, 2] (by decide) rfl) hS
      · have h := h.2 k1
        refine lv_aload_n hx hb dX1_columnOfRest_14 rfl (lv_at hl 0 rfl) ?_
        refine lv_iload_n hx hb dX1_columnOfRest_15 rfl (lv_at hl 1 rfl) ?_
        refine lv_iload hx hb dX1_columnOfRest_16 (lv_at hl 3 rfl) ?_
        refine MI.callV (As := [.int x1, .int x4]) (rest := []) (wr := [(a_ways, .inl (cI, 256, .inl g_ways))]) (ci := 1) (q0 := 0) (c_X1_mayFollow l dC dI cI cZ a_this a_open (.ref a_ways) (.int g_columns) z_full g_open x1 x4 _ h) ⟨hx, hb, hml, hown, hts⟩ (cwV 2 hts gX1_columnOfRest_X1_mayFollow rfl rfl rfl (by decide +kernel) ⟨Nat.le_of_ble_eq_true rfl, Nat.le_of_ble_eq_true rfl⟩) hK hP hD hS hA hNW [0, 1] [2] rfl rfl (by decide) (by decide) (by decide) rfl rfl rfl rfl hl.1 rfl (Nat.le_of_ble_eq_true rfl) dX1_columnOfRest_18 ⟨Nat.zero_le _, Nat.zero_le _⟩ (fun r2 u H locs hw hP hD hS => ?_)
        obtain ⟨b3, rfl, hw⟩ := hw
        have h := hw
        try dsimp only at h
        have hP : va_P (dC, dI) vwCl [(a_ways, .inl (cI, 256, .inl g_ways)), (a_this, .inr (1, [.ref a_open, .ref a_ways, .int g_columns, z_full])), (a_open, .inl (cI, 256, .inl g_open))] H := hP
        have hD : va_D A [(a_ways, .inl (cI, 256, .inl g_ways)), (a_this, .inr (1, [.ref a_open, .ref a_ways, .int g_columns, z_full])), (a_open, .inl (cI, 256, .inl g_open))] := hD
        refine lv_if_eq (tgt := 51) hx hb dX1_columnOfRest_21 (by decide) (fun k4 => ?_) (fun k4 => ?_)
        · have h := h.1 (bI_0 k4)
          refine lv_iinc (v := x4 + 1) (lv' := [(4, .int (x4 + 1)), (0, .ref a_this), (1, .int x1), (3, .int x3)]) hx hb dX1_columnOfRest_51 hl (k := 3) rfl rfl (by decide) rfl (fun ls hl => ?_)
          refine lv_goto (tgt := 5) hx hb dX1_columnOfRest_54 (by decide) ?_
          exact ih5 x3 (x4 + 1) h _ _ _ (reP hP [1, 2, 0] rfl) (hD.sub [1, 2, 0] (by decide) rfl) hS (lv_sub hl [1, 2, 3, 0] rfl)
        · have h := h.2 (bI_1 k4)
          refine lv_aload_n hx hb dX1_columnOfRest_24 rfl (lv_at hl 0 rfl) ?_
          refine va_get (D := (dC, dI)) (ci := 1) (v := .ref a_ways) (C := RX1) (T := TX1) (N := 4) hx hb hts in1 hown hK hP 1 rfl rfl 1 (by decide) f15 (fun _ h9 => h9) rfl dX1_columnOfRest_25 ?_
          refine lv_iload_n hx hb dX1_columnOfRest_28 rfl (lv_at hl 1 rfl) ?_
          refine lv_iconst (v := 1) hx hb dX1_columnOfRest_29 (by decide) ?_
          refine lv_iload hx hb dX1_columnOfRest_30 (lv_at hl 3 rfl) ?_
          refine lv_ishl hx hb dX1_columnOfRest_32 ?_
          refine lv_ior hx hb dX1_columnOfRest_33 ?_
          obtain ⟨hi5, h⟩ := h
          refine va_iald (D := (dC, dI)) hx hb hK hP 0 0 rfl rfl hi5 dX1_columnOfRest_34 ?_
          refine lv_topi (fun x5 ex5 => ?_)
          have h := h x5 ex5
          refine lv_istore (lv' := [(5, .int x5), (0, .ref a_this), (1, .int x1), (3, .int x3), (4, .int x4)]) hx hb dX1_columnOfRest_35 hl (by decide) rfl (fun ls hl => ?_)
          refine lv_iload_n hx hb dX1_columnOfRest_37 rfl (lv_at hl 3 rfl) ?_
          refine lv_iload hx hb dX1_columnOfRest_38 (lv_at hl 0 rfl) ?_
          refine lv_icmp_ge (tgt := 46) hx hb dX1_columnOfRest_40 (by decide) (fun k6 => ?_) (fun k6 => ?_)
          · have h := h.1 k6
            refine lv_iload_n hx hb dX1_columnOfRest_46 rfl (lv_at hl 3 rfl) ?_
            refine lv_iload hx hb dX1_columnOfRest_47 (lv_at hl 0 rfl) ?_
            refine lv_isub hx hb dX1_columnOfRest_49 ?_
            refine lv_topi (fun x3_7 ex3_7 => ?_)
            have h := h x3_7 ex3_7
            refine lv_istore_n (lv' := [(3, .int x3_7), (5, .int x5), (0, .ref a_this), (1, .int x1), (4, .int x4)]) hx hb dX1_columnOfRest_50 rfl hl (by decide) rfl (fun ls hl => ?_)
            refine lv_iinc (v := x4 + 1) (lv' := [(4, .int (x4 + 1)), (3, .int x3_7), (5, .int x5), (0, .ref a_this), (1, .int x1)]) hx hb dX1_columnOfRest_51 hl (k := 4) rfl rfl (by decide) rfl (fun ls hl => ?_)
            refine lv_goto (tgt := 5) hx hb dX1_columnOfRest_54 (by decide) ?_
            exact ih5 x3_7 (x4 + 1) h _ _ _ (reP hP [1, 2, 0] rfl) (hD.sub [1, 2, 0] (by decide) rfl) hS (lv_sub hl [3, 4, 1, 0] rfl)
          · have h := h.2 k6
            refine lv_iload hx hb dX1_columnOfRest_43 (lv_at hl 4 rfl) ?_
            exact ret _ _ _ _ x4 () dX1_columnOfRest_45 h (reP hP [1, 2, 0] rfl) (hD.sub [1, 2, 0] (by decide) rfl) hS
  obtain ⟨n, h⟩ := h
  exact L5 n x2 0 h _ _ _ (reP hP [0, 1, 2] rfl) (hD.sub [0, 1, 2] (by decide) rfl) hS (lv_sub hl [2, 3, 1, 0] rfl)
/-! ### X1_write write(I[I)V -/
def rX1_write : Room := { frames := 2, cells := 0, slots := 0, locals := 47 }
def q_X1_write_L8 (g_columns : Int32) (g_open : Nat → Int32) (g_ways : Nat → Int32) (Q : (Nat → Int32) → Prop) : Nat → Int32 → Int32 → Int32 → (Nat → Int32) → Prop
  | 0 => fun _ _ _ _ => False
  | n + 1 => fun x3 x4 x5 g_p2 => (g_columns ≤ x5 → Q g_p2) ∧ (¬ g_columns ≤ x5 → q_X1_columnOfRest g_columns g_open g_ways x3 x4 (fun r2 => q_X1_rowsAhead g_open g_ways x3 r2 (fun r3 => ∀ x4_4 : Int32, x4_4 = (x4 - r3) → vp_in x5 8 ∧ ∀ x3_6 : Int32, x3_6 = (x3 ||| (1 <<< (r2 &&& 31))) → (q_X1_write_L8 g_columns g_open g_ways Q n) x3_6 x4_4 (x5 + 1) (upd g_p2 (Int32.toNatClampNeg x5) r2))))
def q_X1_write (g_columns : Int32) (g_open : Nat → Int32) (g_ways : Nat → Int32) (g_p2 : Nat → Int32) (x1 : Int32) (Q : (Nat → Int32) → Prop) : Prop :=
  ∃ N : Nat, q_X1_write_L8 g_columns g_open g_ways Q N 0 x1 0 g_p2
set_option maxRecDepth 100000 in
set_option maxHeartbeats 4000000 in
theorem c_X1_write (l : Launch) (dC : Nat → ClassId) (dI : Nat → Nat → Nat) (cI cZ : ClassId) (a_this a_open a_ways a_p2 : Nat) (z_full : Value) (g_columns : Int32) (g_open : Nat → Int32) (g_ways : Nat → Int32) (g_p2 : Nat → Int32) (x1 : Int32) (Q : (Nat → Int32) → Prop) (h : q_X1_write g_columns g_open g_ways g_p2 x1 Q) : MV l yX1_write wsX1_write rX1_write (dC, dI) [(cI, .int), (cZ, .boolean)] [.ref a_this, .int x1, .ref a_p2] [(a_this, .inr (1, [.ref a_open, .ref a_ways, .int g_columns, z_full])), (a_open, .inl (cI, 256, .inl g_open)), (a_ways, .inl (cI, 256, .inl g_ways)), (a_p2, .inl (cI, 8, .inl g_p2))] (fun u : (Nat → Int32) => Q u) (fun u : (Nat → Int32) => [(a_this, .inr (1, [.ref a_open, .ref a_ways, .int g_columns, z_full])), (a_open, .inl (cI, 256, .inl g_open)), (a_ways, .inl (cI, 256, .inl g_ways)), (a_p2, .inl (cI, 8, .inl u))]) := by
  refine MV.of (cc := cX1_write) (maxL := 7) (by decide +kernel) rfl (Nat.le_of_ble_eq_true rfl) ?_
  intro p e s m args below meth c A QQ ls hx hb hml hown hts hA hK hP hD hS hNW ret hl
  have hl : lv_has ls 7 [(0, .ref a_this), (1, .int x1), (2, .ref a_p2)] := hl
  have hown : s.vm.findClass RX1 = some m.cls := hown
  have in1 : ∀ w ∈ u_ws RX1 TX1 4, w ∈ wsX1_write := fun _ w9 => List.mem_cons_of_mem _ (List.mem_append_right _ w9)
  have f18 := hts (.fieldLink RX1 18 "OnesDesk$Rows" "columns" "I") (by decide +kernel)
  refine lv_iconst (v := 0) hx hb dX1_write_0 (by decide) ?_
  refine lv_istore_n (lv' := [(3, .int 0), (0, .ref a_this), (1, .int x1), (2, .ref a_p2)]) hx hb dX1_write_1 rfl hl (by decide) rfl (fun ls hl => ?_)
  refine lv_iload_n hx hb dX1_write_2 rfl (lv_at hl 2 rfl) ?_
  refine lv_istore (lv' := [(4, .int x1), (3, .int 0), (0, .ref a_this), (1, .int x1), (2, .ref a_p2)]) hx hb dX1_write_3 hl (by decide) rfl (fun ls hl => ?_)
  refine lv_iconst (v := 0) hx hb dX1_write_5 (by decide) ?_
  refine lv_istore (lv' := [(5, .int 0), (4, .int x1), (3, .int 0), (0, .ref a_this), (1, .int x1), (2, .ref a_p2)]) hx hb dX1_write_6 hl (by decide) rfl (fun ls hl => ?_)
  have L8 : ∀ (n8 : Nat), ∀ (x3 : Int32) (x4 : Int32) (x5 : Int32) (g_p2 : Nat → Int32), q_X1_write_L8 g_columns g_open g_ways Q n8 x3 x4 x5 g_p2 → ∀ (H : Heap) (locs : List Loc) (ls : Array Slot), va_P (dC, dI) vwCl [(a_this, .inr (1, [.ref a_open, .ref a_ways, .int g_columns, z_full])), (a_open, .inl (cI, 256, .inl g_open)), (a_ways, .inl (cI, 256, .inl g_ways)), (a_p2, .inl (cI, 8, .inl g_p2))] H → va_D A [(a_this, .inr (1, [.ref a_open, .ref a_ways, .int g_columns, z_full])), (a_open, .inl (cI, 256, .inl g_open)), (a_ways, .inl (cI, 256, .inl g_ways)), (a_p2, .inl (cI, 8, .inl g_p2))] → va_S A s.heap H locs → lv_has ls 7 [(0, .ref a_this), (2, .ref a_p2), (3, .int x3), (4, .int x4), (5, .int x5)] → W p l e rX1_write s m args below meth c H locs 0 0 QQ (F0 m 8 ls []) := by
    intro n8
    induction n8 with
    | zero => intro x3 x4 x5 g_p2 h; exact False.elim h
    | succ n8 ih8 =>
      intro x3 x4 x5 g_p2 h H locs ls hP hD hS hl
      refine lv_iload hx hb dX1_write_8 (lv_at hl 4 rfl) ?_
      refine lv_aload_n hx hb dX1_write_10 rfl (lv_at hl 0 rfl) ?_
      refine va_get (D := (dC, dI)) (ci := 1) (v := .int g_columns) (C := RX1) (T := TX1) (N := 4) hx hb hts in1 hown hK hP 0 rfl rfl 2 (by decide) f18 (fun _ h9 => h9) rfl dX1_write_11 ?_
      refine lv_icmp_ge (tgt := 57) hx hb dX1_write_14 (by decide) (fun k1 => ?_) (fun k1 => ?_)
      · have h := h.1 k1
        exact ret _ _ _ _ g_p2 dX1_write_57 h (reP hP [0, 1, 2, 3] rfl) (hD.sub [0, 1, 2, 3] (by decide) rfl) hS
      · have h := h.2 k1
        refine lv_aload_n hx hb dX1_write_17 rfl (lv_at hl 0 rfl) ?_
        refine lv_iload_n hx hb dX1_write_18 rfl (lv_at hl 2 rfl) ?_
        refine lv_iload hx hb dX1_write_19 (lv_at hl 3 rfl) ?_
        refine MI.callV (As := [.int x3, .int x4]) (rest := []) (wr := [(a_p2, .inl (cI, 8, .inl g_p2))]) (ci := 1) (q0 := 0) (c_X1_columnOfRest l dC dI cI cZ a_this a_open a_ways z_full g_columns g_open g_ways x3 x4 _ h) ⟨hx, hb, hml, hown, hts⟩ (cwV 2 hts gX1_write_X1_columnOfRest rfl rfl rfl (by decide +kernel) ⟨Nat.le_of_ble_eq_true rfl, Nat.le_of_ble_eq_true rfl⟩) hK hP hD hS hA hNW [0, 1, 2] [3] rfl rfl (by decide) (by decide) (by decide) rfl rfl rfl rfl hl.1 rfl (Nat.le_of_ble_eq_true rfl) dX1_write_21 ⟨Nat.zero_le _, Nat.zero_le _⟩ (fun r2 u H locs hw hP hD hS => ?_)
        have h := hw
        try dsimp only at h
        have hP : va_P (dC, dI) vwCl [(a_p2, .inl (cI, 8, .inl g_p2)), (a_this, .inr (1, [.ref a_open, .ref a_ways, .int g_columns, z_full])), (a_open, .inl (cI, 256, .inl g_open)), (a_ways, .inl (cI, 256, .inl g_ways))] H := hP
        have hD : va_D A [(a_p2, .inl (cI, 8, .inl g_p2)), (a_this, .inr (1, [.ref a_open, .ref a_ways, .int g_columns, z_full])), (a_open, .inl (cI, 256, .inl g_open)), (a_ways, .inl (cI, 256, .inl g_ways))] := hD
        refine lv_istore (lv' := [(6, .int r2), (0, .ref a_this), (2, .ref a_p2), (3, .int x3), (4, .int x4), (5, .int x5)]) hx hb dX1_write_24 hl (by decide) rfl (fun ls hl => ?_)
        refine lv_iload hx hb dX1_write_26 (lv_at hl 4 rfl) ?_
        refine lv_aload_n hx hb dX1_write_28 rfl (lv_at hl 1 rfl) ?_
        refine lv_iload_n hx hb dX1_write_29 rfl (lv_at hl 3 rfl) ?_
        refine lv_iload hx hb dX1_write_30 (lv_at hl 0 rfl) ?_
        refine MI.callV (As := [.int x3, .int r2]) (rest := [.int x4]) (wr := [(a_p2, .inl (cI, 8, .inl g_p2))]) (ci := 1) (q0 := 0) (c_X1_rowsAhead l dC dI cI cZ a_this a_open a_ways (.int g_columns) z_full g_open g_ways x3 r2 _ h) ⟨hx, hb, hml, hown, hts⟩ (cwV 2 hts gX1_write_X1_rowsAhead rfl rfl rfl (by decide +kernel) ⟨Nat.le_of_ble_eq_true rfl, Nat.le_of_ble_eq_true rfl⟩) hK hP hD hS hA hNW [1, 2, 3] [0] rfl rfl (by decide) (by decide) (by decide) rfl rfl rfl rfl hl.1 rfl (Nat.le_of_ble_eq_true rfl) dX1_write_32 ⟨Nat.zero_le _, Nat.zero_le _⟩ (fun r3 u H locs hw hP hD hS => ?_)
        have h := hw
        try dsimp only at h
        have hP : va_P (dC, dI) vwCl [(a_p2, .inl (cI, 8, .inl g_p2)), (a_this, .inr (1, [.ref a_open, .ref a_ways, .int g_columns, z_full])), (a_open, .inl (cI, 256, .inl g_open)), (a_ways, .inl (cI, 256, .inl g_ways))] H := hP
        have hD : va_D A [(a_p2, .inl (cI, 8, .inl g_p2)), (a_this, .inr (1, [.ref a_open, .ref a_ways, .int g_columns, z_full])), (a_open, .inl (cI, 256, .inl g_open)), (a_ways, .inl (cI, 256, .inl g_ways))] := hD
        refine lv_isub hx hb dX1_write_35 ?_
        refine lv_topi (fun x4_4 ex4_4 => ?_)
        have h := h x4_4 ex4_4
        refine lv_istore (lv' := [(4, .int x4_4), (6, .int r2), (0, .ref a_this), (2, .ref a_p2), (3, .int x3), (5, .int x5)]) hx hb dX1_write_36 hl (by decide) rfl (fun ls hl => ?_)
        refine lv_aload_n hx hb dX1_write_38 rfl (lv_at hl 3 rfl) ?_
        refine lv_iload hx hb dX1_write_39 (lv_at hl 5 rfl) ?_
        refine lv_iload hx hb dX1_write_41 (lv_at hl 1 rfl) ?_
        obtain ⟨hi5, h⟩ := h
        refine va_iast (D := (dC, dI)) hx hb hK hP hD hS 0 0 rfl rfl hi5 dX1_write_43 (fun H locs hP hD hS => ?_)
        have hP : va_P (dC, dI) vwCl [(a_p2, .inl (cI, 8, .inl (upd g_p2 (Int32.toNatClampNeg x5) r2))), (a_this, .inr (1, [.ref a_open, .ref a_ways, .int g_columns, z_full])), (a_open, .inl (cI, 256, .inl g_open)), (a_ways, .inl (cI, 256, .inl g_ways))] H := hP
        have hD : va_D A [(a_p2, .inl (cI, 8, .inl (upd g_p2 (Int32.toNatClampNeg x5) r2))), (a_this, .inr (1, [.ref a_open, .ref a_ways, .int g_columns, z_full])), (a_open, .inl (cI, 256, .inl g_open)), (a_ways, .inl (cI, 256, .inl g_ways))] := hD
        refine lv_iload_n hx hb dX1_write_44 rfl (lv_at hl 4 rfl) ?_
        refine lv_iconst (v := 1) hx hb dX1_write_45 (by decide) ?_
        refine lv_iload hx hb dX1_write_46 (lv_at hl 1 rfl) ?_
        refine lv_ishl hx hb dX1_write_48 ?_
        refine lv_ior hx hb dX1_write_49 ?_
        refine lv_topi (fun x3_6 ex3_6 => ?_)
        have h := h x3_6 ex3_6
        refine lv_istore_n (lv' := [(3, .int x3_6), (4, .int x4_4), (6, .int r2), (0, .ref a_this), (2, .ref a_p2), (5, .int x5)]) hx hb dX1_write_50 rfl hl (by decide) rfl (fun ls hl => ?_)
        refine lv_iinc (v := x5 + 1) (lv' := [(5, .int (x5 + 1)), (3, .int x3_6), (4, .int x4_4), (6, .int r2), (0, .ref a_this), (2, .ref a_p2)]) hx hb dX1_write_51 hl (k := 5) rfl rfl (by decide) rfl (fun ls hl => ?_)
        refine lv_goto (tgt := 8) hx hb dX1_write_54 (by decide) ?_
        exact ih8 x3_6 x4_4 (x5 + 1) (upd g_p2 (Int32.toNatClampNeg x5) r2) h _ _ _ (reP hP [1, 2, 3, 0] rfl) (hD.sub [1, 2, 3, 0] (by decide) rfl) hS (lv_sub hl [4, 5, 1, 2, 0] rfl)
  obtain ⟨n, h⟩ := h
  exact L8 n 0 x1 0 g_p2 h _ _ _ (reP hP [0, 1, 2, 3] rfl) (hD.sub [0, 1, 2, 3] (by decide) rfl) hS (lv_sub hl [3, 5, 2, 1, 0] rfl)
/-! ### X1_numberOf numberOf(I)I -/
def rX1_numberOf : Room := { frames := 2, cells := 0, slots := 0, locals := 46 }
def q_X1_numberOf_L30 (x1 : Int32) (g_columns : Int32) (g_open : Nat → Int32) (g_ways : Nat → Int32) (Q : Int32 → Prop) : Nat → Int32 → Int32 → Int32 → Prop
  | 0 => fun _ _ _ => False
  | n + 1 => fun x2 x3 x4 => (g_columns ≤ x4 → Q x3) ∧ (¬ g_columns ≤ x4 → ∀ x5 : Int32, x5 = (((Int32.toUInt32 x1 >>> (Int32.toUInt32 (4 * ((g_columns - 1) - x4)) &&& Int32.toUInt32 31)).toInt32) &&& 15) → q_X1_mayFollow g_open x2 x5 (fun b3 => (b3 = true → q_X1_rowsAhead g_open g_ways x2 x5 (fun r5 => ∀ x3_6 : Int32, x3_6 = (x3 + r5) → ∀ x2_7 : Int32, x2_7 = (x2 ||| (1 <<< (x5 &&& 31))) → (q_X1_numberOf_L30 x1 g_columns g_open g_ways Q n) x2_7 x3_6 (x4 + 1))) ∧ (b3 = false → Q (-9))))
def q_X1_numberOf_J23 (x1 : Int32) (g_columns : Int32) (g_open : Nat → Int32) (g_ways : Nat → Int32) (Q : Int32 → Prop) : Prop :=
  ∃ N : Nat, q_X1_numberOf_L30 x1 g_columns g_open g_ways Q N 0 0 0
def q_X1_numberOf (g_columns : Int32) (g_open : Nat → Int32) (g_ways : Nat → Int32) (x1 : Int32) (Q : Int32 → Prop) : Prop :=
  (8 ≤ g_columns → q_X1_numberOf_J23 x1 g_columns g_open g_ways Q) ∧ (¬ 8 ≤ g_columns → (((Int32.toUInt32 x1 >>> (Int32.toUInt32 (4 * g_columns) &&& Int32.toUInt32 31)).toInt32) = 0 → q_X1_numberOf_J23 x1 g_columns g_open g_ways Q) ∧ (¬ ((Int32.toUInt32 x1 >>> (Int32.toUInt32 (4 * g_columns) &&& Int32.toUInt32 31)).toInt32) = 0 → Q (-9)))
set_option maxRecDepth 100000 in
set_option maxHeartbeats 4000000 in
theorem c_X1_numberOf (l : Launch) (dC : Nat → ClassId) (dI : Nat → Nat → Nat) (cI cZ : ClassId) (a_this a_open a_ways : Nat) (z_full : Value) (g_columns : Int32) (g_open : Nat → Int32) (g_ways : Nat → Int32) (x1 : Int32) (Q : Int32 → Prop) (h : q_X1_numberOf g_columns g_open g_ways x1 Q) : MI l yX1_numberOf wsX1_numberOf rX1_numberOf (dC, dI) [(cI, .int), (cZ, .boolean)] [.ref a_this, .int x1] [(a_this, .inr (1, [.ref a_open, .ref a_ways, .int g_columns, z_full])), (a_open, .inl (cI, 256, .inl g_open)), (a_ways, .inl (cI, 256, .inl g_ways))] (fun (r : Int32) (u : Unit) => Q r) (fun u : Unit => [(a_this, .inr (1, [.ref a_open, .ref a_ways, .int g_columns, z_full])), (a_open, .inl (cI, 256, .inl g_open)), (a_ways, .inl (cI, 256, .inl g_ways))]) := by
  refine MI.of (cc := cX1_numberOf) (maxL := 6) (by decide +kernel) rfl (Nat.le_of_ble_eq_true rfl) ?_
  intro p e s m args below meth c A QQ ls hx hb hml hown hts hA hK hP hD hS hNW ret hl
  have hl : lv_has ls 6 [(0, .ref a_this), (1, .int x1)] := hl
  have hown : s.vm.findClass RX1 = some m.cls := hown
  have in1 : ∀ w ∈ u_ws RX1 TX1 4, w ∈ wsX1_numberOf := fun _ w9 => List.mem_cons_of_mem _ (List.mem_append_right _ w9)
  have f18 := hts (.fieldLink RX1 18 "OnesDesk$Rows" "columns" "I") (by decide +kernel)
  refine lv_aload_n hx hb dX1_numberOf_0 rfl (lv_at hl 0 rfl) ?_
  refine va_get (D := (dC, dI)) (ci := 1) (v := .int g_columns) (C := RX1) (T := TX1) (N := 4) hx hb hts in1 hown hK hP 0 rfl rfl 2 (by decide) f18 (fun _ h9 => h9) rfl dX1_numberOf_1 ?_
  refine lv_bipush (v := 8) hx hb dX1_numberOf_4 (by decide) ?_
  have J23 : q_X1_numberOf_J23 x1 g_columns g_open g_ways Q → ∀ (H : Heap) (locs : List Loc) (ls : Array Slot), va_P (dC, dI) vwCl [(a_this, .inr (1, [.ref a_open, .ref a_ways, .int g_columns, z_full])), (a_open, .inl (cI, 256, .inl g_open)), (a_ways, .inl (cI, 256, .inl g_ways))] H → va_D A [(a_this, .inr (1, [.ref a_open, .ref a_ways, .int g_columns, z_full])), (a_open, .inl (cI, 256, .inl g_open)), (a_ways, .inl (cI, 256, .inl g_ways))] → va_S A s.heap H locs → lv_has ls 6 [(0, .ref a_this), (1, .int x1)] → W p l e rX1_numberOf s m args below meth c H locs 0 0 QQ (F0 m 23 ls []) := by
    intro  h H locs ls hP hD hS hl
    refine lv_iconst (v := 0) hx hb dX1_numberOf_23 (by decide) ?_
    refine lv_istore_n (lv' := [(2, .int 0), (0, .ref a_this), (1, .int x1)]) hx hb dX1_numberOf_24 rfl hl (by decide) rfl (fun ls hl => ?_)
    refine lv_iconst (v := 0) hx hb dX1_numberOf_25 (by decide) ?_
    refine lv_istore_n (lv' := [(3, .int 0), (2, .int 0), (0, .ref a_this), (1, .int x1)]) hx hb dX1_numberOf_26 rfl hl (by decide) rfl (fun ls hl => ?_)
    refine lv_iconst (v := 0) hx hb dX1_numberOf_27 (by decide) ?_
    refine lv_istore (lv' := [(4, .int 0), (3, .int 0), (2, .int 0), (0, .ref a_this), (1, .int x1)]) hx hb dX1_numberOf_28 hl (by decide) rfl (fun ls hl => ?_)
    have L30 : ∀ (n30 : Nat), ∀ (x2 : Int32) (x3 : Int32) (x4 : Int32), q_X1_numberOf_L30 x1 g_columns g_open g_ways Q n30 x2 x3 x4 → ∀ (H : Heap) (locs : List Loc) (ls : Array Slot), va_P (dC, dI) vwCl [(a_this, .inr (1, [.ref a_open, .ref a_ways, .int g_columns, z_full])), (a_open, .inl (cI, 256, .inl g_open)), (a_ways, .inl (cI, 256, .inl g_ways))] H → va_D A [(a_this, .inr (1, [.ref a_open, .ref a_ways, .int g_columns, z_full])), (a_open, .inl (cI, 256, .inl g_open)), (a_ways, .inl (cI, 256, .inl g_ways))] → va_S A s.heap H locs → lv_has ls 6 [(0, .ref a_this), (1, .int x1), (2, .int x2), (3, .int x3), (4, .int x4)] → W p l e rX1_numberOf s m args below meth c H locs 0 0 QQ (F0 m 30 ls []) := by
      intro n30
      induction n30 with
      | zero => intro x2 x3 x4 h; exact False.elim h
      | succ n30 ih30 =>
        intro x2 x3 x4 h H locs ls hP hD hS hl
        refine lv_iload hx hb dX1_numberOf_30 (lv_at hl 4 rfl) ?_
        refine lv_aload_n hx hb dX1_numberOf_32 rfl (lv_at hl 0 rfl) ?_
        refine va_get (D := (dC, dI)) (ci := 1) (v := .int g_columns) (C := RX1) (T := TX1) (N := 4) hx hb hts in1 hown hK hP 0 rfl rfl 2 (by decide) f18 (fun _ h9 => h9) rfl dX1_numberOf_33 ?_
        refine lv_icmp_ge (tgt := 93) hx hb dX1_numberOf_36 (by decide) (fun k1 => ?_) (fun k1 => ?_)
        · have h := h.1 k1
          refine lv_iload_n hx hb dX1_numberOf_93 rfl (lv_at hl 3 rfl) ?_
          exact ret _ _ _ _ x3 () dX1_numberOf_94 h (reP hP [0, 1, 2] rfl) (hD.sub [0, 1, 2] (by decide) rfl) hS
        · have h := h.2 k1
          refine lv_iload_n hx hb dX1_numberOf_39 rfl (lv_at hl 1 rfl) ?_
          refine lv_iconst (v := 4) hx hb dX1_numberOf_40 (by decide) ?_
          refine lv_aload_n hx hb dX1_numberOf_41 rfl (lv_at hl 0 rfl) ?_
          refine va_get (D := (dC, dI)) (ci := 1) (v := .int g_columns) (C := RX1) (T := TX1) (N := 4) hx hb hts in1 hown hK hP 0 rfl rfl 2 (by decide) f18 (fun _ h9 => h9) rfl dX1_numberOf_42 ?_
          refine lv_iconst (v := 1) hx hb dX1_numberOf_45 (by decide) ?_
          refine lv_isub hx hb dX1_numberOf_46 ?_
          refine lv_iload hx hb dX1_numberOf_47 (lv_at hl 4 rfl) ?_
          refine lv_isub hx hb dX1_numberOf_49 ?_
          refine lv_imul hx hb dX1_numberOf_50 ?_
          refine lv_iushr (v := (Int32.toUInt32 x1 >>> (Int32.toUInt32 (4 * ((g_columns - 1) - x4)) &&& Int32.toUInt32 31)).toInt32) hx hb dX1_numberOf_51 rfl ?_
          refine lv_bipush (v := 15) hx hb dX1_numberOf_52 (by decide) ?_
          refine lv_iand hx hb dX1_numberOf_54 ?_
          refine lv_topi (fun x5 ex5 => ?_)
          have h := h x5 ex5
          refine lv_istore (lv' := [(5, .int x5), (0, .ref a_this), (1, .int x1), (2, .int x2), (3, .int x3), (4, .int x4)]) hx hb dX1_numberOf_55 hl (by decide) rfl (fun ls hl => ?_)
          refine lv_aload_n hx hb dX1_numberOf_57 rfl (lv_at hl 1 rfl) ?_
          refine lv_iload_n hx hb dX1_numberOf_58 rfl (lv_at hl 3 rfl) ?_
          refine lv_iload hx hb dX1_numberOf_59 (lv_at hl 0 rfl) ?_
          refine MI.callV (As := [.int x2, .int x5]) (rest := []) (wr := [(a_ways, .inl (cI, 256, .inl g_ways))]) (ci := 1) (q0 := 0) (c_X1_mayFollow l dC dI cI cZ a_this a_open (.ref a_ways) (.int g_columns) z_full g_open x2 x5 _ h) ⟨hx, hb, hml, hown, hts⟩ (cwV 2 hts gX1_numberOf_X1_mayFollow rfl rfl rfl (by decide +kernel) ⟨Nat.le_of_ble_eq_true rfl, Nat.le_of_ble_eq_true rfl⟩) hK hP hD hS hA hNW [0, 1] [2] rfl rfl (by decide) (by decide) (by decide) rfl rfl rfl rfl hl.1 rfl (Nat.le_of_ble_eq_true rfl) dX1_numberOf_61 ⟨Nat.zero_le _, Nat.zero_le _⟩ (fun r2 u H locs hw hP hD hS => ?_)
          obtain ⟨b3, rfl, hw⟩ := hw
          have h := hw
          try dsimp only at h
          have hP : va_P (dC, dI) vwCl [(a_ways, .inl (cI, 256, .inl g_ways)), (a_this, .inr (1, [.ref a_open, .ref a_ways, .int g_columns, z_full])), (a_open, .inl (cI, 256, .inl g_open))] H := hP
          have hD : va_D A [(a_ways, .inl (cI, 256, .inl g_ways)), (a_this, .inr (1, [.ref a_open, .ref a_ways, .int g_columns, z_full])), (a_open, .inl (cI, 256, .inl g_open))] := hD
          refine lv_if_ne (tgt := 70) hx hb dX1_numberOf_64 (by decide) (fun k4 => ?_) (fun k4 => ?_)
          · have h := h.1 (bI_1 k4)
            refine lv_iload_n hx hb dX1_numberOf_70 rfl (lv_at hl 4 rfl) ?_
            refine lv_aload_n hx hb dX1_numberOf_71 rfl (lv_at hl 1 rfl) ?_
            refine lv_iload_n hx hb dX1_numberOf_72 rfl (lv_at hl 3 rfl) ?_
            refine lv_iload hx hb dX1_numberOf_73 (lv_at hl 0 rfl) ?_
            refine MI.callV (As := [.int x2, .int x5]) (rest := [.int x3]) (wr := []) (ci := 1) (q0 := 0) (c_X1_rowsAhead l dC dI cI cZ a_this a_open a_ways (.int g_columns) z_full g_open g_ways x2 x5 _ h) ⟨hx, hb, hml, hown, hts⟩ (cwV 2 hts gX1_numberOf_X1_rowsAhead rfl rfl rfl (by decide +kernel) ⟨Nat.le_of_ble_eq_true rfl, Nat.le_of_ble_eq_true rfl⟩) hK hP hD hS hA hNW [1, 2, 0] [] rfl rfl (by decide) (by decide) (by decide) rfl rfl rfl rfl hl.1 rfl (Nat.le_of_ble_eq_true rfl) dX1_numberOf_75 ⟨Nat.zero_le _, Nat.zero_le _⟩ (fun r5 u H locs hw hP hD hS => ?_)
            have h := hw
            try dsimp only at h
            have hP : va_P (dC, dI) vwCl [(a_this, .inr (1, [.ref a_open, .ref a_ways, .int g_columns, z_full])), (a_open, .inl (cI, 256, .inl g_open)), (a_ways, .inl (cI, 256, .inl g_ways))] H := hP
            have hD : va_D A [(a_this, .inr (1, [.ref a_open, .ref a_ways, .int g_columns, z_full])), (a_open, .inl (cI, 256, .inl g_open)), (a_ways, .inl (cI, 256, .inl g_ways))] := hD
            refine lv_iadd hx hb dX1_numberOf_78 ?_
            refine lv_topi (fun x3_6 ex3_6 => ?_)
            have h := h x3_6 ex3_6
            refine lv_istore_n (lv' := [(3, .int x3_6), (5, .int x5), (0, .ref a_this), (1, .int x1), (2, .int x2), (4, .int x4)]) hx hb dX1_numberOf_79 rfl hl (by decide) rfl (fun ls hl => ?_)
            refine lv_iload_n hx hb dX1_numberOf_80 rfl (lv_at hl 4 rfl) ?_
            refine lv_iconst (v := 1) hx hb dX1_numberOf_81 (by decide) ?_
            refine lv_iload hx hb dX1_numberOf_82 (lv_at hl 1 rfl) ?_
            refine lv_ishl hx hb dX1_numberOf_84 ?_
            refine lv_ior hx hb dX1_numberOf_85 ?_
            refine lv_topi (fun x2_7 ex2_7 => ?_)
            have h := h x2_7 ex2_7
            refine lv_istore_n (lv' := [(2, .int x2_7), (3, .int x3_6), (5, .int x5), (0, .ref a_this), (1, .int x1), (4, .int x4)]) hx hb dX1_numberOf_86 rfl hl (by decide) rfl (fun ls hl => ?_)
            refine lv_iinc (v := x4 + 1) (lv' := [(4, .int (x4 + 1)), (2, .int x2_7), (3, .int x3_6), (5, .int x5), (0, .ref a_this), (1, .int x1)]) hx hb dX1_numberOf_87 hl (k := 5) rfl rfl (by decide) rfl (fun ls hl => ?_)
            refine lv_goto (tgt := 30) hx hb dX1_numberOf_90 (by decide) ?_
            exact ih30 x2_7 x3_6 (x4 + 1) h _ _ _ (reP hP [0, 1, 2] rfl) (hD.sub [0, 1, 2] (by decide) rfl) hS (lv_sub hl [4, 5, 1, 2, 0] rfl)
          · have h := h.2 (bI_0 k4)
            refine lv_bipush (v := (-9)) hx hb dX1_numberOf_67 (by decide) ?_
            exact ret _ _ _ _ (-9) () dX1_numberOf_69 h (reP hP [1, 2, 0] rfl) (hD.sub [1, 2, 0] (by decide) rfl) hS
    obtain ⟨n, h⟩ := h
    exact L30 n 0 0 0 h _ _ _ (reP hP [0, 1, 2] rfl) (hD.sub [0, 1, 2] (by decide) rfl) hS (lv_sub hl [3, 4, 2, 1, 0] rfl)
  refine lv_icmp_ge (tgt := 23) hx hb dX1_numberOf_6 (by decide) (fun k1 => ?_) (fun k1 => ?_)
  · have h := h.1 k1
    exact J23 h _ _ _ (reP hP [0, 1, 2] rfl) (hD.sub [0, 1, 2] (by decide) rfl) hS (lv_sub hl [0, 1] rfl)
  · have h := h.2 k1
    refine lv_iload_n hx hb dX1_numberOf_9 rfl (lv_at hl 1 rfl) ?_
    refine lv_iconst (v := 4) hx hb dX1_numberOf_10 (by decide) ?_
    refine lv_aload_n hx hb dX1_numberOf_11 rfl (lv_at hl 0 rfl) ?_
    refine va_get (D := (dC, dI)) (ci := 1) (v := .int g_columns) (C := RX1) (T := TX1) (N := 4) hx hb hts in1 hown hK hP 0 rfl rfl 2 (by decide) f18 (fun _ h9 => h9) rfl dX1_numberOf_12 ?_
    refine lv_imul hx hb dX1_numberOf_15 ?_
    refine lv_iushr (v := (Int32.toUInt32 x1 >>> (Int32.toUInt32 (4 * g_columns) &&& Int32.toUInt32 31)).toInt32) hx hb dX1_numberOf_16 rfl ?_
    refine lv_if_eq (tgt := 23) hx hb dX1_numberOf_17 (by decide) (fun k2 => ?_) (fun k2 => ?_)
    · have h := h.1 k2
      exact J23 h _ _ _ (reP hP [0, 1, 2] rfl) (hD.sub [0, 1, 2] (by decide) rfl) hS (lv_sub hl [0, 1] rfl)
    · have h := h.2 k2
      refine lv_bipush (v := (-9)) hx hb dX1_numberOf_20 (by decide) ?_
      exact ret _ _ _ _ (-9) () dX1_numberOf_22 h (reP hP [0, 1, 2] rfl) (hD.sub [0, 1, 2] (by decide) rfl) hS
/-! ### X1_distanceBehind distanceBehind(IZ)I -/
def rX1_distanceBehind : Room := { frames := 1, cells := 0, slots := 0, locals := 22 }
def q_X1_distanceBehind_L6 (x1 : Int32) (x2 : Int32) (g_columns : Int32) (g_open : Nat → Int32) (g_ways : Nat → Int32) (Q : Int32 → Prop) : Nat → Int32 → Int32 → Prop
  | 0 => fun _ _ => False
  | n + 1 => fun x3 x4 => (g_columns ≤ x4 → Q x3) ∧ (¬ g_columns ≤ x4 → q_X1_mayFollow g_open x1 x4 (fun b3 => (b3 = false → (q_X1_distanceBehind_L6 x1 x2 g_columns g_open g_ways Q n) x3 (x4 + 1)) ∧ (b3 = true → vp_in (x1 ||| (1 <<< (x4 &&& 31))) 256 ∧ ∀ x5 : Int32, x5 = (g_ways (Int32.toNatClampNeg (x1 ||| (1 <<< (x4 &&& 31))))) → (x3 = (-9) → (q_X1_distanceBehind_L6 x1 x2 g_columns g_open g_ways Q n) x5 (x4 + 1)) ∧ (¬ x3 = (-9) → (x2 = 0 → (x5 ≤ x3 → (q_X1_distanceBehind_L6 x1 x2 g_columns g_open g_ways Q n) x3 (x4 + 1)) ∧ (¬ x5 ≤ x3 → (q_X1_distanceBehind_L6 x1 x2 g_columns g_open g_ways Q n) x5 (x4 + 1))) ∧ (¬ x2 = 0 → (x3 ≤ x5 → (q_X1_distanceBehind_L6 x1 x2 g_columns g_open g_ways Q n) x3 (x4 + 1)) ∧ (¬ x3 ≤ x5 → (q_X1_distanceBehind_L6 x1 x2 g_columns g_open g_ways Q n) x5 (x4 + 1)))))))
def q_X1_distanceBehind (g_columns : Int32) (g_open : Nat → Int32) (g_ways : Nat → Int32) (x1 : Int32) (x2 : Int32) (Q : Int32 → Prop) : Prop :=
  ∃ N : Nat, q_X1_distanceBehind_L6 x1 x2 g_columns g_open g_ways Q N (-9) 0
set_option maxRecDepth 100000 in
set_option maxHeartbeats 4000000 in
theorem c_X1_distanceBehind (l : Launch) (dC : Nat → ClassId) (dI : Nat → Nat → Nat) (cI cZ : ClassId) (a_this a_open a_ways : Nat) (z_full : Value) (g_columns : Int32) (g_open : Nat → Int32) (g_ways : Nat → Int32) (x1 : Int32) (x2 : Int32) (Q : Int32 → Prop) (h : q_X1_distanceBehind g_columns g_open g_ways x1 x2 Q) : MI l yX1_distanceBehind wsX1_distanceBehind rX1_distanceBehind (dC, dI) [(cI, .int), (cZ, .boolean)] [.ref a_this, .int x1, .int x2] [(a_this, .inr (1, [.ref a_open, .ref a_ways, .int g_columns, z_full])), (a_open, .inl (cI, 256, .inl g_open)), (a_ways, .inl (cI, 256, .inl g_ways))] (fun (r : Int32) (u : Unit) => Q r) (fun u : Unit => [(a_this, .inr (1, [.ref a_open, .ref a_ways, .int g_columns, z_full])), (a_open, .inl (cI, 256, .inl g_open)), (a_ways, .inl (cI, 256, .inl g_ways))]) := by
  refine MI.of (cc := cX1_distanceBehind) (maxL := 6) (by decide +kernel) rfl (Nat.le_of_ble_eq_true rfl) ?_
  intro p e s m args below meth c A QQ ls hx hb hml hown hts hA hK hP hD hS hNW ret hl
  have hl : lv_has ls 6 [(0, .ref a_this), (1, .int x1), (2, .int x2)] := hl
  have hown : s.vm.findClass RX1 = some m.cls := hown
  have in1 : ∀ w ∈ u_ws RX1 TX1 4, w ∈ wsX1_distanceBehind := fun _ w9 => List.mem_cons_of_mem _ (List.mem_append_right _ w9)
  have f15 := hts (.fieldLink RX1 15 "OnesDesk$Rows" "ways" "[I") (by decide +kernel)
  have f18 := hts (.fieldLink RX1 18 "OnesDesk$Rows" "columns" "I") (by decide +kernel)
  refine lv_bipush (v := (-9)) hx hb dX1_distanceBehind_0 (by decide) ?_
  refine lv_istore_n (lv' := [(3, .int (-9)), (0, .ref a_this), (1, .int x1), (2, .int x2)]) hx hb dX1_distanceBehind_2 rfl hl (by decide) rfl (fun ls hl => ?_)
  refine lv_iconst (v := 0) hx hb dX1_distanceBehind_3 (by decide) ?_
  refine lv_istore (lv' := [(4, .int 0), (3, .int (-9)), (0, .ref a_this), (1, .int x1), (2, .int x2)]) hx hb dX1_distanceBehind_4 hl (by decide) rfl (fun ls hl => ?_)
  have L6 : ∀ (n6 : Nat), ∀ (x3 : Int32) (x4 : Int32), q_X1_distanceBehind_L6 x1 x2 g_columns g_open g_ways Q n6 x3 x4 → ∀ (H : Heap) (locs : List Loc) (ls : Array Slot), va_P (dC, dI) vwCl [(a_this, .inr (1, [.ref a_open, .ref a_ways, .int g_columns, z_full])), (a_open, .inl (cI, 256, .inl g_open)), (a_ways, .inl (cI, 256, .inl g_ways))] H → va_D A [(a_this, .inr (1, [.ref a_open, .ref a_ways, .int g_columns, z_full])), (a_open, .inl (cI, 256, .inl g_open)), (a_ways, .inl (cI, 256, .inl g_ways))] → va_S A s.heap H locs → lv_has ls 6 [(0, .ref a_this), (1, .int x1), (2, .int x2), (3, .int x3), (4, .int x4)] → W p l e rX1_distanceBehind s m args below meth c H locs 0 0 QQ (F0 m 6 ls []) := by
    intro n6
    induction n6 with
    | zero => intro x3 x4 h; exact False.elim h
    | succ n6 ih6 =>
      intro x3 x4 h H locs ls hP hD hS hl
      refine lv_iload hx hb dX1_distanceBehind_6 (lv_at hl 4 rfl) ?_
      refine lv_aload_n hx hb dX1_distanceBehind_8 rfl (lv_at hl 0 rfl) ?_
      refine va_get (D := (dC, dI)) (ci := 1) (v := .int g_columns) (C := RX1) (T := TX1) (N := 4) hx hb hts in1 hown hK hP 0 rfl rfl 2 (by decide) f18 (fun _ h9 => h9) rfl dX1_distanceBehind_9 ?_
      refine lv_icmp_ge (tgt := 72) hx hb dX1_distanceBehind_12 (by decide) (fun k1 => ?_) (fun k1 => ?_)
      · have h := h.1 k1
        refine lv_iload_n hx hb dX1_distanceBehind_72 rfl (lv_at hl 3 rfl) ?_
        exact ret _ _ _ _ x3 () dX1_distanceBehind_73 h (reP hP [0, 1, 2] rfl) (hD.sub [0, 1, 2] (by decide) rfl) hS
      · have h := h.2 k1
        refine lv_aload_n hx hb dX1_distanceBehind_15 rfl (lv_at hl 0 rfl) ?_
        refine lv_iload_n hx hb dX1_distanceBehind_16 rfl (lv_at hl 1 rfl) ?_
        refine lv_iload hx hb dX1_distanceBehind_17 (lv_at hl 4 rfl) ?_
        refine MI.callV (As := [.int x1, .int x4]) (rest := []) (wr := [(a_ways, .inl (cI, 256, .inl g_ways))]) (ci := 1) (q0 := 0) (c_X1_mayFollow l dC dI cI cZ a_this a_open (.ref a_ways) (.int g_columns) z_full g_open x1 x4 _ h) ⟨hx, hb, hml, hown, hts⟩ (cwV 2 hts gX1_distanceBehind_X1_mayFollow rfl rfl rfl (by decide +kernel) ⟨Nat.le_of_ble_eq_true rfl, Nat.le_of_ble_eq_true rfl⟩) hK hP hD hS hA hNW [0, 1] [2] rfl rfl (by decide) (by decide) (by decide) rfl rfl rfl rfl hl.1 rfl (Nat.le_of_ble_eq_true rfl) dX1_distanceBehind_19 ⟨Nat.zero_le _, Nat.zero_le _⟩ (fun r2 u H locs hw hP hD hS => ?_)
        obtain ⟨b3, rfl, hw⟩ := hw
        have h := hw
        try dsimp only at h
        have hP : va_P (dC, dI) vwCl [(a_ways, .inl (cI, 256, .inl g_ways)), (a_this, .inr (1, [.ref a_open, .ref a_ways, .int g_columns, z_full])), (a_open, .inl (cI, 256, .inl g_open))] H := hP
        have hD : va_D A [(a_ways, .inl (cI, 256, .inl g_ways)), (a_this, .inr (1, [.ref a_open, .ref a_ways, .int g_columns, z_full])), (a_open, .inl (cI, 256, .inl g_open))] := hD
        refine lv_if_eq (tgt := 66) hx hb dX1_distanceBehind_22 (by decide) (fun k4 => ?_) (fun k4 => ?_)
        · have h := h.1 (bI_0 k4)
          refine lv_iinc (v := x4 + 1) (lv' := [(4, .int (x4 + 1)), (0, .ref a_this), (1, .int x1), (2, .int x2), (3, .int x3)]) hx hb dX1_distanceBehind_66 hl (k := 4) rfl rfl (by decide) rfl (fun ls hl => ?_)
          refine lv_goto (tgt := 6) hx hb dX1_distanceBehind_69 (by decide) ?_
          exact ih6 x3 (x4 + 1) h _ _ _ (reP hP [1, 2, 0] rfl) (hD.sub [1, 2, 0] (by decide) rfl) hS (lv_sub hl [1, 2, 3, 4, 0] rfl)
        · have h := h.2 (bI_1 k4)
          refine lv_aload_n hx hb dX1_distanceBehind_25 rfl (lv_at hl 0 rfl) ?_
          refine va_get (D := (dC, dI)) (ci := 1) (v := .ref a_ways) (C := RX1) (T := TX1) (N := 4) hx hb hts in1 hown hK hP 1 rfl rfl 1 (by decide) f15 (fun _ h9 => h9) rfl dX1_distanceBehind_26 ?_
          refine lv_iload_n hx hb dX1_distanceBehind_29 rfl (lv_at hl 1 rfl) ?_
          refine lv_iconst (v := 1) hx hb dX1_distanceBehind_30 (by decide) ?_
          refine lv_iload hx hb dX1_distanceBehind_31 (lv_at hl 4 rfl) ?_
          refine lv_ishl hx hb dX1_distanceBehind_33 ?_
          refine lv_ior hx hb dX1_distanceBehind_34 ?_
          obtain ⟨hi5, h⟩ := h
          refine va_iald (D := (dC, dI)) hx hb hK hP 0 0 rfl rfl hi5 dX1_distanceBehind_35 ?_
          refine lv_topi (fun x5 ex5 => ?_)
          have h := h x5 ex5
          refine lv_istore (lv' := [(5, .int x5), (0, .ref a_this), (1, .int x1), (2, .int x2), (3, .int x3), (4, .int x4)]) hx hb dX1_distanceBehind_36 hl (by decide) rfl (fun ls hl => ?_)
          refine lv_iload_n hx hb dX1_distanceBehind_38 rfl (lv_at hl 4 rfl) ?_
          refine lv_bipush (v := (-9)) hx hb dX1_distanceBehind_39 (by decide) ?_
          refine lv_icmp_eq (tgt := 63) hx hb dX1_distanceBehind_41 (by decide) (fun k6 => ?_) (fun k6 => ?_)
          · have h := h.1 k6
            refine lv_iload hx hb dX1_distanceBehind_63 (lv_at hl 0 rfl) ?_
            refine lv_istore_n (lv' := [(3, .int x5), (5, .int x5), (0, .ref a_this), (1, .int x1), (2, .int x2), (4, .int x4)]) hx hb dX1_distanceBehind_65 rfl hl (by decide) rfl (fun ls hl => ?_)
            refine lv_iinc (v := x4 + 1) (lv' := [(4, .int (x4 + 1)), (3, .int x5), (5, .int x5), (0, .ref a_this), (1, .int x1), (2, .int x2)]) hx hb dX1_distanceBehind_66 hl (k := 5) rfl rfl (by decide) rfl (fun ls hl => ?_)
            refine lv_goto (tgt := 6) hx hb dX1_distanceBehind_69 (by decide) ?_
            exact ih6 x5 (x4 + 1) h _ _ _ (reP hP [1, 2, 0] rfl) (hD.sub [1, 2, 0] (by decide) rfl) hS (lv_sub hl [3, 4, 5, 1, 0] rfl)
          · have h := h.2 k6
            refine lv_iload_n hx hb dX1_distanceBehind_44 rfl (lv_at hl 3 rfl) ?_
            refine lv_if_eq (tgt := 57) hx hb dX1_distanceBehind_45 (by decide) (fun k7 => ?_) (fun k7 => ?_)
            · have h := h.1 k7
              refine lv_iload hx hb dX1_distanceBehind_57 (lv_at hl 0 rfl) ?_
              refine lv_iload_n hx hb dX1_distanceBehind_59 rfl (lv_at hl 4 rfl) ?_
              refine lv_icmp_le (tgt := 66) hx hb dX1_distanceBehind_60 (by decide) (fun k8 => ?_) (fun k8 => ?_)
              · have h := h.1 k8
                refine lv_iinc (v := x4 + 1) (lv' := [(4, .int (x4 + 1)), (5, .int x5), (0, .ref a_this), (1, .int x1), (2, .int x2), (3, .int x3)]) hx hb dX1_distanceBehind_66 hl (k := 5) rfl rfl (by decide) rfl (fun ls hl => ?_)
                refine lv_goto (tgt := 6) hx hb dX1_distanceBehind_69 (by decide) ?_
                exact ih6 x3 (x4 + 1) h _ _ _ (reP hP [1, 2, 0] rfl) (hD.sub [1, 2, 0] (by decide) rfl) hS (lv_sub hl [2, 3, 4, 5, 0] rfl)
              · have h := h.2 k8
                refine lv_iload hx hb dX1_distanceBehind_63 (lv_at hl 0 rfl) ?_
                refine lv_istore_n (lv' := [(3, .int x5), (5, .int x5), (0, .ref a_this), (1, .int x1), (2, .int x2), (4, .int x4)]) hx hb dX1_distanceBehind_65 rfl hl (by decide) rfl (fun ls hl => ?_)
                refine lv_iinc (v := x4 + 1) (lv' := [(4, .int (x4 + 1)), (3, .int x5), (5, .int x5), (0, .ref a_this), (1, .int x1), (2, .int x2)]) hx hb dX1_distanceBehind_66 hl (k := 5) rfl rfl (by decide) rfl (fun ls hl => ?_)
                refine lv_goto (tgt := 6) hx hb dX1_distanceBehind_69 (by decide) ?_
                exact ih6 x5 (x4 + 1) h _ _ _ (reP hP [1, 2, 0] rfl) (hD.sub [1, 2, 0] (by decide) rfl) hS (lv_sub hl [3, 4, 5, 1, 0] rfl)
            · have h := h.2 k7
              refine lv_iload hx hb dX1_distanceBehind_48 (lv_at hl 0 rfl) ?_
              refine lv_iload_n hx hb dX1_distanceBehind_50 rfl (lv_at hl 4 rfl) ?_
              refine lv_icmp_ge (tgt := 66) hx hb dX1_distanceBehind_51 (by decide) (fun k9 => ?_) (fun k9 => ?_)
              · have h := h.1 k9
                refine lv_iinc (v := x4 + 1) (lv' := [(4, .int (x4 + 1)), (5, .int x5), (0, .ref a_this), (1, .int x1), (2, .int x2), (3, .int x3)]) hx hb dX1_distanceBehind_66 hl (k := 5) rfl rfl (by decide) rfl (fun ls hl => ?_)
                refine lv_goto (tgt := 6) hx hb dX1_distanceBehind_69 (by decide) ?_
                exact ih6 x3 (x4 + 1) h _ _ _ (reP hP [1, 2, 0] rfl) (hD.sub [1, 2, 0] (by decide) rfl) hS (lv_sub hl [2, 3, 4, 5, 0] rfl)
              · have h := h.2 k9
                refine lv_goto (tgt := 63) hx hb dX1_distanceBehind_54 (by decide) ?_
                refine lv_iload hx hb dX1_distanceBehind_63 (lv_at hl 0 rfl) ?_
                refine lv_istore_n (lv' := [(3, .int x5), (5, .int x5), (0, .ref a_this), (1, .int x1), (2, .int x2), (4, .int x4)]) hx hb dX1_distanceBehind_65 rfl hl (by decide) rfl (fun ls hl => ?_)
                refine lv_iinc (v := x4 + 1) (lv' := [(4, .int (x4 + 1)), (3, .int x5), (5, .int x5), (0, .ref a_this), (1, .int x1), (2, .int x2)]) hx hb dX1_distanceBehind_66 hl (k := 5) rfl rfl (by decide) rfl (fun ls hl => ?_)
                refine lv_goto (tgt := 6) hx hb dX1_distanceBehind_69 (by decide) ?_
                exact ih6 x5 (x4 + 1) h _ _ _ (reP hP [1, 2, 0] rfl) (hD.sub [1, 2, 0] (by decide) rfl) hS (lv_sub hl [3, 4, 5, 1, 0] rfl)
  obtain ⟨n, h⟩ := h
  exact L6 n (-9) 0 h _ _ _ (reP hP [0, 1, 2] rfl) (hD.sub [0, 1, 2] (by decide) rfl) hS (lv_sub hl [2, 3, 4, 1, 0] rfl)
/-! ### X1_distance distance(IZ)I -/
def rX1_distance : Room := { frames := 2, cells := 0, slots := 0, locals := 47 }
def q_X1_distance_L17 (x1 : Int32) (x2 : Int32) (g_columns : Int32) (g_open : Nat → Int32) (Q : Int32 → (Nat → Int32) → Prop) : Nat → Int32 → (Nat → Int32) → Prop
  | 0 => fun _ _ => False
  | n + 1 => fun x3 g_ways => (x3 < 0 → Q (g_ways (Int32.toNatClampNeg 0)) g_ways) ∧ (¬ x3 < 0 → q_J6_bitCount_0f7a4 (x3 &&& x1) (fun r2 => ∀ t5 : Int32, t5 = (if r2 = 1 then 1 else 0) → q_X1_distanceBehind g_columns g_open g_ways x3 x2 (fun r6 => vp_in x3 256 ∧ (q_X1_distance_L17 x1 x2 g_columns g_open Q n) (x3 + (-1)) (upd g_ways (Int32.toNatClampNeg x3) (t5 + r6)))))
def q_X1_distance (g_columns : Int32) (g_full : Int32) (g_open : Nat → Int32) (g_ways : Nat → Int32) (x1 : Int32) (x2 : Int32) (Q : Int32 → (Nat → Int32) → Prop) : Prop :=
  vp_in g_full 256 ∧ ∀ x3 : Int32, x3 = (g_full - 1) → ∃ N : Nat, q_X1_distance_L17 x1 x2 g_columns g_open Q N x3 (upd g_ways (Int32.toNatClampNeg g_full) 0)
set_option maxRecDepth 100000 in
set_option maxHeartbeats 4000000 in
theorem c_X1_distance (l : Launch) (dC : Nat → ClassId) (dI : Nat → Nat → Nat) (cI cZ : ClassId) (a_this a_open a_ways : Nat) (g_columns : Int32) (g_full : Int32) (g_open : Nat → Int32) (g_ways : Nat → Int32) (x1 : Int32) (x2 : Int32) (Q : Int32 → (Nat → Int32) → Prop) (h : q_X1_distance g_columns g_full g_open g_ways x1 x2 Q) : MI l yX1_distance wsX1_distance rX1_distance (dC, dI) [(cI, .int), (cZ, .boolean)] [.ref a_this, .int x1, .int x2] [(a_this, .inr (1, [.ref a_open, .ref a_ways, .int g_columns, .int g_full])), (a_open, .inl (cI, 256, .inl g_open)), (a_ways, .inl (cI, 256, .inl g_ways))] (fun (r : Int32) (u : (Nat → Int32)) => Q r u) (fun u : (Nat → Int32) => [(a_this, .inr (1, [.ref a_open, .ref a_ways, .int g_columns, .int g_full])), (a_open, .inl (cI, 256, .inl g_open)), (a_ways, .inl (cI, 256, .inl u))]) := by
  refine MI.of (cc := cX1_distance) (maxL := 5) (by decide +kernel) rfl (Nat.le_of_ble_eq_true rfl) ?_
  intro p e s m args below meth c A QQ ls hx hb hml hown hts hA hK hP hD hS hNW ret hl
  have hl : lv_has ls 5 [(0, .ref a_this), (1, .int x1), (2, .int x2)] := hl
  have hown : s.vm.findClass RX1 = some m.cls := hown
  have in1 : ∀ w ∈ u_ws RX1 TX1 4, w ∈ wsX1_distance := fun _ w9 => List.mem_cons_of_mem _ (List.mem_append_right _ w9)
  have f15 := hts (.fieldLink RX1 15 "OnesDesk$Rows" "ways" "[I") (by decide +kernel)
  have f22 := hts (.fieldLink RX1 22 "OnesDesk$Rows" "full" "I") (by decide +kernel)
  refine lv_aload_n hx hb dX1_distance_0 rfl (lv_at hl 0 rfl) ?_
  refine va_get (D := (dC, dI)) (ci := 1) (v := .ref a_ways) (C := RX1) (T := TX1) (N := 4) hx hb hts in1 hown hK hP 0 rfl rfl 1 (by decide) f15 (fun _ h9 => h9) rfl dX1_distance_1 ?_
  refine lv_aload_n hx hb dX1_distance_4 rfl (lv_at hl 0 rfl) ?_
  refine va_get (D := (dC, dI)) (ci := 1) (v := .int g_full) (C := RX1) (T := TX1) (N := 4) hx hb hts in1 hown hK hP 0 rfl rfl 3 (by decide) f22 (fun _ h9 => h9) rfl dX1_distance_5 ?_
  refine lv_iconst (v := 0) hx hb dX1_distance_8 (by decide) ?_
  obtain ⟨hi1, h⟩ := h
  refine va_iast (D := (dC, dI)) hx hb hK hP hD hS 2 0 rfl rfl hi1 dX1_distance_9 (fun H locs hP hD hS => ?_)
  have hP : va_P (dC, dI) vwCl [(a_this, .inr (1, [.ref a_open, .ref a_ways, .int g_columns, .int g_full])), (a_open, .inl (cI, 256, .inl g_open)), (a_ways, .inl (cI, 256, .inl (upd g_ways (Int32.toNatClampNeg g_full) 0)))] H := hP
  have hD : va_D A [(a_this, .inr (1, [.ref a_open, .ref a_ways, .int g_columns, .int g_full])), (a_open, .inl (cI, 256, .inl g_open)), (a_ways, .inl (cI, 256, .inl (upd g_ways (Int32.toNatClampNeg g_full) 0)))] := hD
  refine lv_aload_n hx hb dX1_distance_10 rfl (lv_at hl 0 rfl) ?_
  refine va_get (D := (dC, dI)) (ci := 1) (v := .int g_full) (C := RX1) (T := TX1) (N := 4) hx hb hts in1 hown hK hP 0 rfl rfl 3 (by decide) f22 (fun _ h9 => h9) rfl dX1_distance_11 ?_
  refine lv_iconst (v := 1) hx hb dX1_distance_14 (by decide) ?_
  refine lv_isub hx hb dX1_distance_15 ?_
  refine lv_topi (fun x3 ex3 => ?_)
  have h := h x3 ex3
  refine lv_istore_n (lv' := [(3, .int x3), (0, .ref a_this), (1, .int x1), (2, .int x2)]) hx hb dX1_distance_16 rfl hl (by decide) rfl (fun ls hl => ?_)
  have L17 : ∀ (n17 : Nat), ∀ (x3 : Int32) (g_ways : Nat → Int32), q_X1_distance_L17 x1 x2 g_columns g_open Q n17 x3 g_ways → ∀ (H : Heap) (locs : List Loc) (ls : Array Slot), va_P (dC, dI) vwCl [(a_this, .inr (1, [.ref a_open, .ref a_ways, .int g_columns, .int g_full])), (a_open, .inl (cI, 256, .inl g_open)), (a_ways, .inl (cI, 256, .inl g_ways))] H → va_D A [(a_this, .inr (1, [.ref a_open, .ref a_ways, .int g_columns, .int g_full])), (a_open, .inl (cI, 256, .inl g_open)), (a_ways, .inl (cI, 256, .inl g_ways))] → va_S A s.heap H locs → lv_has ls 5 [(0, .ref a_this), (1, .int x1), (2, .int x2), (3, .int x3)] → W p l e rX1_distance s m args below meth c H locs 0 0 QQ (F0 m 17 ls []) := by
    intro n17
    induction n17 with
    | zero => intro x3 g_ways h; exact False.elim h
    | succ n17 ih17 =>
      intro x3 g_ways h H locs ls hP hD hS hl
      refine lv_iload_n hx hb dX1_distance_17 rfl (lv_at hl 3 rfl) ?_
      refine lv_if_lt (tgt := 59) hx hb dX1_distance_18 (by decide) (fun k1 => ?_) (fun k1 => ?_)
      · have h := h.1 k1
        refine lv_aload_n hx hb dX1_distance_59 rfl (lv_at hl 0 rfl) ?_
        refine va_get (D := (dC, dI)) (ci := 1) (v := .ref a_ways) (C := RX1) (T := TX1) (N := 4) hx hb hts in1 hown hK hP 0 rfl rfl 1 (by decide) f15 (fun _ h9 => h9) rfl dX1_distance_60 ?_
        refine lv_iconst (v := 0) hx hb dX1_distance_63 (by decide) ?_
        refine va_iald (D := (dC, dI)) hx hb hK hP 2 0 rfl rfl (show ¬ (_ ∨ _) by decide) dX1_distance_64 ?_
        exact ret _ _ _ _ (g_ways (Int32.toNatClampNeg 0)) g_ways dX1_distance_65 h (reP hP [0, 1, 2] rfl) (hD.sub [0, 1, 2] (by decide) rfl) hS
      · have h := h.2 k1
        refine lv_iload_n hx hb dX1_distance_21 rfl (lv_at hl 3 rfl) ?_
        refine lv_iload_n hx hb dX1_distance_22 rfl (lv_at hl 1 rfl) ?_
        refine lv_iand hx hb dX1_distance_23 ?_
        refine MI.callS (As := [.int (x3 &&& x1)]) (rest := []) (wr := [(a_this, .inr (1, [.ref a_open, .ref a_ways, .int g_columns, .int g_full])), (a_open, .inl (cI, 256, .inl g_open)), (a_ways, .inl (cI, 256, .inl g_ways))]) (c_J6_bitCount_0f7a4 l dC dI cI cZ (x3 &&& x1) _ h) ⟨hx, hb, hml, hown, hts⟩ (va_cwS 1 hts gX1_distance_J6_bitCount_0f7a4 rfl rfl rfl (by decide +kernel) ⟨Nat.le_of_ble_eq_true rfl, Nat.le_of_ble_eq_true rfl⟩) hK hP hD hS hA hNW [] [0, 1, 2] rfl rfl (by decide) (by decide) (by decide) rfl hl.1 rfl (Nat.le_of_ble_eq_true rfl) dX1_distance_24 ⟨Nat.zero_le _, Nat.zero_le _⟩ (fun r2 u H locs hw hP hD hS => ?_)
        have h := hw
        try dsimp only at h
        have hP : va_P (dC, dI) vwCl [(a_this, .inr (1, [.ref a_open, .ref a_ways, .int g_columns, .int g_full])), (a_open, .inl (cI, 256, .inl g_open)), (a_ways, .inl (cI, 256, .inl g_ways))] H := hP
        have hD : va_D A [(a_this, .inr (1, [.ref a_open, .ref a_ways, .int g_columns, .int g_full])), (a_open, .inl (cI, 256, .inl g_open)), (a_ways, .inl (cI, 256, .inl g_ways))] := hD
        refine lv_iconst (v := 1) hx hb dX1_distance_27 (by decide) ?_
        have K3 : ∀ t5 : Int32, t5 = (if r2 = 1 then 1 else 0) → W p l e rX1_distance s m args below meth c H locs 0 0 QQ (F0 m 36 ls [.int t5]) := by
          intro t5 et5
          have h := h t5 et5
          refine lv_istore (lv' := [(4, .int t5), (0, .ref a_this), (1, .int x1), (2, .int x2), (3, .int x3)]) hx hb dX1_distance_36 hl (by decide) rfl (fun ls hl => ?_)
          refine lv_aload_n hx hb dX1_distance_38 rfl (lv_at hl 1 rfl) ?_
          refine va_get (D := (dC, dI)) (ci := 1) (v := .ref a_ways) (C := RX1) (T := TX1) (N := 4) hx hb hts in1 hown hK hP 0 rfl rfl 1 (by decide) f15 (fun _ h9 => h9) rfl dX1_distance_39 ?_
          refine lv_iload_n hx hb dX1_distance_42 rfl (lv_at hl 4 rfl) ?_
          refine lv_iload hx hb dX1_distance_43 (lv_at hl 0 rfl) ?_
          refine lv_aload_n hx hb dX1_distance_45 rfl (lv_at hl 1 rfl) ?_
          refine lv_iload_n hx hb dX1_distance_46 rfl (lv_at hl 4 rfl) ?_
          refine lv_iload_n hx hb dX1_distance_47 rfl (lv_at hl 3 rfl) ?_
          refine MI.callV (As := [.int x3, .int x2]) (rest := [.int t5, .int x3, .ref a_ways]) (wr := []) (ci := 1) (q0 := 0) (c_X1_distanceBehind l dC dI cI cZ a_this a_open a_ways (.int g_full) g_columns g_open g_ways x3 x2 _ h) ⟨hx, hb, hml, hown, hts⟩ (cwV 2 hts gX1_distance_X1_distanceBehind rfl rfl rfl (by decide +kernel) ⟨Nat.le_of_ble_eq_true rfl, Nat.le_of_ble_eq_true rfl⟩) hK hP hD hS hA hNW [0, 1, 2] [] rfl rfl (by decide) (by decide) (by decide) rfl rfl rfl rfl hl.1 rfl (Nat.le_of_ble_eq_true rfl) dX1_distance_48 ⟨Nat.zero_le _, Nat.zero_le _⟩ (fun r6 u H locs hw hP hD hS => ?_)
          have h := hw
          try dsimp only at h
          have hP : va_P (dC, dI) vwCl [(a_this, .inr (1, [.ref a_open, .ref a_ways, .int g_columns, .int g_full])), (a_open, .inl (cI, 256, .inl g_open)), (a_ways, .inl (cI, 256, .inl g_ways))] H := hP
          have hD : va_D A [(a_this, .inr (1, [.ref a_open, .ref a_ways, .int g_columns, .int g_full])), (a_open, .inl (cI, 256, .inl g_open)), (a_ways, .inl (cI, 256, .inl g_ways))] := hD
          refine lv_iadd hx hb dX1_distance_51 ?_
          obtain ⟨hi7, h⟩ := h
          refine va_iast (D := (dC, dI)) hx hb hK hP hD hS 2 0 rfl rfl hi7 dX1_distance_52 (fun H locs hP hD hS => ?_)
          have hP : va_P (dC, dI) vwCl [(a_this, .inr (1, [.ref a_open, .ref a_ways, .int g_columns, .int g_full])), (a_open, .inl (cI, 256, .inl g_open)), (a_ways, .inl (cI, 256, .inl (upd g_ways (Int32.toNatClampNeg x3) (t5 + r6))))] H := hP
          have hD : va_D A [(a_this, .inr (1, [.ref a_open, .ref a_ways, .int g_columns, .int g_full])), (a_open, .inl (cI, 256, .inl g_open)), (a_ways, .inl (cI, 256, .inl (upd g_ways (Int32.toNatClampNeg x3) (t5 + r6))))] := hD
          refine lv_iinc (v := x3 + (-1)) (lv' := [(3, .int (x3 + (-1))), (4, .int t5), (0, .ref a_this), (1, .int x1), (2, .int x2)]) hx hb dX1_distance_53 hl (k := 4) rfl rfl (by decide) rfl (fun ls hl => ?_)
          refine lv_goto (tgt := 17) hx hb dX1_distance_56 (by decide) ?_
          exact ih17 (x3 + (-1)) (upd g_ways (Int32.toNatClampNeg x3) (t5 + r6)) h _ _ _ (reP hP [0, 1, 2] rfl) (hD.sub [0, 1, 2] (by decide) rfl) hS (lv_sub hl [2, 3, 4, 0] rfl)
        refine lv_icmp_ne (tgt := 35) hx hb dX1_distance_28 (by decide) (fun k4 => ?_) (fun k4 => ?_)
        · refine lv_iconst (v := 0) hx hb dX1_distance_35 (by decide) ?_
          exact K3 _ (by rw [if_neg k4])
        · refine lv_iconst (v := 1) hx hb dX1_distance_31 (by decide) ?_
          refine lv_goto (tgt := 36) hx hb dX1_distance_32 (by decide) ?_
          exact K3 _ (by rw [if_pos k4])
  obtain ⟨n, h⟩ := h
  exact L17 n x3 (upd g_ways (Int32.toNatClampNeg g_full) 0) h _ _ _ (reP hP [0, 1, 2] rfl) (hD.sub [0, 1, 2] (by decide) rfl) hS (lv_sub hl [1, 2, 3, 0] rfl)
/-! ### X1_alwaysTogether alwaysTogether(I)Z -/
def rX1_alwaysTogether : Room := { frames := 0, cells := 0, slots := 0, locals := 0 }
def q_X1_alwaysTogether_L2 (x1 : Int32) (g_full : Int32) (g_open : Nat → Int32) (Q : Bool → Prop) : Nat → Int32 → Prop
  | 0 => fun _ => False
  | n + 1 => fun x2 => (g_full < x2 → Q true) ∧ (¬ g_full < x2 → vp_in x2 256 ∧ ∀ t5 : Int32, t5 = (if ((g_open (Int32.toNatClampNeg x2)) &&& (x1 ^^^ (-1))) = 0 then 0 else 1) → (t5 = 0 → (q_X1_alwaysTogether_L2 x1 g_full g_open Q n) (x2 + 1)) ∧ (¬ t5 = 0 → ((x1 &&& x2) = 0 → (q_X1_alwaysTogether_L2 x1 g_full g_open Q n) (x2 + 1)) ∧ (¬ (x1 &&& x2) = 0 → ((x1 &&& (x2 ^^^ (-1))) = 0 → (q_X1_alwaysTogether_L2 x1 g_full g_open Q n) (x2 + 1)) ∧ (¬ (x1 &&& (x2 ^^^ (-1))) = 0 → Q false))))
def q_X1_alwaysTogether (g_full : Int32) (g_open : Nat → Int32) (x1 : Int32) (Q : Bool → Prop) : Prop :=
  ∃ N : Nat, q_X1_alwaysTogether_L2 x1 g_full g_open Q N 0
set_option maxRecDepth 100000 in
set_option maxHeartbeats 4000000 in
theorem c_X1_alwaysTogether (l : Launch) (dC : Nat → ClassId) (dI : Nat → Nat → Nat) (cI cZ : ClassId) (a_this a_open : Nat) (z_ways z_columns : Value) (g_full : Int32) (g_open : Nat → Int32) (x1 : Int32) (Q : Bool → Prop) (h : q_X1_alwaysTogether g_full g_open x1 Q) : MB l yX1_alwaysTogether wsX1_alwaysTogether rX1_alwaysTogether (dC, dI) [(cI, .int), (cZ, .boolean)] [.ref a_this, .int x1] [(a_this, .inr (1, [.ref a_open, z_ways, z_columns, .int g_full])), (a_open, .inl (cI, 256, .inl g_open))] (fun (r : Bool) (u : Unit) => Q r) (fun u : Unit => [(a_this, .inr (1, [.ref a_open, z_ways, z_columns, .int g_full])), (a_open, .inl (cI, 256, .inl g_open))]) := by
  refine MB.of (cc := cX1_alwaysTogether) (maxL := 4) (by decide +kernel) rfl (Nat.le_of_ble_eq_true rfl) ?_
  intro p e s m args below meth c A QQ ls hx hb hml hown hts hA hK hP hD hS hNW ret hl
  have hl : lv_has ls 4 [(0, .ref a_this), (1, .int x1)] := hl
  have hown : s.vm.findClass RX1 = some m.cls := hown
  have in1 : ∀ w ∈ u_ws RX1 TX1 4, w ∈ wsX1_alwaysTogether := fun _ w9 => List.mem_cons_of_mem _ (List.mem_append_right _ w9)
  have f9 := hts (.fieldLink RX1 9 "OnesDesk$Rows" "open" "[I") (by decide +kernel)
  have f22 := hts (.fieldLink RX1 22 "OnesDesk$Rows" "full" "I") (by decide +kernel)
  refine lv_iconst (v := 0) hx hb dX1_alwaysTogether_0 (by decide) ?_
  refine lv_istore_n (lv' := [(2, .int 0), (0, .ref a_this), (1, .int x1)]) hx hb dX1_alwaysTogether_1 rfl hl (by decide) rfl (fun ls hl => ?_)
  have L2 : ∀ (n2 : Nat), ∀ (x2 : Int32), q_X1_alwaysTogether_L2 x1 g_full g_open Q n2 x2 → ∀ (H : Heap) (locs : List Loc) (ls : Array Slot), va_P (dC, dI) vwCl [(a_this, .inr (1, [.ref a_open, z_ways, z_columns, .int g_full])), (a_open, .inl (cI, 256, .inl g_open))] H → va_D A [(a_this, .inr (1, [.ref a_open, z_ways, z_columns, .int g_full])), (a_open, .inl (cI, 256, .inl g_open))] → va_S A s.heap H locs → lv_has ls 4 [(0, .ref a_this), (1, .int x1), (2, .int x2)] → W p l e rX1_alwaysTogether s m args below meth c H locs 0 0 QQ (F0 m 2 ls []) := by
    intro n2
    induction n2 with
    | zero => intro x2 h; exact False.elim h
    | succ n2 ih2 =>
      intro x2 h H locs ls hP hD hS hl
      refine lv_iload_n hx hb dX1_alwaysTogether_2 rfl (lv_at hl 2 rfl) ?_
      refine lv_aload_n hx hb dX1_alwaysTogether_3 rfl (lv_at hl 0 rfl) ?_
      refine va_get (D := (dC, dI)) (ci := 1) (v := .int g_full) (C := RX1) (T := TX1) (N := 4) hx hb hts in1 hown hK hP 0 rfl rfl 3 (by decide) f22 (fun _ h9 => h9) rfl dX1_alwaysTogether_4 ?_
      refine lv_icmp_gt (tgt := 55) hx hb dX1_alwaysTogether_7 (by decide) (fun k1 => ?_) (fun k1 => ?_)
      · have h := h.1 k1
        refine lv_iconst (v := 1) hx hb dX1_alwaysTogether_55 (by decide) ?_
        exact ret _ _ _ _ true () dX1_alwaysTogether_56 h (reP hP [0, 1] rfl) (hD.sub [0, 1] (by decide) rfl) hS
      · have h := h.2 k1
        refine lv_aload_n hx hb dX1_alwaysTogether_10 rfl (lv_at hl 0 rfl) ?_
        refine va_get (D := (dC, dI)) (ci := 1) (v := .ref a_open) (C := RX1) (T := TX1) (N := 4) hx hb hts in1 hown hK hP 0 rfl rfl 0 (by decide) f9 (fun _ h9 => h9) rfl dX1_alwaysTogether_11 ?_
        refine lv_iload_n hx hb dX1_alwaysTogether_14 rfl (lv_at hl 2 rfl) ?_
        obtain ⟨hi2, h⟩ := h
        refine va_iald (D := (dC, dI)) hx hb hK hP 1 0 rfl rfl hi2 dX1_alwaysTogether_15 ?_
        refine lv_iload_n hx hb dX1_alwaysTogether_16 rfl (lv_at hl 1 rfl) ?_
        refine lv_iconst (v := (-1)) hx hb dX1_alwaysTogether_17 (by decide) ?_
        refine lv_ixor hx hb dX1_alwaysTogether_18 ?_
        refine lv_iand hx hb dX1_alwaysTogether_19 ?_
        have K3 : ∀ t5 : Int32, t5 = (if ((g_open (Int32.toNatClampNeg x2)) &&& (x1 ^^^ (-1))) = 0 then 0 else 1) → W p l e rX1_alwaysTogether s m args below meth c H locs 0 0 QQ (F0 m 28 ls [.int t5]) := by
          intro t5 et5
          have h := h t5 et5
          refine lv_istore_n (lv' := [(3, .int t5), (0, .ref a_this), (1, .int x1), (2, .int x2)]) hx hb dX1_alwaysTogether_28 rfl hl (by decide) rfl (fun ls hl => ?_)
          refine lv_iload_n hx hb dX1_alwaysTogether_29 rfl (lv_at hl 0 rfl) ?_
          refine lv_if_eq (tgt := 49) hx hb dX1_alwaysTogether_30 (by decide) (fun k6 => ?_) (fun k6 => ?_)
          · have h := h.1 k6
            refine lv_iinc (v := x2 + 1) (lv' := [(2, .int (x2 + 1)), (3, .int t5), (0, .ref a_this), (1, .int x1)]) hx hb dX1_alwaysTogether_49 hl (k := 3) rfl rfl (by decide) rfl (fun ls hl => ?_)
            refine lv_goto (tgt := 2) hx hb dX1_alwaysTogether_52 (by decide) ?_
            exact ih2 (x2 + 1) h _ _ _ (reP hP [0, 1] rfl) (hD.sub [0, 1] (by decide) rfl) hS (lv_sub hl [2, 3, 0] rfl)
          · have h := h.2 k6
            refine lv_iload_n hx hb dX1_alwaysTogether_33 rfl (lv_at hl 2 rfl) ?_
            refine lv_iload_n hx hb dX1_alwaysTogether_34 rfl (lv_at hl 3 rfl) ?_
            refine lv_iand hx hb dX1_alwaysTogether_35 ?_
            refine lv_if_eq (tgt := 49) hx hb dX1_alwaysTogether_36 (by decide) (fun k7 => ?_) (fun k7 => ?_)
            · have h := h.1 k7
              refine lv_iinc (v := x2 + 1) (lv' := [(2, .int (x2 + 1)), (3, .int t5), (0, .ref a_this), (1, .int x1)]) hx hb dX1_alwaysTogether_49 hl (k := 3) rfl rfl (by decide) rfl (fun ls hl => ?_)
              refine lv_goto (tgt := 2) hx hb dX1_alwaysTogether_52 (by decide) ?_
              exact ih2 (x2 + 1) h _ _ _ (reP hP [0, 1] rfl) (hD.sub [0, 1] (by decide) rfl) hS (lv_sub hl [2, 3, 0] rfl)
            · have h := h.2 k7
              refine lv_iload_n hx hb dX1_alwaysTogether_39 rfl (lv_at hl 2 rfl) ?_
              refine lv_iload_n hx hb dX1_alwaysTogether_40 rfl (lv_at hl 3 rfl) ?_
              refine lv_iconst (v := (-1)) hx hb dX1_alwaysTogether_41 (by decide) ?_
              refine lv_ixor hx hb dX1_alwaysTogether_42 ?_
              refine lv_iand hx hb dX1_alwaysTogether_43 ?_
              refine lv_if_eq (tgt := 49) hx hb dX1_alwaysTogether_44 (by decide) (fun k8 => ?_) (fun k8 => ?_)
              · have h := h.1 k8
                refine lv_iinc (v := x2 + 1) (lv' := [(2, .int (x2 + 1)), (3, .int t5), (0, .ref a_this), (1, .int x1)]) hx hb dX1_alwaysTogether_49 hl (k := 3) rfl rfl (by decide) rfl (fun ls hl => ?_)
                refine lv_goto (tgt := 2) hx hb dX1_alwaysTogether_52 (by decide) ?_
                exact ih2 (x2 + 1) h _ _ _ (reP hP [0, 1] rfl) (hD.sub [0, 1] (by decide) rfl) hS (lv_sub hl [2, 3, 0] rfl)
              · have h := h.2 k8
                refine lv_iconst (v := 0) hx hb dX1_alwaysTogether_47 (by decide) ?_
                exact ret _ _ _ _ false () dX1_alwaysTogether_48 h (reP hP [0, 1] rfl) (hD.sub [0, 1] (by decide) rfl) hS
        refine lv_if_eq (tgt := 27) hx hb dX1_alwaysTogether_20 (by decide) (fun k4 => ?_) (fun k4 => ?_)
        · refine lv_iconst (v := 0) hx hb dX1_alwaysTogether_27 (by decide) ?_
          exact K3 _ (by rw [if_pos k4])
        · refine lv_iconst (v := 1) hx hb dX1_alwaysTogether_23 (by decide) ?_
          refine lv_goto (tgt := 28) hx hb dX1_alwaysTogether_24 (by decide) ?_
          exact K3 _ (by rw [if_neg k4])
  obtain ⟨n, h⟩ := h
  exact L2 n 0 h _ _ _ (reP hP [0, 1] rfl) (hD.sub [0, 1] (by decide) rfl) hS (lv_sub hl [1, 2, 0] rfl)
