/-! ### X3_crosses crosses(II)Z -/
def rX3_crosses : Room := { frames := 0, cells := 0, slots := 0, locals := 0 }
def q_X3_crosses (x0 : Int32) (x1 : Int32) (Q : Bool → Prop) : Prop :=
  ((x0 &&& x1) = 0 → Q false) ∧ (¬ (x0 &&& x1) = 0 → ((x0 &&& (x1 ^^^ (-1))) = 0 → Q false) ∧ (¬ (x0 &&& (x1 ^^^ (-1))) = 0 → ((x1 &&& (x0 ^^^ (-1))) = 0 → Q false) ∧ (¬ (x1 &&& (x0 ^^^ (-1))) = 0 → Q true)))
set_option maxRecDepth 100000 in
set_option maxHeartbeats 4000000 in
theorem c_X3_crosses (l : Launch) (dC : Nat → ClassId) (dI : Nat → Nat → Nat) (cI cZ : ClassId) (x0 : Int32) (x1 : Int32) (Q : Bool → Prop) (h : q_X3_crosses x0 x1 Q) : MB l yX3_crosses wsX3_crosses rX3_crosses (dC, dI) [(cI, .int), (cZ, .boolean)] [.int x0, .int x1] [] (fun (r : Bool) (u : Unit) => Q r) (fun u : Unit => []) := by
  refine MB.of (cc := cX3_crosses) (maxL := 2) (by decide +kernel) rfl (Nat.le_of_ble_eq_true rfl) ?_
  intro p e s m args below meth c A QQ ls hx hb hml hown hts hA hK hP hD hS hNW ret hl
  have hl : lv_has ls 2 [(0, .int x0), (1, .int x1)] := hl
  have hown : s.vm.findClass RX3 = some m.cls := hown
  refine lv_iload_n hx hb dX3_crosses_0 rfl (lv_at hl 0 rfl) ?_
  refine lv_iload_n hx hb dX3_crosses_1 rfl (lv_at hl 1 rfl) ?_
  refine lv_iand hx hb dX3_crosses_2 ?_
  refine lv_if_eq (tgt := 26) hx hb dX3_crosses_3 (by decide) (fun k1 => ?_) (fun k1 => ?_)
  · have h := h.1 k1
    refine lv_iconst (v := 0) hx hb dX3_crosses_26 (by decide) ?_
    exact ret _ _ _ _ false () dX3_crosses_27 h (reP hP [] rfl) (hD.sub [] (by decide) rfl) hS
  · have h := h.2 k1
    refine lv_iload_n hx hb dX3_crosses_6 rfl (lv_at hl 0 rfl) ?_
    refine lv_iload_n hx hb dX3_crosses_7 rfl (lv_at hl 1 rfl) ?_
    refine lv_iconst (v := (-1)) hx hb dX3_crosses_8 (by decide) ?_
    refine lv_ixor hx hb dX3_crosses_9 ?_
    refine lv_iand hx hb dX3_crosses_10 ?_
    refine lv_if_eq (tgt := 26) hx hb dX3_crosses_11 (by decide) (fun k2 => ?_) (fun k2 => ?_)
    · have h := h.1 k2
      refine lv_iconst (v := 0) hx hb dX3_crosses_26 (by decide) ?_
      exact ret _ _ _ _ false () dX3_crosses_27 h (reP hP [] rfl) (hD.sub [] (by decide) rfl) hS
    · have h := h.2 k2
      refine lv_iload_n hx hb dX3_crosses_14 rfl (lv_at hl 1 rfl) ?_
      refine lv_iload_n hx hb dX3_crosses_15 rfl (lv_at hl 0 rfl) ?_
      refine lv_iconst (v := (-1)) hx hb dX3_crosses_16 (by decide) ?_
      refine lv_ixor hx hb dX3_crosses_17 ?_
      refine lv_iand hx hb dX3_crosses_18 ?_
      refine lv_if_eq (tgt := 26) hx hb dX3_crosses_19 (by decide) (fun k3 => ?_) (fun k3 => ?_)
      · have h := h.1 k3
        refine lv_iconst (v := 0) hx hb dX3_crosses_26 (by decide) ?_
        exact ret _ _ _ _ false () dX3_crosses_27 h (reP hP [] rfl) (hD.sub [] (by decide) rfl) hS
      · have h := h.2 k3
        refine lv_iconst (v := 1) hx hb dX3_crosses_22 (by decide) ?_
        refine lv_goto (tgt := 27) hx hb dX3_crosses_23 (by decide) ?_
        exact ret _ _ _ _ true () dX3_crosses_27 h (reP hP [] rfl) (hD.sub [] (by decide) rfl) hS
/-! ### X3_isKnot isKnot(II)Z -/
def rX3_isKnot : Room := { frames := 1, cells := 0, slots := 0, locals := 21 }
def q_X3_isKnot_L13 (x1 : Int32) (x2 : Int32) (g_firm : Nat → Int32) (Q : Bool → Prop) : Nat → Int32 → Prop
  | 0 => fun _ => False
  | n + 1 => fun x3 => (x2 < x3 → Q true) ∧ (¬ x2 < x3 → vp_in x3 256 ∧ ((g_firm (Int32.toNatClampNeg x3)) = 0 → (q_X3_isKnot_L13 x1 x2 g_firm Q n) (x3 + 1)) ∧ (¬ (g_firm (Int32.toNatClampNeg x3)) = 0 → q_X3_crosses x1 x3 (fun b5 => (b5 = false → (q_X3_isKnot_L13 x1 x2 g_firm Q n) (x3 + 1)) ∧ (b5 = true → Q false))))
def q_X3_isKnot (g_firm : Nat → Int32) (x1 : Int32) (x2 : Int32) (Q : Bool → Prop) : Prop :=
  vp_in x1 256 ∧ (¬ (g_firm (Int32.toNatClampNeg x1)) = 0 → ∃ N : Nat, q_X3_isKnot_L13 x1 x2 g_firm Q N 1) ∧ ((g_firm (Int32.toNatClampNeg x1)) = 0 → Q false)
set_option maxRecDepth 100000 in
set_option maxHeartbeats 4000000 in
theorem c_X3_isKnot (l : Launch) (dC : Nat → ClassId) (dI : Nat → Nat → Nat) (cI cZ : ClassId) (a_this a_firm : Nat) (z_sets z_above z_firstRow z_size z_columns : Value) (g_firm : Nat → Int32) (x1 : Int32) (x2 : Int32) (Q : Bool → Prop) (h : q_X3_isKnot g_firm x1 x2 Q) : MB l yX3_isKnot wsX3_isKnot rX3_isKnot (dC, dI) [(cI, .int), (cZ, .boolean)] [.ref a_this, .int x1, .int x2] [(a_this, .inr (3, [z_sets, z_above, .ref a_firm, z_firstRow, z_size, z_columns])), (a_firm, .inl (cZ, 256, .inl g_firm))] (fun (r : Bool) (u : Unit) => Q r) (fun u : Unit => [(a_this, .inr (3, [z_sets, z_above, .ref a_firm, z_firstRow, z_size, z_columns])), (a_firm, .inl (cZ, 256, .inl g_firm))]) := by
  refine MB.of (cc := cX3_isKnot) (maxL := 4) (by decide +kernel) rfl (Nat.le_of_ble_eq_true rfl) ?_
  intro p e s m args below meth c A QQ ls hx hb hml hown hts hA hK hP hD hS hNW ret hl
  have hl : lv_has ls 4 [(0, .ref a_this), (1, .int x1), (2, .int x2)] := hl
  have hown : s.vm.findClass RX3 = some m.cls := hown
  have in3 : ∀ w ∈ u_ws RX3 TX3 6, w ∈ wsX3_isKnot := fun _ w9 => List.mem_cons_of_mem _ (List.mem_append_right _ w9)
  have f18 := hts (.fieldLink RX3 18 "OnesDesk$Tree" "firm" "[Z") (by decide +kernel)
  refine lv_aload_n hx hb dX3_isKnot_0 rfl (lv_at hl 0 rfl) ?_
  refine va_get (D := (dC, dI)) (ci := 3) (v := .ref a_firm) (C := RX3) (T := TX3) (N := 6) hx hb hts in3 hown hK hP 0 rfl rfl 2 (by decide) f18 (fun _ h9 => h9) rfl dX3_isKnot_1 ?_
  refine lv_iload_n hx hb dX3_isKnot_4 rfl (lv_at hl 1 rfl) ?_
  obtain ⟨hi1, h⟩ := h
  refine va_zald (D := (dC, dI)) hx hb hK hP 1 1 rfl rfl hi1 dX3_isKnot_5 ?_
  refine lv_if_ne (tgt := 11) hx hb dX3_isKnot_6 (by decide) (fun k2 => ?_) (fun k2 => ?_)
  · have h := h.1 k2
    refine lv_iconst (v := 1) hx hb dX3_isKnot_11 (by decide) ?_
    refine lv_istore_n (lv' := [(3, .int 1), (0, .ref a_this), (1, .int x1), (2, .int x2)]) hx hb dX3_isKnot_12 rfl hl (by decide) rfl (fun ls hl => ?_)
    have L13 : ∀ (n13 : Nat), ∀ (x3 : Int32), q_X3_isKnot_L13 x1 x2 g_firm Q n13 x3 → ∀ (H : Heap) (locs : List Loc) (ls : Array Slot), va_P (dC, dI) vwCl [(a_this, .inr (3, [z_sets, z_above, .ref a_firm, z_firstRow, z_size, z_columns])), (a_firm, .inl (cZ, 256, .inl g_firm))] H → va_D A [(a_this, .inr (3, [z_sets, z_above, .ref a_firm, z_firstRow, z_size, z_columns])), (a_firm, .inl (cZ, 256, .inl g_firm))] → va_S A s.heap H locs → lv_has ls 4 [(0, .ref a_this), (1, .int x1), (2, .int x2), (3, .int x3)] → W p l e rX3_isKnot s m args below meth c H locs 0 0 QQ (F0 m 13 ls []) := by
      intro n13
      induction n13 with
      | zero => intro x3 h; exact False.elim h
      | succ n13 ih13 =>
        intro x3 h H locs ls hP hD hS hl
        refine lv_iload_n hx hb dX3_isKnot_13 rfl (lv_at hl 3 rfl) ?_
        refine lv_iload_n hx hb dX3_isKnot_14 rfl (lv_at hl 2 rfl) ?_
        refine lv_icmp_gt (tgt := 43) hx hb dX3_isKnot_15 (by decide) (fun k1 => ?_) (fun k1 => ?_)
        · have h := h.1 k1
          refine lv_iconst (v := 1) hx hb dX3_isKnot_43 (by decide) ?_
          exact ret _ _ _ _ true () dX3_isKnot_44 h (reP hP [0, 1] rfl) (hD.sub [0, 1] (by decide) rfl) hS
        · have h := h.2 k1
          refine lv_aload_n hx hb dX3_isKnot_18 rfl (lv_at hl 0 rfl) ?_
          refine va_get (D := (dC, dI)) (ci := 3) (v := .ref a_firm) (C := RX3) (T := TX3) (N := 6) hx hb hts in3 hown hK hP 0 rfl rfl 2 (by decide) f18 (fun _ h9 => h9) rfl dX3_isKnot_19 ?_
          refine lv_iload_n hx hb dX3_isKnot_22 rfl (lv_at hl 3 rfl) ?_
          obtain ⟨hi2, h⟩ := h
          refine va_zald (D := (dC, dI)) hx hb hK hP 1 1 rfl rfl hi2 dX3_isKnot_23 ?_
          refine lv_if_eq (tgt := 37) hx hb dX3_isKnot_24 (by decide) (fun k3 => ?_) (fun k3 => ?_)
          · have h := h.1 k3
            refine lv_iinc (v := x3 + 1) (lv' := [(3, .int (x3 + 1)), (0, .ref a_this), (1, .int x1), (2, .int x2)]) hx hb dX3_isKnot_37 hl (k := 3) rfl rfl (by decide) rfl (fun ls hl => ?_)
            refine lv_goto (tgt := 13) hx hb dX3_isKnot_40 (by decide) ?_
            exact ih13 (x3 + 1) h _ _ _ (reP hP [0, 1] rfl) (hD.sub [0, 1] (by decide) rfl) hS (lv_sub hl [1, 2, 3, 0] rfl)
          · have h := h.2 k3
            refine lv_iload_n hx hb dX3_isKnot_27 rfl (lv_at hl 1 rfl) ?_
            refine lv_iload_n hx hb dX3_isKnot_28 rfl (lv_at hl 3 rfl) ?_
            refine MI.callS (As := [.int x1, .int x3]) (rest := []) (wr := [(a_this, .inr (3, [z_sets, z_above, .ref a_firm, z_firstRow, z_size, z_columns])), (a_firm, .inl (cZ, 256, .inl g_firm))]) (c_X3_crosses l dC dI cI cZ x1 x3 _ h) ⟨hx, hb, hml, hown, hts⟩ (va_cwS 2 hts gX3_isKnot_X3_crosses rfl rfl rfl (by decide +kernel) ⟨Nat.le_of_ble_eq_true rfl, Nat.le_of_ble_eq_true rfl⟩) hK hP hD hS hA hNW [] [0, 1] rfl rfl (by decide) (by decide) (by decide) rfl hl.1 rfl (Nat.le_of_ble_eq_true rfl) dX3_isKnot_29 ⟨Nat.zero_le _, Nat.zero_le _⟩ (fun r4 u H locs hw hP hD hS => ?_)
            obtain ⟨b5, rfl, hw⟩ := hw
            have h := hw
            try dsimp only at h
            have hP : va_P (dC, dI) vwCl [(a_this, .inr (3, [z_sets, z_above, .ref a_firm, z_firstRow, z_size, z_columns])), (a_firm, .inl (cZ, 256, .inl g_firm))] H := hP
            have hD : va_D A [(a_this, .inr (3, [z_sets, z_above, .ref a_firm, z_firstRow, z_size, z_columns])), (a_firm, .inl (cZ, 256, .inl g_firm))] := hD
            refine lv_if_eq (tgt := 37) hx hb dX3_isKnot_32 (by decide) (fun k6 => ?_) (fun k6 => ?_)
            · have h := h.1 (bI_0 k6)
              refine lv_iinc (v := x3 + 1) (lv' := [(3, .int (x3 + 1)), (0, .ref a_this), (1, .int x1), (2, .int x2)]) hx hb dX3_isKnot_37 hl (k := 3) rfl rfl (by decide) rfl (fun ls hl => ?_)
              refine lv_goto (tgt := 13) hx hb dX3_isKnot_40 (by decide) ?_
              exact ih13 (x3 + 1) h _ _ _ (reP hP [0, 1] rfl) (hD.sub [0, 1] (by decide) rfl) hS (lv_sub hl [1, 2, 3, 0] rfl)
            · have h := h.2 (bI_1 k6)
              refine lv_iconst (v := 0) hx hb dX3_isKnot_35 (by decide) ?_
              exact ret _ _ _ _ false () dX3_isKnot_36 h (reP hP [0, 1] rfl) (hD.sub [0, 1] (by decide) rfl) hS
    obtain ⟨n, h⟩ := h
    exact L13 n 1 h _ _ _ (reP hP [0, 1] rfl) (hD.sub [0, 1] (by decide) rfl) hS (lv_sub hl [1, 2, 3, 0] rfl)
  · have h := h.2 k2
    refine lv_iconst (v := 0) hx hb dX3_isKnot_9 (by decide) ?_
    exact ret _ _ _ _ false () dX3_isKnot_10 h (reP hP [0, 1] rfl) (hD.sub [0, 1] (by decide) rfl) hS
/-! ### X3_addKnots addKnots(II)V -/
def rX3_addKnots : Room := { frames := 2, cells := 0, slots := 0, locals := 44 }
def q_X3_addKnots_L2 (x1 : Int32) (x2 : Int32) (g_firm : Nat → Int32) (Q : Int32 → (Nat → Int32) → Prop) : Nat → Int32 → Int32 → (Nat → Int32) → Prop
  | 0 => fun _ _ _ => False
  | n + 1 => fun x3 g_size g_sets => (x2 < x3 → Q g_size g_sets) ∧ (¬ x2 < x3 → q_J6_bitCount_0f7a4 x3 (fun r2 => (¬ r2 = x1 → (q_X3_addKnots_L2 x1 x2 g_firm Q n) (x3 + 1) g_size g_sets) ∧ (r2 = x1 → q_X3_isKnot g_firm x3 x2 (fun b5 => (b5 = false → (q_X3_addKnots_L2 x1 x2 g_firm Q n) (x3 + 1) g_size g_sets) ∧ (b5 = true → (15 ≤ g_size → (q_X3_addKnots_L2 x1 x2 g_firm Q n) (x3 + 1) g_size g_sets) ∧ (¬ 15 ≤ g_size → vp_in g_size 15 ∧ (q_X3_addKnots_L2 x1 x2 g_firm Q n) (x3 + 1) (g_size + 1) (upd g_sets (Int32.toNatClampNeg g_size) x3)))))))
def q_X3_addKnots (g_size : Int32) (g_sets : Nat → Int32) (g_firm : Nat → Int32) (x1 : Int32) (x2 : Int32) (Q : Int32 → (Nat → Int32) → Prop) : Prop :=
  ∃ N : Nat, q_X3_addKnots_L2 x1 x2 g_firm Q N 1 g_size g_sets
set_option maxRecDepth 100000 in
set_option maxHeartbeats 4000000 in
theorem c_X3_addKnots (l : Launch) (dC : Nat → ClassId) (dI : Nat → Nat → Nat) (cI cZ : ClassId) (a_this a_sets a_firm : Nat) (z_above z_firstRow z_columns : Value) (g_size : Int32) (g_sets : Nat → Int32) (g_firm : Nat → Int32) (x1 : Int32) (x2 : Int32) (Q : Int32 → (Nat → Int32) → Prop) (h : q_X3_addKnots g_size g_sets g_firm x1 x2 Q) : MV l yX3_addKnots wsX3_addKnots rX3_addKnots (dC, dI) [(cI, .int), (cZ, .boolean)] [.ref a_this, .int x1, .int x2] [(a_this, .inr (3, [.ref a_sets, z_above, .ref a_firm, z_firstRow, .int g_size, z_columns])), (a_sets, .inl (cI, 15, .inl g_sets)), (a_firm, .inl (cZ, 256, .inl g_firm))] (fun u : Int32 × (Nat → Int32) => Q u.1 u.2) (fun u : Int32 × (Nat → Int32) => [(a_this, .inr (3, [.ref a_sets, z_above, .ref a_firm, z_firstRow, .int u.1, z_columns])), (a_sets, .inl (cI, 15, .inl u.2)), (a_firm, .inl (cZ, 256, .inl g_firm))]) := by
  refine MV.of (cc := cX3_addKnots) (maxL := 4) (by decide +kernel) rfl (Nat.le_of_ble_eq_true rfl) ?_
  intro p e s m args below meth c A QQ ls hx hb hml hown hts hA hK hP hD hS hNW ret hl
  have hl : lv_has ls 4 [(0, .ref a_this), (1, .int x1), (2, .int x2)] := hl
  have hown : s.vm.findClass RX3 = some m.cls := hown
  have in3 : ∀ w ∈ u_ws RX3 TX3 6, w ∈ wsX3_addKnots := fun _ w9 => List.mem_cons_of_mem _ (List.mem_append_right _ w9)
  have f9 := hts (.fieldLink RX3 9 "OnesDesk$Tree" "sets" "[I") (by decide +kernel)
  have f39 := hts (.fieldLink RX3 39 "OnesDesk$Tree" "size" "I") (by decide +kernel)
  refine lv_iconst (v := 1) hx hb dX3_addKnots_0 (by decide) ?_
  refine lv_istore_n (lv' := [(3, .int 1), (0, .ref a_this), (1, .int x1), (2, .int x2)]) hx hb dX3_addKnots_1 rfl hl (by decide) rfl (fun ls hl => ?_)
  have L2 : ∀ (n2 : Nat), ∀ (x3 : Int32) (g_size : Int32) (g_sets : Nat → Int32), q_X3_addKnots_L2 x1 x2 g_firm Q n2 x3 g_size g_sets → ∀ (H : Heap) (locs : List Loc) (ls : Array Slot), va_P (dC, dI) vwCl [(a_this, .inr (3, [.ref a_sets, z_above, .ref a_firm, z_firstRow, .int g_size, z_columns])), (a_sets, .inl (cI, 15, .inl g_sets)), (a_firm, .inl (cZ, 256, .inl g_firm))] H → va_D A [(a_this, .inr (3, [.ref a_sets, z_above, .ref a_firm, z_firstRow, .int g_size, z_columns])), (a_sets, .inl (cI, 15, .inl g_sets)), (a_firm, .inl (cZ, 256, .inl g_firm))] → va_S A s.heap H locs → lv_has ls 4 [(0, .ref a_this), (1, .int x1), (2, .int x2), (3, .int x3)] → W p l e rX3_addKnots s m args below meth c H locs 0 0 QQ (F0 m 2 ls []) := by
    intro n2
    induction n2 with
    | zero => intro x3 g_size g_sets h; exact False.elim h
    | succ n2 ih2 =>
      intro x3 g_size g_sets h H locs ls hP hD hS hl
      refine lv_iload_n hx hb dX3_addKnots_2 rfl (lv_at hl 3 rfl) ?_
      refine lv_iload_n hx hb dX3_addKnots_3 rfl (lv_at hl 2 rfl) ?_
      refine lv_icmp_gt (tgt := 59) hx hb dX3_addKnots_4 (by decide) (fun k1 => ?_) (fun k1 => ?_)
      · have h := h.1 k1
        exact ret _ _ _ _ (g_size, g_sets) dX3_addKnots_59 h (reP hP [0, 1, 2] rfl) (hD.sub [0, 1, 2] (by decide) rfl) hS
      · have h := h.2 k1
        refine lv_iload_n hx hb dX3_addKnots_7 rfl (lv_at hl 3 rfl) ?_
        refine MI.callS (As := [.int x3]) (rest := []) (wr := [(a_this, .inr (3, [.ref a_sets, z_above, .ref a_firm, z_firstRow, .int g_size, z_columns])), (a_sets, .inl (cI, 15, .inl g_sets)), (a_firm, .inl (cZ, 256, .inl g_firm))]) (c_J6_bitCount_0f7a4 l dC dI cI cZ x3 _ h) ⟨hx, hb, hml, hown, hts⟩ (va_cwS 1 hts gX3_addKnots_J6_bitCount_0f7a4 rfl rfl rfl (by decide +kernel) ⟨Nat.le_of_ble_eq_true rfl, Nat.le_of_ble_eq_true rfl⟩) hK hP hD hS hA hNW [] [0, 1, 2] rfl rfl (by decide) (by decide) (by decide) rfl hl.1 rfl (Nat.le_of_ble_eq_true rfl) dX3_addKnots_8 ⟨Nat.zero_le _, Nat.zero_le _⟩ (fun r2 u H locs hw hP hD hS => ?_)
        have h := hw
        try dsimp only at h
        have hP : va_P (dC, dI) vwCl [(a_this, .inr (3, [.ref a_sets, z_above, .ref a_firm, z_firstRow, .int g_size, z_columns])), (a_sets, .inl (cI, 15, .inl g_sets)), (a_firm, .inl (cZ, 256, .inl g_firm))] H := hP
        have hD : va_D A [(a_this, .inr (3, [.ref a_sets, z_above, .ref a_firm, z_firstRow, .int g_size, z_columns])), (a_sets, .inl (cI, 15, .inl g_sets)), (a_firm, .inl (cZ, 256, .inl g_firm))] := hD
        refine lv_iload_n hx hb dX3_addKnots_11 rfl (lv_at hl 1 rfl) ?_
        refine lv_icmp_ne (tgt := 53) hx hb dX3_addKnots_12 (by decide) (fun k3 => ?_) (fun k3 => ?_)
        · have h := h.1 k3
          refine lv_iinc (v := x3 + 1) (lv' := [(3, .int (x3 + 1)), (0, .ref a_this), (1, .int x1), (2, .int x2)]) hx hb dX3_addKnots_53 hl (k := 3) rfl rfl (by decide) rfl (fun ls hl => ?_)
          refine lv_goto (tgt := 2) hx hb dX3_addKnots_56 (by decide) ?_
          exact ih2 (x3 + 1) g_size g_sets h _ _ _ (reP hP [0, 1, 2] rfl) (hD.sub [0, 1, 2] (by decide) rfl) hS (lv_sub hl [1, 2, 3, 0] rfl)
        · have h := h.2 k3
          refine lv_aload_n hx hb dX3_addKnots_15 rfl (lv_at hl 0 rfl) ?_
          refine lv_iload_n hx hb dX3_addKnots_16 rfl (lv_at hl 3 rfl) ?_
          refine lv_iload_n hx hb dX3_addKnots_17 rfl (lv_at hl 2 rfl) ?_
          refine MI.callV (As := [.int x3, .int x2]) (rest := []) (wr := [(a_sets, .inl (cI, 15, .inl g_sets))]) (ci := 3) (q0 := 0) (c_X3_isKnot l dC dI cI cZ a_this a_firm (.ref a_sets) z_above z_firstRow (.int g_size) z_columns g_firm x3 x2 _ h) ⟨hx, hb, hml, hown, hts⟩ (cwV 2 hts gX3_addKnots_X3_isKnot rfl rfl rfl (by decide +kernel) ⟨Nat.le_of_ble_eq_true rfl, Nat.le_of_ble_eq_true rfl⟩) hK hP hD hS hA hNW [0, 2] [1] rfl rfl (by decide) (by decide) (by decide) rfl rfl rfl rfl hl.1 rfl (Nat.le_of_ble_eq_true rfl) dX3_addKnots_18 ⟨Nat.zero_le _, Nat.zero_le _⟩ (fun r4 u H locs hw hP hD hS => ?_)
          obtain ⟨b5, rfl, hw⟩ := hw
          have h := hw
          try dsimp only at h
          have hP : va_P (dC, dI) vwCl [(a_sets, .inl (cI, 15, .inl g_sets)), (a_this, .inr (3, [.ref a_sets, z_above, .ref a_firm, z_firstRow, .int g_size, z_columns])), (a_firm, .inl (cZ, 256, .inl g_firm))] H := hP
          have hD : va_D A [(a_sets, .inl (cI, 15, .inl g_sets)), (a_this, .inr (3, [.ref a_sets, z_above, .ref a_firm, z_firstRow, .int g_size, z_columns])), (a_firm, .inl (cZ, 256, .inl g_firm))] := hD
          refine lv_if_eq (tgt := 53) hx hb dX3_addKnots_21 (by decide) (fun k6 => ?_) (fun k6 => ?_)
          · have h := h.1 (bI_0 k6)
            refine lv_iinc (v := x3 + 1) (lv' := [(3, .int (x3 + 1)), (0, .ref a_this), (1, .int x1), (2, .int x2)]) hx hb dX3_addKnots_53 hl (k := 3) rfl rfl (by decide) rfl (fun ls hl => ?_)
            refine lv_goto (tgt := 2) hx hb dX3_addKnots_56 (by decide) ?_
            exact ih2 (x3 + 1) g_size g_sets h _ _ _ (reP hP [1, 0, 2] rfl) (hD.sub [1, 0, 2] (by decide) rfl) hS (lv_sub hl [1, 2, 3, 0] rfl)
          · have h := h.2 (bI_1 k6)
            refine lv_aload_n hx hb dX3_addKnots_24 rfl (lv_at hl 0 rfl) ?_
            refine va_get (D := (dC, dI)) (ci := 3) (v := .int g_size) (C := RX3) (T := TX3) (N := 6) hx hb hts in3 hown hK hP 1 rfl rfl 4 (by decide) f39 (fun _ h9 => h9) rfl dX3_addKnots_25 ?_
            refine lv_bipush (v := 15) hx hb dX3_addKnots_28 (by decide) ?_
            refine lv_icmp_ge (tgt := 53) hx hb dX3_addKnots_30 (by decide) (fun k7 => ?_) (fun k7 => ?_)
            · have h := h.1 k7
              refine lv_iinc (v := x3 + 1) (lv' := [(3, .int (x3 + 1)), (0, .ref a_this), (1, .int x1), (2, .int x2)]) hx hb dX3_addKnots_53 hl (k := 3) rfl rfl (by decide) rfl (fun ls hl => ?_)
              refine lv_goto (tgt := 2) hx hb dX3_addKnots_56 (by decide) ?_
              exact ih2 (x3 + 1) g_size g_sets h _ _ _ (reP hP [1, 0, 2] rfl) (hD.sub [1, 0, 2] (by decide) rfl) hS (lv_sub hl [1, 2, 3, 0] rfl)
            · have h := h.2 k7
              refine lv_aload_n hx hb dX3_addKnots_33 rfl (lv_at hl 0 rfl) ?_
              refine va_get (D := (dC, dI)) (ci := 3) (v := .ref a_sets) (C := RX3) (T := TX3) (N := 6) hx hb hts in3 hown hK hP 1 rfl rfl 0 (by decide) f9 (fun _ h9 => h9) rfl dX3_addKnots_34 ?_
              refine lv_aload_n hx hb dX3_addKnots_37 rfl (lv_at hl 0 rfl) ?_
              refine va_get (D := (dC, dI)) (ci := 3) (v := .int g_size) (C := RX3) (T := TX3) (N := 6) hx hb hts in3 hown hK hP 1 rfl rfl 4 (by decide) f39 (fun _ h9 => h9) rfl dX3_addKnots_38 ?_
              refine lv_iload_n hx hb dX3_addKnots_41 rfl (lv_at hl 3 rfl) ?_
              obtain ⟨hi8, h⟩ := h
              refine va_iast (D := (dC, dI)) hx hb hK hP hD hS 0 0 rfl rfl hi8 dX3_addKnots_42 (fun H locs hP hD hS => ?_)
              have hP : va_P (dC, dI) vwCl [(a_sets, .inl (cI, 15, .inl (upd g_sets (Int32.toNatClampNeg g_size) x3))), (a_this, .inr (3, [.ref a_sets, z_above, .ref a_firm, z_firstRow, .int g_size, z_columns])), (a_firm, .inl (cZ, 256, .inl g_firm))] H := hP
              have hD : va_D A [(a_sets, .inl (cI, 15, .inl (upd g_sets (Int32.toNatClampNeg g_size) x3))), (a_this, .inr (3, [.ref a_sets, z_above, .ref a_firm, z_firstRow, .int g_size, z_columns])), (a_firm, .inl (cZ, 256, .inl g_firm))] := hD
              refine lv_aload_n hx hb dX3_addKnots_43 rfl (lv_at hl 0 rfl) ?_
              refine lv_dup hx hb dX3_addKnots_44 rfl ?_
              refine va_get (D := (dC, dI)) (ci := 3) (v := .int g_size) (C := RX3) (T := TX3) (N := 6) hx hb hts in3 hown hK hP 1 rfl rfl 4 (by decide) f39 (fun _ h9 => h9) rfl dX3_addKnots_45 ?_
              refine lv_iconst (v := 1) hx hb dX3_addKnots_48 (by decide) ?_
              refine lv_iadd hx hb dX3_addKnots_49 ?_
              refine va_put (D := (dC, dI)) (ci := 3) (v := .int (g_size + 1)) (ty := .int) (C := RX3) (T := TX3) (N := 6) hx hb hts in3 tyX3 tyX3_ok nmX3 hown hK hP hD hS 1 rfl rfl 4 (by decide) f39 (fun _ h9 => h9) rfl (by decide +kernel) rfl rfl (Nat.le_of_ble_eq_true rfl) dX3_addKnots_50 (fun H locs hP hD hS => ?_)
              have hP : va_P (dC, dI) vwCl [(a_sets, .inl (cI, 15, .inl (upd g_sets (Int32.toNatClampNeg g_size) x3))), (a_this, .inr (3, [.ref a_sets, z_above, .ref a_firm, z_firstRow, .int (g_size + 1), z_columns])), (a_firm, .inl (cZ, 256, .inl g_firm))] H := hP
              have hD : va_D A [(a_sets, .inl (cI, 15, .inl (upd g_sets (Int32.toNatClampNeg g_size) x3))), (a_this, .inr (3, [.ref a_sets, z_above, .ref a_firm, z_firstRow, .int (g_size + 1), z_columns])), (a_firm, .inl (cZ, 256, .inl g_firm))] := hD
              refine lv_iinc (v := x3 + 1) (lv' := [(3, .int (x3 + 1)), (0, .ref a_this), (1, .int x1), (2, .int x2)]) hx hb dX3_addKnots_53 hl (k := 3) rfl rfl (by decide) rfl (fun ls hl => ?_)
              refine lv_goto (tgt := 2) hx hb dX3_addKnots_56 (by decide) ?_
              exact ih2 (x3 + 1) (g_size + 1) (upd g_sets (Int32.toNatClampNeg g_size) x3) h _ _ _ (reP hP [1, 0, 2] rfl) (hD.sub [1, 0, 2] (by decide) rfl) hS (lv_sub hl [1, 2, 3, 0] rfl)
  obtain ⟨n, h⟩ := h
  exact L2 n 1 g_size g_sets h _ _ _ (reP hP [0, 1, 2] rfl) (hD.sub [0, 1, 2] (by decide) rfl) hS (lv_sub hl [1, 2, 3, 0] rfl)
/-! ### X3_leastAround leastAround(II)I -/
def rX3_leastAround : Room := { frames := 0, cells := 0, slots := 0, locals := 0 }
def q_X3_leastAround_L2 (x1 : Int32) (g_size : Int32) (g_sets : Nat → Int32) (Q : Int32 → Prop) : Nat → Int32 → Prop
  | 0 => fun _ => False
  | n + 1 => fun x3 => (g_size ≤ x3 → Q (-9)) ∧ (¬ g_size ≤ x3 → vp_in x3 15 ∧ (¬ (x1 &&& ((g_sets (Int32.toNatClampNeg x3)) ^^^ (-1))) = 0 → (q_X3_leastAround_L2 x1 g_size g_sets Q n) (x3 + 1)) ∧ ((x1 &&& ((g_sets (Int32.toNatClampNeg x3)) ^^^ (-1))) = 0 → Q x3))
def q_X3_leastAround (g_size : Int32) (g_sets : Nat → Int32) (x1 : Int32) (x2 : Int32) (Q : Int32 → Prop) : Prop :=
  ∃ N : Nat, q_X3_leastAround_L2 x1 g_size g_sets Q N x2
set_option maxRecDepth 100000 in
set_option maxHeartbeats 4000000 in
theorem c_X3_leastAround (l : Launch) (dC : Nat → ClassId) (dI : Nat → Nat → Nat) (cI cZ : ClassId) (a_this a_sets : Nat) (z_above z_firm z_firstRow z_columns : Value) (g_size : Int32) (g_sets : Nat → Int32) (x1 : Int32) (x2 : Int32) (Q : Int32 → Prop) (h : q_X3_leastAround g_size g_sets x1 x2 Q) : MI l yX3_leastAround wsX3_leastAround rX3_leastAround (dC, dI) [(cI, .int), (cZ, .boolean)] [.ref a_this, .int x1, .int x2] [(a_this, .inr (3, [.ref a_sets, z_above, z_firm, z_firstRow, .int g_size, z_columns])), (a_sets, .inl (cI, 15, .inl g_sets))] (fun (r : Int32) (u : Unit) => Q r) (fun u : Unit => [(a_this, .inr (3, [.ref a_sets, z_above, z_firm, z_firstRow, .int g_size, z_columns])), (a_sets, .inl (cI, 15, .inl g_sets))]) := by
  refine MI.of (cc := cX3_leastAround) (maxL := 4) (by decide +kernel) rfl (Nat.le_of_ble_eq_true rfl) ?_
  intro p e s m args below meth c A QQ ls hx hb hml hown hts hA hK hP hD hS hNW ret hl
  have hl : lv_has ls 4 [(0, .ref a_this), (1, .int x1), (2, .int x2)] := hl
  have hown : s.vm.findClass RX3 = some m.cls := hown
  have in3 : ∀ w ∈ u_ws RX3 TX3 6, w ∈ wsX3_leastAround := fun _ w9 => List.mem_cons_of_mem _ (List.mem_append_right _ w9)
  have f9 := hts (.fieldLink RX3 9 "OnesDesk$Tree" "sets" "[I") (by decide +kernel)
  have f39 := hts (.fieldLink RX3 39 "OnesDesk$Tree" "size" "I") (by decide +kernel)
  refine lv_iload_n hx hb dX3_leastAround_0 rfl (lv_at hl 2 rfl) ?_
  refine lv_istore_n (lv' := [(3, .int x2), (0, .ref a_this), (1, .int x1), (2, .int x2)]) hx hb dX3_leastAround_1 rfl hl (by decide) rfl (fun ls hl => ?_)
  have L2 : ∀ (n2 : Nat), ∀ (x3 : Int32), q_X3_leastAround_L2 x1 g_size g_sets Q n2 x3 → ∀ (H : Heap) (locs : List Loc) (ls : Array Slot), va_P (dC, dI) vwCl [(a_this, .inr (3, [.ref a_sets, z_above, z_firm, z_firstRow, .int g_size, z_columns])), (a_sets, .inl (cI, 15, .inl g_sets))] H → va_D A [(a_this, .inr (3, [.ref a_sets, z_above, z_firm, z_firstRow, .int g_size, z_columns])), (a_sets, .inl (cI, 15, .inl g_sets))] → va_S A s.heap H locs → lv_has ls 4 [(0, .ref a_this), (1, .int x1), (3, .int x3)] → W p l e rX3_leastAround s m args below meth c H locs 0 0 QQ (F0 m 2 ls []) := by
    intro n2
    induction n2 with
    | zero => intro x3 h; exact False.elim h
    | succ n2 ih2 =>
      intro x3 h H locs ls hP hD hS hl
      refine lv_iload_n hx hb dX3_leastAround_2 rfl (lv_at hl 2 rfl) ?_
      refine lv_aload_n hx hb dX3_leastAround_3 rfl (lv_at hl 0 rfl) ?_
      refine va_get (D := (dC, dI)) (ci := 3) (v := .int g_size) (C := RX3) (T := TX3) (N := 6) hx hb hts in3 hown hK hP 0 rfl rfl 4 (by decide) f39 (fun _ h9 => h9) rfl dX3_leastAround_4 ?_
      refine lv_icmp_ge (tgt := 31) hx hb dX3_leastAround_7 (by decide) (fun k1 => ?_) (fun k1 => ?_)
      · have h := h.1 k1
        refine lv_bipush (v := (-9)) hx hb dX3_leastAround_31 (by decide) ?_
        exact ret _ _ _ _ (-9) () dX3_leastAround_33 h (reP hP [0, 1] rfl) (hD.sub [0, 1] (by decide) rfl) hS
      · have h := h.2 k1
        refine lv_iload_n hx hb dX3_leastAround_10 rfl (lv_at hl 1 rfl) ?_
        refine lv_aload_n hx hb dX3_leastAround_11 rfl (lv_at hl 0 rfl) ?_
        refine va_get (D := (dC, dI)) (ci := 3) (v := .ref a_sets) (C := RX3) (T := TX3) (N := 6) hx hb hts in3 hown hK hP 0 rfl rfl 0 (by decide) f9 (fun _ h9 => h9) rfl dX3_leastAround_12 ?_
        refine lv_iload_n hx hb dX3_leastAround_15 rfl (lv_at hl 2 rfl) ?_
        obtain ⟨hi2, h⟩ := h
        refine va_iald (D := (dC, dI)) hx hb hK hP 1 0 rfl rfl hi2 dX3_leastAround_16 ?_
        refine lv_iconst (v := (-1)) hx hb dX3_leastAround_17 (by decide) ?_
        refine lv_ixor hx hb dX3_leastAround_18 ?_
        refine lv_iand hx hb dX3_leastAround_19 ?_
        refine lv_if_ne (tgt := 25) hx hb dX3_leastAround_20 (by decide) (fun k3 => ?_) (fun k3 => ?_)
        · have h := h.1 k3
          refine lv_iinc (v := x3 + 1) (lv' := [(3, .int (x3 + 1)), (0, .ref a_this), (1, .int x1)]) hx hb dX3_leastAround_25 hl (k := 2) rfl rfl (by decide) rfl (fun ls hl => ?_)
          refine lv_goto (tgt := 2) hx hb dX3_leastAround_28 (by decide) ?_
          exact ih2 (x3 + 1) h _ _ _ (reP hP [0, 1] rfl) (hD.sub [0, 1] (by decide) rfl) hS (lv_sub hl [1, 2, 0] rfl)
        · have h := h.2 k3
          refine lv_iload_n hx hb dX3_leastAround_23 rfl (lv_at hl 2 rfl) ?_
          exact ret _ _ _ _ x3 () dX3_leastAround_24 h (reP hP [0, 1] rfl) (hD.sub [0, 1] (by decide) rfl) hS
  obtain ⟨n, h⟩ := h
  exact L2 n x2 h _ _ _ (reP hP [0, 1] rfl) (hD.sub [0, 1] (by decide) rfl) hS (lv_sub hl [1, 2, 0] rfl)
/-! ### X3_grow grow(LOnesDesk$Rows;[I)V -/
def rX3_grow : Room := { frames := 3, cells := 0, slots := 0, locals := 67 }
def q_X3_grow_L92 (g_size : Int32) (g_columns : Int32) (g_sets : Nat → Int32) (g_firm : Nat → Int32) (g_firstRow : Nat → Int32) (Q : Int32 → Int32 → (Nat → Int32) → (Nat → Int32) → (Nat → Int32) → (Nat → Int32) → Prop) : Nat → Int32 → (Nat → Int32) → Prop
  | 0 => fun _ _ => False
  | n + 1 => fun x3 g_above => (g_size ≤ x3 → Q g_size g_columns g_sets g_above g_firm g_firstRow) ∧ (¬ g_size ≤ x3 → vp_in x3 15 ∧ q_X3_leastAround g_size g_sets (g_sets (Int32.toNatClampNeg x3)) (x3 + 1) (fun r3 => (q_X3_grow_L92 g_size g_columns g_sets g_firm g_firstRow Q n) (x3 + 1) (upd g_above (Int32.toNatClampNeg x3) r3)))
def q_X3_grow_J90 (g_size : Int32) (g_columns : Int32) (g_sets : Nat → Int32) (g_above : Nat → Int32) (g_firm : Nat → Int32) (g_firstRow : Nat → Int32) (Q : Int32 → Int32 → (Nat → Int32) → (Nat → Int32) → (Nat → Int32) → (Nat → Int32) → Prop) : Prop :=
  ∃ N : Nat, q_X3_grow_L92 g_size g_columns g_sets g_firm g_firstRow Q N 0 g_above
def q_X3_grow_L67 (g_columns : Int32) (g_above : Nat → Int32) (g_firm : Nat → Int32) (g_firstRow : Nat → Int32) (g_p1_full : Int32) (Q : Int32 → Int32 → (Nat → Int32) → (Nat → Int32) → (Nat → Int32) → (Nat → Int32) → Prop) : Nat → Int32 → Int32 → (Nat → Int32) → Prop
  | 0 => fun _ _ _ => False
  | n + 1 => fun x3 g_size g_sets => (g_columns < x3 → q_X3_grow_J90 g_size g_columns g_sets g_above g_firm g_firstRow Q) ∧ (¬ g_columns < x3 → q_X3_addKnots g_size g_sets g_firm x3 g_p1_full (fun g_size_2 g_sets_3 => (q_X3_grow_L67 g_columns g_above g_firm g_firstRow g_p1_full Q n) (x3 + 1) g_size_2 g_sets_3))
def q_X3_grow_J60 (g_columns : Int32) (g_sets : Nat → Int32) (g_above : Nat → Int32) (g_firm : Nat → Int32) (g_firstRow : Nat → Int32) (g_p1_full : Int32) (Q : Int32 → Int32 → (Nat → Int32) → (Nat → Int32) → (Nat → Int32) → (Nat → Int32) → Prop) : Prop :=
  ∃ N : Nat, q_X3_grow_L67 g_columns g_above g_firm g_firstRow g_p1_full Q N 1 0 g_sets
def q_X3_grow_L35 (g_columns : Int32) (g_sets : Nat → Int32) (g_above : Nat → Int32) (g_firstRow : Nat → Int32) (g_p1_full : Int32) (g_p1_open : Nat → Int32) (Q : Int32 → Int32 → (Nat → Int32) → (Nat → Int32) → (Nat → Int32) → (Nat → Int32) → Prop) : Nat → Int32 → (Nat → Int32) → Prop
  | 0 => fun _ _ => False
  | n + 1 => fun x3 g_firm => (g_p1_full < x3 → q_X3_grow_J60 g_columns g_sets g_above g_firm g_firstRow g_p1_full Q) ∧ (¬ g_p1_full < x3 → q_X1_alwaysTogether g_p1_full g_p1_open x3 (fun b3 => vp_in x3 256 ∧ (q_X3_grow_L35 g_columns g_sets g_above g_firstRow g_p1_full g_p1_open Q n) (x3 + 1) (upd g_firm (Int32.toNatClampNeg x3) (vp_nar .boolean (bI b3)))))
def q_X3_grow_J33 (g_columns : Int32) (g_sets : Nat → Int32) (g_above : Nat → Int32) (g_firm : Nat → Int32) (g_firstRow : Nat → Int32) (g_p1_full : Int32) (g_p1_open : Nat → Int32) (Q : Int32 → Int32 → (Nat → Int32) → (Nat → Int32) → (Nat → Int32) → (Nat → Int32) → Prop) : Prop :=
  ∃ N : Nat, q_X3_grow_L35 g_columns g_sets g_above g_firstRow g_p1_full g_p1_open Q N 0 g_firm
def q_X3_grow_L10 (g_columns : Int32) (g_sets : Nat → Int32) (g_above : Nat → Int32) (g_firm : Nat → Int32) (g_p1_full : Int32) (g_p1_open : Nat → Int32) (g_p2 : Nat → Int32) (Q : Int32 → Int32 → (Nat → Int32) → (Nat → Int32) → (Nat → Int32) → (Nat → Int32) → Prop) : Nat → Int32 → (Nat → Int32) → Prop
  | 0 => fun _ _ => False
  | n + 1 => fun x3 g_firstRow => (g_columns ≤ x3 → q_X3_grow_J33 g_columns g_sets g_above g_firm g_firstRow g_p1_full g_p1_open Q) ∧ (¬ g_columns ≤ x3 → vp_in x3 8 ∧ (q_X3_grow_L10 g_columns g_sets g_above g_firm g_p1_full g_p1_open g_p2 Q n) (x3 + 1) (upd g_firstRow (Int32.toNatClampNeg x3) (g_p2 (Int32.toNatClampNeg x3))))
def q_X3_grow (g_size : Int32) (g_columns : Int32) (g_sets : Nat → Int32) (g_above : Nat → Int32) (g_firm : Nat → Int32) (g_firstRow : Nat → Int32) (g_p1_columns : Int32) (g_p1_full : Int32) (g_p1_open : Nat → Int32) (g_p2 : Nat → Int32) (Q : Int32 → Int32 → (Nat → Int32) → (Nat → Int32) → (Nat → Int32) → (Nat → Int32) → Prop) : Prop :=
  ∃ N : Nat, q_X3_grow_L10 g_p1_columns g_sets g_above g_firm g_p1_full g_p1_open g_p2 Q N 0 g_firstRow
set_option maxRecDepth 100000 in
set_option maxHeartbeats 4000000 in
theorem c_X3_grow (l : Launch) (dC : Nat → ClassId) (dI : Nat → Nat → Nat) (cI cZ : ClassId) (a_this a_sets a_above a_firm a_firstRow a_p1 a_p1_open a_p2 : Nat) (z_p1_ways : Value) (g_size : Int32) (g_columns : Int32) (g_sets : Nat → Int32) (g_above : Nat → Int32) (g_firm : Nat → Int32) (g_firstRow : Nat → Int32) (g_p1_columns : Int32) (g_p1_full : Int32) (g_p1_open : Nat → Int32) (g_p2 : Nat → Int32) (Q : Int32 → Int32 → (Nat → Int32) → (Nat → Int32) → (Nat → Int32) → (Nat → Int32) → Prop) (h : q_X3_grow g_size g_columns g_sets g_above g_firm g_firstRow g_p1_columns g_p1_full g_p1_open g_p2 Q) : MV l yX3_grow wsX3_grow rX3_grow (dC, dI) [(cI, .int), (cZ, .boolean)] [.ref a_this, .ref a_p1, .ref a_p2] [(a_this, .inr (3, [.ref a_sets, .ref a_above, .ref a_firm, .ref a_firstRow, .int g_size, .int g_columns])), (a_sets, .inl (cI, 15, .inl g_sets)), (a_above, .inl (cI, 15, .inl g_above)), (a_firm, .inl (cZ, 256, .inl g_firm)), (a_firstRow, .inl (cI, 8, .inl g_firstRow)), (a_p1, .inr (1, [.ref a_p1_open, z_p1_ways, .int g_p1_columns, .int g_p1_full])), (a_p1_open, .inl (cI, 256, .inl g_p1_open)), (a_p2, .inl (cI, 8, .inl g_p2))] (fun u : Int32 × Int32 × (Nat → Int32) × (Nat → Int32) × (Nat → Int32) × (Nat → Int32) => Q u.1 u.2.1 u.2.2.1 u.2.2.2.1 u.2.2.2.2.1 u.2.2.2.2.2) (fun u : Int32 × Int32 × (Nat → Int32) × (Nat → Int32) × (Nat → Int32) × (Nat → Int32) => [(a_this, .inr (3, [.ref a_sets, .ref a_above, .ref a_firm, .ref a_firstRow, .int u.1, .int u.2.1])), (a_sets, .inl (cI, 15, .inl u.2.2.1)), (a_above, .inl (cI, 15, .inl u.2.2.2.1)), (a_firm, .inl (cZ, 256, .inl u.2.2.2.2.1)), (a_firstRow, .inl (cI, 8, .inl u.2.2.2.2.2)), (a_p1, .inr (1, [.ref a_p1_open, z_p1_ways, .int g_p1_columns, .int g_p1_full])), (a_p1_open, .inl (cI, 256, .inl g_p1_open)), (a_p2, .inl (cI, 8, .inl g_p2))]) := by
  refine MV.of (cc := cX3_grow) (maxL := 4) (by decide +kernel) rfl (Nat.le_of_ble_eq_true rfl) ?_
  intro p e s m args below meth c A QQ ls hx hb hml hown hts hA hK hP hD hS hNW ret hl
  have hl : lv_has ls 4 [(0, .ref a_this), (1, .ref a_p1), (2, .ref a_p2)] := hl
  have hown : s.vm.findClass RX3 = some m.cls := hown
  have in1 : ∀ w ∈ u_ws RX1 TX1 4, w ∈ wsX3_grow := fun _ w9 => List.mem_cons_of_mem _ (List.mem_append_left _ (List.mem_append_right _ w9))
  have in3 : ∀ w ∈ u_ws RX3 TX3 6, w ∈ wsX3_grow := fun _ w9 => List.mem_cons_of_mem _ (List.mem_append_right _ w9)
  have f9 := hts (.fieldLink RX3 9 "OnesDesk$Tree" "sets" "[I") (by decide +kernel)
  have f15 := hts (.fieldLink RX3 15 "OnesDesk$Tree" "above" "[I") (by decide +kernel)
  have f18 := hts (.fieldLink RX3 18 "OnesDesk$Tree" "firm" "[Z") (by decide +kernel)
  have f22 := hts (.fieldLink RX3 22 "OnesDesk$Tree" "firstRow" "[I") (by decide +kernel)
  have f25 := hNW.get (args := args) 9 (a := RX3) (i := 25) (b := "OnesDesk$Rows") (n := "columns") (d := "I") (o := "OnesDesk") rfl
  have f31 := hts (.fieldLink RX3 31 "OnesDesk$Tree" "columns" "I") (by decide +kernel)
  have f32 := hNW.get (args := args) 11 (a := RX3) (i := 32) (b := "OnesDesk$Rows") (n := "full") (d := "I") (o := "OnesDesk") rfl
  have f39 := hts (.fieldLink RX3 39 "OnesDesk$Tree" "size" "I") (by decide +kernel)
  refine lv_aload_n hx hb dX3_grow_0 rfl (lv_at hl 0 rfl) ?_
  refine lv_aload_n hx hb dX3_grow_1 rfl (lv_at hl 1 rfl) ?_
  refine va_getN (D := (dC, dI)) (ci := 1) (v := .int g_p1_columns) (C := RX1) (T := TX1) (N := 4) hx hb hts in1 hown hK hP 5 rfl rfl 2 (by decide) f25 (fun _ h9 => h9) rfl dX3_grow_2 ?_
  refine va_put (D := (dC, dI)) (ci := 3) (v := .int g_p1_columns) (ty := .int) (C := RX3) (T := TX3) (N := 6) hx hb hts in3 tyX3 tyX3_ok nmX3 hown hK hP hD hS 0 rfl rfl 5 (by decide) f31 (fun _ h9 => h9) rfl (by decide +kernel) rfl rfl (Nat.le_of_ble_eq_true rfl) dX3_grow_5 (fun H locs hP hD hS => ?_)
  have hP : va_P (dC, dI) vwCl [(a_this, .inr (3, [.ref a_sets, .ref a_above, .ref a_firm, .ref a_firstRow, .int g_size, .int g_p1_columns])), (a_sets, .inl (cI, 15, .inl g_sets)), (a_above, .inl (cI, 15, .inl g_above)), (a_firm, .inl (cZ, 256, .inl g_firm)), (a_firstRow, .inl (cI, 8, .inl g_firstRow)), (a_p1, .inr (1, [.ref a_p1_open, z_p1_ways, .int g_p1_columns, .int g_p1_full])), (a_p1_open, .inl (cI, 256, .inl g_p1_open)), (a_p2, .inl (cI, 8, .inl g_p2))] H := hP
  have hD : va_D A [(a_this, .inr (3, [.ref a_sets, .ref a_above, .ref a_firm, .ref a_firstRow, .int g_size, .int g_p1_columns])), (a_sets, .inl (cI, 15, .inl g_sets)), (a_above, .inl (cI, 15, .inl g_above)), (a_firm, .inl (cZ, 256, .inl g_firm)), (a_firstRow, .inl (cI, 8, .inl g_firstRow)), (a_p1, .inr (1, [.ref a_p1_open, z_p1_ways, .int g_p1_columns, .int g_p1_full])), (a_p1_open, .inl (cI, 256, .inl g_p1_open)), (a_p2, .inl (cI, 8, .inl g_p2))] := hD
  refine lv_iconst (v := 0) hx hb dX3_grow_8 (by decide) ?_
  refine lv_istore_n (lv' := [(3, .int 0), (0, .ref a_this), (1, .ref a_p1), (2, .ref a_p2)]) hx hb dX3_grow_9 rfl hl (by decide) rfl (fun ls hl => ?_)
  have L10 : ∀ (g_columns : Int32), ∀ (n10 : Nat), ∀ (x3 : Int32) (g_firstRow : Nat → Int32), q_X3_grow_L10 g_columns g_sets g_above g_firm g_p1_full g_p1_open g_p2 Q n10 x3 g_firstRow → ∀ (H : Heap) (locs : List Loc) (ls : Array Slot), va_P (dC, dI) vwCl [(a_this, .inr (3, [.ref a_sets, .ref a_above, .ref a_firm, .ref a_firstRow, .int g_size, .int g_columns])), (a_sets, .inl (cI, 15, .inl g_sets)), (a_above, .inl (cI, 15, .inl g_above)), (a_firm, .inl (cZ, 256, .inl g_firm)), (a_firstRow, .inl (cI, 8, .inl g_firstRow)), (a_p1, .inr (1, [.ref a_p1_open, z_p1_ways, .int g_p1_columns, .int g_p1_full])), (a_p1_open, .inl (cI, 256, .inl g_p1_open)), (a_p2, .inl (cI, 8, .inl g_p2))] H → va_D A [(a_this, .inr (3, [.ref a_sets, .ref a_above, .ref a_firm, .ref a_firstRow, .int g_size, .int g_columns])), (a_sets, .inl (cI, 15, .inl g_sets)), (a_above, .inl (cI, 15, .inl g_above)), (a_firm, .inl (cZ, 256, .inl g_firm)), (a_firstRow, .inl (cI, 8, .inl g_firstRow)), (a_p1, .inr (1, [.ref a_p1_open, z_p1_ways, .int g_p1_columns, .int g_p1_full])), (a_p1_open, .inl (cI, 256, .inl g_p1_open)), (a_p2, .inl (cI, 8, .inl g_p2))] → va_S A s.heap H locs → lv_has ls 4 [(0, .ref a_this), (1, .ref a_p1), (2, .ref a_p2), (3, .int x3)] → W p l e rX3_grow s m args below meth c H locs 0 0 QQ (F0 m 10 ls []) := by
    intro g_columns
    intro n10
    induction n10 with
    | zero => intro x3 g_firstRow h; exact False.elim h
    | succ n10 ih10 =>
      intro x3 g_firstRow h H locs ls hP hD hS hl
      refine lv_iload_n hx hb dX3_grow_10 rfl (lv_at hl 3 rfl) ?_
      refine lv_aload_n hx hb dX3_grow_11 rfl (lv_at hl 0 rfl) ?_
      refine va_get (D := (dC, dI)) (ci := 3) (v := .int g_columns) (C := RX3) (T := TX3) (N := 6) hx hb hts in3 hown hK hP 0 rfl rfl 5 (by decide) f31 (fun _ h9 => h9) rfl dX3_grow_12 ?_
      refine lv_icmp_ge (tgt := 33) hx hb dX3_grow_15 (by decide) (fun k1 => ?_) (fun k1 => ?_)
      · have h := h.1 k1
        have J33 : q_X3_grow_J33 g_columns g_sets g_above g_firm g_firstRow g_p1_full g_p1_open Q → ∀ (H : Heap) (locs : List Loc) (ls : Array Slot), va_P (dC, dI) vwCl [(a_this, .inr (3, [.ref a_sets, .ref a_above, .ref a_firm, .ref a_firstRow, .int g_size, .int g_columns])), (a_sets, .inl (cI, 15, .inl g_sets)), (a_above, .inl (cI, 15, .inl g_above)), (a_firm, .inl (cZ, 256, .inl g_firm)), (a_firstRow, .inl (cI, 8, .inl g_firstRow)), (a_p1, .inr (1, [.ref a_p1_open, z_p1_ways, .int g_p1_columns, .int g_p1_full])), (a_p1_open, .inl (cI, 256, .inl g_p1_open)), (a_p2, .inl (cI, 8, .inl g_p2))] H → va_D A [(a_this, .inr (3, [.ref a_sets, .ref a_above, .ref a_firm, .ref a_firstRow, .int g_size, .int g_columns])), (a_sets, .inl (cI, 15, .inl g_sets)), (a_above, .inl (cI, 15, .inl g_above)), (a_firm, .inl (cZ, 256, .inl g_firm)), (a_firstRow, .inl (cI, 8, .inl g_firstRow)), (a_p1, .inr (1, [.ref a_p1_open, z_p1_ways, .int g_p1_columns, .int g_p1_full])), (a_p1_open, .inl (cI, 256, .inl g_p1_open)), (a_p2, .inl (cI, 8, .inl g_p2))] → va_S A s.heap H locs → lv_has ls 4 [(0, .ref a_this), (1, .ref a_p1), (2, .ref a_p2)] → W p l e rX3_grow s m args below meth c H locs 0 0 QQ (F0 m 33 ls []) := by
          intro  h H locs ls hP hD hS hl
          refine lv_iconst (v := 0) hx hb dX3_grow_33 (by decide) ?_
          refine lv_istore_n (lv' := [(3, .int 0), (0, .ref a_this), (1, .ref a_p1), (2, .ref a_p2)]) hx hb dX3_grow_34 rfl hl (by decide) rfl (fun ls hl => ?_)
          have L35 : ∀ (n35 : Nat), ∀ (x3 : Int32) (g_firm : Nat → Int32), q_X3_grow_L35 g_columns g_sets g_above g_firstRow g_p1_full g_p1_open Q n35 x3 g_firm → ∀ (H : Heap) (locs : List Loc) (ls : Array Slot), va_P (dC, dI) vwCl [(a_this, .inr (3, [.ref a_sets, .ref a_above, .ref a_firm, .ref a_firstRow, .int g_size, .int g_columns])), (a_sets, .inl (cI, 15, .inl g_sets)), (a_above, .inl (cI, 15, .inl g_above)), (a_firm, .inl (cZ, 256, .inl g_firm)), (a_firstRow, .inl (cI, 8, .inl g_firstRow)), (a_p1, .inr (1, [.ref a_p1_open, z_p1_ways, .int g_p1_columns, .int g_p1_full])), (a_p1_open, .inl (cI, 256, .inl g_p1_open)), (a_p2, .inl (cI, 8, .inl g_p2))] H → va_D A [(a_this, .inr (3, [.ref a_sets, .ref a_above, .ref a_firm, .ref a_firstRow, .int g_size, .int g_columns])), (a_sets, .inl (cI, 15, .inl g_sets)), (a_above, .inl (cI, 15, .inl g_above)), (a_firm, .inl (cZ, 256, .inl g_firm)), (a_firstRow, .inl (cI, 8, .inl g_firstRow)), (a_p1, .inr (1, [.ref a_p1_open, z_p1_ways, .int g_p1_columns, .int g_p1_full])), (a_p1_open, .inl (cI, 256, .inl g_p1_open)), (a_p2, .inl (cI, 8, .inl g_p2))] → va_S A s.heap H locs → lv_has ls 4 [(0, .ref a_this), (1, .ref a_p1), (2, .ref a_p2), (3, .int x3)] → W p l e rX3_grow s m args below meth c H locs 0 0 QQ (F0 m 35 ls []) := by
            intro n35
            induction n35 with
            | zero => intro x3 g_firm h; exact False.elim h
            | succ n35 ih35 =>
              intro x3 g_firm h H locs ls hP hD hS hl
              refine lv_iload_n hx hb dX3_grow_35 rfl (lv_at hl 3 rfl) ?_
              refine lv_aload_n hx hb dX3_grow_36 rfl (lv_at hl 1 rfl) ?_
              refine va_getN (D := (dC, dI)) (ci := 1) (v := .int g_p1_full) (C := RX1) (T := TX1) (N := 4) hx hb hts in1 hown hK hP 5 rfl rfl 3 (by decide) f32 (fun _ h9 => h9) rfl dX3_grow_37 ?_
              refine lv_icmp_gt (tgt := 60) hx hb dX3_grow_40 (by decide) (fun k1 => ?_) (fun k1 => ?_)
              · have h := h.1 k1
                have J60 : q_X3_grow_J60 g_columns g_sets g_above g_firm g_firstRow g_p1_full Q → ∀ (H : Heap) (locs : List Loc) (ls : Array Slot), va_P (dC, dI) vwCl [(a_this, .inr (3, [.ref a_sets, .ref a_above, .ref a_firm, .ref a_firstRow, .int g_size, .int g_columns])), (a_sets, .inl (cI, 15, .inl g_sets)), (a_above, .inl (cI, 15, .inl g_above)), (a_firm, .inl (cZ, 256, .inl g_firm)), (a_firstRow, .inl (cI, 8, .inl g_firstRow)), (a_p1, .inr (1, [.ref a_p1_open, z_p1_ways, .int g_p1_columns, .int g_p1_full])), (a_p1_open, .inl (cI, 256, .inl g_p1_open)), (a_p2, .inl (cI, 8, .inl g_p2))] H → va_D A [(a_this, .inr (3, [.ref a_sets, .ref a_above, .ref a_firm, .ref a_firstRow, .int g_size, .int g_columns])), (a_sets, .inl (cI, 15, .inl g_sets)), (a_above, .inl (cI, 15, .inl g_above)), (a_firm, .inl (cZ, 256, .inl g_firm)), (a_firstRow, .inl (cI, 8, .inl g_firstRow)), (a_p1, .inr (1, [.ref a_p1_open, z_p1_ways, .int g_p1_columns, .int g_p1_full])), (a_p1_open, .inl (cI, 256, .inl g_p1_open)), (a_p2, .inl (cI, 8, .inl g_p2))] → va_S A s.heap H locs → lv_has ls 4 [(0, .ref a_this), (1, .ref a_p1), (2, .ref a_p2)] → W p l e rX3_grow s m args below meth c H locs 0 0 QQ (F0 m 60 ls []) := by
                  intro  h H locs ls hP hD hS hl
                  refine lv_aload_n hx hb dX3_grow_60 rfl (lv_at hl 0 rfl) ?_
                  refine lv_iconst (v := 0) hx hb dX3_grow_61 (by decide) ?_
                  refine va_put (D := (dC, dI)) (ci := 3) (v := .int 0) (ty := .int) (C := RX3) (T := TX3) (N := 6) hx hb hts in3 tyX3 tyX3_ok nmX3 hown hK hP hD hS 0 rfl rfl 4 (by decide) f39 (fun _ h9 => h9) rfl (by decide +kernel) rfl rfl (Nat.le_of_ble_eq_true rfl) dX3_grow_62 (fun H locs hP hD hS => ?_)
                  have hP : va_P (dC, dI) vwCl [(a_this, .inr (3, [.ref a_sets, .ref a_above, .ref a_firm, .ref a_firstRow, .int 0, .int g_columns])), (a_sets, .inl (cI, 15, .inl g_sets)), (a_above, .inl (cI, 15, .inl g_above)), (a_firm, .inl (cZ, 256, .inl g_firm)), (a_firstRow, .inl (cI, 8, .inl g_firstRow)), (a_p1, .inr (1, [.ref a_p1_open, z_p1_ways, .int g_p1_columns, .int g_p1_full])), (a_p1_open, .inl (cI, 256, .inl g_p1_open)), (a_p2, .inl (cI, 8, .inl g_p2))] H := hP
                  have hD : va_D A [(a_this, .inr (3, [.ref a_sets, .ref a_above, .ref a_firm, .ref a_firstRow, .int 0, .int g_columns])), (a_sets, .inl (cI, 15, .inl g_sets)), (a_above, .inl (cI, 15, .inl g_above)), (a_firm, .inl (cZ, 256, .inl g_firm)), (a_firstRow, .inl (cI, 8, .inl g_firstRow)), (a_p1, .inr (1, [.ref a_p1_open, z_p1_ways, .int g_p1_columns, .int g_p1_full])), (a_p1_open, .inl (cI, 256, .inl g_p1_open)), (a_p2, .inl (cI, 8, .inl g_p2))] := hD
                  refine lv_iconst (v := 1) hx hb dX3_grow_65 (by decide) ?_
                  refine lv_istore_n (lv' := [(3, .int 1), (0, .ref a_this), (1, .ref a_p1), (2, .ref a_p2)]) hx hb dX3_grow_66 rfl hl (by decide) rfl (fun ls hl => ?_)
                  have L67 : ∀ (n67 : Nat), ∀ (x3 : Int32) (g_size : Int32) (g_sets : Nat → Int32), q_X3_grow_L67 g_columns g_above g_firm g_firstRow g_p1_full Q n67 x3 g_size g_sets → ∀ (H : Heap) (locs : List Loc) (ls : Array Slot), va_P (dC, dI) vwCl [(a_this, .inr (3, [.ref a_sets, .ref a_above, .ref a_firm, .ref a_firstRow, .int g_size, .int g_columns])), (a_sets, .inl (cI, 15, .inl g_sets)), (a_above, .inl (cI, 15, .inl g_above)), (a_firm, .inl (cZ, 256, .inl g_firm)), (a_firstRow, .inl (cI, 8, .inl g_firstRow)), (a_p1, .inr (1, [.ref a_p1_open, z_p1_ways, .int g_p1_columns, .int g_p1_full])), (a_p1_open, .inl (cI, 256, .inl g_p1_open)), (a_p2, .inl (cI, 8, .inl g_p2))] H → va_D A [(a_this, .inr (3, [.ref a_sets, .ref a_above, .ref a_firm, .ref a_firstRow, .int g_size, .int g_columns])), (a_sets, .inl (cI, 15, .inl g_sets)), (a_above, .inl (cI, 15, .inl g_above)), (a_firm, .inl (cZ, 256, .inl g_firm)), (a_firstRow, .inl (cI, 8, .inl g_firstRow)), (a_p1, .inr (1, [.ref a_p1_open, z_p1_ways, .int g_p1_columns, .int g_p1_full])), (a_p1_open, .inl (cI, 256, .inl g_p1_open)), (a_p2, .inl (cI, 8, .inl g_p2))] → va_S A s.heap H locs → lv_has ls 4 [(0, .ref a_this), (1, .ref a_p1), (2, .ref a_p2), (3, .int x3)] → W p l e rX3_grow s m args below meth c H locs 0 0 QQ (F0 m 67 ls []) := by
                    intro n67
                    induction n67 with
                    | zero => intro x3 g_size g_sets h; exact False.elim h
                    | succ n67 ih67 =>
                      intro x3 g_size g_sets h H locs ls hP hD hS hl
                      refine lv_iload_n hx hb dX3_grow_67 rfl (lv_at hl 3 rfl) ?_
                      refine lv_aload_n hx hb dX3_grow_68 rfl (lv_at hl 0 rfl) ?_
                      refine va_get (D := (dC, dI)) (ci := 3) (v := .int g_columns) (C := RX3) (T := TX3) (N := 6) hx hb hts in3 hown hK hP 0 rfl rfl 5 (by decide) f31 (fun _ h9 => h9) rfl dX3_grow_69 ?_
                      refine lv_icmp_gt (tgt := 90) hx hb dX3_grow_72 (by decide) (fun k1 => ?_) (fun k1 => ?_)
                      · have h := h.1 k1
                        have J90 : q_X3_grow_J90 g_size g_columns g_sets g_above g_firm g_firstRow Q → ∀ (H : Heap) (locs : List Loc) (ls : Array Slot), va_P (dC, dI) vwCl [(a_this, .inr (3, [.ref a_sets, .ref a_above, .ref a_firm, .ref a_firstRow, .int g_size, .int g_columns])), (a_sets, .inl (cI, 15, .inl g_sets)), (a_above, .inl (cI, 15, .inl g_above)), (a_firm, .inl (cZ, 256, .inl g_firm)), (a_firstRow, .inl (cI, 8, .inl g_firstRow)), (a_p1, .inr (1, [.ref a_p1_open, z_p1_ways, .int g_p1_columns, .int g_p1_full])), (a_p1_open, .inl (cI, 256, .inl g_p1_open)), (a_p2, .inl (cI, 8, .inl g_p2))] H → va_D A [(a_this, .inr (3, [.ref a_sets, .ref a_above, .ref a_firm, .ref a_firstRow, .int g_size, .int g_columns])), (a_sets, .inl (cI, 15, .inl g_sets)), (a_above, .inl (cI, 15, .inl g_above)), (a_firm, .inl (cZ, 256, .inl g_firm)), (a_firstRow, .inl (cI, 8, .inl g_firstRow)), (a_p1, .inr (1, [.ref a_p1_open, z_p1_ways, .int g_p1_columns, .int g_p1_full])), (a_p1_open, .inl (cI, 256, .inl g_p1_open)), (a_p2, .inl (cI, 8, .inl g_p2))] → va_S A s.heap H locs → lv_has ls 4 [(0, .ref a_this), (1, .ref a_p1), (2, .ref a_p2)] → W p l e rX3_grow s m args below meth c H locs 0 0 QQ (F0 m 90 ls []) := by
                          intro  h H locs ls hP hD hS hl
                          refine lv_iconst (v := 0) hx hb dX3_grow_90 (by decide) ?_
                          refine lv_istore_n (lv' := [(3, .int 0), (0, .ref a_this), (1, .ref a_p1), (2, .ref a_p2)]) hx hb dX3_grow_91 rfl hl (by decide) rfl (fun ls hl => ?_)
                          have L92 : ∀ (n92 : Nat), ∀ (x3 : Int32) (g_above : Nat → Int32), q_X3_grow_L92 g_size g_columns g_sets g_firm g_firstRow Q n92 x3 g_above → ∀ (H : Heap) (locs : List Loc) (ls : Array Slot), va_P (dC, dI) vwCl [(a_this, .inr (3, [.ref a_sets, .ref a_above, .ref a_firm, .ref a_firstRow, .int g_size, .int g_columns])), (a_sets, .inl (cI, 15, .inl g_sets)), (a_above, .inl (cI, 15, .inl g_above)), (a_firm, .inl (cZ, 256, .inl g_firm)), (a_firstRow, .inl (cI, 8, .inl g_firstRow)), (a_p1, .inr (1, [.ref a_p1_open, z_p1_ways, .int g_p1_columns, .int g_p1_full])), (a_p1_open, .inl (cI, 256, .inl g_p1_open)), (a_p2, .inl (cI, 8, .inl g_p2))] H → va_D A [(a_this, .inr (3, [.ref a_sets, .ref a_above, .ref a_firm, .ref a_firstRow, .int g_size, .int g_columns])), (a_sets, .inl (cI, 15, .inl g_sets)), (a_above, .inl (cI, 15, .inl g_above)), (a_firm, .inl (cZ, 256, .inl g_firm)), (a_firstRow, .inl (cI, 8, .inl g_firstRow)), (a_p1, .inr (1, [.ref a_p1_open, z_p1_ways, .int g_p1_columns, .int g_p1_full])), (a_p1_open, .inl (cI, 256, .inl g_p1_open)), (a_p2, .inl (cI, 8, .inl g_p2))] → va_S A s.heap H locs → lv_has ls 4 [(0, .ref a_this), (1, .ref a_p1), (2, .ref a_p2), (3, .int x3)] → W p l e rX3_grow s m args below meth c H locs 0 0 QQ (F0 m 92 ls []) := by
                            intro n92
                            induction n92 with
                            | zero => intro x3 g_above h; exact False.elim h
                            | succ n92 ih92 =>
                              intro x3 g_above h H locs ls hP hD hS hl
                              refine lv_iload_n hx hb dX3_grow_92 rfl (lv_at hl 3 rfl) ?_
                              refine lv_aload_n hx hb dX3_grow_93 rfl (lv_at hl 0 rfl) ?_
                              refine va_get (D := (dC, dI)) (ci := 3) (v := .int g_size) (C := RX3) (T := TX3) (N := 6) hx hb hts in3 hown hK hP 0 rfl rfl 4 (by decide) f39 (fun _ h9 => h9) rfl dX3_grow_94 ?_
                              refine lv_icmp_ge (tgt := 125) hx hb dX3_grow_97 (by decide) (fun k1 => ?_) (fun k1 => ?_)
                              · have h := h.1 k1
                                exact ret _ _ _ _ (g_size, g_columns, g_sets, g_above, g_firm, g_firstRow) dX3_grow_125 h (reP hP [0, 1, 2, 3, 4, 5, 6, 7] rfl) (hD.sub [0, 1, 2, 3, 4, 5, 6, 7] (by decide) rfl) hS
                              · have h := h.2 k1
                                refine lv_aload_n hx hb dX3_grow_100 rfl (lv_at hl 0 rfl) ?_
                                refine va_get (D := (dC, dI)) (ci := 3) (v := .ref a_above) (C := RX3) (T := TX3) (N := 6) hx hb hts in3 hown hK hP 0 rfl rfl 1 (by decide) f15 (fun _ h9 => h9) rfl dX3_grow_101 ?_
                                refine lv_iload_n hx hb dX3_grow_104 rfl (lv_at hl 3 rfl) ?_
                                refine lv_aload_n hx hb dX3_grow_105 rfl (lv_at hl 0 rfl) ?_
                                refine lv_aload_n hx hb dX3_grow_106 rfl (lv_at hl 0 rfl) ?_
                                refine va_get (D := (dC, dI)) (ci := 3) (v := .ref a_sets) (C := RX3) (T := TX3) (N := 6) hx hb hts in3 hown hK hP 0 rfl rfl 0 (by decide) f9 (fun _ h9 => h9) rfl dX3_grow_107 ?_
                                refine lv_iload_n hx hb dX3_grow_110 rfl (lv_at hl 3 rfl) ?_
                                obtain ⟨hi2, h⟩ := h
                                refine va_iald (D := (dC, dI)) hx hb hK hP 1 0 rfl rfl hi2 dX3_grow_111 ?_
                                refine lv_iload_n hx hb dX3_grow_112 rfl (lv_at hl 3 rfl) ?_
                                refine lv_iconst (v := 1) hx hb dX3_grow_113 (by decide) ?_
                                refine lv_iadd hx hb dX3_grow_114 ?_
                                refine MI.callV (As := [.int (g_sets (Int32.toNatClampNeg x3)), .int (x3 + 1)]) (rest := [.int x3, .ref a_above]) (wr := [(a_above, .inl (cI, 15, .inl g_above)), (a_firm, .inl (cZ, 256, .inl g_firm)), (a_firstRow, .inl (cI, 8, .inl g_firstRow)), (a_p1, .inr (1, [.ref a_p1_open, z_p1_ways, .int g_p1_columns, .int g_p1_full])), (a_p1_open, .inl (cI, 256, .inl g_p1_open)), (a_p2, .inl (cI, 8, .inl g_p2))]) (ci := 3) (q0 := 0) (c_X3_leastAround l dC dI cI cZ a_this a_sets (.ref a_above) (.ref a_firm) (.ref a_firstRow) (.int g_columns) g_size g_sets (g_sets (Int32.toNatClampNeg x3)) (x3 + 1) _ h) ⟨hx, hb, hml, hown, hts⟩ (cwV 2 hts gX3_grow_X3_leastAround rfl rfl rfl (by decide +kernel) ⟨Nat.le_of_ble_eq_true rfl, Nat.le_of_ble_eq_true rfl⟩) hK hP hD hS hA hNW [0, 1] [2, 3, 4, 5, 6, 7] rfl rfl (by decide) (by decide) (by decide) rfl rfl rfl rfl hl.1 rfl (Nat.le_of_ble_eq_true rfl) dX3_grow_115 ⟨Nat.zero_le _, Nat.zero_le _⟩ (fun r3 u H locs hw hP hD hS => ?_)
                                have h := hw
                                try dsimp only at h
                                have hP : va_P (dC, dI) vwCl [(a_above, .inl (cI, 15, .inl g_above)), (a_firm, .inl (cZ, 256, .inl g_firm)), (a_firstRow, .inl (cI, 8, .inl g_firstRow)), (a_p1, .inr (1, [.ref a_p1_open, z_p1_ways, .int g_p1_columns, .int g_p1_full])), (a_p1_open, .inl (cI, 256, .inl g_p1_open)), (a_p2, .inl (cI, 8, .inl g_p2)), (a_this, .inr (3, [.ref a_sets, .ref a_above, .ref a_firm, .ref a_firstRow, .int g_size, .int g_columns])), (a_sets, .inl (cI, 15, .inl g_sets))] H := hP
                                have hD : va_D A [(a_above, .inl (cI, 15, .inl g_above)), (a_firm, .inl (cZ, 256, .inl g_firm)), (a_firstRow, .inl (cI, 8, .inl g_firstRow)), (a_p1, .inr (1, [.ref a_p1_open, z_p1_ways, .int g_p1_columns, .int g_p1_full])), (a_p1_open, .inl (cI, 256, .inl g_p1_open)), (a_p2, .inl (cI, 8, .inl g_p2)), (a_this, .inr (3, [.ref a_sets, .ref a_above, .ref a_firm, .ref a_firstRow, .int g_size, .int g_columns])), (a_sets, .inl (cI, 15, .inl g_sets))] := hD
                                refine va_iast (D := (dC, dI)) hx hb hK hP hD hS 0 0 rfl rfl hi2 dX3_grow_118 (fun H locs hP hD hS => ?_)
                                have hP : va_P (dC, dI) vwCl [(a_above, .inl (cI, 15, .inl (upd g_above (Int32.toNatClampNeg x3) r3))), (a_firm, .inl (cZ, 256, .inl g_firm)), (a_firstRow, .inl (cI, 8, .inl g_firstRow)), (a_p1, .inr (1, [.ref a_p1_open, z_p1_ways, .int g_p1_columns, .int g_p1_full])), (a_p1_open, .inl (cI, 256, .inl g_p1_open)), (a_p2, .inl (cI, 8, .inl g_p2)), (a_this, .inr (3, [.ref a_sets, .ref a_above, .ref a_firm, .ref a_firstRow, .int g_size, .int g_columns])), (a_sets, .inl (cI, 15, .inl g_sets))] H := hP
                                have hD : va_D A [(a_above, .inl (cI, 15, .inl (upd g_above (Int32.toNatClampNeg x3) r3))), (a_firm, .inl (cZ, 256, .inl g_firm)), (a_firstRow, .inl (cI, 8, .inl g_firstRow)), (a_p1, .inr (1, [.ref a_p1_open, z_p1_ways, .int g_p1_columns, .int g_p1_full])), (a_p1_open, .inl (cI, 256, .inl g_p1_open)), (a_p2, .inl (cI, 8, .inl g_p2)), (a_this, .inr (3, [.ref a_sets, .ref a_above, .ref a_firm, .ref a_firstRow, .int g_size, .int g_columns])), (a_sets, .inl (cI, 15, .inl g_sets))] := hD
                                refine lv_iinc (v := x3 + 1) (lv' := [(3, .int (x3 + 1)), (0, .ref a_this), (1, .ref a_p1), (2, .ref a_p2)]) hx hb dX3_grow_119 hl (k := 3) rfl rfl (by decide) rfl (fun ls hl => ?_)
                                refine lv_goto (tgt := 92) hx hb dX3_grow_122 (by decide) ?_
                                exact ih92 (x3 + 1) (upd g_above (Int32.toNatClampNeg x3) r3) h _ _ _ (reP hP [6, 7, 0, 1, 2, 3, 4, 5] rfl) (hD.sub [6, 7, 0, 1, 2, 3, 4, 5] (by decide) rfl) hS (lv_sub hl [1, 2, 3, 0] rfl)
                          obtain ⟨n, h⟩ := h
                          exact L92 n 0 g_above h _ _ _ (reP hP [0, 1, 2, 3, 4, 5, 6, 7] rfl) (hD.sub [0, 1, 2, 3, 4, 5, 6, 7] (by decide) rfl) hS (lv_sub hl [1, 2, 3, 0] rfl)
                        exact J90 h _ _ _ (reP hP [0, 1, 2, 3, 4, 5, 6, 7] rfl) (hD.sub [0, 1, 2, 3, 4, 5, 6, 7] (by decide) rfl) hS (lv_sub hl [0, 1, 2] rfl)
                      · have h := h.2 k1
                        refine lv_aload_n hx hb dX3_grow_75 rfl (lv_at hl 0 rfl) ?_
                        refine lv_iload_n hx hb dX3_grow_76 rfl (lv_at hl 3 rfl) ?_
                        refine lv_aload_n hx hb dX3_grow_77 rfl (lv_at hl 1 rfl) ?_
                        refine va_getN (D := (dC, dI)) (ci := 1) (v := .int g_p1_full) (C := RX1) (T := TX1) (N := 4) hx hb hts in1 hown hK hP 5 rfl rfl 3 (by decide) f32 (fun _ h9 => h9) rfl dX3_grow_78 ?_
                        refine MV.callV (As := [.int x3, .int g_p1_full]) (rest := []) (wr := [(a_above, .inl (cI, 15, .inl g_above)), (a_firstRow, .inl (cI, 8, .inl g_firstRow)), (a_p1, .inr (1, [.ref a_p1_open, z_p1_ways, .int g_p1_columns, .int g_p1_full])), (a_p1_open, .inl (cI, 256, .inl g_p1_open)), (a_p2, .inl (cI, 8, .inl g_p2))]) (ci := 3) (q0 := 0) (c_X3_addKnots l dC dI cI cZ a_this a_sets a_firm (.ref a_above) (.ref a_firstRow) (.int g_columns) g_size g_sets g_firm x3 g_p1_full _ h) ⟨hx, hb, hml, hown, hts⟩ (cwV 2 hts gX3_grow_X3_addKnots rfl rfl rfl (by decide +kernel) ⟨Nat.le_of_ble_eq_true rfl, Nat.le_of_ble_eq_true rfl⟩) hK hP hD hS hA hNW [0, 1, 3] [2, 4, 5, 6, 7] rfl rfl (by decide) (by decide) (by decide) rfl rfl rfl rfl hl.1 rfl (Nat.le_of_ble_eq_true rfl) dX3_grow_81 ⟨Nat.zero_le _, Nat.zero_le _⟩ (fun u H locs hw hP hD hS => ?_)
                        obtain ⟨g_size_2, g_sets_3⟩ := u
                        have h := hw
                        try dsimp only at h
                        have hP : va_P (dC, dI) vwCl [(a_above, .inl (cI, 15, .inl g_above)), (a_firstRow, .inl (cI, 8, .inl g_firstRow)), (a_p1, .inr (1, [.ref a_p1_open, z_p1_ways, .int g_p1_columns, .int g_p1_full])), (a_p1_open, .inl (cI, 256, .inl g_p1_open)), (a_p2, .inl (cI, 8, .inl g_p2)), (a_this, .inr (3, [.ref a_sets, .ref a_above, .ref a_firm, .ref a_firstRow, .int g_size_2, .int g_columns])), (a_sets, .inl (cI, 15, .inl g_sets_3)), (a_firm, .inl (cZ, 256, .inl g_firm))] H := hP
                        have hD : va_D A [(a_above, .inl (cI, 15, .inl g_above)), (a_firstRow, .inl (cI, 8, .inl g_firstRow)), (a_p1, .inr (1, [.ref a_p1_open, z_p1_ways, .int g_p1_columns, .int g_p1_full])), (a_p1_open, .inl (cI, 256, .inl g_p1_open)), (a_p2, .inl (cI, 8, .inl g_p2)), (a_this, .inr (3, [.ref a_sets, .ref a_above, .ref a_firm, .ref a_firstRow, .int g_size_2, .int g_columns])), (a_sets, .inl (cI, 15, .inl g_sets_3)), (a_firm, .inl (cZ, 256, .inl g_firm))] := hD
                        refine lv_iinc (v := x3 + 1) (lv' := [(3, .int (x3 + 1)), (0, .ref a_this), (1, .ref a_p1), (2, .ref a_p2)]) hx hb dX3_grow_84 hl (k := 3) rfl rfl (by decide) rfl (fun ls hl => ?_)
                        refine lv_goto (tgt := 67) hx hb dX3_grow_87 (by decide) ?_
                        exact ih67 (x3 + 1) g_size_2 g_sets_3 h _ _ _ (reP hP [5, 6, 0, 7, 1, 2, 3, 4] rfl) (hD.sub [5, 6, 0, 7, 1, 2, 3, 4] (by decide) rfl) hS (lv_sub hl [1, 2, 3, 0] rfl)
                  obtain ⟨n, h⟩ := h
                  exact L67 n 1 0 g_sets h _ _ _ (reP hP [0, 1, 2, 3, 4, 5, 6, 7] rfl) (hD.sub [0, 1, 2, 3, 4, 5, 6, 7] (by decide) rfl) hS (lv_sub hl [1, 2, 3, 0] rfl)
                exact J60 h _ _ _ (reP hP [0, 1, 2, 3, 4, 5, 6, 7] rfl) (hD.sub [0, 1, 2, 3, 4, 5, 6, 7] (by decide) rfl) hS (lv_sub hl [0, 1, 2] rfl)
              · have h := h.2 k1
                refine lv_aload_n hx hb dX3_grow_43 rfl (lv_at hl 0 rfl) ?_
                refine va_get (D := (dC, dI)) (ci := 3) (v := .ref a_firm) (C := RX3) (T := TX3) (N := 6) hx hb hts in3 hown hK hP 0 rfl rfl 2 (by decide) f18 (fun _ h9 => h9) rfl dX3_grow_44 ?_
                refine lv_iload_n hx hb dX3_grow_47 rfl (lv_at hl 3 rfl) ?_
                refine lv_aload_n hx hb dX3_grow_48 rfl (lv_at hl 1 rfl) ?_
                refine lv_iload_n hx hb dX3_grow_49 rfl (lv_at hl 3 rfl) ?_
                refine MI.callV (As := [.int x3]) (rest := [.int x3, .ref a_firm]) (wr := [(a_this, .inr (3, [.ref a_sets, .ref a_above, .ref a_firm, .ref a_firstRow, .int g_size, .int g_columns])), (a_sets, .inl (cI, 15, .inl g_sets)), (a_above, .inl (cI, 15, .inl g_above)), (a_firm, .inl (cZ, 256, .inl g_firm)), (a_firstRow, .inl (cI, 8, .inl g_firstRow)), (a_p2, .inl (cI, 8, .inl g_p2))]) (ci := 1) (q0 := 0) (c_X1_alwaysTogether l dC dI cI cZ a_p1 a_p1_open z_p1_ways (.int g_p1_columns) g_p1_full g_p1_open x3 _ h) ⟨hx, hb, hml, hown, hts⟩ (cwV 1 hts gX3_grow_X1_alwaysTogether rfl rfl rfl (by decide +kernel) ⟨Nat.le_of_ble_eq_true rfl, Nat.le_of_ble_eq_true rfl⟩) hK hP hD hS hA hNW [5, 6] [0, 1, 2, 3, 4, 7] rfl rfl (by decide) (by decide) (by decide) rfl rfl rfl rfl hl.1 rfl (Nat.le_of_ble_eq_true rfl) dX3_grow_50 ⟨Nat.zero_le _, Nat.zero_le _⟩ (fun r2 u H locs hw hP hD hS => ?_)
                obtain ⟨b3, rfl, hw⟩ := hw
                have h := hw
                try dsimp only at h
                have hP : va_P (dC, dI) vwCl [(a_this, .inr (3, [.ref a_sets, .ref a_above, .ref a_firm, .ref a_firstRow, .int g_size, .int g_columns])), (a_sets, .inl (cI, 15, .inl g_sets)), (a_above, .inl (cI, 15, .inl g_above)), (a_firm, .inl (cZ, 256, .inl g_firm)), (a_firstRow, .inl (cI, 8, .inl g_firstRow)), (a_p2, .inl (cI, 8, .inl g_p2)), (a_p1, .inr (1, [.ref a_p1_open, z_p1_ways, .int g_p1_columns, .int g_p1_full])), (a_p1_open, .inl (cI, 256, .inl g_p1_open))] H := hP
                have hD : va_D A [(a_this, .inr (3, [.ref a_sets, .ref a_above, .ref a_firm, .ref a_firstRow, .int g_size, .int g_columns])), (a_sets, .inl (cI, 15, .inl g_sets)), (a_above, .inl (cI, 15, .inl g_above)), (a_firm, .inl (cZ, 256, .inl g_firm)), (a_firstRow, .inl (cI, 8, .inl g_firstRow)), (a_p2, .inl (cI, 8, .inl g_p2)), (a_p1, .inr (1, [.ref a_p1_open, z_p1_ways, .int g_p1_columns, .int g_p1_full])), (a_p1_open, .inl (cI, 256, .inl g_p1_open))] := hD
                obtain ⟨hi4, h⟩ := h
                refine va_zast (D := (dC, dI)) hx hb hK hP hD hS 3 1 rfl rfl hi4 dX3_grow_53 (fun H locs hP hD hS => ?_)
                have hP : va_P (dC, dI) vwCl [(a_this, .inr (3, [.ref a_sets, .ref a_above, .ref a_firm, .ref a_firstRow, .int g_size, .int g_columns])), (a_sets, .inl (cI, 15, .inl g_sets)), (a_above, .inl (cI, 15, .inl g_above)), (a_firm, .inl (cZ, 256, .inl (upd g_firm (Int32.toNatClampNeg x3) (vp_nar .boolean (bI b3))))), (a_firstRow, .inl (cI, 8, .inl g_firstRow)), (a_p2, .inl (cI, 8, .inl g_p2)), (a_p1, .inr (1, [.ref a_p1_open, z_p1_ways, .int g_p1_columns, .int g_p1_full])), (a_p1_open, .inl (cI, 256, .inl g_p1_open))] H := hP
                have hD : va_D A [(a_this, .inr (3, [.ref a_sets, .ref a_above, .ref a_firm, .ref a_firstRow, .int g_size, .int g_columns])), (a_sets, .inl (cI, 15, .inl g_sets)), (a_above, .inl (cI, 15, .inl g_above)), (a_firm, .inl (cZ, 256, .inl (upd g_firm (Int32.toNatClampNeg x3) (vp_nar .boolean (bI b3))))), (a_firstRow, .inl (cI, 8, .inl g_firstRow)), (a_p2, .inl (cI, 8, .inl g_p2)), (a_p1, .inr (1, [.ref a_p1_open, z_p1_ways, .int g_p1_columns, .int g_p1_full])), (a_p1_open, .inl (cI, 256, .inl g_p1_open))] := hD
                refine lv_iinc (v := x3 + 1) (lv' := [(3, .int (x3 + 1)), (0, .ref a_this), (1, .ref a_p1), (2, .ref a_p2)]) hx hb dX3_grow_54 hl (k := 3) rfl rfl (by decide) rfl (fun ls hl => ?_)
                refine lv_goto (tgt := 35) hx hb dX3_grow_57 (by decide) ?_
                exact ih35 (x3 + 1) (upd g_firm (Int32.toNatClampNeg x3) (vp_nar .boolean (bI b3))) h _ _ _ (reP hP [0, 1, 2, 3, 4, 6, 7, 5] rfl) (hD.sub [0, 1, 2, 3, 4, 6, 7, 5] (by decide) rfl) hS (lv_sub hl [1, 2, 3, 0] rfl)
          obtain ⟨n, h⟩ := h
          exact L35 n 0 g_firm h _ _ _ (reP hP [0, 1, 2, 3, 4, 5, 6, 7] rfl) (hD.sub [0, 1, 2, 3, 4, 5, 6, 7] (by decide) rfl) hS (lv_sub hl [1, 2, 3, 0] rfl)
        exact J33 h _ _ _ (reP hP [0, 1, 2, 3, 4, 5, 6, 7] rfl) (hD.sub [0, 1, 2, 3, 4, 5, 6, 7] (by decide) rfl) hS (lv_sub hl [0, 1, 2] rfl)
      · have h := h.2 k1
        refine lv_aload_n hx hb dX3_grow_18 rfl (lv_at hl 0 rfl) ?_
        refine va_get (D := (dC, dI)) (ci := 3) (v := .ref a_firstRow) (C := RX3) (T := TX3) (N := 6) hx hb hts in3 hown hK hP 0 rfl rfl 3 (by decide) f22 (fun _ h9 => h9) rfl dX3_grow_19 ?_
        refine lv_iload_n hx hb dX3_grow_22 rfl (lv_at hl 3 rfl) ?_
        refine lv_aload_n hx hb dX3_grow_23 rfl (lv_at hl 2 rfl) ?_
        refine lv_iload_n hx hb dX3_grow_24 rfl (lv_at hl 3 rfl) ?_
        obtain ⟨hi2, h⟩ := h
        refine va_iald (D := (dC, dI)) hx hb hK hP 7 0 rfl rfl hi2 dX3_grow_25 ?_
        refine va_iast (D := (dC, dI)) hx hb hK hP hD hS 4 0 rfl rfl hi2 dX3_grow_26 (fun H locs hP hD hS => ?_)
        have hP : va_P (dC, dI) vwCl [(a_this, .inr (3, [.ref a_sets, .ref a_above, .ref a_firm, .ref a_firstRow, .int g_size, .int g_columns])), (a_sets, .inl (cI, 15, .inl g_sets)), (a_above, .inl (cI, 15, .inl g_above)), (a_firm, .inl (cZ, 256, .inl g_firm)), (a_firstRow, .inl (cI, 8, .inl (upd g_firstRow (Int32.toNatClampNeg x3) (g_p2 (Int32.toNatClampNeg x3))))), (a_p1, .inr (1, [.ref a_p1_open, z_p1_ways, .int g_p1_columns, .int g_p1_full])), (a_p1_open, .inl (cI, 256, .inl g_p1_open)), (a_p2, .inl (cI, 8, .inl g_p2))] H := hP
        have hD : va_D A [(a_this, .inr (3, [.ref a_sets, .ref a_above, .ref a_firm, .ref a_firstRow, .int g_size, .int g_columns])), (a_sets, .inl (cI, 15, .inl g_sets)), (a_above, .inl (cI, 15, .inl g_above)), (a_firm, .inl (cZ, 256, .inl g_firm)), (a_firstRow, .inl (cI, 8, .inl (upd g_firstRow (Int32.toNatClampNeg x3) (g_p2 (Int32.toNatClampNeg x3))))), (a_p1, .inr (1, [.ref a_p1_open, z_p1_ways, .int g_p1_columns, .int g_p1_full])), (a_p1_open, .inl (cI, 256, .inl g_p1_open)), (a_p2, .inl (cI, 8, .inl g_p2))] := hD
        refine lv_iinc (v := x3 + 1) (lv' := [(3, .int (x3 + 1)), (0, .ref a_this), (1, .ref a_p1), (2, .ref a_p2)]) hx hb dX3_grow_27 hl (k := 3) rfl rfl (by decide) rfl (fun ls hl => ?_)
        refine lv_goto (tgt := 10) hx hb dX3_grow_30 (by decide) ?_
        exact ih10 (x3 + 1) (upd g_firstRow (Int32.toNatClampNeg x3) (g_p2 (Int32.toNatClampNeg x3))) h _ _ _ (reP hP [0, 1, 2, 3, 4, 5, 6, 7] rfl) (hD.sub [0, 1, 2, 3, 4, 5, 6, 7] (by decide) rfl) hS (lv_sub hl [1, 2, 3, 0] rfl)
  obtain ⟨n, h⟩ := h
  exact L10 g_p1_columns n 0 g_firstRow h _ _ _ (reP hP [0, 1, 2, 3, 4, 5, 6, 7] rfl) (hD.sub [0, 1, 2, 3, 4, 5, 6, 7] (by decide) rfl) hS (lv_sub hl [1, 2, 3, 0] rfl)
/-! ### X3_partsOf partsOf(I)I -/
def rX3_partsOf : Room := { frames := 0, cells := 0, slots := 0, locals := 0 }
def q_X3_partsOf_L4 (x1 : Int32) (g_above : Nat → Int32) (Q : Int32 → Prop) : Nat → Int32 → Int32 → Prop
  | 0 => fun _ _ => False
  | n + 1 => fun x2 x3 => (x1 ≤ x3 → Q x2) ∧ (¬ x1 ≤ x3 → vp_in x3 15 ∧ (¬ (g_above (Int32.toNatClampNeg x3)) = x1 → (q_X3_partsOf_L4 x1 g_above Q n) x2 (x3 + 1)) ∧ ((g_above (Int32.toNatClampNeg x3)) = x1 → (q_X3_partsOf_L4 x1 g_above Q n) (x2 + 1) (x3 + 1)))
def q_X3_partsOf (g_above : Nat → Int32) (x1 : Int32) (Q : Int32 → Prop) : Prop :=
  ∃ N : Nat, q_X3_partsOf_L4 x1 g_above Q N 0 0
set_option maxRecDepth 100000 in
set_option maxHeartbeats 4000000 in
theorem c_X3_partsOf (l : Launch) (dC : Nat → ClassId) (dI : Nat → Nat → Nat) (cI cZ : ClassId) (a_this a_above : Nat) (z_sets z_firm z_firstRow z_size z_columns : Value) (g_above : Nat → Int32) (x1 : Int32) (Q : Int32 → Prop) (h : q_X3_partsOf g_above x1 Q) : MI l yX3_partsOf wsX3_partsOf rX3_partsOf (dC, dI) [(cI, .int), (cZ, .boolean)] [.ref a_this, .int x1] [(a_this, .inr (3, [z_sets, .ref a_above, z_firm, z_firstRow, z_size, z_columns])), (a_above, .inl (cI, 15, .inl g_above))] (fun (r : Int32) (u : Unit) => Q r) (fun u : Unit => [(a_this, .inr (3, [z_sets, .ref a_above, z_firm, z_firstRow, z_size, z_columns])), (a_above, .inl (cI, 15, .inl g_above))]) := by
  refine MI.of (cc := cX3_partsOf) (maxL := 4) (by decide +kernel) rfl (Nat.le_of_ble_eq_true rfl) ?_
  intro p e s m args below meth c A QQ ls hx hb hml hown hts hA hK hP hD hS hNW ret hl
  have hl : lv_has ls 4 [(0, .ref a_this), (1, .int x1)] := hl
  have hown : s.vm.findClass RX3 = some m.cls := hown
  have in3 : ∀ w ∈ u_ws RX3 TX3 6, w ∈ wsX3_partsOf := fun _ w9 => List.mem_cons_of_mem _ (List.mem_append_right _ w9)
  have f15 := hts (.fieldLink RX3 15 "OnesDesk$Tree" "above" "[I") (by decide +kernel)
  refine lv_iconst (v := 0) hx hb dX3_partsOf_0 (by decide) ?_
  refine lv_istore_n (lv' := [(2, .int 0), (0, .ref a_this), (1, .int x1)]) hx hb dX3_partsOf_1 rfl hl (by decide) rfl (fun ls hl => ?_)
  refine lv_iconst (v := 0) hx hb dX3_partsOf_2 (by decide) ?_
  refine lv_istore_n (lv' := [(3, .int 0), (2, .int 0), (0, .ref a_this), (1, .int x1)]) hx hb dX3_partsOf_3 rfl hl (by decide) rfl (fun ls hl => ?_)
  have L4 : ∀ (n4 : Nat), ∀ (x2 : Int32) (x3 : Int32), q_X3_partsOf_L4 x1 g_above Q n4 x2 x3 → ∀ (H : Heap) (locs : List Loc) (ls : Array Slot), va_P (dC, dI) vwCl [(a_this, .inr (3, [z_sets, .ref a_above, z_firm, z_firstRow, z_size, z_columns])), (a_above, .inl (cI, 15, .inl g_above))] H → va_D A [(a_this, .inr (3, [z_sets, .ref a_above, z_firm, z_firstRow, z_size, z_columns])), (a_above, .inl (cI, 15, .inl g_above))] → va_S A s.heap H locs → lv_has ls 4 [(0, .ref a_this), (1, .int x1), (2, .int x2), (3, .int x3)] → W p l e rX3_partsOf s m args below meth c H locs 0 0 QQ (F0 m 4 ls []) := by
    intro n4
    induction n4 with
    | zero => intro x2 x3 h; exact False.elim h
    | succ n4 ih4 =>
      intro x2 x3 h H locs ls hP hD hS hl
      refine lv_iload_n hx hb dX3_partsOf_4 rfl (lv_at hl 3 rfl) ?_
      refine lv_iload_n hx hb dX3_partsOf_5 rfl (lv_at hl 1 rfl) ?_
      refine lv_icmp_ge (tgt := 28) hx hb dX3_partsOf_6 (by decide) (fun k1 => ?_) (fun k1 => ?_)
      · have h := h.1 k1
        refine lv_iload_n hx hb dX3_partsOf_28 rfl (lv_at hl 2 rfl) ?_
        exact ret _ _ _ _ x2 () dX3_partsOf_29 h (reP hP [0, 1] rfl) (hD.sub [0, 1] (by decide) rfl) hS
      · have h := h.2 k1
        refine lv_aload_n hx hb dX3_partsOf_9 rfl (lv_at hl 0 rfl) ?_
        refine va_get (D := (dC, dI)) (ci := 3) (v := .ref a_above) (C := RX3) (T := TX3) (N := 6) hx hb hts in3 hown hK hP 0 rfl rfl 1 (by decide) f15 (fun _ h9 => h9) rfl dX3_partsOf_10 ?_
        refine lv_iload_n hx hb dX3_partsOf_13 rfl (lv_at hl 3 rfl) ?_
        obtain ⟨hi2, h⟩ := h
        refine va_iald (D := (dC, dI)) hx hb hK hP 1 0 rfl rfl hi2 dX3_partsOf_14 ?_
        refine lv_iload_n hx hb dX3_partsOf_15 rfl (lv_at hl 1 rfl) ?_
        refine lv_icmp_ne (tgt := 22) hx hb dX3_partsOf_16 (by decide) (fun k3 => ?_) (fun k3 => ?_)
        · have h := h.1 k3
          refine lv_iinc (v := x3 + 1) (lv' := [(3, .int (x3 + 1)), (0, .ref a_this), (1, .int x1), (2, .int x2)]) hx hb dX3_partsOf_22 hl (k := 3) rfl rfl (by decide) rfl (fun ls hl => ?_)
          refine lv_goto (tgt := 4) hx hb dX3_partsOf_25 (by decide) ?_
          exact ih4 x2 (x3 + 1) h _ _ _ (reP hP [0, 1] rfl) (hD.sub [0, 1] (by decide) rfl) hS (lv_sub hl [1, 2, 3, 0] rfl)
        · have h := h.2 k3
          refine lv_iinc (v := x2 + 1) (lv' := [(2, .int (x2 + 1)), (0, .ref a_this), (1, .int x1), (3, .int x3)]) hx hb dX3_partsOf_19 hl (k := 2) rfl rfl (by decide) rfl (fun ls hl => ?_)
          refine lv_iinc (v := x3 + 1) (lv' := [(3, .int (x3 + 1)), (2, .int (x2 + 1)), (0, .ref a_this), (1, .int x1)]) hx hb dX3_partsOf_22 hl (k := 3) rfl rfl (by decide) rfl (fun ls hl => ?_)
          refine lv_goto (tgt := 4) hx hb dX3_partsOf_25 (by decide) ?_
          exact ih4 (x2 + 1) (x3 + 1) h _ _ _ (reP hP [0, 1] rfl) (hD.sub [0, 1] (by decide) rfl) hS (lv_sub hl [2, 3, 1, 0] rfl)
  obtain ⟨n, h⟩ := h
  exact L4 n 0 0 h _ _ _ (reP hP [0, 1] rfl) (hD.sub [0, 1] (by decide) rfl) hS (lv_sub hl [2, 3, 1, 0] rfl)
/-! ### X3_partWith partWith(II)I -/
def rX3_partWith : Room := { frames := 0, cells := 0, slots := 0, locals := 0 }
def q_X3_partWith_L2 (x1 : Int32) (x2 : Int32) (g_sets : Nat → Int32) (g_above : Nat → Int32) (Q : Int32 → Prop) : Nat → Int32 → Prop
  | 0 => fun _ => False
  | n + 1 => fun x3 => (x1 ≤ x3 → Q (-9)) ∧ (¬ x1 ≤ x3 → vp_in x3 15 ∧ (¬ (g_above (Int32.toNatClampNeg x3)) = x1 → (q_X3_partWith_L2 x1 x2 g_sets g_above Q n) (x3 + 1)) ∧ ((g_above (Int32.toNatClampNeg x3)) = x1 → (((g_sets (Int32.toNatClampNeg x3)) &&& x2) = 0 → (q_X3_partWith_L2 x1 x2 g_sets g_above Q n) (x3 + 1)) ∧ (¬ ((g_sets (Int32.toNatClampNeg x3)) &&& x2) = 0 → Q x3)))
def q_X3_partWith (g_sets : Nat → Int32) (g_above : Nat → Int32) (x1 : Int32) (x2 : Int32) (Q : Int32 → Prop) : Prop :=
  ∃ N : Nat, q_X3_partWith_L2 x1 x2 g_sets g_above Q N 0
set_option maxRecDepth 100000 in
set_option maxHeartbeats 4000000 in
theorem c_X3_partWith (l : Launch) (dC : Nat → ClassId) (dI : Nat → Nat → Nat) (cI cZ : ClassId) (a_this a_sets a_above : Nat) (z_firm z_firstRow z_size z_columns : Value) (g_sets : Nat → Int32) (g_above : Nat → Int32) (x1 : Int32) (x2 : Int32) (Q : Int32 → Prop) (h : q_X3_partWith g_sets g_above x1 x2 Q) : MI l yX3_partWith wsX3_partWith rX3_partWith (dC, dI) [(cI, .int), (cZ, .boolean)] [.ref a_this, .int x1, .int x2] [(a_this, .inr (3, [.ref a_sets, .ref a_above, z_firm, z_firstRow, z_size, z_columns])), (a_sets, .inl (cI, 15, .inl g_sets)), (a_above, .inl (cI, 15, .inl g_above))] (fun (r : Int32) (u : Unit) => Q r) (fun u : Unit => [(a_this, .inr (3, [.ref a_sets, .ref a_above, z_firm, z_firstRow, z_size, z_columns])), (a_sets, .inl (cI, 15, .inl g_sets)), (a_above, .inl (cI, 15, .inl g_above))]) := by
  refine MI.of (cc := cX3_partWith) (maxL := 4) (by decide +kernel) rfl (Nat.le_of_ble_eq_true rfl) ?_
  intro p e s m args below meth c A QQ ls hx hb hml hown hts hA hK hP hD hS hNW ret hl
  have hl : lv_has ls 4 [(0, .ref a_this), (1, .int x1), (2, .int x2)] := hl
  have hown : s.vm.findClass RX3 = some m.cls := hown
  have in3 : ∀ w ∈ u_ws RX3 TX3 6, w ∈ wsX3_partWith := fun _ w9 => List.mem_cons_of_mem _ (List.mem_append_right _ w9)
  have f9 := hts (.fieldLink RX3 9 "OnesDesk$Tree" "sets" "[I") (by decide +kernel)
  have f15 := hts (.fieldLink RX3 15 "OnesDesk$Tree" "above" "[I") (by decide +kernel)
  refine lv_iconst (v := 0) hx hb dX3_partWith_0 (by decide) ?_
  refine lv_istore_n (lv' := [(3, .int 0), (0, .ref a_this), (1, .int x1), (2, .int x2)]) hx hb dX3_partWith_1 rfl hl (by decide) rfl (fun ls hl => ?_)
  have L2 : ∀ (n2 : Nat), ∀ (x3 : Int32), q_X3_partWith_L2 x1 x2 g_sets g_above Q n2 x3 → ∀ (H : Heap) (locs : List Loc) (ls : Array Slot), va_P (dC, dI) vwCl [(a_this, .inr (3, [.ref a_sets, .ref a_above, z_firm, z_firstRow, z_size, z_columns])), (a_sets, .inl (cI, 15, .inl g_sets)), (a_above, .inl (cI, 15, .inl g_above))] H → va_D A [(a_this, .inr (3, [.ref a_sets, .ref a_above, z_firm, z_firstRow, z_size, z_columns])), (a_sets, .inl (cI, 15, .inl g_sets)), (a_above, .inl (cI, 15, .inl g_above))] → va_S A s.heap H locs → lv_has ls 4 [(0, .ref a_this), (1, .int x1), (2, .int x2), (3, .int x3)] → W p l e rX3_partWith s m args below meth c H locs 0 0 QQ (F0 m 2 ls []) := by
    intro n2
    induction n2 with
    | zero => intro x3 h; exact False.elim h
    | succ n2 ih2 =>
      intro x3 h H locs ls hP hD hS hl
      refine lv_iload_n hx hb dX3_partWith_2 rfl (lv_at hl 3 rfl) ?_
      refine lv_iload_n hx hb dX3_partWith_3 rfl (lv_at hl 1 rfl) ?_
      refine lv_icmp_ge (tgt := 36) hx hb dX3_partWith_4 (by decide) (fun k1 => ?_) (fun k1 => ?_)
      · have h := h.1 k1
        refine lv_bipush (v := (-9)) hx hb dX3_partWith_36 (by decide) ?_
        exact ret _ _ _ _ (-9) () dX3_partWith_38 h (reP hP [0, 1, 2] rfl) (hD.sub [0, 1, 2] (by decide) rfl) hS
      · have h := h.2 k1
        refine lv_aload_n hx hb dX3_partWith_7 rfl (lv_at hl 0 rfl) ?_
        refine va_get (D := (dC, dI)) (ci := 3) (v := .ref a_above) (C := RX3) (T := TX3) (N := 6) hx hb hts in3 hown hK hP 0 rfl rfl 1 (by decide) f15 (fun _ h9 => h9) rfl dX3_partWith_8 ?_
        refine lv_iload_n hx hb dX3_partWith_11 rfl (lv_at hl 3 rfl) ?_
        obtain ⟨hi2, h⟩ := h
        refine va_iald (D := (dC, dI)) hx hb hK hP 2 0 rfl rfl hi2 dX3_partWith_12 ?_
        refine lv_iload_n hx hb dX3_partWith_13 rfl (lv_at hl 1 rfl) ?_
        refine lv_icmp_ne (tgt := 30) hx hb dX3_partWith_14 (by decide) (fun k3 => ?_) (fun k3 => ?_)
        · have h := h.1 k3
          refine lv_iinc (v := x3 + 1) (lv' := [(3, .int (x3 + 1)), (0, .ref a_this), (1, .int x1), (2, .int x2)]) hx hb dX3_partWith_30 hl (k := 3) rfl rfl (by decide) rfl (fun ls hl => ?_)
          refine lv_goto (tgt := 2) hx hb dX3_partWith_33 (by decide) ?_
          exact ih2 (x3 + 1) h _ _ _ (reP hP [0, 1, 2] rfl) (hD.sub [0, 1, 2] (by decide) rfl) hS (lv_sub hl [1, 2, 3, 0] rfl)
        · have h := h.2 k3
          refine lv_aload_n hx hb dX3_partWith_17 rfl (lv_at hl 0 rfl) ?_
          refine va_get (D := (dC, dI)) (ci := 3) (v := .ref a_sets) (C := RX3) (T := TX3) (N := 6) hx hb hts in3 hown hK hP 0 rfl rfl 0 (by decide) f9 (fun _ h9 => h9) rfl dX3_partWith_18 ?_
          refine lv_iload_n hx hb dX3_partWith_21 rfl (lv_at hl 3 rfl) ?_
          refine va_iald (D := (dC, dI)) hx hb hK hP 1 0 rfl rfl hi2 dX3_partWith_22 ?_
          refine lv_iload_n hx hb dX3_partWith_23 rfl (lv_at hl 2 rfl) ?_
          refine lv_iand hx hb dX3_partWith_24 ?_
          refine lv_if_eq (tgt := 30) hx hb dX3_partWith_25 (by decide) (fun k4 => ?_) (fun k4 => ?_)
          · have h := h.1 k4
            refine lv_iinc (v := x3 + 1) (lv' := [(3, .int (x3 + 1)), (0, .ref a_this), (1, .int x1), (2, .int x2)]) hx hb dX3_partWith_30 hl (k := 3) rfl rfl (by decide) rfl (fun ls hl => ?_)
            refine lv_goto (tgt := 2) hx hb dX3_partWith_33 (by decide) ?_
            exact ih2 (x3 + 1) h _ _ _ (reP hP [0, 1, 2] rfl) (hD.sub [0, 1, 2] (by decide) rfl) hS (lv_sub hl [1, 2, 3, 0] rfl)
          · have h := h.2 k4
            refine lv_iload_n hx hb dX3_partWith_28 rfl (lv_at hl 3 rfl) ?_
            exact ret _ _ _ _ x3 () dX3_partWith_29 h (reP hP [0, 1, 2] rfl) (hD.sub [0, 1, 2] (by decide) rfl) hS
  obtain ⟨n, h⟩ := h
  exact L2 n 0 h _ _ _ (reP hP [0, 1, 2] rfl) (hD.sub [0, 1, 2] (by decide) rfl) hS (lv_sub hl [1, 2, 3, 0] rfl)
/-! ### X3_part part(II)I -/
def rX3_part : Room := { frames := 1, cells := 0, slots := 0, locals := 23 }
def q_X3_part_L8 (x1 : Int32) (x2 : Int32) (g_columns : Int32) (g_sets : Nat → Int32) (g_above : Nat → Int32) (g_firstRow : Nat → Int32) (Q : Int32 → Prop) : Nat → Int32 → Int32 → Int32 → Prop
  | 0 => fun _ _ _ => False
  | n + 1 => fun x3 x4 x5 => (g_columns ≤ x5 → Q (-9)) ∧ (¬ g_columns ≤ x5 → vp_in x5 8 ∧ ∀ x6 : Int32, x6 = (1 <<< ((g_firstRow (Int32.toNatClampNeg x5)) &&& 31)) → q_X3_partWith g_sets g_above x1 (x6 &&& (x3 ^^^ (-1))) (fun r3 => (r3 = (-9) → (q_X3_part_L8 x1 x2 g_columns g_sets g_above g_firstRow Q n) x3 x4 (x5 + 1)) ∧ (¬ r3 = (-9) → (¬ x4 = x2 → vp_in r3 15 ∧ ∀ x3_7 : Int32, x3_7 = (x3 ||| (g_sets (Int32.toNatClampNeg r3))) → (q_X3_part_L8 x1 x2 g_columns g_sets g_above g_firstRow Q n) x3_7 (x4 + 1) (x5 + 1)) ∧ (x4 = x2 → Q r3))))
def q_X3_part (g_columns : Int32) (g_sets : Nat → Int32) (g_above : Nat → Int32) (g_firstRow : Nat → Int32) (x1 : Int32) (x2 : Int32) (Q : Int32 → Prop) : Prop :=
  ∃ N : Nat, q_X3_part_L8 x1 x2 g_columns g_sets g_above g_firstRow Q N 0 0 0
set_option maxRecDepth 100000 in
set_option maxHeartbeats 4000000 in
theorem c_X3_part (l : Launch) (dC : Nat → ClassId) (dI : Nat → Nat → Nat) (cI cZ : ClassId) (a_this a_sets a_above a_firstRow : Nat) (z_firm z_size : Value) (g_columns : Int32) (g_sets : Nat → Int32) (g_above : Nat → Int32) (g_firstRow : Nat → Int32) (x1 : Int32) (x2 : Int32) (Q : Int32 → Prop) (h : q_X3_part g_columns g_sets g_above g_firstRow x1 x2 Q) : MI l yX3_part wsX3_part rX3_part (dC, dI) [(cI, .int), (cZ, .boolean)] [.ref a_this, .int x1, .int x2] [(a_this, .inr (3, [.ref a_sets, .ref a_above, z_firm, .ref a_firstRow, z_size, .int g_columns])), (a_sets, .inl (cI, 15, .inl g_sets)), (a_above, .inl (cI, 15, .inl g_above)), (a_firstRow, .inl (cI, 8, .inl g_firstRow))] (fun (r : Int32) (u : Unit) => Q r) (fun u : Unit => [(a_this, .inr (3, [.ref a_sets, .ref a_above, z_firm, .ref a_firstRow, z_size, .int g_columns])), (a_sets, .inl (cI, 15, .inl g_sets)), (a_above, .inl (cI, 15, .inl g_above)), (a_firstRow, .inl (cI, 8, .inl g_firstRow))]) := by
  refine MI.of (cc := cX3_part) (maxL := 8) (by decide +kernel) rfl (Nat.le_of_ble_eq_true rfl) ?_
  intro p e s m args below meth c A QQ ls hx hb hml hown hts hA hK hP hD hS hNW ret hl
  have hl : lv_has ls 8 [(0, .ref a_this), (1, .int x1), (2, .int x2)] := hl
  have hown : s.vm.findClass RX3 = some m.cls := hown
  have in3 : ∀ w ∈ u_ws RX3 TX3 6, w ∈ wsX3_part := fun _ w9 => List.mem_cons_of_mem _ (List.mem_append_right _ w9)
  have f9 := hts (.fieldLink RX3 9 "OnesDesk$Tree" "sets" "[I") (by decide +kernel)
  have f22 := hts (.fieldLink RX3 22 "OnesDesk$Tree" "firstRow" "[I") (by decide +kernel)
  have f31 := hts (.fieldLink RX3 31 "OnesDesk$Tree" "columns" "I") (by decide +kernel)
  refine lv_iconst (v := 0) hx hb dX3_part_0 (by decide) ?_
  refine lv_istore_n (lv' := [(3, .int 0), (0, .ref a_this), (1, .int x1), (2, .int x2)]) hx hb dX3_part_1 rfl hl (by decide) rfl (fun ls hl => ?_)
  refine lv_iconst (v := 0) hx hb dX3_part_2 (by decide) ?_
  refine lv_istore (lv' := [(4, .int 0), (3, .int 0), (0, .ref a_this), (1, .int x1), (2, .int x2)]) hx hb dX3_part_3 hl (by decide) rfl (fun ls hl => ?_)
  refine lv_iconst (v := 0) hx hb dX3_part_5 (by decide) ?_
  refine lv_istore (lv' := [(5, .int 0), (4, .int 0), (3, .int 0), (0, .ref a_this), (1, .int x1), (2, .int x2)]) hx hb dX3_part_6 hl (by decide) rfl (fun ls hl => ?_)
  have L8 : ∀ (n8 : Nat), ∀ (x3 : Int32) (x4 : Int32) (x5 : Int32), q_X3_part_L8 x1 x2 g_columns g_sets g_above g_firstRow Q n8 x3 x4 x5 → ∀ (H : Heap) (locs : List Loc) (ls : Array Slot), va_P (dC, dI) vwCl [(a_this, .inr (3, [.ref a_sets, .ref a_above, z_firm, .ref a_firstRow, z_size, .int g_columns])), (a_sets, .inl (cI, 15, .inl g_sets)), (a_above, .inl (cI, 15, .inl g_above)), (a_firstRow, .inl (cI, 8, .inl g_firstRow))] H → va_D A [(a_this, .inr (3, [.ref a_sets, .ref a_above, z_firm, .ref a_firstRow, z_size, .int g_columns])), (a_sets, .inl (cI, 15, .inl g_sets)), (a_above, .inl (cI, 15, .inl g_above)), (a_firstRow, .inl (cI, 8, .inl g_firstRow))] → va_S A s.heap H locs → lv_has ls 8 [(0, .ref a_this), (1, .int x1), (2, .int x2), (3, .int x3), (4, .int x4), (5, .int x5)] → W p l e rX3_part s m args below meth c H locs 0 0 QQ (F0 m 8 ls []) := by
    intro n8
    induction n8 with
    | zero => intro x3 x4 x5 h; exact False.elim h
    | succ n8 ih8 =>
      intro x3 x4 x5 h H locs ls hP hD hS hl
      refine lv_iload hx hb dX3_part_8 (lv_at hl 5 rfl) ?_
      refine lv_aload_n hx hb dX3_part_10 rfl (lv_at hl 0 rfl) ?_
      refine va_get (D := (dC, dI)) (ci := 3) (v := .int g_columns) (C := RX3) (T := TX3) (N := 6) hx hb hts in3 hown hK hP 0 rfl rfl 5 (by decide) f31 (fun _ h9 => h9) rfl dX3_part_11 ?_
      refine lv_icmp_ge (tgt := 76) hx hb dX3_part_14 (by decide) (fun k1 => ?_) (fun k1 => ?_)
      · have h := h.1 k1
        refine lv_bipush (v := (-9)) hx hb dX3_part_76 (by decide) ?_
        exact ret _ _ _ _ (-9) () dX3_part_78 h (reP hP [0, 1, 2, 3] rfl) (hD.sub [0, 1, 2, 3] (by decide) rfl) hS
      · have h := h.2 k1
        refine lv_iconst (v := 1) hx hb dX3_part_17 (by decide) ?_
        refine lv_aload_n hx hb dX3_part_18 rfl (lv_at hl 0 rfl) ?_
        refine va_get (D := (dC, dI)) (ci := 3) (v := .ref a_firstRow) (C := RX3) (T := TX3) (N := 6) hx hb hts in3 hown hK hP 0 rfl rfl 3 (by decide) f22 (fun _ h9 => h9) rfl dX3_part_19 ?_
        refine lv_iload hx hb dX3_part_22 (lv_at hl 5 rfl) ?_
        obtain ⟨hi2, h⟩ := h
        refine va_iald (D := (dC, dI)) hx hb hK hP 3 0 rfl rfl hi2 dX3_part_24 ?_
        refine lv_ishl hx hb dX3_part_25 ?_
        refine lv_topi (fun x6 ex6 => ?_)
        have h := h x6 ex6
        refine lv_istore (lv' := [(6, .int x6), (0, .ref a_this), (1, .int x1), (2, .int x2), (3, .int x3), (4, .int x4), (5, .int x5)]) hx hb dX3_part_26 hl (by decide) rfl (fun ls hl => ?_)
        refine lv_aload_n hx hb dX3_part_28 rfl (lv_at hl 1 rfl) ?_
        refine lv_iload_n hx hb dX3_part_29 rfl (lv_at hl 2 rfl) ?_
        refine lv_iload hx hb dX3_part_30 (lv_at hl 0 rfl) ?_
        refine lv_iload_n hx hb dX3_part_32 rfl (lv_at hl 4 rfl) ?_
        refine lv_iconst (v := (-1)) hx hb dX3_part_33 (by decide) ?_
        refine lv_ixor hx hb dX3_part_34 ?_
        refine lv_iand hx hb dX3_part_35 ?_
        refine MI.callV (As := [.int x1, .int (x6 &&& (x3 ^^^ (-1)))]) (rest := []) (wr := [(a_firstRow, .inl (cI, 8, .inl g_firstRow))]) (ci := 3) (q0 := 0) (c_X3_partWith l dC dI cI cZ a_this a_sets a_above z_firm (.ref a_firstRow) z_size (.int g_columns) g_sets g_above x1 (x6 &&& (x3 ^^^ (-1))) _ h) ⟨hx, hb, hml, hown, hts⟩ (cwV 2 hts gX3_part_X3_partWith rfl rfl rfl (by decide +kernel) ⟨Nat.le_of_ble_eq_true rfl, Nat.le_of_ble_eq_true rfl⟩) hK hP hD hS hA hNW [0, 1, 2] [3] rfl rfl (by decide) (by decide) (by decide) rfl rfl rfl rfl hl.1 rfl (Nat.le_of_ble_eq_true rfl) dX3_part_36 ⟨Nat.zero_le _, Nat.zero_le _⟩ (fun r3 u H locs hw hP hD hS => ?_)
        have h := hw
        try dsimp only at h
        have hP : va_P (dC, dI) vwCl [(a_firstRow, .inl (cI, 8, .inl g_firstRow)), (a_this, .inr (3, [.ref a_sets, .ref a_above, z_firm, .ref a_firstRow, z_size, .int g_columns])), (a_sets, .inl (cI, 15, .inl g_sets)), (a_above, .inl (cI, 15, .inl g_above))] H := hP
        have hD : va_D A [(a_firstRow, .inl (cI, 8, .inl g_firstRow)), (a_this, .inr (3, [.ref a_sets, .ref a_above, z_firm, .ref a_firstRow, z_size, .int g_columns])), (a_sets, .inl (cI, 15, .inl g_sets)), (a_above, .inl (cI, 15, .inl g_above))] := hD
        refine lv_istore (lv' := [(7, .int r3), (6, .int x6), (0, .ref a_this), (1, .int x1), (2, .int x2), (3, .int x3), (4, .int x4), (5, .int x5)]) hx hb dX3_part_39 hl (by decide) rfl (fun ls hl => ?_)
        refine lv_iload hx hb dX3_part_41 (lv_at hl 0 rfl) ?_
        refine lv_bipush (v := (-9)) hx hb dX3_part_43 (by decide) ?_
        refine lv_icmp_eq (tgt := 70) hx hb dX3_part_45 (by decide) (fun k4 => ?_) (fun k4 => ?_)
        · have h := h.1 k4
          refine lv_iinc (v := x5 + 1) (lv' := [(5, .int (x5 + 1)), (7, .int r3), (6, .int x6), (0, .ref a_this), (1, .int x1), (2, .int x2), (3, .int x3), (4, .int x4)]) hx hb dX3_part_70 hl (k := 7) rfl rfl (by decide) rfl (fun ls hl => ?_)
          refine lv_goto (tgt := 8) hx hb dX3_part_73 (by decide) ?_
          exact ih8 x3 x4 (x5 + 1) h _ _ _ (reP hP [1, 2, 3, 0] rfl) (hD.sub [1, 2, 3, 0] (by decide) rfl) hS (lv_sub hl [3, 4, 5, 6, 7, 0] rfl)
        · have h := h.2 k4
          refine lv_iload hx hb dX3_part_48 (lv_at hl 6 rfl) ?_
          refine lv_iload_n hx hb dX3_part_50 rfl (lv_at hl 4 rfl) ?_
          refine lv_icmp_ne (tgt := 57) hx hb dX3_part_51 (by decide) (fun k5 => ?_) (fun k5 => ?_)
          · have h := h.1 k5
            refine lv_iinc (v := x4 + 1) (lv' := [(4, .int (x4 + 1)), (7, .int r3), (6, .int x6), (0, .ref a_this), (1, .int x1), (2, .int x2), (3, .int x3), (5, .int x5)]) hx hb dX3_part_57 hl (k := 6) rfl rfl (by decide) rfl (fun ls hl => ?_)
            refine lv_iload_n hx hb dX3_part_60 rfl (lv_at hl 6 rfl) ?_
            refine lv_aload_n hx hb dX3_part_61 rfl (lv_at hl 3 rfl) ?_
            refine va_get (D := (dC, dI)) (ci := 3) (v := .ref a_sets) (C := RX3) (T := TX3) (N := 6) hx hb hts in3 hown hK hP 1 rfl rfl 0 (by decide) f9 (fun _ h9 => h9) rfl dX3_part_62 ?_
            refine lv_iload hx hb dX3_part_65 (lv_at hl 1 rfl) ?_
            obtain ⟨hi6, h⟩ := h
            refine va_iald (D := (dC, dI)) hx hb hK hP 2 0 rfl rfl hi6 dX3_part_67 ?_
            refine lv_ior hx hb dX3_part_68 ?_
            refine lv_topi (fun x3_7 ex3_7 => ?_)
            have h := h x3_7 ex3_7
            refine lv_istore_n (lv' := [(3, .int x3_7), (4, .int (x4 + 1)), (7, .int r3), (6, .int x6), (0, .ref a_this), (1, .int x1), (2, .int x2), (5, .int x5)]) hx hb dX3_part_69 rfl hl (by decide) rfl (fun ls hl => ?_)
            refine lv_iinc (v := x5 + 1) (lv' := [(5, .int (x5 + 1)), (3, .int x3_7), (4, .int (x4 + 1)), (7, .int r3), (6, .int x6), (0, .ref a_this), (1, .int x1), (2, .int x2)]) hx hb dX3_part_70 hl (k := 7) rfl rfl (by decide) rfl (fun ls hl => ?_)
            refine lv_goto (tgt := 8) hx hb dX3_part_73 (by decide) ?_
            exact ih8 x3_7 (x4 + 1) (x5 + 1) h _ _ _ (reP hP [1, 2, 3, 0] rfl) (hD.sub [1, 2, 3, 0] (by decide) rfl) hS (lv_sub hl [5, 6, 7, 1, 2, 0] rfl)
          · have h := h.2 k5
            refine lv_iload hx hb dX3_part_54 (lv_at hl 0 rfl) ?_
            exact ret _ _ _ _ r3 () dX3_part_56 h (reP hP [1, 2, 3, 0] rfl) (hD.sub [1, 2, 3, 0] (by decide) rfl) hS
  obtain ⟨n, h⟩ := h
  exact L8 n 0 0 0 h _ _ _ (reP hP [0, 1, 2, 3] rfl) (hD.sub [0, 1, 2, 3] (by decide) rfl) hS (lv_sub hl [3, 4, 5, 2, 1, 0] rfl)
/-! ### X3_kindOf kindOf(I)I -/
def rX3_kindOf : Room := { frames := 2, cells := 0, slots := 0, locals := 50 }
def q_X3_kindOf (g_columns : Int32) (g_sets : Nat → Int32) (g_above : Nat → Int32) (g_firm : Nat → Int32) (g_firstRow : Nat → Int32) (x1 : Int32) (Q : Int32 → Prop) : Prop :=
  q_X3_partsOf g_above x1 (fun r1 => (¬ r1 = 0 → (¬ r1 = 2 → q_X3_part g_columns g_sets g_above g_firstRow x1 (0 : Int32) (fun r4 => q_X3_part g_columns g_sets g_above g_firstRow x1 (1 : Int32) (fun r5 => (r4 = (-9) → Q 2) ∧ (¬ r4 = (-9) → (¬ r5 = (-9) → vp_in r4 15 ∧ vp_in r5 15 ∧ vp_in ((g_sets (Int32.toNatClampNeg r4)) ||| (g_sets (Int32.toNatClampNeg r5))) 256 ∧ ((g_firm (Int32.toNatClampNeg ((g_sets (Int32.toNatClampNeg r4)) ||| (g_sets (Int32.toNatClampNeg r5))))) = 0 → Q 2) ∧ (¬ (g_firm (Int32.toNatClampNeg ((g_sets (Int32.toNatClampNeg r4)) ||| (g_sets (Int32.toNatClampNeg r5))))) = 0 → Q 3)) ∧ (r5 = (-9) → Q 2))))) ∧ (r1 = 2 → Q 1)) ∧ (r1 = 0 → Q 0))
set_option maxRecDepth 100000 in
set_option maxHeartbeats 4000000 in
theorem c_X3_kindOf (l : Launch) (dC : Nat → ClassId) (dI : Nat → Nat → Nat) (cI cZ : ClassId) (a_this a_sets a_above a_firm a_firstRow : Nat) (z_size : Value) (g_columns : Int32) (g_sets : Nat → Int32) (g_above : Nat → Int32) (g_firm : Nat → Int32) (g_firstRow : Nat → Int32) (x1 : Int32) (Q : Int32 → Prop) (h : q_X3_kindOf g_columns g_sets g_above g_firm g_firstRow x1 Q) : MI l yX3_kindOf wsX3_kindOf rX3_kindOf (dC, dI) [(cI, .int), (cZ, .boolean)] [.ref a_this, .int x1] [(a_this, .inr (3, [.ref a_sets, .ref a_above, .ref a_firm, .ref a_firstRow, z_size, .int g_columns])), (a_sets, .inl (cI, 15, .inl g_sets)), (a_above, .inl (cI, 15, .inl g_above)), (a_firm, .inl (cZ, 256, .inl g_firm)), (a_firstRow, .inl (cI, 8, .inl g_firstRow))] (fun (r : Int32) (u : Unit) => Q r) (fun u : Unit => [(a_this, .inr (3, [.ref a_sets, .ref a_above, .ref a_firm, .ref a_firstRow, z_size, .int g_columns])), (a_sets, .inl (cI, 15, .inl g_sets)), (a_above, .inl (cI, 15, .inl g_above)), (a_firm, .inl (cZ, 256, .inl g_firm)), (a_firstRow, .inl (cI, 8, .inl g_firstRow))]) := by
  refine MI.of (cc := cX3_kindOf) (maxL := 5) (by decide +kernel) rfl (Nat.le_of_ble_eq_true rfl) ?_
  intro p e s m args below meth c A QQ ls hx hb hml hown hts hA hK hP hD hS hNW ret hl
  have hl : lv_has ls 5 [(0, .ref a_this), (1, .int x1)] := hl
  have hown : s.vm.findClass RX3 = some m.cls := hown
  have in3 : ∀ w ∈ u_ws RX3 TX3 6, w ∈ wsX3_kindOf := fun _ w9 => List.mem_cons_of_mem _ (List.mem_append_right _ w9)
  have f9 := hts (.fieldLink RX3 9 "OnesDesk$Tree" "sets" "[I") (by decide +kernel)
  have f18 := hts (.fieldLink RX3 18 "OnesDesk$Tree" "firm" "[Z") (by decide +kernel)
  refine lv_aload_n hx hb dX3_kindOf_0 rfl (lv_at hl 0 rfl) ?_
  refine lv_iload_n hx hb dX3_kindOf_1 rfl (lv_at hl 1 rfl) ?_
  refine MI.callV (As := [.int x1]) (rest := []) (wr := [(a_sets, .inl (cI, 15, .inl g_sets)), (a_firm, .inl (cZ, 256, .inl g_firm)), (a_firstRow, .inl (cI, 8, .inl g_firstRow))]) (ci := 3) (q0 := 0) (c_X3_partsOf l dC dI cI cZ a_this a_above (.ref a_sets) (.ref a_firm) (.ref a_firstRow) z_size (.int g_columns) g_above x1 _ h) ⟨hx, hb, hml, hown, hts⟩ (cwV 1 hts gX3_kindOf_X3_partsOf rfl rfl rfl (by decide +kernel) ⟨Nat.le_of_ble_eq_true rfl, Nat.le_of_ble_eq_true rfl⟩) hK hP hD hS hA hNW [0, 2] [1, 3, 4] rfl rfl (by decide) (by decide) (by decide) rfl rfl rfl rfl hl.1 rfl (Nat.le_of_ble_eq_true rfl) dX3_kindOf_2 ⟨Nat.zero_le _, Nat.zero_le _⟩ (fun r1 u H locs hw hP hD hS => ?_)
  have h := hw
  try dsimp only at h
  have hP : va_P (dC, dI) vwCl [(a_sets, .inl (cI, 15, .inl g_sets)), (a_firm, .inl (cZ, 256, .inl g_firm)), (a_firstRow, .inl (cI, 8, .inl g_firstRow)), (a_this, .inr (3, [.ref a_sets, .ref a_above, .ref a_firm, .ref a_firstRow, z_size, .int g_columns])), (a_above, .inl (cI, 15, .inl g_above))] H := hP
  have hD : va_D A [(a_sets, .inl (cI, 15, .inl g_sets)), (a_firm, .inl (cZ, 256, .inl g_firm)), (a_firstRow, .inl (cI, 8, .inl g_firstRow)), (a_this, .inr (3, [.ref a_sets, .ref a_above, .ref a_firm, .ref a_firstRow, z_size, .int g_columns])), (a_above, .inl (cI, 15, .inl g_above))] := hD
  refine lv_istore_n (lv' := [(2, .int r1), (0, .ref a_this), (1, .int x1)]) hx hb dX3_kindOf_5 rfl hl (by decide) rfl (fun ls hl => ?_)
  refine lv_iload_n hx hb dX3_kindOf_6 rfl (lv_at hl 0 rfl) ?_
  refine lv_if_ne (tgt := 12) hx hb dX3_kindOf_7 (by decide) (fun k2 => ?_) (fun k2 => ?_)
  · have h := h.1 k2
    refine lv_iload_n hx hb dX3_kindOf_12 rfl (lv_at hl 0 rfl) ?_
    refine lv_iconst (v := 2) hx hb dX3_kindOf_13 (by decide) ?_
    refine lv_icmp_ne (tgt := 19) hx hb dX3_kindOf_14 (by decide) (fun k3 => ?_) (fun k3 => ?_)
    · have h := h.1 k3
      refine lv_aload_n hx hb dX3_kindOf_19 rfl (lv_at hl 1 rfl) ?_
      refine lv_iload_n hx hb dX3_kindOf_20 rfl (lv_at hl 2 rfl) ?_
      refine lv_iconst (v := 0) hx hb dX3_kindOf_21 (by decide) ?_
      refine MI.callV (As := [.int x1, .int 0]) (rest := []) (wr := [(a_firm, .inl (cZ, 256, .inl g_firm))]) (ci := 3) (q0 := 0) (c_X3_part l dC dI cI cZ a_this a_sets a_above a_firstRow (.ref a_firm) z_size g_columns g_sets g_above g_firstRow x1 (0 : Int32) _ h) ⟨hx, hb, hml, hown, hts⟩ (cwV 2 hts gX3_kindOf_X3_part rfl rfl rfl (by decide +kernel) ⟨Nat.le_of_ble_eq_true rfl, Nat.le_of_ble_eq_true rfl⟩) hK hP hD hS hA hNW [3, 0, 4, 2] [1] rfl rfl (by decide) (by decide) (by decide) rfl rfl rfl rfl hl.1 rfl (Nat.le_of_ble_eq_true rfl) dX3_kindOf_22 ⟨Nat.zero_le _, Nat.zero_le _⟩ (fun r4 u H locs hw hP hD hS => ?_)
      have h := hw
      try dsimp only at h
      have hP : va_P (dC, dI) vwCl [(a_firm, .inl (cZ, 256, .inl g_firm)), (a_this, .inr (3, [.ref a_sets, .ref a_above, .ref a_firm, .ref a_firstRow, z_size, .int g_columns])), (a_sets, .inl (cI, 15, .inl g_sets)), (a_above, .inl (cI, 15, .inl g_above)), (a_firstRow, .inl (cI, 8, .inl g_firstRow))] H := hP
      have hD : va_D A [(a_firm, .inl (cZ, 256, .inl g_firm)), (a_this, .inr (3, [.ref a_sets, .ref a_above, .ref a_firm, .ref a_firstRow, z_size, .int g_columns])), (a_sets, .inl (cI, 15, .inl g_sets)), (a_above, .inl (cI, 15, .inl g_above)), (a_firstRow, .inl (cI, 8, .inl g_firstRow))] := hD
      refine lv_istore_n (lv' := [(3, .int r4), (2, .int r1), (0, .ref a_this), (1, .int x1)]) hx hb dX3_kindOf_25 rfl hl (by decide) rfl (fun ls hl => ?_)
      refine lv_aload_n hx hb dX3_kindOf_26 rfl (lv_at hl 2 rfl) ?_
      refine lv_iload_n hx hb dX3_kindOf_27 rfl (lv_at hl 3 rfl) ?_
      refine lv_iconst (v := 1) hx hb dX3_kindOf_28 (by decide) ?_
      refine MI.callV (As := [.int x1, .int 1]) (rest := []) (wr := [(a_firm, .inl (cZ, 256, .inl g_firm))]) (ci := 3) (q0 := 0) (c_X3_part l dC dI cI cZ a_this a_sets a_above a_firstRow (.ref a_firm) z_size g_columns g_sets g_above g_firstRow x1 (1 : Int32) _ h) ⟨hx, hb, hml, hown, hts⟩ (cwV 2 hts gX3_kindOf_X3_part rfl rfl rfl (by decide +kernel) ⟨Nat.le_of_ble_eq_true rfl, Nat.le_of_ble_eq_true rfl⟩) hK hP hD hS hA hNW [1, 2, 3, 4] [0] rfl rfl (by decide) (by decide) (by decide) rfl rfl rfl rfl hl.1 rfl (Nat.le_of_ble_eq_true rfl) dX3_kindOf_29 ⟨Nat.zero_le _, Nat.zero_le _⟩ (fun r5 u H locs hw hP hD hS => ?_)
      have h := hw
      try dsimp only at h
      have hP : va_P (dC, dI) vwCl [(a_firm, .inl (cZ, 256, .inl g_firm)), (a_this, .inr (3, [.ref a_sets, .ref a_above, .ref a_firm, .ref a_firstRow, z_size, .int g_columns])), (a_sets, .inl (cI, 15, .inl g_sets)), (a_above, .inl (cI, 15, .inl g_above)), (a_firstRow, .inl (cI, 8, .inl g_firstRow))] H := hP
      have hD : va_D A [(a_firm, .inl (cZ, 256, .inl g_firm)), (a_this, .inr (3, [.ref a_sets, .ref a_above, .ref a_firm, .ref a_firstRow, z_size, .int g_columns])), (a_sets, .inl (cI, 15, .inl g_sets)), (a_above, .inl (cI, 15, .inl g_above)), (a_firstRow, .inl (cI, 8, .inl g_firstRow))] := hD
      refine lv_istore (lv' := [(4, .int r5), (3, .int r4), (2, .int r1), (0, .ref a_this), (1, .int x1)]) hx hb dX3_kindOf_32 hl (by decide) rfl (fun ls hl => ?_)
      refine lv_iload_n hx hb dX3_kindOf_34 rfl (lv_at hl 1 rfl) ?_
      refine lv_bipush (v := (-9)) hx hb dX3_kindOf_35 (by decide) ?_
      refine lv_icmp_eq (tgt := 47) hx hb dX3_kindOf_37 (by decide) (fun k6 => ?_) (fun k6 => ?_)
      · have h := h.1 k6
        refine lv_iconst (v := 2) hx hb dX3_kindOf_47 (by decide) ?_
        exact ret _ _ _ _ 2 () dX3_kindOf_48 h (reP hP [1, 2, 3, 0, 4] rfl) (hD.sub [1, 2, 3, 0, 4] (by decide) rfl) hS
      · have h := h.2 k6
        refine lv_iload hx hb dX3_kindOf_40 (lv_at hl 0 rfl) ?_
        refine lv_bipush (v := (-9)) hx hb dX3_kindOf_42 (by decide) ?_
        refine lv_icmp_ne (tgt := 49) hx hb dX3_kindOf_44 (by decide) (fun k7 => ?_) (fun k7 => ?_)
        · have h := h.1 k7
          refine lv_aload_n hx hb dX3_kindOf_49 rfl (lv_at hl 3 rfl) ?_
          refine va_get (D := (dC, dI)) (ci := 3) (v := .ref a_firm) (C := RX3) (T := TX3) (N := 6) hx hb hts in3 hown hK hP 1 rfl rfl 2 (by decide) f18 (fun _ h9 => h9) rfl dX3_kindOf_50 ?_
          refine lv_aload_n hx hb dX3_kindOf_53 rfl (lv_at hl 3 rfl) ?_
          refine va_get (D := (dC, dI)) (ci := 3) (v := .ref a_sets) (C := RX3) (T := TX3) (N := 6) hx hb hts in3 hown hK hP 1 rfl rfl 0 (by decide) f9 (fun _ h9 => h9) rfl dX3_kindOf_54 ?_
          refine lv_iload_n hx hb dX3_kindOf_57 rfl (lv_at hl 1 rfl) ?_
          obtain ⟨hi8, h⟩ := h
          refine va_iald (D := (dC, dI)) hx hb hK hP 2 0 rfl rfl hi8 dX3_kindOf_58 ?_
          refine lv_aload_n hx hb dX3_kindOf_59 rfl (lv_at hl 3 rfl) ?_
          refine va_get (D := (dC, dI)) (ci := 3) (v := .ref a_sets) (C := RX3) (T := TX3) (N := 6) hx hb hts in3 hown hK hP 1 rfl rfl 0 (by decide) f9 (fun _ h9 => h9) rfl dX3_kindOf_60 ?_
          refine lv_iload hx hb dX3_kindOf_63 (lv_at hl 0 rfl) ?_
          obtain ⟨hi9, h⟩ := h
          refine va_iald (D := (dC, dI)) hx hb hK hP 2 0 rfl rfl hi9 dX3_kindOf_65 ?_
          refine lv_ior hx hb dX3_kindOf_66 ?_
          obtain ⟨hi10, h⟩ := h
          refine va_zald (D := (dC, dI)) hx hb hK hP 0 1 rfl rfl hi10 dX3_kindOf_67 ?_
          refine lv_if_eq (tgt := 75) hx hb dX3_kindOf_68 (by decide) (fun k11 => ?_) (fun k11 => ?_)
          · have h := h.1 k11
            refine lv_iconst (v := 2) hx hb dX3_kindOf_75 (by decide) ?_
            exact ret _ _ _ _ 2 () dX3_kindOf_76 h (reP hP [1, 2, 3, 0, 4] rfl) (hD.sub [1, 2, 3, 0, 4] (by decide) rfl) hS
          · have h := h.2 k11
            refine lv_iconst (v := 3) hx hb dX3_kindOf_71 (by decide) ?_
            refine lv_goto (tgt := 76) hx hb dX3_kindOf_72 (by decide) ?_
            exact ret _ _ _ _ 3 () dX3_kindOf_76 h (reP hP [1, 2, 3, 0, 4] rfl) (hD.sub [1, 2, 3, 0, 4] (by decide) rfl) hS
        · have h := h.2 k7
          refine lv_iconst (v := 2) hx hb dX3_kindOf_47 (by decide) ?_
          exact ret _ _ _ _ 2 () dX3_kindOf_48 h (reP hP [1, 2, 3, 0, 4] rfl) (hD.sub [1, 2, 3, 0, 4] (by decide) rfl) hS
    · have h := h.2 k3
      refine lv_iconst (v := 1) hx hb dX3_kindOf_17 (by decide) ?_
      exact ret _ _ _ _ 1 () dX3_kindOf_18 h (reP hP [3, 0, 4, 1, 2] rfl) (hD.sub [3, 0, 4, 1, 2] (by decide) rfl) hS
  · have h := h.2 k2
    refine lv_iconst (v := 0) hx hb dX3_kindOf_10 (by decide) ?_
    exact ret _ _ _ _ 0 () dX3_kindOf_11 h (reP hP [3, 0, 4, 1, 2] rfl) (hD.sub [3, 0, 4, 1, 2] (by decide) rfl) hS
