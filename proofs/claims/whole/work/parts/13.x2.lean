/-! ### X2_addLine addLine(II)V -/
def rX2_addLine : Room := { frames := 1, cells := 0, slots := 0, locals := 20 }
def q_X2_addLine_L28 (x1 : Int32) (x2 : Int32) (x3 : Int32) (k19 : Int32 → (Nat → Int32) → Prop) : Nat → Int32 → (Nat → Int32) → Prop
  | 0 => fun _ _ => False
  | n + 1 => fun x4 g_saved => (8 ≤ x4 → k19 (x3 + 1) g_saved) ∧ (¬ 8 ≤ x4 → (x3 = x4 → (q_X2_addLine_L28 x1 x2 x3 k19 n) (x4 + 1) g_saved) ∧ (¬ x3 = x4 → (¬ ((x1 >>> (x3 &&& 31)) &&& 1) = 1 → (q_X2_addLine_L28 x1 x2 x3 k19 n) (x4 + 1) g_saved) ∧ (((x1 >>> (x3 &&& 31)) &&& 1) = 1 → (¬ ((x1 >>> (x4 &&& 31)) &&& 1) = 1 → (q_X2_addLine_L28 x1 x2 x3 k19 n) (x4 + 1) g_saved) ∧ (((x1 >>> (x4 &&& 31)) &&& 1) = 1 → vp_in ((x3 * 8) + x4) 72 ∧ (q_X2_addLine_L28 x1 x2 x3 k19 n) (x4 + 1) (upd g_saved (Int32.toNatClampNeg ((x3 * 8) + x4)) ((g_saved (Int32.toNatClampNeg ((x3 * 8) + x4))) + x2))))))
def q_X2_addLine_L19 (x1 : Int32) (x2 : Int32) (g_unsaved : Int32) (Q : Int32 → (Nat → Int32) → Prop) : Nat → Int32 → (Nat → Int32) → Prop
  | 0 => fun _ _ => False
  | n + 1 => fun x3 g_saved => (8 ≤ x3 → Q g_unsaved g_saved) ∧ (¬ 8 ≤ x3 → ∃ N : Nat, q_X2_addLine_L28 x1 x2 x3 (fun y0 y1 => q_X2_addLine_L19 x1 x2 g_unsaved Q n y0 y1) N 0 g_saved)
def q_X2_addLine (g_unsaved : Int32) (g_saved : Nat → Int32) (x1 : Int32) (x2 : Int32) (Q : Int32 → (Nat → Int32) → Prop) : Prop :=
  q_J6_bitCount_0f7a4 x1 (fun r1 => ∃ N : Nat, q_X2_addLine_L19 x1 x2 (g_unsaved + (x2 * (r1 - 1))) Q N 0 g_saved)
set_option maxRecDepth 100000 in
set_option maxHeartbeats 4000000 in
theorem c_X2_addLine (l : Launch) (dC : Nat → ClassId) (dI : Nat → Nat → Nat) (cI cZ : ClassId) (a_this a_saved : Nat) (z_most z_least : Value) (g_unsaved : Int32) (g_saved : Nat → Int32) (x1 : Int32) (x2 : Int32) (Q : Int32 → (Nat → Int32) → Prop) (h : q_X2_addLine g_unsaved g_saved x1 x2 Q) : MV l yX2_addLine wsX2_addLine rX2_addLine (dC, dI) [(cI, .int), (cZ, .boolean)] [.ref a_this, .int x1, .int x2] [(a_this, .inr (2, [.ref a_saved, z_most, z_least, .int g_unsaved])), (a_saved, .inl (cI, 72, .inl g_saved))] (fun u : Int32 × (Nat → Int32) => Q u.1 u.2) (fun u : Int32 × (Nat → Int32) => [(a_this, .inr (2, [.ref a_saved, z_most, z_least, .int u.1])), (a_saved, .inl (cI, 72, .inl u.2))]) := by
  refine MV.of (cc := cX2_addLine) (maxL := 5) (by decide +kernel) rfl (Nat.le_of_ble_eq_true rfl) ?_
  intro p e s m args below meth c A QQ ls hx hb hml hown hts hA hK hP hD hS hNW ret hl
  have hl : lv_has ls 5 [(0, .ref a_this), (1, .int x1), (2, .int x2)] := hl
  have hown : s.vm.findClass RX2 = some m.cls := hown
  have in2 : ∀ w ∈ u_ws RX2 TX2 4, w ∈ wsX2_addLine := fun _ w9 => List.mem_cons_of_mem _ (List.mem_append_right _ w9)
  have f11 := hts (.fieldLink RX2 11 "OnesDesk$Savings" "saved" "[I") (by decide +kernel)
  have f21 := hts (.fieldLink RX2 21 "OnesDesk$Savings" "unsaved" "I") (by decide +kernel)
  refine lv_aload_n hx hb dX2_addLine_0 rfl (lv_at hl 0 rfl) ?_
  refine lv_dup hx hb dX2_addLine_1 rfl ?_
  refine va_get (D := (dC, dI)) (ci := 2) (v := .int g_unsaved) (C := RX2) (T := TX2) (N := 4) hx hb hts in2 hown hK hP 0 rfl rfl 3 (by decide) f21 (fun _ h9 => h9) rfl dX2_addLine_2 ?_
  refine lv_iload_n hx hb dX2_addLine_5 rfl (lv_at hl 2 rfl) ?_
  refine lv_iload_n hx hb dX2_addLine_6 rfl (lv_at hl 1 rfl) ?_
  refine MI.callS (As := [.int x1]) (rest := [.int x2, .int g_unsaved, .ref a_this]) (wr := [(a_this, .inr (2, [.ref a_saved, z_most, z_least, .int g_unsaved])), (a_saved, .inl (cI, 72, .inl g_saved))]) (c_J6_bitCount_0f7a4 l dC dI cI cZ x1 _ h) ⟨hx, hb, hml, hown, hts⟩ (va_cwS 1 hts gX2_addLine_J6_bitCount_0f7a4 rfl rfl rfl (by decide +kernel) ⟨Nat.le_of_ble_eq_true rfl, Nat.le_of_ble_eq_true rfl⟩) hK hP hD hS hA hNW [] [0, 1] rfl rfl (by decide) (by decide) (by decide) rfl hl.1 rfl (Nat.le_of_ble_eq_true rfl) dX2_addLine_7 ⟨Nat.zero_le _, Nat.zero_le _⟩ (fun r1 u H locs hw hP hD hS => ?_)
  have h := hw
  try dsimp only at h
  have hP : va_P (dC, dI) vwCl [(a_this, .inr (2, [.ref a_saved, z_most, z_least, .int g_unsaved])), (a_saved, .inl (cI, 72, .inl g_saved))] H := hP
  have hD : va_D A [(a_this, .inr (2, [.ref a_saved, z_most, z_least, .int g_unsaved])), (a_saved, .inl (cI, 72, .inl g_saved))] := hD
  refine lv_iconst (v := 1) hx hb dX2_addLine_10 (by decide) ?_
  refine lv_isub hx hb dX2_addLine_11 ?_
  refine lv_imul hx hb dX2_addLine_12 ?_
  refine lv_iadd hx hb dX2_addLine_13 ?_
  refine va_put (D := (dC, dI)) (ci := 2) (v := .int (g_unsaved + (x2 * (r1 - 1)))) (ty := .int) (C := RX2) (T := TX2) (N := 4) hx hb hts in2 tyX2 tyX2_ok nmX2 hown hK hP hD hS 0 rfl rfl 3 (by decide) f21 (fun _ h9 => h9) rfl (by decide +kernel) rfl rfl (Nat.le_of_ble_eq_true rfl) dX2_addLine_14 (fun H locs hP hD hS => ?_)
  have hP : va_P (dC, dI) vwCl [(a_this, .inr (2, [.ref a_saved, z_most, z_least, .int (g_unsaved + (x2 * (r1 - 1)))])), (a_saved, .inl (cI, 72, .inl g_saved))] H := hP
  have hD : va_D A [(a_this, .inr (2, [.ref a_saved, z_most, z_least, .int (g_unsaved + (x2 * (r1 - 1)))])), (a_saved, .inl (cI, 72, .inl g_saved))] := hD
  refine lv_iconst (v := 0) hx hb dX2_addLine_17 (by decide) ?_
  refine lv_istore_n (lv' := [(3, .int 0), (0, .ref a_this), (1, .int x1), (2, .int x2)]) hx hb dX2_addLine_18 rfl hl (by decide) rfl (fun ls hl => ?_)
  have L19 : ∀ (g_unsaved : Int32), ∀ (n19 : Nat), ∀ (x3 : Int32) (g_saved : Nat → Int32), q_X2_addLine_L19 x1 x2 g_unsaved Q n19 x3 g_saved → ∀ (H : Heap) (locs : List Loc) (ls : Array Slot), va_P (dC, dI) vwCl [(a_this, .inr (2, [.ref a_saved, z_most, z_least, .int g_unsaved])), (a_saved, .inl (cI, 72, .inl g_saved))] H → va_D A [(a_this, .inr (2, [.ref a_saved, z_most, z_least, .int g_unsaved])), (a_saved, .inl (cI, 72, .inl g_saved))] → va_S A s.heap H locs → lv_has ls 5 [(0, .ref a_this), (1, .int x1), (2, .int x2), (3, .int x3)] → W p l e rX2_addLine s m args below meth c H locs 0 0 QQ (F0 m 19 ls []) := by
    intro g_unsaved
    intro n19
    induction n19 with
    | zero => intro x3 g_saved h; exact False.elim h
    | succ n19 ih19 =>
      intro x3 g_saved h H locs ls hP hD hS hl
      refine lv_iload_n hx hb dX2_addLine_19 rfl (lv_at hl 3 rfl) ?_
      refine lv_bipush (v := 8) hx hb dX2_addLine_20 (by decide) ?_
      refine lv_icmp_ge (tgt := 88) hx hb dX2_addLine_22 (by decide) (fun k1 => ?_) (fun k1 => ?_)
      · have h := h.1 k1
        exact ret _ _ _ _ (g_unsaved, g_saved) dX2_addLine_88 h (reP hP [0, 1] rfl) (hD.sub [0, 1] (by decide) rfl) hS
      · have h := h.2 k1
        refine lv_iconst (v := 0) hx hb dX2_addLine_25 (by decide) ?_
        refine lv_istore (lv' := [(4, .int 0), (0, .ref a_this), (1, .int x1), (2, .int x2), (3, .int x3)]) hx hb dX2_addLine_26 hl (by decide) rfl (fun ls hl => ?_)
        have L28 : ∀ (n28 : Nat), ∀ (x4 : Int32) (g_saved : Nat → Int32), q_X2_addLine_L28 x1 x2 x3 (q_X2_addLine_L19 x1 x2 g_unsaved Q n19) n28 x4 g_saved → ∀ (H : Heap) (locs : List Loc) (ls : Array Slot), va_P (dC, dI) vwCl [(a_this, .inr (2, [.ref a_saved, z_most, z_least, .int g_unsaved])), (a_saved, .inl (cI, 72, .inl g_saved))] H → va_D A [(a_this, .inr (2, [.ref a_saved, z_most, z_least, .int g_unsaved])), (a_saved, .inl (cI, 72, .inl g_saved))] → va_S A s.heap H locs → lv_has ls 5 [(0, .ref a_this), (1, .int x1), (2, .int x2), (3, .int x3), (4, .int x4)] → W p l e rX2_addLine s m args below meth c H locs 0 0 QQ (F0 m 28 ls []) := by
          intro n28
          induction n28 with
          | zero => intro x4 g_saved h; exact False.elim h
          | succ n28 ih28 =>
            intro x4 g_saved h H locs ls hP hD hS hl
            refine lv_iload hx hb dX2_addLine_28 (lv_at hl 4 rfl) ?_
            refine lv_bipush (v := 8) hx hb dX2_addLine_30 (by decide) ?_
            refine lv_icmp_ge (tgt := 82) hx hb dX2_addLine_32 (by decide) (fun k1 => ?_) (fun k1 => ?_)
            · have h := h.1 k1
              refine lv_iinc (v := x3 + 1) (lv' := [(3, .int (x3 + 1)), (0, .ref a_this), (1, .int x1), (2, .int x2), (4, .int x4)]) hx hb dX2_addLine_82 hl (k := 3) rfl rfl (by decide) rfl (fun ls hl => ?_)
              refine lv_goto (tgt := 19) hx hb dX2_addLine_85 (by decide) ?_
              exact ih19 (x3 + 1) g_saved h _ _ _ (reP hP [0, 1] rfl) (hD.sub [0, 1] (by decide) rfl) hS (lv_sub hl [1, 2, 3, 0] rfl)
            · have h := h.2 k1
              refine lv_iload_n hx hb dX2_addLine_35 rfl (lv_at hl 3 rfl) ?_
              refine lv_iload hx hb dX2_addLine_36 (lv_at hl 4 rfl) ?_
              refine lv_icmp_eq (tgt := 76) hx hb dX2_addLine_38 (by decide) (fun k2 => ?_) (fun k2 => ?_)
              · have h := h.1 k2
                refine lv_iinc (v := x4 + 1) (lv' := [(4, .int (x4 + 1)), (0, .ref a_this), (1, .int x1), (2, .int x2), (3, .int x3)]) hx hb dX2_addLine_76 hl (k := 4) rfl rfl (by decide) rfl (fun ls hl => ?_)
                refine lv_goto (tgt := 28) hx hb dX2_addLine_79 (by decide) ?_
                exact ih28 (x4 + 1) g_saved h _ _ _ (reP hP [0, 1] rfl) (hD.sub [0, 1] (by decide) rfl) hS (lv_sub hl [1, 2, 3, 4, 0] rfl)
              · have h := h.2 k2
                refine lv_iload_n hx hb dX2_addLine_41 rfl (lv_at hl 1 rfl) ?_
                refine lv_iload_n hx hb dX2_addLine_42 rfl (lv_at hl 3 rfl) ?_
                refine lv_ishr hx hb dX2_addLine_43 ?_
                refine lv_iconst (v := 1) hx hb dX2_addLine_44 (by decide) ?_
                refine lv_iand hx hb dX2_addLine_45 ?_
                refine lv_iconst (v := 1) hx hb dX2_addLine_46 (by decide) ?_
                refine lv_icmp_ne (tgt := 76) hx hb dX2_addLine_47 (by decide) (fun k3 => ?_) (fun k3 => ?_)
                · have h := h.1 k3
                  refine lv_iinc (v := x4 + 1) (lv' := [(4, .int (x4 + 1)), (0, .ref a_this), (1, .int x1), (2, .int x2), (3, .int x3)]) hx hb dX2_addLine_76 hl (k := 4) rfl rfl (by decide) rfl (fun ls hl => ?_)
                  refine lv_goto (tgt := 28) hx hb dX2_addLine_79 (by decide) ?_
                  exact ih28 (x4 + 1) g_saved h _ _ _ (reP hP [0, 1] rfl) (hD.sub [0, 1] (by decide) rfl) hS (lv_sub hl [1, 2, 3, 4, 0] rfl)
                · have h := h.2 k3
                  refine lv_iload_n hx hb dX2_addLine_50 rfl (lv_at hl 1 rfl) ?_
                  refine lv_iload hx hb dX2_addLine_51 (lv_at hl 4 rfl) ?_
                  refine lv_ishr hx hb dX2_addLine_53 ?_
                  refine lv_iconst (v := 1) hx hb dX2_addLine_54 (by decide) ?_
                  refine lv_iand hx hb dX2_addLine_55 ?_
                  refine lv_iconst (v := 1) hx hb dX2_addLine_56 (by decide) ?_
                  refine lv_icmp_ne (tgt := 76) hx hb dX2_addLine_57 (by decide) (fun k4 => ?_) (fun k4 => ?_)
                  · have h := h.1 k4
                    refine lv_iinc (v := x4 + 1) (lv' := [(4, .int (x4 + 1)), (0, .ref a_this), (1, .int x1), (2, .int x2), (3, .int x3)]) hx hb dX2_addLine_76 hl (k := 4) rfl rfl (by decide) rfl (fun ls hl => ?_)
                    refine lv_goto (tgt := 28) hx hb dX2_addLine_79 (by decide) ?_
                    exact ih28 (x4 + 1) g_saved h _ _ _ (reP hP [0, 1] rfl) (hD.sub [0, 1] (by decide) rfl) hS (lv_sub hl [1, 2, 3, 4, 0] rfl)
                  · have h := h.2 k4
                    refine lv_aload_n hx hb dX2_addLine_60 rfl (lv_at hl 0 rfl) ?_
                    refine va_get (D := (dC, dI)) (ci := 2) (v := .ref a_saved) (C := RX2) (T := TX2) (N := 4) hx hb hts in2 hown hK hP 0 rfl rfl 0 (by decide) f11 (fun _ h9 => h9) rfl dX2_addLine_61 ?_
                    refine lv_iload_n hx hb dX2_addLine_64 rfl (lv_at hl 3 rfl) ?_
                    refine lv_bipush (v := 8) hx hb dX2_addLine_65 (by decide) ?_
                    refine lv_imul hx hb dX2_addLine_67 ?_
                    refine lv_iload hx hb dX2_addLine_68 (lv_at hl 4 rfl) ?_
                    refine lv_iadd hx hb dX2_addLine_70 ?_
                    refine lv_dup2_11 hx hb dX2_addLine_71 rfl rfl ?_
                    obtain ⟨hi5, h⟩ := h
                    refine va_iald (D := (dC, dI)) hx hb hK hP 1 0 rfl rfl hi5 dX2_addLine_72 ?_
                    refine lv_iload_n hx hb dX2_addLine_73 rfl (lv_at hl 2 rfl) ?_
                    refine lv_iadd hx hb dX2_addLine_74 ?_
                    refine va_iast (D := (dC, dI)) hx hb hK hP hD hS 1 0 rfl rfl hi5 dX2_addLine_75 (fun H locs hP hD hS => ?_)
                    have hP : va_P (dC, dI) vwCl [(a_this, .inr (2, [.ref a_saved, z_most, z_least, .int g_unsaved])), (a_saved, .inl (cI, 72, .inl (upd g_saved (Int32.toNatClampNeg ((x3 * 8) + x4)) ((g_saved (Int32.toNatClampNeg ((x3 * 8) + x4))) + x2))))] H := hP
                    have hD : va_D A [(a_this, .inr (2, [.ref a_saved, z_most, z_least, .int g_unsaved])), (a_saved, .inl (cI, 72, .inl (upd g_saved (Int32.toNatClampNeg ((x3 * 8) + x4)) ((g_saved (Int32.toNatClampNeg ((x3 * 8) + x4))) + x2))))] := hD
                    refine lv_iinc (v := x4 + 1) (lv' := [(4, .int (x4 + 1)), (0, .ref a_this), (1, .int x1), (2, .int x2), (3, .int x3)]) hx hb dX2_addLine_76 hl (k := 4) rfl rfl (by decide) rfl (fun ls hl => ?_)
                    refine lv_goto (tgt := 28) hx hb dX2_addLine_79 (by decide) ?_
                    exact ih28 (x4 + 1) (upd g_saved (Int32.toNatClampNeg ((x3 * 8) + x4)) ((g_saved (Int32.toNatClampNeg ((x3 * 8) + x4))) + x2)) h _ _ _ (reP hP [0, 1] rfl) (hD.sub [0, 1] (by decide) rfl) hS (lv_sub hl [1, 2, 3, 4, 0] rfl)
        obtain ⟨n, h⟩ := h
        exact L28 n 0 g_saved h _ _ _ (reP hP [0, 1] rfl) (hD.sub [0, 1] (by decide) rfl) hS (lv_sub hl [1, 2, 3, 4, 0] rfl)
  obtain ⟨n, h⟩ := h
  exact L19 (g_unsaved + (x2 * (r1 - 1))) n 0 g_saved h _ _ _ (reP hP [0, 1] rfl) (hD.sub [0, 1] (by decide) rfl) hS (lv_sub hl [1, 2, 3, 0] rfl)
/-! ### X2_weigh weigh(LOnesDesk$Lines;)V -/
def rX2_weigh : Room := { frames := 2, cells := 0, slots := 0, locals := 44 }
def q_X2_weigh_L28 (g_p1_told : Int32) (g_p1_sets : Nat → Int32) (g_p1_states : Nat → Int32) (g_p1_weights : Nat → Int32) (Q : Int32 → (Nat → Int32) → Prop) : Nat → Int32 → Int32 → (Nat → Int32) → Prop
  | 0 => fun _ _ _ => False
  | n + 1 => fun x2 g_unsaved g_saved => (g_p1_told ≤ x2 → Q g_unsaved g_saved) ∧ (¬ g_p1_told ≤ x2 → vp_in x2 40 ∧ (¬ (g_p1_states (Int32.toNatClampNeg x2)) = 1 → (q_X2_weigh_L28 g_p1_told g_p1_sets g_p1_states g_p1_weights Q n) (x2 + 1) g_unsaved g_saved) ∧ ((g_p1_states (Int32.toNatClampNeg x2)) = 1 → q_X2_addLine g_unsaved g_saved (g_p1_sets (Int32.toNatClampNeg x2)) (g_p1_weights (Int32.toNatClampNeg x2)) (fun g_unsaved_4 g_saved_5 => (q_X2_weigh_L28 g_p1_told g_p1_sets g_p1_states g_p1_weights Q n) (x2 + 1) g_unsaved_4 g_saved_5)))
def q_X2_weigh_J26 (g_unsaved : Int32) (g_saved : Nat → Int32) (g_p1_told : Int32) (g_p1_sets : Nat → Int32) (g_p1_states : Nat → Int32) (g_p1_weights : Nat → Int32) (Q : Int32 → (Nat → Int32) → Prop) : Prop :=
  ∃ N : Nat, q_X2_weigh_L28 g_p1_told g_p1_sets g_p1_states g_p1_weights Q N 0 g_unsaved g_saved
def q_X2_weigh_L7 (g_unsaved : Int32) (g_p1_told : Int32) (g_p1_sets : Nat → Int32) (g_p1_states : Nat → Int32) (g_p1_weights : Nat → Int32) (Q : Int32 → (Nat → Int32) → Prop) : Nat → Int32 → (Nat → Int32) → Prop
  | 0 => fun _ _ => False
  | n + 1 => fun x2 g_saved => (72 ≤ x2 → q_X2_weigh_J26 g_unsaved g_saved g_p1_told g_p1_sets g_p1_states g_p1_weights Q) ∧ (¬ 72 ≤ x2 → vp_in x2 72 ∧ (q_X2_weigh_L7 g_unsaved g_p1_told g_p1_sets g_p1_states g_p1_weights Q n) (x2 + 1) (upd g_saved (Int32.toNatClampNeg x2) 0))
def q_X2_weigh (g_unsaved : Int32) (g_saved : Nat → Int32) (g_p1_told : Int32) (g_p1_sets : Nat → Int32) (g_p1_states : Nat → Int32) (g_p1_weights : Nat → Int32) (Q : Int32 → (Nat → Int32) → Prop) : Prop :=
  ∃ N : Nat, q_X2_weigh_L7 0 g_p1_told g_p1_sets g_p1_states g_p1_weights Q N 0 g_saved
set_option maxRecDepth 100000 in
set_option maxHeartbeats 4000000 in
theorem c_X2_weigh (l : Launch) (dC : Nat → ClassId) (dI : Nat → Nat → Nat) (cI cZ : ClassId) (a_this a_saved a_p1 a_p1_sets a_p1_states a_p1_weights : Nat) (z_most z_least : Value) (g_unsaved : Int32) (g_saved : Nat → Int32) (g_p1_told : Int32) (g_p1_sets : Nat → Int32) (g_p1_states : Nat → Int32) (g_p1_weights : Nat → Int32) (Q : Int32 → (Nat → Int32) → Prop) (h : q_X2_weigh g_unsaved g_saved g_p1_told g_p1_sets g_p1_states g_p1_weights Q) : MV l yX2_weigh wsX2_weigh rX2_weigh (dC, dI) [(cI, .int), (cZ, .boolean)] [.ref a_this, .ref a_p1] [(a_this, .inr (2, [.ref a_saved, z_most, z_least, .int g_unsaved])), (a_saved, .inl (cI, 72, .inl g_saved)), (a_p1, .inr (0, [.ref a_p1_sets, .ref a_p1_states, .ref a_p1_weights, .int g_p1_told])), (a_p1_sets, .inl (cI, 40, .inl g_p1_sets)), (a_p1_states, .inl (cI, 40, .inl g_p1_states)), (a_p1_weights, .inl (cI, 40, .inl g_p1_weights))] (fun u : Int32 × (Nat → Int32) => Q u.1 u.2) (fun u : Int32 × (Nat → Int32) => [(a_this, .inr (2, [.ref a_saved, z_most, z_least, .int u.1])), (a_saved, .inl (cI, 72, .inl u.2)), (a_p1, .inr (0, [.ref a_p1_sets, .ref a_p1_states, .ref a_p1_weights, .int g_p1_told])), (a_p1_sets, .inl (cI, 40, .inl g_p1_sets)), (a_p1_states, .inl (cI, 40, .inl g_p1_states)), (a_p1_weights, .inl (cI, 40, .inl g_p1_weights))]) := by
  refine MV.of (cc := cX2_weigh) (maxL := 3) (by decide +kernel) rfl (Nat.le_of_ble_eq_true rfl) ?_
  intro p e s m args below meth c A QQ ls hx hb hml hown hts hA hK hP hD hS hNW ret hl
  have hl : lv_has ls 3 [(0, .ref a_this), (1, .ref a_p1)] := hl
  have hown : s.vm.findClass RX2 = some m.cls := hown
  have in0 : ∀ w ∈ u_ws RX0 TX0 4, w ∈ wsX2_weigh := fun _ w9 => List.mem_cons_of_mem _ (List.mem_append_right _ w9)
  have in2 : ∀ w ∈ u_ws RX2 TX2 4, w ∈ wsX2_weigh := fun _ w9 => List.mem_cons_of_mem _ (List.mem_append_left _ (List.mem_append_right _ w9))
  have f11 := hts (.fieldLink RX2 11 "OnesDesk$Savings" "saved" "[I") (by decide +kernel)
  have f21 := hts (.fieldLink RX2 21 "OnesDesk$Savings" "unsaved" "I") (by decide +kernel)
  have f25 := hNW.get (args := args) 6 (a := RX2) (i := 25) (b := "OnesDesk$Lines") (n := "told") (d := "I") (o := "OnesDesk") rfl
  have f30 := hNW.get (args := args) 2 (a := RX2) (i := 30) (b := "OnesDesk$Lines") (n := "states") (d := "[I") (o := "OnesDesk") rfl
  have f33 := hNW.get (args := args) 0 (a := RX2) (i := 33) (b := "OnesDesk$Lines") (n := "sets") (d := "[I") (o := "OnesDesk") rfl
  have f36 := hNW.get (args := args) 4 (a := RX2) (i := 36) (b := "OnesDesk$Lines") (n := "weights") (d := "[I") (o := "OnesDesk") rfl
  refine lv_aload_n hx hb dX2_weigh_0 rfl (lv_at hl 0 rfl) ?_
  refine lv_iconst (v := 0) hx hb dX2_weigh_1 (by decide) ?_
  refine va_put (D := (dC, dI)) (ci := 2) (v := .int 0) (ty := .int) (C := RX2) (T := TX2) (N := 4) hx hb hts in2 tyX2 tyX2_ok nmX2 hown hK hP hD hS 0 rfl rfl 3 (by decide) f21 (fun _ h9 => h9) rfl (by decide +kernel) rfl rfl (Nat.le_of_ble_eq_true rfl) dX2_weigh_2 (fun H locs hP hD hS => ?_)
  have hP : va_P (dC, dI) vwCl [(a_this, .inr (2, [.ref a_saved, z_most, z_least, .int 0])), (a_saved, .inl (cI, 72, .inl g_saved)), (a_p1, .inr (0, [.ref a_p1_sets, .ref a_p1_states, .ref a_p1_weights, .int g_p1_told])), (a_p1_sets, .inl (cI, 40, .inl g_p1_sets)), (a_p1_states, .inl (cI, 40, .inl g_p1_states)), (a_p1_weights, .inl (cI, 40, .inl g_p1_weights))] H := hP
  have hD : va_D A [(a_this, .inr (2, [.ref a_saved, z_most, z_least, .int 0])), (a_saved, .inl (cI, 72, .inl g_saved)), (a_p1, .inr (0, [.ref a_p1_sets, .ref a_p1_states, .ref a_p1_weights, .int g_p1_told])), (a_p1_sets, .inl (cI, 40, .inl g_p1_sets)), (a_p1_states, .inl (cI, 40, .inl g_p1_states)), (a_p1_weights, .inl (cI, 40, .inl g_p1_weights))] := hD
  refine lv_iconst (v := 0) hx hb dX2_weigh_5 (by decide) ?_
  refine lv_istore_n (lv' := [(2, .int 0), (0, .ref a_this), (1, .ref a_p1)]) hx hb dX2_weigh_6 rfl hl (by decide) rfl (fun ls hl => ?_)
  have L7 : ∀ (g_unsaved : Int32), ∀ (n7 : Nat), ∀ (x2 : Int32) (g_saved : Nat → Int32), q_X2_weigh_L7 g_unsaved g_p1_told g_p1_sets g_p1_states g_p1_weights Q n7 x2 g_saved → ∀ (H : Heap) (locs : List Loc) (ls : Array Slot), va_P (dC, dI) vwCl [(a_this, .inr (2, [.ref a_saved, z_most, z_least, .int g_unsaved])), (a_saved, .inl (cI, 72, .inl g_saved)), (a_p1, .inr (0, [.ref a_p1_sets, .ref a_p1_states, .ref a_p1_weights, .int g_p1_told])), (a_p1_sets, .inl (cI, 40, .inl g_p1_sets)), (a_p1_states, .inl (cI, 40, .inl g_p1_states)), (a_p1_weights, .inl (cI, 40, .inl g_p1_weights))] H → va_D A [(a_this, .inr (2, [.ref a_saved, z_most, z_least, .int g_unsaved])), (a_saved, .inl (cI, 72, .inl g_saved)), (a_p1, .inr (0, [.ref a_p1_sets, .ref a_p1_states, .ref a_p1_weights, .int g_p1_told])), (a_p1_sets, .inl (cI, 40, .inl g_p1_sets)), (a_p1_states, .inl (cI, 40, .inl g_p1_states)), (a_p1_weights, .inl (cI, 40, .inl g_p1_weights))] → va_S A s.heap H locs → lv_has ls 3 [(0, .ref a_this), (1, .ref a_p1), (2, .int x2)] → W p l e rX2_weigh s m args below meth c H locs 0 0 QQ (F0 m 7 ls []) := by
    intro g_unsaved
    intro n7
    induction n7 with
    | zero => intro x2 g_saved h; exact False.elim h
    | succ n7 ih7 =>
      intro x2 g_saved h H locs ls hP hD hS hl
      refine lv_iload_n hx hb dX2_weigh_7 rfl (lv_at hl 2 rfl) ?_
      refine lv_bipush (v := 72) hx hb dX2_weigh_8 (by decide) ?_
      refine lv_icmp_ge (tgt := 26) hx hb dX2_weigh_10 (by decide) (fun k1 => ?_) (fun k1 => ?_)
      · have h := h.1 k1
        have J26 : q_X2_weigh_J26 g_unsaved g_saved g_p1_told g_p1_sets g_p1_states g_p1_weights Q → ∀ (H : Heap) (locs : List Loc) (ls : Array Slot), va_P (dC, dI) vwCl [(a_this, .inr (2, [.ref a_saved, z_most, z_least, .int g_unsaved])), (a_saved, .inl (cI, 72, .inl g_saved)), (a_p1, .inr (0, [.ref a_p1_sets, .ref a_p1_states, .ref a_p1_weights, .int g_p1_told])), (a_p1_sets, .inl (cI, 40, .inl g_p1_sets)), (a_p1_states, .inl (cI, 40, .inl g_p1_states)), (a_p1_weights, .inl (cI, 40, .inl g_p1_weights))] H → va_D A [(a_this, .inr (2, [.ref a_saved, z_most, z_least, .int g_unsaved])), (a_saved, .inl (cI, 72, .inl g_saved)), (a_p1, .inr (0, [.ref a_p1_sets, .ref a_p1_states, .ref a_p1_weights, .int g_p1_told])), (a_p1_sets, .inl (cI, 40, .inl g_p1_sets)), (a_p1_states, .inl (cI, 40, .inl g_p1_states)), (a_p1_weights, .inl (cI, 40, .inl g_p1_weights))] → va_S A s.heap H locs → lv_has ls 3 [(0, .ref a_this), (1, .ref a_p1)] → W p l e rX2_weigh s m args below meth c H locs 0 0 QQ (F0 m 26 ls []) := by
          intro  h H locs ls hP hD hS hl
          refine lv_iconst (v := 0) hx hb dX2_weigh_26 (by decide) ?_
          refine lv_istore_n (lv' := [(2, .int 0), (0, .ref a_this), (1, .ref a_p1)]) hx hb dX2_weigh_27 rfl hl (by decide) rfl (fun ls hl => ?_)
          have L28 : ∀ (n28 : Nat), ∀ (x2 : Int32) (g_unsaved : Int32) (g_saved : Nat → Int32), q_X2_weigh_L28 g_p1_told g_p1_sets g_p1_states g_p1_weights Q n28 x2 g_unsaved g_saved → ∀ (H : Heap) (locs : List Loc) (ls : Array Slot), va_P (dC, dI) vwCl [(a_this, .inr (2, [.ref a_saved, z_most, z_least, .int g_unsaved])), (a_saved, .inl (cI, 72, .inl g_saved)), (a_p1, .inr (0, [.ref a_p1_sets, .ref a_p1_states, .ref a_p1_weights, .int g_p1_told])), (a_p1_sets, .inl (cI, 40, .inl g_p1_sets)), (a_p1_states, .inl (cI, 40, .inl g_p1_states)), (a_p1_weights, .inl (cI, 40, .inl g_p1_weights))] H → va_D A [(a_this, .inr (2, [.ref a_saved, z_most, z_least, .int g_unsaved])), (a_saved, .inl (cI, 72, .inl g_saved)), (a_p1, .inr (0, [.ref a_p1_sets, .ref a_p1_states, .ref a_p1_weights, .int g_p1_told])), (a_p1_sets, .inl (cI, 40, .inl g_p1_sets)), (a_p1_states, .inl (cI, 40, .inl g_p1_states)), (a_p1_weights, .inl (cI, 40, .inl g_p1_weights))] → va_S A s.heap H locs → lv_has ls 3 [(0, .ref a_this), (1, .ref a_p1), (2, .int x2)] → W p l e rX2_weigh s m args below meth c H locs 0 0 QQ (F0 m 28 ls []) := by
            intro n28
            induction n28 with
            | zero => intro x2 g_unsaved g_saved h; exact False.elim h
            | succ n28 ih28 =>
              intro x2 g_unsaved g_saved h H locs ls hP hD hS hl
              refine lv_iload_n hx hb dX2_weigh_28 rfl (lv_at hl 2 rfl) ?_
              refine lv_aload_n hx hb dX2_weigh_29 rfl (lv_at hl 1 rfl) ?_
              refine va_getN (D := (dC, dI)) (ci := 0) (v := .int g_p1_told) (C := RX0) (T := TX0) (N := 4) hx hb hts in0 hown hK hP 2 rfl rfl 3 (by decide) f25 (fun _ h9 => h9) rfl dX2_weigh_30 ?_
              refine lv_icmp_ge (tgt := 68) hx hb dX2_weigh_33 (by decide) (fun k1 => ?_) (fun k1 => ?_)
              · have h := h.1 k1
                exact ret _ _ _ _ (g_unsaved, g_saved) dX2_weigh_68 h (reP hP [0, 1, 2, 3, 4, 5] rfl) (hD.sub [0, 1, 2, 3, 4, 5] (by decide) rfl) hS
              · have h := h.2 k1
                refine lv_aload_n hx hb dX2_weigh_36 rfl (lv_at hl 1 rfl) ?_
                refine va_getN (D := (dC, dI)) (ci := 0) (v := .ref a_p1_states) (C := RX0) (T := TX0) (N := 4) hx hb hts in0 hown hK hP 2 rfl rfl 1 (by decide) f30 (fun _ h9 => h9) rfl dX2_weigh_37 ?_
                refine lv_iload_n hx hb dX2_weigh_40 rfl (lv_at hl 2 rfl) ?_
                obtain ⟨hi2, h⟩ := h
                refine va_iald (D := (dC, dI)) hx hb hK hP 4 0 rfl rfl hi2 dX2_weigh_41 ?_
                refine lv_iconst (v := 1) hx hb dX2_weigh_42 (by decide) ?_
                refine lv_icmp_ne (tgt := 62) hx hb dX2_weigh_43 (by decide) (fun k3 => ?_) (fun k3 => ?_)
                · have h := h.1 k3
                  refine lv_iinc (v := x2 + 1) (lv' := [(2, .int (x2 + 1)), (0, .ref a_this), (1, .ref a_p1)]) hx hb dX2_weigh_62 hl (k := 2) rfl rfl (by decide) rfl (fun ls hl => ?_)
                  refine lv_goto (tgt := 28) hx hb dX2_weigh_65 (by decide) ?_
                  exact ih28 (x2 + 1) g_unsaved g_saved h _ _ _ (reP hP [0, 1, 2, 3, 4, 5] rfl) (hD.sub [0, 1, 2, 3, 4, 5] (by decide) rfl) hS (lv_sub hl [1, 2, 0] rfl)
                · have h := h.2 k3
                  refine lv_aload_n hx hb dX2_weigh_46 rfl (lv_at hl 0 rfl) ?_
                  refine lv_aload_n hx hb dX2_weigh_47 rfl (lv_at hl 1 rfl) ?_
                  refine va_getN (D := (dC, dI)) (ci := 0) (v := .ref a_p1_sets) (C := RX0) (T := TX0) (N := 4) hx hb hts in0 hown hK hP 2 rfl rfl 0 (by decide) f33 (fun _ h9 => h9) rfl dX2_weigh_48 ?_
                  refine lv_iload_n hx hb dX2_weigh_51 rfl (lv_at hl 2 rfl) ?_
                  refine va_iald (D := (dC, dI)) hx hb hK hP 3 0 rfl rfl hi2 dX2_weigh_52 ?_
                  refine lv_aload_n hx hb dX2_weigh_53 rfl (lv_at hl 1 rfl) ?_
                  refine va_getN (D := (dC, dI)) (ci := 0) (v := .ref a_p1_weights) (C := RX0) (T := TX0) (N := 4) hx hb hts in0 hown hK hP 2 rfl rfl 2 (by decide) f36 (fun _ h9 => h9) rfl dX2_weigh_54 ?_
                  refine lv_iload_n hx hb dX2_weigh_57 rfl (lv_at hl 2 rfl) ?_
                  refine va_iald (D := (dC, dI)) hx hb hK hP 5 0 rfl rfl hi2 dX2_weigh_58 ?_
                  refine MV.callV (As := [.int (g_p1_sets (Int32.toNatClampNeg x2)), .int (g_p1_weights (Int32.toNatClampNeg x2))]) (rest := []) (wr := [(a_p1, .inr (0, [.ref a_p1_sets, .ref a_p1_states, .ref a_p1_weights, .int g_p1_told])), (a_p1_sets, .inl (cI, 40, .inl g_p1_sets)), (a_p1_states, .inl (cI, 40, .inl g_p1_states)), (a_p1_weights, .inl (cI, 40, .inl g_p1_weights))]) (ci := 2) (q0 := 0) (c_X2_addLine l dC dI cI cZ a_this a_saved z_most z_least g_unsaved g_saved (g_p1_sets (Int32.toNatClampNeg x2)) (g_p1_weights (Int32.toNatClampNeg x2)) _ h) ⟨hx, hb, hml, hown, hts⟩ (cwV 2 hts gX2_weigh_X2_addLine rfl rfl rfl (by decide +kernel) ⟨Nat.le_of_ble_eq_true rfl, Nat.le_of_ble_eq_true rfl⟩) hK hP hD hS hA hNW [0, 1] [2, 3, 4, 5] rfl rfl (by decide) (by decide) (by decide) rfl rfl rfl rfl hl.1 rfl (Nat.le_of_ble_eq_true rfl) dX2_weigh_59 ⟨Nat.zero_le _, Nat.zero_le _⟩ (fun u H locs hw hP hD hS => ?_)
                  obtain ⟨g_unsaved_4, g_saved_5⟩ := u
                  have h := hw
                  try dsimp only at h
                  have hP : va_P (dC, dI) vwCl [(a_p1, .inr (0, [.ref a_p1_sets, .ref a_p1_states, .ref a_p1_weights, .int g_p1_told])), (a_p1_sets, .inl (cI, 40, .inl g_p1_sets)), (a_p1_states, .inl (cI, 40, .inl g_p1_states)), (a_p1_weights, .inl (cI, 40, .inl g_p1_weights)), (a_this, .inr (2, [.ref a_saved, z_most, z_least, .int g_unsaved_4])), (a_saved, .inl (cI, 72, .inl g_saved_5))] H := hP
                  have hD : va_D A [(a_p1, .inr (0, [.ref a_p1_sets, .ref a_p1_states, .ref a_p1_weights, .int g_p1_told])), (a_p1_sets, .inl (cI, 40, .inl g_p1_sets)), (a_p1_states, .inl (cI, 40, .inl g_p1_states)), (a_p1_weights, .inl (cI, 40, .inl g_p1_weights)), (a_this, .inr (2, [.ref a_saved, z_most, z_least, .int g_unsaved_4])), (a_saved, .inl (cI, 72, .inl g_saved_5))] := hD
                  refine lv_iinc (v := x2 + 1) (lv' := [(2, .int (x2 + 1)), (0, .ref a_this), (1, .ref a_p1)]) hx hb dX2_weigh_62 hl (k := 2) rfl rfl (by decide) rfl (fun ls hl => ?_)
                  refine lv_goto (tgt := 28) hx hb dX2_weigh_65 (by decide) ?_
                  exact ih28 (x2 + 1) g_unsaved_4 g_saved_5 h _ _ _ (reP hP [4, 5, 0, 1, 2, 3] rfl) (hD.sub [4, 5, 0, 1, 2, 3] (by decide) rfl) hS (lv_sub hl [1, 2, 0] rfl)
          obtain ⟨n, h⟩ := h
          exact L28 n 0 g_unsaved g_saved h _ _ _ (reP hP [0, 1, 2, 3, 4, 5] rfl) (hD.sub [0, 1, 2, 3, 4, 5] (by decide) rfl) hS (lv_sub hl [1, 2, 0] rfl)
        exact J26 h _ _ _ (reP hP [0, 1, 2, 3, 4, 5] rfl) (hD.sub [0, 1, 2, 3, 4, 5] (by decide) rfl) hS (lv_sub hl [0, 1] rfl)
      · have h := h.2 k1
        refine lv_aload_n hx hb dX2_weigh_13 rfl (lv_at hl 0 rfl) ?_
        refine va_get (D := (dC, dI)) (ci := 2) (v := .ref a_saved) (C := RX2) (T := TX2) (N := 4) hx hb hts in2 hown hK hP 0 rfl rfl 0 (by decide) f11 (fun _ h9 => h9) rfl dX2_weigh_14 ?_
        refine lv_iload_n hx hb dX2_weigh_17 rfl (lv_at hl 2 rfl) ?_
        refine lv_iconst (v := 0) hx hb dX2_weigh_18 (by decide) ?_
        obtain ⟨hi2, h⟩ := h
        refine va_iast (D := (dC, dI)) hx hb hK hP hD hS 1 0 rfl rfl hi2 dX2_weigh_19 (fun H locs hP hD hS => ?_)
        have hP : va_P (dC, dI) vwCl [(a_this, .inr (2, [.ref a_saved, z_most, z_least, .int g_unsaved])), (a_saved, .inl (cI, 72, .inl (upd g_saved (Int32.toNatClampNeg x2) 0))), (a_p1, .inr (0, [.ref a_p1_sets, .ref a_p1_states, .ref a_p1_weights, .int g_p1_told])), (a_p1_sets, .inl (cI, 40, .inl g_p1_sets)), (a_p1_states, .inl (cI, 40, .inl g_p1_states)), (a_p1_weights, .inl (cI, 40, .inl g_p1_weights))] H := hP
        have hD : va_D A [(a_this, .inr (2, [.ref a_saved, z_most, z_least, .int g_unsaved])), (a_saved, .inl (cI, 72, .inl (upd g_saved (Int32.toNatClampNeg x2) 0))), (a_p1, .inr (0, [.ref a_p1_sets, .ref a_p1_states, .ref a_p1_weights, .int g_p1_told])), (a_p1_sets, .inl (cI, 40, .inl g_p1_sets)), (a_p1_states, .inl (cI, 40, .inl g_p1_states)), (a_p1_weights, .inl (cI, 40, .inl g_p1_weights))] := hD
        refine lv_iinc (v := x2 + 1) (lv' := [(2, .int (x2 + 1)), (0, .ref a_this), (1, .ref a_p1)]) hx hb dX2_weigh_20 hl (k := 2) rfl rfl (by decide) rfl (fun ls hl => ?_)
        refine lv_goto (tgt := 7) hx hb dX2_weigh_23 (by decide) ?_
        exact ih7 (x2 + 1) (upd g_saved (Int32.toNatClampNeg x2) 0) h _ _ _ (reP hP [0, 1, 2, 3, 4, 5] rfl) (hD.sub [0, 1, 2, 3, 4, 5] (by decide) rfl) hS (lv_sub hl [1, 2, 0] rfl)
  obtain ⟨n, h⟩ := h
  exact L7 0 n 0 g_saved h _ _ _ (reP hP [0, 1, 2, 3, 4, 5] rfl) (hD.sub [0, 1, 2, 3, 4, 5] (by decide) rfl) hS (lv_sub hl [1, 2, 0] rfl)
/-! ### X2_lookAheadFrom lookAheadFrom(LOnesDesk$Rows;II)V -/
def rX2_lookAheadFrom : Room := { frames := 1, cells := 0, slots := 0, locals := 22 }
def q_X2_lookAheadFrom_J117 (x2 : Int32) (x3 : Int32) (x4 : Int32) (x5 : Int32) (g_most : Nat → Int32) (g_least : Nat → Int32) (Q : (Nat → Int32) → (Nat → Int32) → Prop) : Prop :=
  vp_in ((x2 * 9) + x3) 2304 ∧ Q (upd g_most (Int32.toNatClampNeg ((x2 * 9) + x3)) x4) (upd g_least (Int32.toNatClampNeg ((x2 * 9) + x3)) (if x5 < 0 then 0 else x5))
def q_X2_lookAheadFrom_L10 (x2 : Int32) (x3 : Int32) (g_saved : Nat → Int32) (g_most : Nat → Int32) (g_least : Nat → Int32) (g_p1_columns : Int32) (g_p1_open : Nat → Int32) (Q : (Nat → Int32) → (Nat → Int32) → Prop) : Nat → Int32 → Int32 → Int32 → Prop
  | 0 => fun _ _ _ => False
  | n + 1 => fun x4 x5 x6 => (g_p1_columns ≤ x6 → q_X2_lookAheadFrom_J117 x2 x3 x4 x5 g_most g_least Q) ∧ (¬ g_p1_columns ≤ x6 → q_X1_mayFollow g_p1_open x2 x6 (fun b3 => (b3 = false → (q_X2_lookAheadFrom_L10 x2 x3 g_saved g_most g_least g_p1_columns g_p1_open Q n) x4 x5 (x6 + 1)) ∧ (b3 = true → vp_in ((x3 * 8) + x6) 72 ∧ ∀ x7 : Int32, x7 = (g_saved (Int32.toNatClampNeg ((x3 * 8) + x6))) → ∀ x8 : Int32, x8 = (((x2 ||| (1 <<< (x6 &&& 31))) * 9) + x6) → vp_in x8 2304 ∧ ∀ x4_7 : Int32, x4_7 = (if x4 < (x7 + (g_most (Int32.toNatClampNeg x8))) then (x7 + (g_most (Int32.toNatClampNeg x8))) else x4) → (¬ x5 = (-9) → ∀ x5_9 : Int32, x5_9 = (if (x7 + (g_least (Int32.toNatClampNeg x8))) < x5 then (x7 + (g_least (Int32.toNatClampNeg x8))) else x5) → (q_X2_lookAheadFrom_L10 x2 x3 g_saved g_most g_least g_p1_columns g_p1_open Q n) x4_7 x5_9 (x6 + 1)) ∧ (x5 = (-9) → ∀ x5_10 : Int32, x5_10 = (x7 + (g_least (Int32.toNatClampNeg x8))) → (q_X2_lookAheadFrom_L10 x2 x3 g_saved g_most g_least g_p1_columns g_p1_open Q n) x4_7 x5_10 (x6 + 1)))))
def q_X2_lookAheadFrom (g_saved : Nat → Int32) (g_most : Nat → Int32) (g_least : Nat → Int32) (g_p1_columns : Int32) (g_p1_open : Nat → Int32) (x2 : Int32) (x3 : Int32) (Q : (Nat → Int32) → (Nat → Int32) → Prop) : Prop :=
  ∃ N : Nat, q_X2_lookAheadFrom_L10 x2 x3 g_saved g_most g_least g_p1_columns g_p1_open Q N 0 (-9) 0
set_option maxRecDepth 100000 in
set_option maxHeartbeats 4000000 in
theorem c_X2_lookAheadFrom (l : Launch) (dC : Nat → ClassId) (dI : Nat → Nat → Nat) (cI cZ : ClassId) (a_this a_saved a_most a_least a_p1 a_p1_open : Nat) (z_unsaved z_p1_ways z_p1_full : Value) (g_saved : Nat → Int32) (g_most : Nat → Int32) (g_least : Nat → Int32) (g_p1_columns : Int32) (g_p1_open : Nat → Int32) (x2 : Int32) (x3 : Int32) (Q : (Nat → Int32) → (Nat → Int32) → Prop) (h : q_X2_lookAheadFrom g_saved g_most g_least g_p1_columns g_p1_open x2 x3 Q) : MV l yX2_lookAheadFrom wsX2_lookAheadFrom rX2_lookAheadFrom (dC, dI) [(cI, .int), (cZ, .boolean)] [.ref a_this, .ref a_p1, .int x2, .int x3] [(a_this, .inr (2, [.ref a_saved, .ref a_most, .ref a_least, z_unsaved])), (a_saved, .inl (cI, 72, .inl g_saved)), (a_most, .inl (cI, 2304, .inl g_most)), (a_least, .inl (cI, 2304, .inl g_least)), (a_p1, .inr (1, [.ref a_p1_open, z_p1_ways, .int g_p1_columns, z_p1_full])), (a_p1_open, .inl (cI, 256, .inl g_p1_open))] (fun u : (Nat → Int32) × (Nat → Int32) => Q u.1 u.2) (fun u : (Nat → Int32) × (Nat → Int32) => [(a_this, .inr (2, [.ref a_saved, .ref a_most, .ref a_least, z_unsaved])), (a_saved, .inl (cI, 72, .inl g_saved)), (a_most, .inl (cI, 2304, .inl u.1)), (a_least, .inl (cI, 2304, .inl u.2)), (a_p1, .inr (1, [.ref a_p1_open, z_p1_ways, .int g_p1_columns, z_p1_full])), (a_p1_open, .inl (cI, 256, .inl g_p1_open))]) := by
  refine MV.of (cc := cX2_lookAheadFrom) (maxL := 9) (by decide +kernel) rfl (Nat.le_of_ble_eq_true rfl) ?_
  intro p e s m args below meth c A QQ ls hx hb hml hown hts hA hK hP hD hS hNW ret hl
  have hl : lv_has ls 9 [(0, .ref a_this), (1, .ref a_p1), (2, .int x2), (3, .int x3)] := hl
  have hown : s.vm.findClass RX2 = some m.cls := hown
  have in1 : ∀ w ∈ u_ws RX1 TX1 4, w ∈ wsX2_lookAheadFrom := fun _ w9 => List.mem_cons_of_mem _ (List.mem_append_left _ (List.mem_append_right _ w9))
  have in2 : ∀ w ∈ u_ws RX2 TX2 4, w ∈ wsX2_lookAheadFrom := fun _ w9 => List.mem_cons_of_mem _ (List.mem_append_right _ w9)
  have f11 := hts (.fieldLink RX2 11 "OnesDesk$Savings" "saved" "[I") (by decide +kernel)
  have f15 := hts (.fieldLink RX2 15 "OnesDesk$Savings" "most" "[I") (by decide +kernel)
  have f18 := hts (.fieldLink RX2 18 "OnesDesk$Savings" "least" "[I") (by decide +kernel)
  have f54 := hNW.get (args := args) 10 (a := RX2) (i := 54) (b := "OnesDesk$Rows") (n := "columns") (d := "I") (o := "OnesDesk") rfl
  refine lv_iconst (v := 0) hx hb dX2_lookAheadFrom_0 (by decide) ?_
  refine lv_istore (lv' := [(4, .int 0), (0, .ref a_this), (1, .ref a_p1), (2, .int x2), (3, .int x3)]) hx hb dX2_lookAheadFrom_1 hl (by decide) rfl (fun ls hl => ?_)
  refine lv_bipush (v := (-9)) hx hb dX2_lookAheadFrom_3 (by decide) ?_
  refine lv_istore (lv' := [(5, .int (-9)), (4, .int 0), (0, .ref a_this), (1, .ref a_p1), (2, .int x2), (3, .int x3)]) hx hb dX2_lookAheadFrom_5 hl (by decide) rfl (fun ls hl => ?_)
  refine lv_iconst (v := 0) hx hb dX2_lookAheadFrom_7 (by decide) ?_
  refine lv_istore (lv' := [(6, .int 0), (5, .int (-9)), (4, .int 0), (0, .ref a_this), (1, .ref a_p1), (2, .int x2), (3, .int x3)]) hx hb dX2_lookAheadFrom_8 hl (by decide) rfl (fun ls hl => ?_)
  have L10 : ∀ (n10 : Nat), ∀ (x4 : Int32) (x5 : Int32) (x6 : Int32), q_X2_lookAheadFrom_L10 x2 x3 g_saved g_most g_least g_p1_columns g_p1_open Q n10 x4 x5 x6 → ∀ (H : Heap) (locs : List Loc) (ls : Array Slot), va_P (dC, dI) vwCl [(a_this, .inr (2, [.ref a_saved, .ref a_most, .ref a_least, z_unsaved])), (a_saved, .inl (cI, 72, .inl g_saved)), (a_most, .inl (cI, 2304, .inl g_most)), (a_least, .inl (cI, 2304, .inl g_least)), (a_p1, .inr (1, [.ref a_p1_open, z_p1_ways, .int g_p1_columns, z_p1_full])), (a_p1_open, .inl (cI, 256, .inl g_p1_open))] H → va_D A [(a_this, .inr (2, [.ref a_saved, .ref a_most, .ref a_least, z_unsaved])), (a_saved, .inl (cI, 72, .inl g_saved)), (a_most, .inl (cI, 2304, .inl g_most)), (a_least, .inl (cI, 2304, .inl g_least)), (a_p1, .inr (1, [.ref a_p1_open, z_p1_ways, .int g_p1_columns, z_p1_full])), (a_p1_open, .inl (cI, 256, .inl g_p1_open))] → va_S A s.heap H locs → lv_has ls 9 [(0, .ref a_this), (1, .ref a_p1), (2, .int x2), (3, .int x3), (4, .int x4), (5, .int x5), (6, .int x6)] → W p l e rX2_lookAheadFrom s m args below meth c H locs 0 0 QQ (F0 m 10 ls []) := by
    intro n10
    induction n10 with
    | zero => intro x4 x5 x6 h; exact False.elim h
    | succ n10 ih10 =>
      intro x4 x5 x6 h H locs ls hP hD hS hl
      refine lv_iload hx hb dX2_lookAheadFrom_10 (lv_at hl 6 rfl) ?_
      refine lv_aload_n hx hb dX2_lookAheadFrom_12 rfl (lv_at hl 1 rfl) ?_
      refine va_getN (D := (dC, dI)) (ci := 1) (v := .int g_p1_columns) (C := RX1) (T := TX1) (N := 4) hx hb hts in1 hown hK hP 4 rfl rfl 2 (by decide) f54 (fun _ h9 => h9) rfl dX2_lookAheadFrom_13 ?_
      refine lv_icmp_ge (tgt := 117) hx hb dX2_lookAheadFrom_16 (by decide) (fun k1 => ?_) (fun k1 => ?_)
      · have h := h.1 k1
        have J117 : q_X2_lookAheadFrom_J117 x2 x3 x4 x5 g_most g_least Q → ∀ (H : Heap) (locs : List Loc) (ls : Array Slot), va_P (dC, dI) vwCl [(a_this, .inr (2, [.ref a_saved, .ref a_most, .ref a_least, z_unsaved])), (a_saved, .inl (cI, 72, .inl g_saved)), (a_most, .inl (cI, 2304, .inl g_most)), (a_least, .inl (cI, 2304, .inl g_least)), (a_p1, .inr (1, [.ref a_p1_open, z_p1_ways, .int g_p1_columns, z_p1_full])), (a_p1_open, .inl (cI, 256, .inl g_p1_open))] H → va_D A [(a_this, .inr (2, [.ref a_saved, .ref a_most, .ref a_least, z_unsaved])), (a_saved, .inl (cI, 72, .inl g_saved)), (a_most, .inl (cI, 2304, .inl g_most)), (a_least, .inl (cI, 2304, .inl g_least)), (a_p1, .inr (1, [.ref a_p1_open, z_p1_ways, .int g_p1_columns, z_p1_full])), (a_p1_open, .inl (cI, 256, .inl g_p1_open))] → va_S A s.heap H locs → lv_has ls 9 [(0, .ref a_this), (1, .ref a_p1), (2, .int x2), (3, .int x3), (4, .int x4), (5, .int x5)] → W p l e rX2_lookAheadFrom s m args below meth c H locs 0 0 QQ (F0 m 117 ls []) := by
          intro  h H locs ls hP hD hS hl
          refine lv_aload_n hx hb dX2_lookAheadFrom_117 rfl (lv_at hl 0 rfl) ?_
          refine va_get (D := (dC, dI)) (ci := 2) (v := .ref a_most) (C := RX2) (T := TX2) (N := 4) hx hb hts in2 hown hK hP 0 rfl rfl 1 (by decide) f15 (fun _ h9 => h9) rfl dX2_lookAheadFrom_118 ?_
          refine lv_iload_n hx hb dX2_lookAheadFrom_121 rfl (lv_at hl 2 rfl) ?_
          refine lv_bipush (v := 9) hx hb dX2_lookAheadFrom_122 (by decide) ?_
          refine lv_imul hx hb dX2_lookAheadFrom_124 ?_
          refine lv_iload_n hx hb dX2_lookAheadFrom_125 rfl (lv_at hl 3 rfl) ?_
          refine lv_iadd hx hb dX2_lookAheadFrom_126 ?_
          refine lv_iload hx hb dX2_lookAheadFrom_127 (lv_at hl 4 rfl) ?_
          obtain ⟨hi1, h⟩ := h
          refine va_iast (D := (dC, dI)) hx hb hK hP hD hS 2 0 rfl rfl hi1 dX2_lookAheadFrom_129 (fun H locs hP hD hS => ?_)
          have hP : va_P (dC, dI) vwCl [(a_this, .inr (2, [.ref a_saved, .ref a_most, .ref a_least, z_unsaved])), (a_saved, .inl (cI, 72, .inl g_saved)), (a_most, .inl (cI, 2304, .inl (upd g_most (Int32.toNatClampNeg ((x2 * 9) + x3)) x4))), (a_least, .inl (cI, 2304, .inl g_least)), (a_p1, .inr (1, [.ref a_p1_open, z_p1_ways, .int g_p1_columns, z_p1_full])), (a_p1_open, .inl (cI, 256, .inl g_p1_open))] H := hP
          have hD : va_D A [(a_this, .inr (2, [.ref a_saved, .ref a_most, .ref a_least, z_unsaved])), (a_saved, .inl (cI, 72, .inl g_saved)), (a_most, .inl (cI, 2304, .inl (upd g_most (Int32.toNatClampNeg ((x2 * 9) + x3)) x4))), (a_least, .inl (cI, 2304, .inl g_least)), (a_p1, .inr (1, [.ref a_p1_open, z_p1_ways, .int g_p1_columns, z_p1_full])), (a_p1_open, .inl (cI, 256, .inl g_p1_open))] := hD
          refine lv_aload_n hx hb dX2_lookAheadFrom_130 rfl (lv_at hl 0 rfl) ?_
          refine va_get (D := (dC, dI)) (ci := 2) (v := .ref a_least) (C := RX2) (T := TX2) (N := 4) hx hb hts in2 hown hK hP 0 rfl rfl 2 (by decide) f18 (fun _ h9 => h9) rfl dX2_lookAheadFrom_131 ?_
          refine lv_iload_n hx hb dX2_lookAheadFrom_134 rfl (lv_at hl 2 rfl) ?_
          refine lv_bipush (v := 9) hx hb dX2_lookAheadFrom_135 (by decide) ?_
          refine lv_imul hx hb dX2_lookAheadFrom_137 ?_
          refine lv_iload_n hx hb dX2_lookAheadFrom_138 rfl (lv_at hl 3 rfl) ?_
          refine lv_iadd hx hb dX2_lookAheadFrom_139 ?_
          refine lv_iload hx hb dX2_lookAheadFrom_140 (lv_at hl 5 rfl) ?_
          refine lv_iconst (v := 0) hx hb dX2_lookAheadFrom_142 (by decide) ?_
          refine va_mmax hx hb (by rw [hml]; exact hl.1.symm) hown (hts (.methodLink RX2 65 Lib.Math.max.name) (by decide +kernel)) (hts (.static Lib.Math.max.name) (by decide +kernel)) (hts (.initialized "java/lang/Math") (by decide +kernel)) (hts (.code Lib.Math.max.name Lib.Math.max.code 2 (some .int)) (by decide +kernel)) (Nat.le_of_ble_eq_true rfl) (Nat.le_of_ble_eq_true rfl) (Nat.zero_le _) (Nat.zero_le _) dX2_lookAheadFrom_143 ?_
          refine va_iast (D := (dC, dI)) hx hb hK hP hD hS 3 0 rfl rfl hi1 dX2_lookAheadFrom_146 (fun H locs hP hD hS => ?_)
          have hP : va_P (dC, dI) vwCl [(a_this, .inr (2, [.ref a_saved, .ref a_most, .ref a_least, z_unsaved])), (a_saved, .inl (cI, 72, .inl g_saved)), (a_most, .inl (cI, 2304, .inl (upd g_most (Int32.toNatClampNeg ((x2 * 9) + x3)) x4))), (a_least, .inl (cI, 2304, .inl (upd g_least (Int32.toNatClampNeg ((x2 * 9) + x3)) (if x5 < 0 then 0 else x5)))), (a_p1, .inr (1, [.ref a_p1_open, z_p1_ways, .int g_p1_columns, z_p1_full])), (a_p1_open, .inl (cI, 256, .inl g_p1_open))] H := hP
          have hD : va_D A [(a_this, .inr (2, [.ref a_saved, .ref a_most, .ref a_least, z_unsaved])), (a_saved, .inl (cI, 72, .inl g_saved)), (a_most, .inl (cI, 2304, .inl (upd g_most (Int32.toNatClampNeg ((x2 * 9) + x3)) x4))), (a_least, .inl (cI, 2304, .inl (upd g_least (Int32.toNatClampNeg ((x2 * 9) + x3)) (if x5 < 0 then 0 else x5)))), (a_p1, .inr (1, [.ref a_p1_open, z_p1_ways, .int g_p1_columns, z_p1_full])), (a_p1_open, .inl (cI, 256, .inl g_p1_open))] := hD
          exact ret _ _ _ _ ((upd g_most (Int32.toNatClampNeg ((x2 * 9) + x3)) x4), (upd g_least (Int32.toNatClampNeg ((x2 * 9) + x3)) (if x5 < 0 then 0 else x5))) dX2_lookAheadFrom_147 h (reP hP [0, 1, 2, 3, 4, 5] rfl) (hD.sub [0, 1, 2, 3, 4, 5] (by decide) rfl) hS
        exact J117 h _ _ _ (reP hP [0, 1, 2, 3, 4, 5] rfl) (hD.sub [0, 1, 2, 3, 4, 5] (by decide) rfl) hS (lv_sub hl [0, 1, 2, 3, 4, 5] rfl)
      · have h := h.2 k1
        refine lv_aload_n hx hb dX2_lookAheadFrom_19 rfl (lv_at hl 1 rfl) ?_
        refine lv_iload_n hx hb dX2_lookAheadFrom_20 rfl (lv_at hl 2 rfl) ?_
        refine lv_iload hx hb dX2_lookAheadFrom_21 (lv_at hl 6 rfl) ?_
        refine MI.callV (As := [.int x2, .int x6]) (rest := []) (wr := [(a_this, .inr (2, [.ref a_saved, .ref a_most, .ref a_least, z_unsaved])), (a_saved, .inl (cI, 72, .inl g_saved)), (a_most, .inl (cI, 2304, .inl g_most)), (a_least, .inl (cI, 2304, .inl g_least))]) (ci := 1) (q0 := 0) (c_X1_mayFollow l dC dI cI cZ a_p1 a_p1_open z_p1_ways (.int g_p1_columns) z_p1_full g_p1_open x2 x6 _ h) ⟨hx, hb, hml, hown, hts⟩ (cwV 2 hts gX2_lookAheadFrom_X1_mayFollow rfl rfl rfl (by decide +kernel) ⟨Nat.le_of_ble_eq_true rfl, Nat.le_of_ble_eq_true rfl⟩) hK hP hD hS hA hNW [4, 5] [0, 1, 2, 3] rfl rfl (by decide) (by decide) (by decide) rfl rfl rfl rfl hl.1 rfl (Nat.le_of_ble_eq_true rfl) dX2_lookAheadFrom_23 ⟨Nat.zero_le _, Nat.zero_le _⟩ (fun r2 u H locs hw hP hD hS => ?_)
        obtain ⟨b3, rfl, hw⟩ := hw
        have h := hw
        try dsimp only at h
        have hP : va_P (dC, dI) vwCl [(a_this, .inr (2, [.ref a_saved, .ref a_most, .ref a_least, z_unsaved])), (a_saved, .inl (cI, 72, .inl g_saved)), (a_most, .inl (cI, 2304, .inl g_most)), (a_least, .inl (cI, 2304, .inl g_least)), (a_p1, .inr (1, [.ref a_p1_open, z_p1_ways, .int g_p1_columns, z_p1_full])), (a_p1_open, .inl (cI, 256, .inl g_p1_open))] H := hP
        have hD : va_D A [(a_this, .inr (2, [.ref a_saved, .ref a_most, .ref a_least, z_unsaved])), (a_saved, .inl (cI, 72, .inl g_saved)), (a_most, .inl (cI, 2304, .inl g_most)), (a_least, .inl (cI, 2304, .inl g_least)), (a_p1, .inr (1, [.ref a_p1_open, z_p1_ways, .int g_p1_columns, z_p1_full])), (a_p1_open, .inl (cI, 256, .inl g_p1_open))] := hD
        refine lv_if_eq (tgt := 111) hx hb dX2_lookAheadFrom_26 (by decide) (fun k4 => ?_) (fun k4 => ?_)
        · have h := h.1 (bI_0 k4)
          refine lv_iinc (v := x6 + 1) (lv' := [(6, .int (x6 + 1)), (0, .ref a_this), (1, .ref a_p1), (2, .int x2), (3, .int x3), (4, .int x4), (5, .int x5)]) hx hb dX2_lookAheadFrom_111 hl (k := 6) rfl rfl (by decide) rfl (fun ls hl => ?_)
          refine lv_goto (tgt := 10) hx hb dX2_lookAheadFrom_114 (by decide) ?_
          exact ih10 x4 x5 (x6 + 1) h _ _ _ (reP hP [0, 1, 2, 3, 4, 5] rfl) (hD.sub [0, 1, 2, 3, 4, 5] (by decide) rfl) hS (lv_sub hl [1, 2, 3, 4, 5, 6, 0] rfl)
        · have h := h.2 (bI_1 k4)
          refine lv_aload_n hx hb dX2_lookAheadFrom_29 rfl (lv_at hl 0 rfl) ?_
          refine va_get (D := (dC, dI)) (ci := 2) (v := .ref a_saved) (C := RX2) (T := TX2) (N := 4) hx hb hts in2 hown hK hP 0 rfl rfl 0 (by decide) f11 (fun _ h9 => h9) rfl dX2_lookAheadFrom_30 ?_
          refine lv_iload_n hx hb dX2_lookAheadFrom_33 rfl (lv_at hl 3 rfl) ?_
          refine lv_bipush (v := 8) hx hb dX2_lookAheadFrom_34 (by decide) ?_
          refine lv_imul hx hb dX2_lookAheadFrom_36 ?_
          refine lv_iload hx hb dX2_lookAheadFrom_37 (lv_at hl 6 rfl) ?_
          refine lv_iadd hx hb dX2_lookAheadFrom_39 ?_
          obtain ⟨hi5, h⟩ := h
          refine va_iald (D := (dC, dI)) hx hb hK hP 1 0 rfl rfl hi5 dX2_lookAheadFrom_40 ?_
          refine lv_topi (fun x7 ex7 => ?_)
          have h := h x7 ex7
          refine lv_istore (lv' := [(7, .int x7), (0, .ref a_this), (1, .ref a_p1), (2, .int x2), (3, .int x3), (4, .int x4), (5, .int x5), (6, .int x6)]) hx hb dX2_lookAheadFrom_41 hl (by decide) rfl (fun ls hl => ?_)
          refine lv_iload_n hx hb dX2_lookAheadFrom_43 rfl (lv_at hl 3 rfl) ?_
          refine lv_iconst (v := 1) hx hb dX2_lookAheadFrom_44 (by decide) ?_
          refine lv_iload hx hb dX2_lookAheadFrom_45 (lv_at hl 7 rfl) ?_
          refine lv_ishl hx hb dX2_lookAheadFrom_47 ?_
          refine lv_ior hx hb dX2_lookAheadFrom_48 ?_
          refine lv_bipush (v := 9) hx hb dX2_lookAheadFrom_49 (by decide) ?_
          refine lv_imul hx hb dX2_lookAheadFrom_51 ?_
          refine lv_iload hx hb dX2_lookAheadFrom_52 (lv_at hl 7 rfl) ?_
          refine lv_iadd hx hb dX2_lookAheadFrom_54 ?_
          refine lv_topi (fun x8 ex8 => ?_)
          have h := h x8 ex8
          refine lv_istore (lv' := [(8, .int x8), (7, .int x7), (0, .ref a_this), (1, .ref a_p1), (2, .int x2), (3, .int x3), (4, .int x4), (5, .int x5), (6, .int x6)]) hx hb dX2_lookAheadFrom_55 hl (by decide) rfl (fun ls hl => ?_)
          refine lv_iload hx hb dX2_lookAheadFrom_57 (lv_at hl 6 rfl) ?_
          refine lv_iload hx hb dX2_lookAheadFrom_59 (lv_at hl 1 rfl) ?_
          refine lv_aload_n hx hb dX2_lookAheadFrom_61 rfl (lv_at hl 2 rfl) ?_
          refine va_get (D := (dC, dI)) (ci := 2) (v := .ref a_most) (C := RX2) (T := TX2) (N := 4) hx hb hts in2 hown hK hP 0 rfl rfl 1 (by decide) f15 (fun _ h9 => h9) rfl dX2_lookAheadFrom_62 ?_
          refine lv_iload hx hb dX2_lookAheadFrom_65 (lv_at hl 0 rfl) ?_
          obtain ⟨hi6, h⟩ := h
          refine va_iald (D := (dC, dI)) hx hb hK hP 2 0 rfl rfl hi6 dX2_lookAheadFrom_67 ?_
          refine lv_iadd hx hb dX2_lookAheadFrom_68 ?_
          refine va_mmax hx hb (by rw [hml]; exact hl.1.symm) hown (hts (.methodLink RX2 65 Lib.Math.max.name) (by decide +kernel)) (hts (.static Lib.Math.max.name) (by decide +kernel)) (hts (.initialized "java/lang/Math") (by decide +kernel)) (hts (.code Lib.Math.max.name Lib.Math.max.code 2 (some .int)) (by decide +kernel)) (Nat.le_of_ble_eq_true rfl) (Nat.le_of_ble_eq_true rfl) (Nat.zero_le _) (Nat.zero_le _) dX2_lookAheadFrom_69 ?_
          refine lv_topi (fun x4_7 ex4_7 => ?_)
          have h := h x4_7 ex4_7
          refine lv_istore (lv' := [(4, .int x4_7), (8, .int x8), (7, .int x7), (0, .ref a_this), (1, .ref a_p1), (2, .int x2), (3, .int x3), (5, .int x5), (6, .int x6)]) hx hb dX2_lookAheadFrom_72 hl (by decide) rfl (fun ls hl => ?_)
          refine lv_iload hx hb dX2_lookAheadFrom_74 (lv_at hl 7 rfl) ?_
          refine lv_bipush (v := (-9)) hx hb dX2_lookAheadFrom_76 (by decide) ?_
          refine lv_icmp_ne (tgt := 94) hx hb dX2_lookAheadFrom_78 (by decide) (fun k8 => ?_) (fun k8 => ?_)
          · have h := h.1 k8
            refine lv_iload hx hb dX2_lookAheadFrom_94 (lv_at hl 7 rfl) ?_
            refine lv_iload hx hb dX2_lookAheadFrom_96 (lv_at hl 2 rfl) ?_
            refine lv_aload_n hx hb dX2_lookAheadFrom_98 rfl (lv_at hl 3 rfl) ?_
            refine va_get (D := (dC, dI)) (ci := 2) (v := .ref a_least) (C := RX2) (T := TX2) (N := 4) hx hb hts in2 hown hK hP 0 rfl rfl 2 (by decide) f18 (fun _ h9 => h9) rfl dX2_lookAheadFrom_99 ?_
            refine lv_iload hx hb dX2_lookAheadFrom_102 (lv_at hl 1 rfl) ?_
            refine va_iald (D := (dC, dI)) hx hb hK hP 3 0 rfl rfl hi6 dX2_lookAheadFrom_104 ?_
            refine lv_iadd hx hb dX2_lookAheadFrom_105 ?_
            refine va_mmin hx hb (by rw [hml]; exact hl.1.symm) hown (hts (.methodLink RX2 71 Lib.Math.min.name) (by decide +kernel)) (hts (.static Lib.Math.min.name) (by decide +kernel)) (hts (.initialized "java/lang/Math") (by decide +kernel)) (hts (.code Lib.Math.min.name Lib.Math.min.code 2 (some .int)) (by decide +kernel)) (Nat.le_of_ble_eq_true rfl) (Nat.le_of_ble_eq_true rfl) (Nat.zero_le _) (Nat.zero_le _) dX2_lookAheadFrom_106 ?_
            refine lv_topi (fun x5_9 ex5_9 => ?_)
            have h := h x5_9 ex5_9
            refine lv_istore (lv' := [(5, .int x5_9), (4, .int x4_7), (8, .int x8), (7, .int x7), (0, .ref a_this), (1, .ref a_p1), (2, .int x2), (3, .int x3), (6, .int x6)]) hx hb dX2_lookAheadFrom_109 hl (by decide) rfl (fun ls hl => ?_)
            refine lv_iinc (v := x6 + 1) (lv' := [(6, .int (x6 + 1)), (5, .int x5_9), (4, .int x4_7), (8, .int x8), (7, .int x7), (0, .ref a_this), (1, .ref a_p1), (2, .int x2), (3, .int x3)]) hx hb dX2_lookAheadFrom_111 hl (k := 8) rfl rfl (by decide) rfl (fun ls hl => ?_)
            refine lv_goto (tgt := 10) hx hb dX2_lookAheadFrom_114 (by decide) ?_
            exact ih10 x4_7 x5_9 (x6 + 1) h _ _ _ (reP hP [0, 1, 2, 3, 4, 5] rfl) (hD.sub [0, 1, 2, 3, 4, 5] (by decide) rfl) hS (lv_sub hl [5, 6, 7, 8, 2, 1, 0] rfl)
          · have h := h.2 k8
            refine lv_iload hx hb dX2_lookAheadFrom_81 (lv_at hl 2 rfl) ?_
            refine lv_aload_n hx hb dX2_lookAheadFrom_83 rfl (lv_at hl 3 rfl) ?_
            refine va_get (D := (dC, dI)) (ci := 2) (v := .ref a_least) (C := RX2) (T := TX2) (N := 4) hx hb hts in2 hown hK hP 0 rfl rfl 2 (by decide) f18 (fun _ h9 => h9) rfl dX2_lookAheadFrom_84 ?_
            refine lv_iload hx hb dX2_lookAheadFrom_87 (lv_at hl 1 rfl) ?_
            refine va_iald (D := (dC, dI)) hx hb hK hP 3 0 rfl rfl hi6 dX2_lookAheadFrom_89 ?_
            refine lv_iadd hx hb dX2_lookAheadFrom_90 ?_
            refine lv_goto (tgt := 109) hx hb dX2_lookAheadFrom_91 (by decide) ?_
            refine lv_topi (fun x5_10 ex5_10 => ?_)
            have h := h x5_10 ex5_10
            refine lv_istore (lv' := [(5, .int x5_10), (4, .int x4_7), (8, .int x8), (7, .int x7), (0, .ref a_this), (1, .ref a_p1), (2, .int x2), (3, .int x3), (6, .int x6)]) hx hb dX2_lookAheadFrom_109 hl (by decide) rfl (fun ls hl => ?_)
            refine lv_iinc (v := x6 + 1) (lv' := [(6, .int (x6 + 1)), (5, .int x5_10), (4, .int x4_7), (8, .int x8), (7, .int x7), (0, .ref a_this), (1, .ref a_p1), (2, .int x2), (3, .int x3)]) hx hb dX2_lookAheadFrom_111 hl (k := 8) rfl rfl (by decide) rfl (fun ls hl => ?_)
            refine lv_goto (tgt := 10) hx hb dX2_lookAheadFrom_114 (by decide) ?_
            exact ih10 x4_7 x5_10 (x6 + 1) h _ _ _ (reP hP [0, 1, 2, 3, 4, 5] rfl) (hD.sub [0, 1, 2, 3, 4, 5] (by decide) rfl) hS (lv_sub hl [5, 6, 7, 8, 2, 1, 0] rfl)
  obtain ⟨n, h⟩ := h
  exact L10 n 0 (-9) 0 h _ _ _ (reP hP [0, 1, 2, 3, 4, 5] rfl) (hD.sub [0, 1, 2, 3, 4, 5] (by decide) rfl) hS (lv_sub hl [3, 4, 5, 6, 2, 1, 0] rfl)
/-! ### X2_lookAhead lookAhead(LOnesDesk$Rows;)V -/
def rX2_lookAhead : Room := { frames := 2, cells := 0, slots := 0, locals := 50 }
def q_X2_lookAhead_J47 (g_saved : Nat → Int32) (g_most : Nat → Int32) (g_least : Nat → Int32) (g_p1_columns : Int32) (g_p1_open : Nat → Int32) (Q : (Nat → Int32) → (Nat → Int32) → Prop) : Prop :=
  q_X2_lookAheadFrom g_saved g_most g_least g_p1_columns g_p1_open (0 : Int32) (8 : Int32) (fun g_most_1 g_least_2 => Q g_most_1 g_least_2)
def q_X2_lookAhead_L11 (x2 : Int32) (g_saved : Nat → Int32) (g_p1_columns : Int32) (g_p1_open : Nat → Int32) (k5 : Int32 → (Nat → Int32) → (Nat → Int32) → Prop) : Nat → Int32 → (Nat → Int32) → (Nat → Int32) → Prop
  | 0 => fun _ _ _ => False
  | n + 1 => fun x3 g_most g_least => (g_p1_columns ≤ x3 → k5 (x2 + (-1)) g_most g_least) ∧ (¬ g_p1_columns ≤ x3 → (¬ ((x2 >>> (x3 &&& 31)) &&& 1) = 1 → (q_X2_lookAhead_L11 x2 g_saved g_p1_columns g_p1_open k5 n) (x3 + 1) g_most g_least) ∧ (((x2 >>> (x3 &&& 31)) &&& 1) = 1 → q_X2_lookAheadFrom g_saved g_most g_least g_p1_columns g_p1_open x2 x3 (fun g_most_3 g_least_4 => (q_X2_lookAhead_L11 x2 g_saved g_p1_columns g_p1_open k5 n) (x3 + 1) g_most_3 g_least_4)))
def q_X2_lookAhead_L5 (g_saved : Nat → Int32) (g_p1_columns : Int32) (g_p1_open : Nat → Int32) (Q : (Nat → Int32) → (Nat → Int32) → Prop) : Nat → Int32 → (Nat → Int32) → (Nat → Int32) → Prop
  | 0 => fun _ _ _ => False
  | n + 1 => fun x2 g_most g_least => (x2 ≤ 0 → q_X2_lookAhead_J47 g_saved g_most g_least g_p1_columns g_p1_open Q) ∧ (¬ x2 ≤ 0 → ∃ N : Nat, q_X2_lookAhead_L11 x2 g_saved g_p1_columns g_p1_open (fun y0 y1 y2 => q_X2_lookAhead_L5 g_saved g_p1_columns g_p1_open Q n y0 y1 y2) N 0 g_most g_least)
def q_X2_lookAhead (g_saved : Nat → Int32) (g_most : Nat → Int32) (g_least : Nat → Int32) (g_p1_columns : Int32) (g_p1_full : Int32) (g_p1_open : Nat → Int32) (Q : (Nat → Int32) → (Nat → Int32) → Prop) : Prop :=
  ∃ N : Nat, q_X2_lookAhead_L5 g_saved g_p1_columns g_p1_open Q N g_p1_full g_most g_least
set_option maxRecDepth 100000 in
set_option maxHeartbeats 4000000 in
theorem c_X2_lookAhead (l : Launch) (dC : Nat → ClassId) (dI : Nat → Nat → Nat) (cI cZ : ClassId) (a_this a_saved a_most a_least a_p1 a_p1_open : Nat) (z_unsaved z_p1_ways : Value) (g_saved : Nat → Int32) (g_most : Nat → Int32) (g_least : Nat → Int32) (g_p1_columns : Int32) (g_p1_full : Int32) (g_p1_open : Nat → Int32) (Q : (Nat → Int32) → (Nat → Int32) → Prop) (h : q_X2_lookAhead g_saved g_most g_least g_p1_columns g_p1_full g_p1_open Q) : MV l yX2_lookAhead wsX2_lookAhead rX2_lookAhead (dC, dI) [(cI, .int), (cZ, .boolean)] [.ref a_this, .ref a_p1] [(a_this, .inr (2, [.ref a_saved, .ref a_most, .ref a_least, z_unsaved])), (a_saved, .inl (cI, 72, .inl g_saved)), (a_most, .inl (cI, 2304, .inl g_most)), (a_least, .inl (cI, 2304, .inl g_least)), (a_p1, .inr (1, [.ref a_p1_open, z_p1_ways, .int g_p1_columns, .int g_p1_full])), (a_p1_open, .inl (cI, 256, .inl g_p1_open))] (fun u : (Nat → Int32) × (Nat → Int32) => Q u.1 u.2) (fun u : (Nat → Int32) × (Nat → Int32) => [(a_this, .inr (2, [.ref a_saved, .ref a_most, .ref a_least, z_unsaved])), (a_saved, .inl (cI, 72, .inl g_saved)), (a_most, .inl (cI, 2304, .inl u.1)), (a_least, .inl (cI, 2304, .inl u.2)), (a_p1, .inr (1, [.ref a_p1_open, z_p1_ways, .int g_p1_columns, .int g_p1_full])), (a_p1_open, .inl (cI, 256, .inl g_p1_open))]) := by
  refine MV.of (cc := cX2_lookAhead) (maxL := 4) (by decide +kernel) rfl (Nat.le_of_ble_eq_true rfl) ?_
  intro p e s m args below meth c A QQ ls hx hb hml hown hts hA hK hP hD hS hNW ret hl
  have hl : lv_has ls 4 [(0, .ref a_this), (1, .ref a_p1)] := hl
  have hown : s.vm.findClass RX2 = some m.cls := hown
  have in1 : ∀ w ∈ u_ws RX1 TX1 4, w ∈ wsX2_lookAhead := fun _ w9 => List.mem_cons_of_mem _ (List.mem_append_left _ (List.mem_append_right _ w9))
  have f49 := hNW.get (args := args) 12 (a := RX2) (i := 49) (b := "OnesDesk$Rows") (n := "full") (d := "I") (o := "OnesDesk") rfl
  have f54 := hNW.get (args := args) 10 (a := RX2) (i := 54) (b := "OnesDesk$Rows") (n := "columns") (d := "I") (o := "OnesDesk") rfl
  refine lv_aload_n hx hb dX2_lookAhead_0 rfl (lv_at hl 1 rfl) ?_
  refine va_getN (D := (dC, dI)) (ci := 1) (v := .int g_p1_full) (C := RX1) (T := TX1) (N := 4) hx hb hts in1 hown hK hP 4 rfl rfl 3 (by decide) f49 (fun _ h9 => h9) rfl dX2_lookAhead_1 ?_
  refine lv_istore_n (lv' := [(2, .int g_p1_full), (0, .ref a_this), (1, .ref a_p1)]) hx hb dX2_lookAhead_4 rfl hl (by decide) rfl (fun ls hl => ?_)
  have L5 : ∀ (n5 : Nat), ∀ (x2 : Int32) (g_most : Nat → Int32) (g_least : Nat → Int32), q_X2_lookAhead_L5 g_saved g_p1_columns g_p1_open Q n5 x2 g_most g_least → ∀ (H : Heap) (locs : List Loc) (ls : Array Slot), va_P (dC, dI) vwCl [(a_this, .inr (2, [.ref a_saved, .ref a_most, .ref a_least, z_unsaved])), (a_saved, .inl (cI, 72, .inl g_saved)), (a_most, .inl (cI, 2304, .inl g_most)), (a_least, .inl (cI, 2304, .inl g_least)), (a_p1, .inr (1, [.ref a_p1_open, z_p1_ways, .int g_p1_columns, .int g_p1_full])), (a_p1_open, .inl (cI, 256, .inl g_p1_open))] H → va_D A [(a_this, .inr (2, [.ref a_saved, .ref a_most, .ref a_least, z_unsaved])), (a_saved, .inl (cI, 72, .inl g_saved)), (a_most, .inl (cI, 2304, .inl g_most)), (a_least, .inl (cI, 2304, .inl g_least)), (a_p1, .inr (1, [.ref a_p1_open, z_p1_ways, .int g_p1_columns, .int g_p1_full])), (a_p1_open, .inl (cI, 256, .inl g_p1_open))] → va_S A s.heap H locs → lv_has ls 4 [(0, .ref a_this), (1, .ref a_p1), (2, .int x2)] → W p l e rX2_lookAhead s m args below meth c H locs 0 0 QQ (F0 m 5 ls []) := by
    intro n5
    induction n5 with
    | zero => intro x2 g_most g_least h; exact False.elim h
    | succ n5 ih5 =>
      intro x2 g_most g_least h H locs ls hP hD hS hl
      refine lv_iload_n hx hb dX2_lookAhead_5 rfl (lv_at hl 2 rfl) ?_
      refine lv_if_le (tgt := 47) hx hb dX2_lookAhead_6 (by decide) (fun k1 => ?_) (fun k1 => ?_)
      · have h := h.1 k1
        have J47 : q_X2_lookAhead_J47 g_saved g_most g_least g_p1_columns g_p1_open Q → ∀ (H : Heap) (locs : List Loc) (ls : Array Slot), va_P (dC, dI) vwCl [(a_this, .inr (2, [.ref a_saved, .ref a_most, .ref a_least, z_unsaved])), (a_saved, .inl (cI, 72, .inl g_saved)), (a_most, .inl (cI, 2304, .inl g_most)), (a_least, .inl (cI, 2304, .inl g_least)), (a_p1, .inr (1, [.ref a_p1_open, z_p1_ways, .int g_p1_columns, .int g_p1_full])), (a_p1_open, .inl (cI, 256, .inl g_p1_open))] H → va_D A [(a_this, .inr (2, [.ref a_saved, .ref a_most, .ref a_least, z_unsaved])), (a_saved, .inl (cI, 72, .inl g_saved)), (a_most, .inl (cI, 2304, .inl g_most)), (a_least, .inl (cI, 2304, .inl g_least)), (a_p1, .inr (1, [.ref a_p1_open, z_p1_ways, .int g_p1_columns, .int g_p1_full])), (a_p1_open, .inl (cI, 256, .inl g_p1_open))] → va_S A s.heap H locs → lv_has ls 4 [(0, .ref a_this), (1, .ref a_p1)] → W p l e rX2_lookAhead s m args below meth c H locs 0 0 QQ (F0 m 47 ls []) := by
          intro  h H locs ls hP hD hS hl
          refine lv_aload_n hx hb dX2_lookAhead_47 rfl (lv_at hl 0 rfl) ?_
          refine lv_aload_n hx hb dX2_lookAhead_48 rfl (lv_at hl 1 rfl) ?_
          refine lv_iconst (v := 0) hx hb dX2_lookAhead_49 (by decide) ?_
          refine lv_bipush (v := 8) hx hb dX2_lookAhead_50 (by decide) ?_
          refine MV.callV (As := [.ref a_p1, .int 0, .int 8]) (rest := []) (wr := []) (ci := 2) (q0 := 0) (c_X2_lookAheadFrom l dC dI cI cZ a_this a_saved a_most a_least a_p1 a_p1_open z_unsaved z_p1_ways (.int g_p1_full) g_saved g_most g_least g_p1_columns g_p1_open (0 : Int32) (8 : Int32) _ h) ⟨hx, hb, hml, hown, hts⟩ (cwV 3 hts gX2_lookAhead_X2_lookAheadFrom rfl rfl rfl (by decide +kernel) ⟨Nat.le_of_ble_eq_true rfl, Nat.le_of_ble_eq_true rfl⟩) hK hP hD hS hA hNW [0, 1, 2, 3, 4, 5] [] rfl rfl (by decide) (by decide) (by decide) rfl rfl rfl rfl hl.1 rfl (Nat.le_of_ble_eq_true rfl) dX2_lookAhead_52 ⟨Nat.zero_le _, Nat.zero_le _⟩ (fun u H locs hw hP hD hS => ?_)
          obtain ⟨g_most_1, g_least_2⟩ := u
          have h := hw
          try dsimp only at h
          have hP : va_P (dC, dI) vwCl [(a_this, .inr (2, [.ref a_saved, .ref a_most, .ref a_least, z_unsaved])), (a_saved, .inl (cI, 72, .inl g_saved)), (a_most, .inl (cI, 2304, .inl g_most_1)), (a_least, .inl (cI, 2304, .inl g_least_2)), (a_p1, .inr (1, [.ref a_p1_open, z_p1_ways, .int g_p1_columns, .int g_p1_full])), (a_p1_open, .inl (cI, 256, .inl g_p1_open))] H := hP
          have hD : va_D A [(a_this, .inr (2, [.ref a_saved, .ref a_most, .ref a_least, z_unsaved])), (a_saved, .inl (cI, 72, .inl g_saved)), (a_most, .inl (cI, 2304, .inl g_most_1)), (a_least, .inl (cI, 2304, .inl g_least_2)), (a_p1, .inr (1, [.ref a_p1_open, z_p1_ways, .int g_p1_columns, .int g_p1_full])), (a_p1_open, .inl (cI, 256, .inl g_p1_open))] := hD
          exact ret _ _ _ _ (g_most_1, g_least_2) dX2_lookAhead_55 h (reP hP [0, 1, 2, 3, 4, 5] rfl) (hD.sub [0, 1, 2, 3, 4, 5] (by decide) rfl) hS
        exact J47 h _ _ _ (reP hP [0, 1, 2, 3, 4, 5] rfl) (hD.sub [0, 1, 2, 3, 4, 5] (by decide) rfl) hS (lv_sub hl [0, 1] rfl)
      · have h := h.2 k1
        refine lv_iconst (v := 0) hx hb dX2_lookAhead_9 (by decide) ?_
        refine lv_istore_n (lv' := [(3, .int 0), (0, .ref a_this), (1, .ref a_p1), (2, .int x2)]) hx hb dX2_lookAhead_10 rfl hl (by decide) rfl (fun ls hl => ?_)
        have L11 : ∀ (n11 : Nat), ∀ (x3 : Int32) (g_most : Nat → Int32) (g_least : Nat → Int32), q_X2_lookAhead_L11 x2 g_saved g_p1_columns g_p1_open (q_X2_lookAhead_L5 g_saved g_p1_columns g_p1_open Q n5) n11 x3 g_most g_least → ∀ (H : Heap) (locs : List Loc) (ls : Array Slot), va_P (dC, dI) vwCl [(a_this, .inr (2, [.ref a_saved, .ref a_most, .ref a_least, z_unsaved])), (a_saved, .inl (cI, 72, .inl g_saved)), (a_most, .inl (cI, 2304, .inl g_most)), (a_least, .inl (cI, 2304, .inl g_least)), (a_p1, .inr (1, [.ref a_p1_open, z_p1_ways, .int g_p1_columns, .int g_p1_full])), (a_p1_open, .inl (cI, 256, .inl g_p1_open))] H → va_D A [(a_this, .inr (2, [.ref a_saved, .ref a_most, .ref a_least, z_unsaved])), (a_saved, .inl (cI, 72, .inl g_saved)), (a_most, .inl (cI, 2304, .inl g_most)), (a_least, .inl (cI, 2304, .inl g_least)), (a_p1, .inr (1, [.ref a_p1_open, z_p1_ways, .int g_p1_columns, .int g_p1_full])), (a_p1_open, .inl (cI, 256, .inl g_p1_open))] → va_S A s.heap H locs → lv_has ls 4 [(0, .ref a_this), (1, .ref a_p1), (2, .int x2), (3, .int x3)] → W p l e rX2_lookAhead s m args below meth c H locs 0 0 QQ (F0 m 11 ls []) := by
          intro n11
          induction n11 with
          | zero => intro x3 g_most g_least h; exact False.elim h
          | succ n11 ih11 =>
            intro x3 g_most g_least h H locs ls hP hD hS hl
            refine lv_iload_n hx hb dX2_lookAhead_11 rfl (lv_at hl 3 rfl) ?_
            refine lv_aload_n hx hb dX2_lookAhead_12 rfl (lv_at hl 1 rfl) ?_
            refine va_getN (D := (dC, dI)) (ci := 1) (v := .int g_p1_columns) (C := RX1) (T := TX1) (N := 4) hx hb hts in1 hown hK hP 4 rfl rfl 2 (by decide) f54 (fun _ h9 => h9) rfl dX2_lookAhead_13 ?_
            refine lv_icmp_ge (tgt := 41) hx hb dX2_lookAhead_16 (by decide) (fun k1 => ?_) (fun k1 => ?_)
            · have h := h.1 k1
              refine lv_iinc (v := x2 + (-1)) (lv' := [(2, .int (x2 + (-1))), (0, .ref a_this), (1, .ref a_p1), (3, .int x3)]) hx hb dX2_lookAhead_41 hl (k := 2) rfl rfl (by decide) rfl (fun ls hl => ?_)
              refine lv_goto (tgt := 5) hx hb dX2_lookAhead_44 (by decide) ?_
              exact ih5 (x2 + (-1)) g_most g_least h _ _ _ (reP hP [0, 1, 2, 3, 4, 5] rfl) (hD.sub [0, 1, 2, 3, 4, 5] (by decide) rfl) hS (lv_sub hl [1, 2, 0] rfl)
            · have h := h.2 k1
              refine lv_iload_n hx hb dX2_lookAhead_19 rfl (lv_at hl 2 rfl) ?_
              refine lv_iload_n hx hb dX2_lookAhead_20 rfl (lv_at hl 3 rfl) ?_
              refine lv_ishr hx hb dX2_lookAhead_21 ?_
              refine lv_iconst (v := 1) hx hb dX2_lookAhead_22 (by decide) ?_
              refine lv_iand hx hb dX2_lookAhead_23 ?_
              refine lv_iconst (v := 1) hx hb dX2_lookAhead_24 (by decide) ?_
              refine lv_icmp_ne (tgt := 35) hx hb dX2_lookAhead_25 (by decide) (fun k2 => ?_) (fun k2 => ?_)
              · have h := h.1 k2
                refine lv_iinc (v := x3 + 1) (lv' := [(3, .int (x3 + 1)), (0, .ref a_this), (1, .ref a_p1), (2, .int x2)]) hx hb dX2_lookAhead_35 hl (k := 3) rfl rfl (by decide) rfl (fun ls hl => ?_)
                refine lv_goto (tgt := 11) hx hb dX2_lookAhead_38 (by decide) ?_
                exact ih11 (x3 + 1) g_most g_least h _ _ _ (reP hP [0, 1, 2, 3, 4, 5] rfl) (hD.sub [0, 1, 2, 3, 4, 5] (by decide) rfl) hS (lv_sub hl [1, 2, 3, 0] rfl)
              · have h := h.2 k2
                refine lv_aload_n hx hb dX2_lookAhead_28 rfl (lv_at hl 0 rfl) ?_
                refine lv_aload_n hx hb dX2_lookAhead_29 rfl (lv_at hl 1 rfl) ?_
                refine lv_iload_n hx hb dX2_lookAhead_30 rfl (lv_at hl 2 rfl) ?_
                refine lv_iload_n hx hb dX2_lookAhead_31 rfl (lv_at hl 3 rfl) ?_
                refine MV.callV (As := [.ref a_p1, .int x2, .int x3]) (rest := []) (wr := []) (ci := 2) (q0 := 0) (c_X2_lookAheadFrom l dC dI cI cZ a_this a_saved a_most a_least a_p1 a_p1_open z_unsaved z_p1_ways (.int g_p1_full) g_saved g_most g_least g_p1_columns g_p1_open x2 x3 _ h) ⟨hx, hb, hml, hown, hts⟩ (cwV 3 hts gX2_lookAhead_X2_lookAheadFrom rfl rfl rfl (by decide +kernel) ⟨Nat.le_of_ble_eq_true rfl, Nat.le_of_ble_eq_true rfl⟩) hK hP hD hS hA hNW [0, 1, 2, 3, 4, 5] [] rfl rfl (by decide) (by decide) (by decide) rfl rfl rfl rfl hl.1 rfl (Nat.le_of_ble_eq_true rfl) dX2_lookAhead_32 ⟨Nat.zero_le _, Nat.zero_le _⟩ (fun u H locs hw hP hD hS => ?_)
                obtain ⟨g_most_3, g_least_4⟩ := u
                have h := hw
                try dsimp only at h
                have hP : va_P (dC, dI) vwCl [(a_this, .inr (2, [.ref a_saved, .ref a_most, .ref a_least, z_unsaved])), (a_saved, .inl (cI, 72, .inl g_saved)), (a_most, .inl (cI, 2304, .inl g_most_3)), (a_least, .inl (cI, 2304, .inl g_least_4)), (a_p1, .inr (1, [.ref a_p1_open, z_p1_ways, .int g_p1_columns, .int g_p1_full])), (a_p1_open, .inl (cI, 256, .inl g_p1_open))] H := hP
                have hD : va_D A [(a_this, .inr (2, [.ref a_saved, .ref a_most, .ref a_least, z_unsaved])), (a_saved, .inl (cI, 72, .inl g_saved)), (a_most, .inl (cI, 2304, .inl g_most_3)), (a_least, .inl (cI, 2304, .inl g_least_4)), (a_p1, .inr (1, [.ref a_p1_open, z_p1_ways, .int g_p1_columns, .int g_p1_full])), (a_p1_open, .inl (cI, 256, .inl g_p1_open))] := hD
                refine lv_iinc (v := x3 + 1) (lv' := [(3, .int (x3 + 1)), (0, .ref a_this), (1, .ref a_p1), (2, .int x2)]) hx hb dX2_lookAhead_35 hl (k := 3) rfl rfl (by decide) rfl (fun ls hl => ?_)
                refine lv_goto (tgt := 11) hx hb dX2_lookAhead_38 (by decide) ?_
                exact ih11 (x3 + 1) g_most_3 g_least_4 h _ _ _ (reP hP [0, 1, 2, 3, 4, 5] rfl) (hD.sub [0, 1, 2, 3, 4, 5] (by decide) rfl) hS (lv_sub hl [1, 2, 3, 0] rfl)
        obtain ⟨n, h⟩ := h
        exact L11 n 0 g_most g_least h _ _ _ (reP hP [0, 1, 2, 3, 4, 5] rfl) (hD.sub [0, 1, 2, 3, 4, 5] (by decide) rfl) hS (lv_sub hl [1, 2, 3, 0] rfl)
  obtain ⟨n, h⟩ := h
  exact L5 n g_p1_full g_most g_least h _ _ _ (reP hP [0, 1, 2, 3, 4, 5] rfl) (hD.sub [0, 1, 2, 3, 4, 5] (by decide) rfl) hS (lv_sub hl [1, 2, 0] rfl)
/-! ### X2_gapsOf gapsOf([II)I -/
def rX2_gapsOf : Room := { frames := 0, cells := 0, slots := 0, locals := 0 }
def q_X2_gapsOf_L8 (x2 : Int32) (g_saved : Nat → Int32) (g_p1 : Nat → Int32) (Q : Int32 → Prop) : Nat → Int32 → Int32 → Prop
  | 0 => fun _ _ => False
  | n + 1 => fun x3 x4 => (x2 ≤ x4 → Q x3) ∧ (¬ x2 ≤ x4 → vp_in (x4 - 1) 8 ∧ vp_in x4 8 ∧ vp_in (((g_p1 (Int32.toNatClampNeg (x4 - 1))) * 8) + (g_p1 (Int32.toNatClampNeg x4))) 72 ∧ ∀ x3_5 : Int32, x3_5 = (x3 - (g_saved (Int32.toNatClampNeg (((g_p1 (Int32.toNatClampNeg (x4 - 1))) * 8) + (g_p1 (Int32.toNatClampNeg x4)))))) → (q_X2_gapsOf_L8 x2 g_saved g_p1 Q n) x3_5 (x4 + 1))
def q_X2_gapsOf (g_unsaved : Int32) (g_saved : Nat → Int32) (g_p1 : Nat → Int32) (x2 : Int32) (Q : Int32 → Prop) : Prop :=
  ∃ N : Nat, q_X2_gapsOf_L8 x2 g_saved g_p1 Q N g_unsaved 1
set_option maxRecDepth 100000 in
set_option maxHeartbeats 4000000 in
theorem c_X2_gapsOf (l : Launch) (dC : Nat → ClassId) (dI : Nat → Nat → Nat) (cI cZ : ClassId) (a_this a_saved a_p1 : Nat) (z_most z_least : Value) (g_unsaved : Int32) (g_saved : Nat → Int32) (g_p1 : Nat → Int32) (x2 : Int32) (Q : Int32 → Prop) (h : q_X2_gapsOf g_unsaved g_saved g_p1 x2 Q) : MI l yX2_gapsOf wsX2_gapsOf rX2_gapsOf (dC, dI) [(cI, .int), (cZ, .boolean)] [.ref a_this, .ref a_p1, .int x2] [(a_this, .inr (2, [.ref a_saved, z_most, z_least, .int g_unsaved])), (a_saved, .inl (cI, 72, .inl g_saved)), (a_p1, .inl (cI, 8, .inl g_p1))] (fun (r : Int32) (u : Unit) => Q r) (fun u : Unit => [(a_this, .inr (2, [.ref a_saved, z_most, z_least, .int g_unsaved])), (a_saved, .inl (cI, 72, .inl g_saved)), (a_p1, .inl (cI, 8, .inl g_p1))]) := by
  refine MI.of (cc := cX2_gapsOf) (maxL := 5) (by decide +kernel) rfl (Nat.le_of_ble_eq_true rfl) ?_
  intro p e s m args below meth c A QQ ls hx hb hml hown hts hA hK hP hD hS hNW ret hl
  have hl : lv_has ls 5 [(0, .ref a_this), (1, .ref a_p1), (2, .int x2)] := hl
  have hown : s.vm.findClass RX2 = some m.cls := hown
  have in2 : ∀ w ∈ u_ws RX2 TX2 4, w ∈ wsX2_gapsOf := fun _ w9 => List.mem_cons_of_mem _ (List.mem_append_right _ w9)
  have f11 := hts (.fieldLink RX2 11 "OnesDesk$Savings" "saved" "[I") (by decide +kernel)
  have f21 := hts (.fieldLink RX2 21 "OnesDesk$Savings" "unsaved" "I") (by decide +kernel)
  refine lv_aload_n hx hb dX2_gapsOf_0 rfl (lv_at hl 0 rfl) ?_
  refine va_get (D := (dC, dI)) (ci := 2) (v := .int g_unsaved) (C := RX2) (T := TX2) (N := 4) hx hb hts in2 hown hK hP 0 rfl rfl 3 (by decide) f21 (fun _ h9 => h9) rfl dX2_gapsOf_1 ?_
  refine lv_istore_n (lv' := [(3, .int g_unsaved), (0, .ref a_this), (1, .ref a_p1), (2, .int x2)]) hx hb dX2_gapsOf_4 rfl hl (by decide) rfl (fun ls hl => ?_)
  refine lv_iconst (v := 1) hx hb dX2_gapsOf_5 (by decide) ?_
  refine lv_istore (lv' := [(4, .int 1), (3, .int g_unsaved), (0, .ref a_this), (1, .ref a_p1), (2, .int x2)]) hx hb dX2_gapsOf_6 hl (by decide) rfl (fun ls hl => ?_)
  have L8 : ∀ (n8 : Nat), ∀ (x3 : Int32) (x4 : Int32), q_X2_gapsOf_L8 x2 g_saved g_p1 Q n8 x3 x4 → ∀ (H : Heap) (locs : List Loc) (ls : Array Slot), va_P (dC, dI) vwCl [(a_this, .inr (2, [.ref a_saved, z_most, z_least, .int g_unsaved])), (a_saved, .inl (cI, 72, .inl g_saved)), (a_p1, .inl (cI, 8, .inl g_p1))] H → va_D A [(a_this, .inr (2, [.ref a_saved, z_most, z_least, .int g_unsaved])), (a_saved, .inl (cI, 72, .inl g_saved)), (a_p1, .inl (cI, 8, .inl g_p1))] → va_S A s.heap H locs → lv_has ls 5 [(0, .ref a_this), (1, .ref a_p1), (2, .int x2), (3, .int x3), (4, .int x4)] → W p l e rX2_gapsOf s m args below meth c H locs 0 0 QQ (F0 m 8 ls []) := by
    intro n8
    induction n8 with
    | zero => intro x3 x4 h; exact False.elim h
    | succ n8 ih8 =>
      intro x3 x4 h H locs ls hP hD hS hl
      refine lv_iload hx hb dX2_gapsOf_8 (lv_at hl 4 rfl) ?_
      refine lv_iload_n hx hb dX2_gapsOf_10 rfl (lv_at hl 2 rfl) ?_
      refine lv_icmp_ge (tgt := 42) hx hb dX2_gapsOf_11 (by decide) (fun k1 => ?_) (fun k1 => ?_)
      · have h := h.1 k1
        refine lv_iload_n hx hb dX2_gapsOf_42 rfl (lv_at hl 3 rfl) ?_
        exact ret _ _ _ _ x3 () dX2_gapsOf_43 h (reP hP [0, 1, 2] rfl) (hD.sub [0, 1, 2] (by decide) rfl) hS
      · have h := h.2 k1
        refine lv_iload_n hx hb dX2_gapsOf_14 rfl (lv_at hl 3 rfl) ?_
        refine lv_aload_n hx hb dX2_gapsOf_15 rfl (lv_at hl 0 rfl) ?_
        refine va_get (D := (dC, dI)) (ci := 2) (v := .ref a_saved) (C := RX2) (T := TX2) (N := 4) hx hb hts in2 hown hK hP 0 rfl rfl 0 (by decide) f11 (fun _ h9 => h9) rfl dX2_gapsOf_16 ?_
        refine lv_aload_n hx hb dX2_gapsOf_19 rfl (lv_at hl 1 rfl) ?_
        refine lv_iload hx hb dX2_gapsOf_20 (lv_at hl 4 rfl) ?_
        refine lv_iconst (v := 1) hx hb dX2_gapsOf_22 (by decide) ?_
        refine lv_isub hx hb dX2_gapsOf_23 ?_
        obtain ⟨hi2, h⟩ := h
        refine va_iald (D := (dC, dI)) hx hb hK hP 2 0 rfl rfl hi2 dX2_gapsOf_24 ?_
        refine lv_bipush (v := 8) hx hb dX2_gapsOf_25 (by decide) ?_
        refine lv_imul hx hb dX2_gapsOf_27 ?_
        refine lv_aload_n hx hb dX2_gapsOf_28 rfl (lv_at hl 1 rfl) ?_
        refine lv_iload hx hb dX2_gapsOf_29 (lv_at hl 4 rfl) ?_
        obtain ⟨hi3, h⟩ := h
        refine va_iald (D := (dC, dI)) hx hb hK hP 2 0 rfl rfl hi3 dX2_gapsOf_31 ?_
        refine lv_iadd hx hb dX2_gapsOf_32 ?_
        obtain ⟨hi4, h⟩ := h
        refine va_iald (D := (dC, dI)) hx hb hK hP 1 0 rfl rfl hi4 dX2_gapsOf_33 ?_
        refine lv_isub hx hb dX2_gapsOf_34 ?_
        refine lv_topi (fun x3_5 ex3_5 => ?_)
        have h := h x3_5 ex3_5
        refine lv_istore_n (lv' := [(3, .int x3_5), (0, .ref a_this), (1, .ref a_p1), (2, .int x2), (4, .int x4)]) hx hb dX2_gapsOf_35 rfl hl (by decide) rfl (fun ls hl => ?_)
        refine lv_iinc (v := x4 + 1) (lv' := [(4, .int (x4 + 1)), (3, .int x3_5), (0, .ref a_this), (1, .ref a_p1), (2, .int x2)]) hx hb dX2_gapsOf_36 hl (k := 4) rfl rfl (by decide) rfl (fun ls hl => ?_)
        refine lv_goto (tgt := 8) hx hb dX2_gapsOf_39 (by decide) ?_
        exact ih8 x3_5 (x4 + 1) h _ _ _ (reP hP [0, 1, 2] rfl) (hD.sub [0, 1, 2] (by decide) rfl) hS (lv_sub hl [2, 3, 4, 1, 0] rfl)
  obtain ⟨n, h⟩ := h
  exact L8 n g_unsaved 1 h _ _ _ (reP hP [0, 1, 2] rfl) (hD.sub [0, 1, 2] (by decide) rfl) hS (lv_sub hl [2, 3, 4, 1, 0] rfl)
/-! ### X2_bestColumn bestColumn(LOnesDesk$Rows;II)I -/
def rX2_bestColumn : Room := { frames := 1, cells := 0, slots := 0, locals := 22 }
def q_X2_bestColumn_L3 (x2 : Int32) (x3 : Int32) (g_saved : Nat → Int32) (g_most : Nat → Int32) (g_p1_columns : Int32) (g_p1_open : Nat → Int32) (Q : Int32 → Prop) : Nat → Int32 → Prop
  | 0 => fun _ => False
  | n + 1 => fun x4 => (g_p1_columns ≤ x4 → Q 0) ∧ (¬ g_p1_columns ≤ x4 → q_X1_mayFollow g_p1_open x2 x4 (fun b3 => (b3 = false → (q_X2_bestColumn_L3 x2 x3 g_saved g_most g_p1_columns g_p1_open Q n) (x4 + 1)) ∧ (b3 = true → vp_in (((x2 ||| (1 <<< (x4 &&& 31))) * 9) + x4) 2304 ∧ ∀ x5 : Int32, x5 = (g_most (Int32.toNatClampNeg (((x2 ||| (1 <<< (x4 &&& 31))) * 9) + x4))) → vp_in ((x3 * 8) + x4) 72 ∧ vp_in ((x2 * 9) + x3) 2304 ∧ (¬ ((g_saved (Int32.toNatClampNeg ((x3 * 8) + x4))) + x5) = (g_most (Int32.toNatClampNeg ((x2 * 9) + x3))) → (q_X2_bestColumn_L3 x2 x3 g_saved g_most g_p1_columns g_p1_open Q n) (x4 + 1)) ∧ (((g_saved (Int32.toNatClampNeg ((x3 * 8) + x4))) + x5) = (g_most (Int32.toNatClampNeg ((x2 * 9) + x3))) → Q x4))))
def q_X2_bestColumn (g_saved : Nat → Int32) (g_most : Nat → Int32) (g_p1_columns : Int32) (g_p1_open : Nat → Int32) (x2 : Int32) (x3 : Int32) (Q : Int32 → Prop) : Prop :=
  ∃ N : Nat, q_X2_bestColumn_L3 x2 x3 g_saved g_most g_p1_columns g_p1_open Q N 0
set_option maxRecDepth 100000 in
set_option maxHeartbeats 4000000 in
theorem c_X2_bestColumn (l : Launch) (dC : Nat → ClassId) (dI : Nat → Nat → Nat) (cI cZ : ClassId) (a_this a_saved a_most a_p1 a_p1_open : Nat) (z_least z_unsaved z_p1_ways z_p1_full : Value) (g_saved : Nat → Int32) (g_most : Nat → Int32) (g_p1_columns : Int32) (g_p1_open : Nat → Int32) (x2 : Int32) (x3 : Int32) (Q : Int32 → Prop) (h : q_X2_bestColumn g_saved g_most g_p1_columns g_p1_open x2 x3 Q) : MI l yX2_bestColumn wsX2_bestColumn rX2_bestColumn (dC, dI) [(cI, .int), (cZ, .boolean)] [.ref a_this, .ref a_p1, .int x2, .int x3] [(a_this, .inr (2, [.ref a_saved, .ref a_most, z_least, z_unsaved])), (a_saved, .inl (cI, 72, .inl g_saved)), (a_most, .inl (cI, 2304, .inl g_most)), (a_p1, .inr (1, [.ref a_p1_open, z_p1_ways, .int g_p1_columns, z_p1_full])), (a_p1_open, .inl (cI, 256, .inl g_p1_open))] (fun (r : Int32) (u : Unit) => Q r) (fun u : Unit => [(a_this, .inr (2, [.ref a_saved, .ref a_most, z_least, z_unsaved])), (a_saved, .inl (cI, 72, .inl g_saved)), (a_most, .inl (cI, 2304, .inl g_most)), (a_p1, .inr (1, [.ref a_p1_open, z_p1_ways, .int g_p1_columns, z_p1_full])), (a_p1_open, .inl (cI, 256, .inl g_p1_open))]) := by
  refine MI.of (cc := cX2_bestColumn) (maxL := 6) (by decide +kernel) rfl (Nat.le_of_ble_eq_true rfl) ?_
  intro p e s m args below meth c A QQ ls hx hb hml hown hts hA hK hP hD hS hNW ret hl
  have hl : lv_has ls 6 [(0, .ref a_this), (1, .ref a_p1), (2, .int x2), (3, .int x3)] := hl
  have hown : s.vm.findClass RX2 = some m.cls := hown
  have in1 : ∀ w ∈ u_ws RX1 TX1 4, w ∈ wsX2_bestColumn := fun _ w9 => List.mem_cons_of_mem _ (List.mem_append_left _ (List.mem_append_right _ w9))
  have in2 : ∀ w ∈ u_ws RX2 TX2 4, w ∈ wsX2_bestColumn := fun _ w9 => List.mem_cons_of_mem _ (List.mem_append_right _ w9)
  have f11 := hts (.fieldLink RX2 11 "OnesDesk$Savings" "saved" "[I") (by decide +kernel)
  have f15 := hts (.fieldLink RX2 15 "OnesDesk$Savings" "most" "[I") (by decide +kernel)
  have f54 := hNW.get (args := args) 10 (a := RX2) (i := 54) (b := "OnesDesk$Rows") (n := "columns") (d := "I") (o := "OnesDesk") rfl
  refine lv_iconst (v := 0) hx hb dX2_bestColumn_0 (by decide) ?_
  refine lv_istore (lv' := [(4, .int 0), (0, .ref a_this), (1, .ref a_p1), (2, .int x2), (3, .int x3)]) hx hb dX2_bestColumn_1 hl (by decide) rfl (fun ls hl => ?_)
  have L3 : ∀ (n3 : Nat), ∀ (x4 : Int32), q_X2_bestColumn_L3 x2 x3 g_saved g_most g_p1_columns g_p1_open Q n3 x4 → ∀ (H : Heap) (locs : List Loc) (ls : Array Slot), va_P (dC, dI) vwCl [(a_this, .inr (2, [.ref a_saved, .ref a_most, z_least, z_unsaved])), (a_saved, .inl (cI, 72, .inl g_saved)), (a_most, .inl (cI, 2304, .inl g_most)), (a_p1, .inr (1, [.ref a_p1_open, z_p1_ways, .int g_p1_columns, z_p1_full])), (a_p1_open, .inl (cI, 256, .inl g_p1_open))] H → va_D A [(a_this, .inr (2, [.ref a_saved, .ref a_most, z_least, z_unsaved])), (a_saved, .inl (cI, 72, .inl g_saved)), (a_most, .inl (cI, 2304, .inl g_most)), (a_p1, .inr (1, [.ref a_p1_open, z_p1_ways, .int g_p1_columns, z_p1_full])), (a_p1_open, .inl (cI, 256, .inl g_p1_open))] → va_S A s.heap H locs → lv_has ls 6 [(0, .ref a_this), (1, .ref a_p1), (2, .int x2), (3, .int x3), (4, .int x4)] → W p l e rX2_bestColumn s m args below meth c H locs 0 0 QQ (F0 m 3 ls []) := by
    intro n3
    induction n3 with
    | zero => intro x4 h; exact False.elim h
    | succ n3 ih3 =>
      intro x4 h H locs ls hP hD hS hl
      refine lv_iload hx hb dX2_bestColumn_3 (lv_at hl 4 rfl) ?_
      refine lv_aload_n hx hb dX2_bestColumn_5 rfl (lv_at hl 1 rfl) ?_
      refine va_getN (D := (dC, dI)) (ci := 1) (v := .int g_p1_columns) (C := RX1) (T := TX1) (N := 4) hx hb hts in1 hown hK hP 3 rfl rfl 2 (by decide) f54 (fun _ h9 => h9) rfl dX2_bestColumn_6 ?_
      refine lv_icmp_ge (tgt := 79) hx hb dX2_bestColumn_9 (by decide) (fun k1 => ?_) (fun k1 => ?_)
      · have h := h.1 k1
        refine lv_iconst (v := 0) hx hb dX2_bestColumn_79 (by decide) ?_
        exact ret _ _ _ _ 0 () dX2_bestColumn_80 h (reP hP [0, 1, 2, 3, 4] rfl) (hD.sub [0, 1, 2, 3, 4] (by decide) rfl) hS
      · have h := h.2 k1
        refine lv_aload_n hx hb dX2_bestColumn_12 rfl (lv_at hl 1 rfl) ?_
        refine lv_iload_n hx hb dX2_bestColumn_13 rfl (lv_at hl 2 rfl) ?_
        refine lv_iload hx hb dX2_bestColumn_14 (lv_at hl 4 rfl) ?_
        refine MI.callV (As := [.int x2, .int x4]) (rest := []) (wr := [(a_this, .inr (2, [.ref a_saved, .ref a_most, z_least, z_unsaved])), (a_saved, .inl (cI, 72, .inl g_saved)), (a_most, .inl (cI, 2304, .inl g_most))]) (ci := 1) (q0 := 0) (c_X1_mayFollow l dC dI cI cZ a_p1 a_p1_open z_p1_ways (.int g_p1_columns) z_p1_full g_p1_open x2 x4 _ h) ⟨hx, hb, hml, hown, hts⟩ (cwV 2 hts gX2_bestColumn_X1_mayFollow rfl rfl rfl (by decide +kernel) ⟨Nat.le_of_ble_eq_true rfl, Nat.le_of_ble_eq_true rfl⟩) hK hP hD hS hA hNW [3, 4] [0, 1, 2] rfl rfl (by decide) (by decide) (by decide) rfl rfl rfl rfl hl.1 rfl (Nat.le_of_ble_eq_true rfl) dX2_bestColumn_16 ⟨Nat.zero_le _, Nat.zero_le _⟩ (fun r2 u H locs hw hP hD hS => ?_)
        obtain ⟨b3, rfl, hw⟩ := hw
        have h := hw
        try dsimp only at h
        have hP : va_P (dC, dI) vwCl [(a_this, .inr (2, [.ref a_saved, .ref a_most, z_least, z_unsaved])), (a_saved, .inl (cI, 72, .inl g_saved)), (a_most, .inl (cI, 2304, .inl g_most)), (a_p1, .inr (1, [.ref a_p1_open, z_p1_ways, .int g_p1_columns, z_p1_full])), (a_p1_open, .inl (cI, 256, .inl g_p1_open))] H := hP
        have hD : va_D A [(a_this, .inr (2, [.ref a_saved, .ref a_most, z_least, z_unsaved])), (a_saved, .inl (cI, 72, .inl g_saved)), (a_most, .inl (cI, 2304, .inl g_most)), (a_p1, .inr (1, [.ref a_p1_open, z_p1_ways, .int g_p1_columns, z_p1_full])), (a_p1_open, .inl (cI, 256, .inl g_p1_open))] := hD
        refine lv_if_eq (tgt := 73) hx hb dX2_bestColumn_19 (by decide) (fun k4 => ?_) (fun k4 => ?_)
        · have h := h.1 (bI_0 k4)
          refine lv_iinc (v := x4 + 1) (lv' := [(4, .int (x4 + 1)), (0, .ref a_this), (1, .ref a_p1), (2, .int x2), (3, .int x3)]) hx hb dX2_bestColumn_73 hl (k := 4) rfl rfl (by decide) rfl (fun ls hl => ?_)
          refine lv_goto (tgt := 3) hx hb dX2_bestColumn_76 (by decide) ?_
          exact ih3 (x4 + 1) h _ _ _ (reP hP [0, 1, 2, 3, 4] rfl) (hD.sub [0, 1, 2, 3, 4] (by decide) rfl) hS (lv_sub hl [1, 2, 3, 4, 0] rfl)
        · have h := h.2 (bI_1 k4)
          refine lv_aload_n hx hb dX2_bestColumn_22 rfl (lv_at hl 0 rfl) ?_
          refine va_get (D := (dC, dI)) (ci := 2) (v := .ref a_most) (C := RX2) (T := TX2) (N := 4) hx hb hts in2 hown hK hP 0 rfl rfl 1 (by decide) f15 (fun _ h9 => h9) rfl dX2_bestColumn_23 ?_
          refine lv_iload_n hx hb dX2_bestColumn_26 rfl (lv_at hl 2 rfl) ?_
          refine lv_iconst (v := 1) hx hb dX2_bestColumn_27 (by decide) ?_
          refine lv_iload hx hb dX2_bestColumn_28 (lv_at hl 4 rfl) ?_
          refine lv_ishl hx hb dX2_bestColumn_30 ?_
          refine lv_ior hx hb dX2_bestColumn_31 ?_
          refine lv_bipush (v := 9) hx hb dX2_bestColumn_32 (by decide) ?_
          refine lv_imul hx hb dX2_bestColumn_34 ?_
          refine lv_iload hx hb dX2_bestColumn_35 (lv_at hl 4 rfl) ?_
          refine lv_iadd hx hb dX2_bestColumn_37 ?_
          obtain ⟨hi5, h⟩ := h
          refine va_iald (D := (dC, dI)) hx hb hK hP 2 0 rfl rfl hi5 dX2_bestColumn_38 ?_
          refine lv_topi (fun x5 ex5 => ?_)
          have h := h x5 ex5
          refine lv_istore (lv' := [(5, .int x5), (0, .ref a_this), (1, .ref a_p1), (2, .int x2), (3, .int x3), (4, .int x4)]) hx hb dX2_bestColumn_39 hl (by decide) rfl (fun ls hl => ?_)
          refine lv_aload_n hx hb dX2_bestColumn_41 rfl (lv_at hl 1 rfl) ?_
          refine va_get (D := (dC, dI)) (ci := 2) (v := .ref a_saved) (C := RX2) (T := TX2) (N := 4) hx hb hts in2 hown hK hP 0 rfl rfl 0 (by decide) f11 (fun _ h9 => h9) rfl dX2_bestColumn_42 ?_
          refine lv_iload_n hx hb dX2_bestColumn_45 rfl (lv_at hl 4 rfl) ?_
          refine lv_bipush (v := 8) hx hb dX2_bestColumn_46 (by decide) ?_
          refine lv_imul hx hb dX2_bestColumn_48 ?_
          refine lv_iload hx hb dX2_bestColumn_49 (lv_at hl 5 rfl) ?_
          refine lv_iadd hx hb dX2_bestColumn_51 ?_
          obtain ⟨hi6, h⟩ := h
          refine va_iald (D := (dC, dI)) hx hb hK hP 1 0 rfl rfl hi6 dX2_bestColumn_52 ?_
          refine lv_iload hx hb dX2_bestColumn_53 (lv_at hl 0 rfl) ?_
          refine lv_iadd hx hb dX2_bestColumn_55 ?_
          refine lv_aload_n hx hb dX2_bestColumn_56 rfl (lv_at hl 1 rfl) ?_
          refine va_get (D := (dC, dI)) (ci := 2) (v := .ref a_most) (C := RX2) (T := TX2) (N := 4) hx hb hts in2 hown hK hP 0 rfl rfl 1 (by decide) f15 (fun _ h9 => h9) rfl dX2_bestColumn_57 ?_
          refine lv_iload_n hx hb dX2_bestColumn_60 rfl (lv_at hl 3 rfl) ?_
          refine lv_bipush (v := 9) hx hb dX2_bestColumn_61 (by decide) ?_
          refine lv_imul hx hb dX2_bestColumn_63 ?_
          refine lv_iload_n hx hb dX2_bestColumn_64 rfl (lv_at hl 4 rfl) ?_
          refine lv_iadd hx hb dX2_bestColumn_65 ?_
          obtain ⟨hi7, h⟩ := h
          refine va_iald (D := (dC, dI)) hx hb hK hP 2 0 rfl rfl hi7 dX2_bestColumn_66 ?_
          refine lv_icmp_ne (tgt := 73) hx hb dX2_bestColumn_67 (by decide) (fun k8 => ?_) (fun k8 => ?_)
          · have h := h.1 k8
            refine lv_iinc (v := x4 + 1) (lv' := [(4, .int (x4 + 1)), (5, .int x5), (0, .ref a_this), (1, .ref a_p1), (2, .int x2), (3, .int x3)]) hx hb dX2_bestColumn_73 hl (k := 5) rfl rfl (by decide) rfl (fun ls hl => ?_)
            refine lv_goto (tgt := 3) hx hb dX2_bestColumn_76 (by decide) ?_
            exact ih3 (x4 + 1) h _ _ _ (reP hP [0, 1, 2, 3, 4] rfl) (hD.sub [0, 1, 2, 3, 4] (by decide) rfl) hS (lv_sub hl [2, 3, 4, 5, 0] rfl)
          · have h := h.2 k8
            refine lv_iload hx hb dX2_bestColumn_70 (lv_at hl 5 rfl) ?_
            exact ret _ _ _ _ x4 () dX2_bestColumn_72 h (reP hP [0, 1, 2, 3, 4] rfl) (hD.sub [0, 1, 2, 3, 4] (by decide) rfl) hS
  obtain ⟨n, h⟩ := h
  exact L3 n 0 h _ _ _ (reP hP [0, 1, 2, 3, 4] rfl) (hD.sub [0, 1, 2, 3, 4] (by decide) rfl) hS (lv_sub hl [1, 2, 3, 4, 0] rfl)
/-! ### X2_numberOfBest numberOfBest(LOnesDesk$Rows;)I -/
def rX2_numberOfBest : Room := { frames := 2, cells := 0, slots := 0, locals := 47 }
def q_X2_numberOfBest_L11 (g_saved : Nat → Int32) (g_most : Nat → Int32) (g_p1_columns : Int32) (g_p1_open : Nat → Int32) (g_p1_ways : Nat → Int32) (Q : Int32 → Prop) : Nat → Int32 → Int32 → Int32 → Int32 → Prop
  | 0 => fun _ _ _ _ => False
  | n + 1 => fun x2 x3 x4 x5 => (g_p1_columns ≤ x5 → Q x4) ∧ (¬ g_p1_columns ≤ x5 → q_X2_bestColumn g_saved g_most g_p1_columns g_p1_open x2 x3 (fun r2 => q_X1_rowsAhead g_p1_open g_p1_ways x2 r2 (fun r3 => ∀ x4_4 : Int32, x4_4 = (x4 + r3) → ∀ x2_5 : Int32, x2_5 = (x2 ||| (1 <<< (r2 &&& 31))) → (q_X2_numberOfBest_L11 g_saved g_most g_p1_columns g_p1_open g_p1_ways Q n) x2_5 r2 x4_4 (x5 + 1))))
def q_X2_numberOfBest (g_saved : Nat → Int32) (g_most : Nat → Int32) (g_p1_columns : Int32) (g_p1_open : Nat → Int32) (g_p1_ways : Nat → Int32) (Q : Int32 → Prop) : Prop :=
  ∃ N : Nat, q_X2_numberOfBest_L11 g_saved g_most g_p1_columns g_p1_open g_p1_ways Q N 0 8 0 0
set_option maxRecDepth 100000 in
set_option maxHeartbeats 4000000 in
theorem c_X2_numberOfBest (l : Launch) (dC : Nat → ClassId) (dI : Nat → Nat → Nat) (cI cZ : ClassId) (a_this a_saved a_most a_p1 a_p1_open a_p1_ways : Nat) (z_least z_unsaved z_p1_full : Value) (g_saved : Nat → Int32) (g_most : Nat → Int32) (g_p1_columns : Int32) (g_p1_open : Nat → Int32) (g_p1_ways : Nat → Int32) (Q : Int32 → Prop) (h : q_X2_numberOfBest g_saved g_most g_p1_columns g_p1_open g_p1_ways Q) : MI l yX2_numberOfBest wsX2_numberOfBest rX2_numberOfBest (dC, dI) [(cI, .int), (cZ, .boolean)] [.ref a_this, .ref a_p1] [(a_this, .inr (2, [.ref a_saved, .ref a_most, z_least, z_unsaved])), (a_saved, .inl (cI, 72, .inl g_saved)), (a_most, .inl (cI, 2304, .inl g_most)), (a_p1, .inr (1, [.ref a_p1_open, .ref a_p1_ways, .int g_p1_columns, z_p1_full])), (a_p1_open, .inl (cI, 256, .inl g_p1_open)), (a_p1_ways, .inl (cI, 256, .inl g_p1_ways))] (fun (r : Int32) (u : Unit) => Q r) (fun u : Unit => [(a_this, .inr (2, [.ref a_saved, .ref a_most, z_least, z_unsaved])), (a_saved, .inl (cI, 72, .inl g_saved)), (a_most, .inl (cI, 2304, .inl g_most)), (a_p1, .inr (1, [.ref a_p1_open, .ref a_p1_ways, .int g_p1_columns, z_p1_full])), (a_p1_open, .inl (cI, 256, .inl g_p1_open)), (a_p1_ways, .inl (cI, 256, .inl g_p1_ways))]) := by
  refine MI.of (cc := cX2_numberOfBest) (maxL := 7) (by decide +kernel) rfl (Nat.le_of_ble_eq_true rfl) ?_
  intro p e s m args below meth c A QQ ls hx hb hml hown hts hA hK hP hD hS hNW ret hl
  have hl : lv_has ls 7 [(0, .ref a_this), (1, .ref a_p1)] := hl
  have hown : s.vm.findClass RX2 = some m.cls := hown
  have in1 : ∀ w ∈ u_ws RX1 TX1 4, w ∈ wsX2_numberOfBest := fun _ w9 => List.mem_cons_of_mem _ (List.mem_append_left _ (List.mem_append_right _ w9))
  have f54 := hNW.get (args := args) 10 (a := RX2) (i := 54) (b := "OnesDesk$Rows") (n := "columns") (d := "I") (o := "OnesDesk") rfl
  refine lv_iconst (v := 0) hx hb dX2_numberOfBest_0 (by decide) ?_
  refine lv_istore_n (lv' := [(2, .int 0), (0, .ref a_this), (1, .ref a_p1)]) hx hb dX2_numberOfBest_1 rfl hl (by decide) rfl (fun ls hl => ?_)
  refine lv_bipush (v := 8) hx hb dX2_numberOfBest_2 (by decide) ?_
  refine lv_istore_n (lv' := [(3, .int 8), (2, .int 0), (0, .ref a_this), (1, .ref a_p1)]) hx hb dX2_numberOfBest_4 rfl hl (by decide) rfl (fun ls hl => ?_)
  refine lv_iconst (v := 0) hx hb dX2_numberOfBest_5 (by decide) ?_
  refine lv_istore (lv' := [(4, .int 0), (3, .int 8), (2, .int 0), (0, .ref a_this), (1, .ref a_p1)]) hx hb dX2_numberOfBest_6 hl (by decide) rfl (fun ls hl => ?_)
  refine lv_iconst (v := 0) hx hb dX2_numberOfBest_8 (by decide) ?_
  refine lv_istore (lv' := [(5, .int 0), (4, .int 0), (3, .int 8), (2, .int 0), (0, .ref a_this), (1, .ref a_p1)]) hx hb dX2_numberOfBest_9 hl (by decide) rfl (fun ls hl => ?_)
  have L11 : ∀ (n11 : Nat), ∀ (x2 : Int32) (x3 : Int32) (x4 : Int32) (x5 : Int32), q_X2_numberOfBest_L11 g_saved g_most g_p1_columns g_p1_open g_p1_ways Q n11 x2 x3 x4 x5 → ∀ (H : Heap) (locs : List Loc) (ls : Array Slot), va_P (dC, dI) vwCl [(a_this, .inr (2, [.ref a_saved, .ref a_most, z_least, z_unsaved])), (a_saved, .inl (cI, 72, .inl g_saved)), (a_most, .inl (cI, 2304, .inl g_most)), (a_p1, .inr (1, [.ref a_p1_open, .ref a_p1_ways, .int g_p1_columns, z_p1_full])), (a_p1_open, .inl (cI, 256, .inl g_p1_open)), (a_p1_ways, .inl (cI, 256, .inl g_p1_ways))] H → va_D A [(a_this, .inr (2, [.ref a_saved, .ref a_most, z_least, z_unsaved])), (a_saved, .inl (cI, 72, .inl g_saved)), (a_most, .inl (cI, 2304, .inl g_most)), (a_p1, .inr (1, [.ref a_p1_open, .ref a_p1_ways, .int g_p1_columns, z_p1_full])), (a_p1_open, .inl (cI, 256, .inl g_p1_open)), (a_p1_ways, .inl (cI, 256, .inl g_p1_ways))] → va_S A s.heap H locs → lv_has ls 7 [(0, .ref a_this), (1, .ref a_p1), (2, .int x2), (3, .int x3), (4, .int x4), (5, .int x5)] → W p l e rX2_numberOfBest s m args below meth c H locs 0 0 QQ (F0 m 11 ls []) := by
    intro n11
    induction n11 with
    | zero => intro x2 x3 x4 x5 h; exact False.elim h
    | succ n11 ih11 =>
      intro x2 x3 x4 x5 h H locs ls hP hD hS hl
      refine lv_iload hx hb dX2_numberOfBest_11 (lv_at hl 5 rfl) ?_
      refine lv_aload_n hx hb dX2_numberOfBest_13 rfl (lv_at hl 1 rfl) ?_
      refine va_getN (D := (dC, dI)) (ci := 1) (v := .int g_p1_columns) (C := RX1) (T := TX1) (N := 4) hx hb hts in1 hown hK hP 3 rfl rfl 2 (by decide) f54 (fun _ h9 => h9) rfl dX2_numberOfBest_14 ?_
      refine lv_icmp_ge (tgt := 57) hx hb dX2_numberOfBest_17 (by decide) (fun k1 => ?_) (fun k1 => ?_)
      · have h := h.1 k1
        refine lv_iload hx hb dX2_numberOfBest_57 (lv_at hl 4 rfl) ?_
        exact ret _ _ _ _ x4 () dX2_numberOfBest_59 h (reP hP [0, 1, 2, 3, 4, 5] rfl) (hD.sub [0, 1, 2, 3, 4, 5] (by decide) rfl) hS
      · have h := h.2 k1
        refine lv_aload_n hx hb dX2_numberOfBest_20 rfl (lv_at hl 0 rfl) ?_
        refine lv_aload_n hx hb dX2_numberOfBest_21 rfl (lv_at hl 1 rfl) ?_
        refine lv_iload_n hx hb dX2_numberOfBest_22 rfl (lv_at hl 2 rfl) ?_
        refine lv_iload_n hx hb dX2_numberOfBest_23 rfl (lv_at hl 3 rfl) ?_
        refine MI.callV (As := [.ref a_p1, .int x2, .int x3]) (rest := []) (wr := [(a_p1_ways, .inl (cI, 256, .inl g_p1_ways))]) (ci := 2) (q0 := 0) (c_X2_bestColumn l dC dI cI cZ a_this a_saved a_most a_p1 a_p1_open z_least z_unsaved (.ref a_p1_ways) z_p1_full g_saved g_most g_p1_columns g_p1_open x2 x3 _ h) ⟨hx, hb, hml, hown, hts⟩ (cwV 3 hts gX2_numberOfBest_X2_bestColumn rfl rfl rfl (by decide +kernel) ⟨Nat.le_of_ble_eq_true rfl, Nat.le_of_ble_eq_true rfl⟩) hK hP hD hS hA hNW [0, 1, 2, 3, 4] [5] rfl rfl (by decide) (by decide) (by decide) rfl rfl rfl rfl hl.1 rfl (Nat.le_of_ble_eq_true rfl) dX2_numberOfBest_24 ⟨Nat.zero_le _, Nat.zero_le _⟩ (fun r2 u H locs hw hP hD hS => ?_)
        have h := hw
        try dsimp only at h
        have hP : va_P (dC, dI) vwCl [(a_p1_ways, .inl (cI, 256, .inl g_p1_ways)), (a_this, .inr (2, [.ref a_saved, .ref a_most, z_least, z_unsaved])), (a_saved, .inl (cI, 72, .inl g_saved)), (a_most, .inl (cI, 2304, .inl g_most)), (a_p1, .inr (1, [.ref a_p1_open, .ref a_p1_ways, .int g_p1_columns, z_p1_full])), (a_p1_open, .inl (cI, 256, .inl g_p1_open))] H := hP
        have hD : va_D A [(a_p1_ways, .inl (cI, 256, .inl g_p1_ways)), (a_this, .inr (2, [.ref a_saved, .ref a_most, z_least, z_unsaved])), (a_saved, .inl (cI, 72, .inl g_saved)), (a_most, .inl (cI, 2304, .inl g_most)), (a_p1, .inr (1, [.ref a_p1_open, .ref a_p1_ways, .int g_p1_columns, z_p1_full])), (a_p1_open, .inl (cI, 256, .inl g_p1_open))] := hD
        refine lv_istore (lv' := [(6, .int r2), (0, .ref a_this), (1, .ref a_p1), (2, .int x2), (3, .int x3), (4, .int x4), (5, .int x5)]) hx hb dX2_numberOfBest_27 hl (by decide) rfl (fun ls hl => ?_)
        refine lv_iload hx hb dX2_numberOfBest_29 (lv_at hl 5 rfl) ?_
        refine lv_aload_n hx hb dX2_numberOfBest_31 rfl (lv_at hl 2 rfl) ?_
        refine lv_iload_n hx hb dX2_numberOfBest_32 rfl (lv_at hl 3 rfl) ?_
        refine lv_iload hx hb dX2_numberOfBest_33 (lv_at hl 0 rfl) ?_
        refine MI.callV (As := [.int x2, .int r2]) (rest := [.int x4]) (wr := [(a_this, .inr (2, [.ref a_saved, .ref a_most, z_least, z_unsaved])), (a_saved, .inl (cI, 72, .inl g_saved)), (a_most, .inl (cI, 2304, .inl g_most))]) (ci := 1) (q0 := 0) (c_X1_rowsAhead l dC dI cI cZ a_p1 a_p1_open a_p1_ways (.int g_p1_columns) z_p1_full g_p1_open g_p1_ways x2 r2 _ h) ⟨hx, hb, hml, hown, hts⟩ (cwV 2 hts gX2_numberOfBest_X1_rowsAhead rfl rfl rfl (by decide +kernel) ⟨Nat.le_of_ble_eq_true rfl, Nat.le_of_ble_eq_true rfl⟩) hK hP hD hS hA hNW [4, 5, 0] [1, 2, 3] rfl rfl (by decide) (by decide) (by decide) rfl rfl rfl rfl hl.1 rfl (Nat.le_of_ble_eq_true rfl) dX2_numberOfBest_35 ⟨Nat.zero_le _, Nat.zero_le _⟩ (fun r3 u H locs hw hP hD hS => ?_)
        have h := hw
        try dsimp only at h
        have hP : va_P (dC, dI) vwCl [(a_this, .inr (2, [.ref a_saved, .ref a_most, z_least, z_unsaved])), (a_saved, .inl (cI, 72, .inl g_saved)), (a_most, .inl (cI, 2304, .inl g_most)), (a_p1, .inr (1, [.ref a_p1_open, .ref a_p1_ways, .int g_p1_columns, z_p1_full])), (a_p1_open, .inl (cI, 256, .inl g_p1_open)), (a_p1_ways, .inl (cI, 256, .inl g_p1_ways))] H := hP
        have hD : va_D A [(a_this, .inr (2, [.ref a_saved, .ref a_most, z_least, z_unsaved])), (a_saved, .inl (cI, 72, .inl g_saved)), (a_most, .inl (cI, 2304, .inl g_most)), (a_p1, .inr (1, [.ref a_p1_open, .ref a_p1_ways, .int g_p1_columns, z_p1_full])), (a_p1_open, .inl (cI, 256, .inl g_p1_open)), (a_p1_ways, .inl (cI, 256, .inl g_p1_ways))] := hD
        refine lv_iadd hx hb dX2_numberOfBest_38 ?_
        refine lv_topi (fun x4_4 ex4_4 => ?_)
        have h := h x4_4 ex4_4
        refine lv_istore (lv' := [(4, .int x4_4), (6, .int r2), (0, .ref a_this), (1, .ref a_p1), (2, .int x2), (3, .int x3), (5, .int x5)]) hx hb dX2_numberOfBest_39 hl (by decide) rfl (fun ls hl => ?_)
        refine lv_iload_n hx hb dX2_numberOfBest_41 rfl (lv_at hl 4 rfl) ?_
        refine lv_iconst (v := 1) hx hb dX2_numberOfBest_42 (by decide) ?_
        refine lv_iload hx hb dX2_numberOfBest_43 (lv_at hl 1 rfl) ?_
        refine lv_ishl hx hb dX2_numberOfBest_45 ?_
        refine lv_ior hx hb dX2_numberOfBest_46 ?_
        refine lv_topi (fun x2_5 ex2_5 => ?_)
        have h := h x2_5 ex2_5
        refine lv_istore_n (lv' := [(2, .int x2_5), (4, .int x4_4), (6, .int r2), (0, .ref a_this), (1, .ref a_p1), (3, .int x3), (5, .int x5)]) hx hb dX2_numberOfBest_47 rfl hl (by decide) rfl (fun ls hl => ?_)
        refine lv_iload hx hb dX2_numberOfBest_48 (lv_at hl 2 rfl) ?_
        refine lv_istore_n (lv' := [(3, .int r2), (2, .int x2_5), (4, .int x4_4), (6, .int r2), (0, .ref a_this), (1, .ref a_p1), (5, .int x5)]) hx hb dX2_numberOfBest_50 rfl hl (by decide) rfl (fun ls hl => ?_)
        refine lv_iinc (v := x5 + 1) (lv' := [(5, .int (x5 + 1)), (3, .int r2), (2, .int x2_5), (4, .int x4_4), (6, .int r2), (0, .ref a_this), (1, .ref a_p1)]) hx hb dX2_numberOfBest_51 hl (k := 6) rfl rfl (by decide) rfl (fun ls hl => ?_)
        refine lv_goto (tgt := 11) hx hb dX2_numberOfBest_54 (by decide) ?_
        exact ih11 x2_5 r2 x4_4 (x5 + 1) h _ _ _ (reP hP [0, 1, 2, 3, 4, 5] rfl) (hD.sub [0, 1, 2, 3, 4, 5] (by decide) rfl) hS (lv_sub hl [5, 6, 2, 1, 3, 0] rfl)
  obtain ⟨n, h⟩ := h
  exact L11 n 0 8 0 0 h _ _ _ (reP hP [0, 1, 2, 3, 4, 5] rfl) (hD.sub [0, 1, 2, 3, 4, 5] (by decide) rfl) hS (lv_sub hl [4, 5, 3, 2, 1, 0] rfl)
/-! ### X2_rowsThatSave rowsThatSave(LOnesDesk$Savings;LOnesDesk$Rows;IIII)I -/
def q_X2_rowsThatSave_L54 (self : (Nat → Int32) → (Nat → Int32) → (Nat → Int32) → Int32 → (Nat → Int32) → (Nat → Int32) → Int32 → Int32 → Int32 → Int32 → (Int32 → Prop) → Prop) (x2 : Int32) (x3 : Int32) (x4 : Int32) (x5 : Int32) (g_p1_saved : Nat → Int32) (g_p1_most : Nat → Int32) (g_p1_least : Nat → Int32) (g_p2_columns : Int32) (g_p2_open : Nat → Int32) (g_p2_ways : Nat → Int32) (Q : Int32 → Prop) : Nat → Int32 → Int32 → Prop
  | 0 => fun _ _ => False
  | n + 1 => fun x7 x8 => (g_p2_columns ≤ x8 → Q x7) ∧ (¬ g_p2_columns ≤ x8 → q_X1_mayFollow g_p2_open x2 x8 (fun b3 => (b3 = false → (q_X2_rowsThatSave_L54 self x2 x3 x4 x5 g_p1_saved g_p1_most g_p1_least g_p2_columns g_p2_open g_p2_ways Q n) x7 (x8 + 1)) ∧ (b3 = true → vp_in ((x3 * 8) + x8) 72 ∧ ∀ x9 : Int32, x9 = (x4 - (g_p1_saved (Int32.toNatClampNeg ((x3 * 8) + x8)))) → self g_p1_saved g_p1_most g_p1_least g_p2_columns g_p2_open g_p2_ways (x2 ||| (1 <<< (x8 &&& 31))) x8 x9 (x5 + 1) (fun r6 => ∀ x7_7 : Int32, x7_7 = (x7 + r6) → (q_X2_rowsThatSave_L54 self x2 x3 x4 x5 g_p1_saved g_p1_most g_p1_least g_p2_columns g_p2_open g_p2_ways Q n) x7_7 (x8 + 1)))))
def q_X2_rowsThatSave : Nat → (Nat → Int32) → (Nat → Int32) → (Nat → Int32) → Int32 → (Nat → Int32) → (Nat → Int32) → Int32 → Int32 → Int32 → Int32 → (Int32 → Prop) → Prop
  | 0 => fun _ _ _ _ _ _ _ _ _ _ _ => False
  | d + 1 => fun g_p1_saved g_p1_most g_p1_least g_p2_columns g_p2_open g_p2_ways x2 x3 x4 x5 Q => ∀ x6 : Int32, x6 = ((x2 * 9) + x3) → vp_in x6 2304 ∧ ((g_p1_most (Int32.toNatClampNeg x6)) < x4 → Q 0) ∧ (¬ (g_p1_most (Int32.toNatClampNeg x6)) < x4 → (x5 ≤ 8 → ((g_p1_least (Int32.toNatClampNeg x6)) < x4 → ∃ N : Nat, q_X2_rowsThatSave_L54 (q_X2_rowsThatSave d) x2 x3 x4 x5 g_p1_saved g_p1_most g_p1_least g_p2_columns g_p2_open g_p2_ways Q N 0 0) ∧ (¬ (g_p1_least (Int32.toNatClampNeg x6)) < x4 → vp_in x2 256 ∧ Q (g_p2_ways (Int32.toNatClampNeg x2)))) ∧ (¬ x5 ≤ 8 → Q 0))
set_option maxRecDepth 100000 in
set_option maxHeartbeats 4000000 in
theorem c_X2_rowsThatSave (d : Nat) (l : Launch) (dC : Nat → ClassId) (dI : Nat → Nat → Nat) (cI cZ : ClassId) : ∀ (a_p1 a_p1_saved a_p1_most a_p1_least a_p2 a_p2_open a_p2_ways : Nat) (z_p1_unsaved z_p2_full : Value) (g_p1_saved : Nat → Int32) (g_p1_most : Nat → Int32) (g_p1_least : Nat → Int32) (g_p2_columns : Int32) (g_p2_open : Nat → Int32) (g_p2_ways : Nat → Int32) (x2 : Int32) (x3 : Int32) (x4 : Int32) (x5 : Int32) (Q : Int32 → Prop), q_X2_rowsThatSave d g_p1_saved g_p1_most g_p1_least g_p2_columns g_p2_open g_p2_ways x2 x3 x4 x5 Q → MI l yX2_rowsThatSave wsX2_rowsThatSave (rmR d) (dC, dI) [(cI, .int), (cZ, .boolean)] [.ref a_p1, .ref a_p2, .int x2, .int x3, .int x4, .int x5] [(a_p1, .inr (2, [.ref a_p1_saved, .ref a_p1_most, .ref a_p1_least, z_p1_unsaved])), (a_p1_saved, .inl (cI, 72, .inl g_p1_saved)), (a_p1_most, .inl (cI, 2304, .inl g_p1_most)), (a_p1_least, .inl (cI, 2304, .inl g_p1_least)), (a_p2, .inr (1, [.ref a_p2_open, .ref a_p2_ways, .int g_p2_columns, z_p2_full])), (a_p2_open, .inl (cI, 256, .inl g_p2_open)), (a_p2_ways, .inl (cI, 256, .inl g_p2_ways))] (fun (r : Int32) (u : Unit) => Q r) (fun u : Unit => [(a_p1, .inr (2, [.ref a_p1_saved, .ref a_p1_most, .ref a_p1_least, z_p1_unsaved])), (a_p1_saved, .inl (cI, 72, .inl g_p1_saved)), (a_p1_most, .inl (cI, 2304, .inl g_p1_most)), (a_p1_least, .inl (cI, 2304, .inl g_p1_least)), (a_p2, .inr (1, [.ref a_p2_open, .ref a_p2_ways, .int g_p2_columns, z_p2_full])), (a_p2_open, .inl (cI, 256, .inl g_p2_open)), (a_p2_ways, .inl (cI, 256, .inl g_p2_ways))]) := by
  induction d with
  | zero => intro a_p1 a_p1_saved a_p1_most a_p1_least a_p2 a_p2_open a_p2_ways z_p1_unsaved z_p2_full g_p1_saved g_p1_most g_p1_least g_p2_columns g_p2_open g_p2_ways x2 x3 x4 x5 Q h; exact False.elim h
  | succ d ihd =>
  intro a_p1 a_p1_saved a_p1_most a_p1_least a_p2 a_p2_open a_p2_ways z_p1_unsaved z_p2_full g_p1_saved g_p1_most g_p1_least g_p2_columns g_p2_open g_p2_ways x2 x3 x4 x5 Q h
  refine MI.of (cc := cX2_rowsThatSave) (maxL := 10) (by decide +kernel) rfl (Nat.le_of_ble_eq_true rfl) ?_
  intro p e s m args below meth c A QQ ls hx hb hml hown hts hA hK hP hD hS hNW ret hl
  have hl : lv_has ls 10 [(0, .ref a_p1), (1, .ref a_p2), (2, .int x2), (3, .int x3), (4, .int x4), (5, .int x5)] := hl
  have hown : s.vm.findClass RX2 = some m.cls := hown
  have in1 : ∀ w ∈ u_ws RX1 TX1 4, w ∈ wsX2_rowsThatSave := fun _ w9 => List.mem_cons_of_mem _ (List.mem_append_right _ w9)
  have in2 : ∀ w ∈ u_ws RX2 TX2 4, w ∈ wsX2_rowsThatSave := fun _ w9 => List.mem_cons_of_mem _ (List.mem_append_left _ (List.mem_append_right _ w9))
  have f11 := hts (.fieldLink RX2 11 "OnesDesk$Savings" "saved" "[I") (by decide +kernel)
  have f15 := hts (.fieldLink RX2 15 "OnesDesk$Savings" "most" "[I") (by decide +kernel)
  have f18 := hts (.fieldLink RX2 18 "OnesDesk$Savings" "least" "[I") (by decide +kernel)
  have f54 := hNW.get (args := args) 10 (a := RX2) (i := 54) (b := "OnesDesk$Rows") (n := "columns") (d := "I") (o := "OnesDesk") rfl
  have f89 := hNW.get (args := args) 8 (a := RX2) (i := 89) (b := "OnesDesk$Rows") (n := "ways") (d := "[I") (o := "OnesDesk") rfl
  refine lv_iload_n hx hb dX2_rowsThatSave_0 rfl (lv_at hl 2 rfl) ?_
  refine lv_bipush (v := 9) hx hb dX2_rowsThatSave_1 (by decide) ?_
  refine lv_imul hx hb dX2_rowsThatSave_3 ?_
  refine lv_iload_n hx hb dX2_rowsThatSave_4 rfl (lv_at hl 3 rfl) ?_
  refine lv_iadd hx hb dX2_rowsThatSave_5 ?_
  refine lv_topi (fun x6 ex6 => ?_)
  have h := h x6 ex6
  refine lv_istore (lv' := [(6, .int x6), (0, .ref a_p1), (1, .ref a_p2), (2, .int x2), (3, .int x3), (4, .int x4), (5, .int x5)]) hx hb dX2_rowsThatSave_6 hl (by decide) rfl (fun ls hl => ?_)
  refine lv_iload hx hb dX2_rowsThatSave_8 (lv_at hl 5 rfl) ?_
  refine lv_aload_n hx hb dX2_rowsThatSave_10 rfl (lv_at hl 1 rfl) ?_
  refine va_get (D := (dC, dI)) (ci := 2) (v := .ref a_p1_most) (C := RX2) (T := TX2) (N := 4) hx hb hts in2 hown hK hP 0 rfl rfl 1 (by decide) f15 (fun _ h9 => h9) rfl dX2_rowsThatSave_11 ?_
  refine lv_iload hx hb dX2_rowsThatSave_14 (lv_at hl 0 rfl) ?_
  obtain ⟨hi1, h⟩ := h
  refine va_iald (D := (dC, dI)) hx hb hK hP 2 0 rfl rfl hi1 dX2_rowsThatSave_16 ?_
  refine lv_icmp_gt (tgt := 27) hx hb dX2_rowsThatSave_17 (by decide) (fun k2 => ?_) (fun k2 => ?_)
  · have h := h.1 k2
    refine lv_iconst (v := 0) hx hb dX2_rowsThatSave_27 (by decide) ?_
    exact ret _ _ _ _ 0 () dX2_rowsThatSave_28 h (reP hP [0, 1, 2, 3, 4, 5, 6] rfl) (hD.sub [0, 1, 2, 3, 4, 5, 6] (by decide) rfl) hS
  · have h := h.2 k2
    refine lv_iload hx hb dX2_rowsThatSave_20 (lv_at hl 6 rfl) ?_
    refine lv_bipush (v := 8) hx hb dX2_rowsThatSave_22 (by decide) ?_
    refine lv_icmp_le (tgt := 29) hx hb dX2_rowsThatSave_24 (by decide) (fun k3 => ?_) (fun k3 => ?_)
    · have h := h.1 k3
      refine lv_iload hx hb dX2_rowsThatSave_29 (lv_at hl 5 rfl) ?_
      refine lv_aload_n hx hb dX2_rowsThatSave_31 rfl (lv_at hl 1 rfl) ?_
      refine va_get (D := (dC, dI)) (ci := 2) (v := .ref a_p1_least) (C := RX2) (T := TX2) (N := 4) hx hb hts in2 hown hK hP 0 rfl rfl 2 (by decide) f18 (fun _ h9 => h9) rfl dX2_rowsThatSave_32 ?_
      refine lv_iload hx hb dX2_rowsThatSave_35 (lv_at hl 0 rfl) ?_
      refine va_iald (D := (dC, dI)) hx hb hK hP 3 0 rfl rfl hi1 dX2_rowsThatSave_37 ?_
      refine lv_icmp_gt (tgt := 48) hx hb dX2_rowsThatSave_38 (by decide) (fun k4 => ?_) (fun k4 => ?_)
      · have h := h.1 k4
        refine lv_iconst (v := 0) hx hb dX2_rowsThatSave_48 (by decide) ?_
        refine lv_istore (lv' := [(7, .int 0), (6, .int x6), (0, .ref a_p1), (1, .ref a_p2), (2, .int x2), (3, .int x3), (4, .int x4), (5, .int x5)]) hx hb dX2_rowsThatSave_49 hl (by decide) rfl (fun ls hl => ?_)
        refine lv_iconst (v := 0) hx hb dX2_rowsThatSave_51 (by decide) ?_
        refine lv_istore (lv' := [(8, .int 0), (7, .int 0), (6, .int x6), (0, .ref a_p1), (1, .ref a_p2), (2, .int x2), (3, .int x3), (4, .int x4), (5, .int x5)]) hx hb dX2_rowsThatSave_52 hl (by decide) rfl (fun ls hl => ?_)
        have L54 : ∀ (n54 : Nat), ∀ (x7 : Int32) (x8 : Int32), q_X2_rowsThatSave_L54 (q_X2_rowsThatSave d) x2 x3 x4 x5 g_p1_saved g_p1_most g_p1_least g_p2_columns g_p2_open g_p2_ways Q n54 x7 x8 → ∀ (H : Heap) (locs : List Loc) (ls : Array Slot), va_P (dC, dI) vwCl [(a_p1, .inr (2, [.ref a_p1_saved, .ref a_p1_most, .ref a_p1_least, z_p1_unsaved])), (a_p1_saved, .inl (cI, 72, .inl g_p1_saved)), (a_p1_most, .inl (cI, 2304, .inl g_p1_most)), (a_p1_least, .inl (cI, 2304, .inl g_p1_least)), (a_p2, .inr (1, [.ref a_p2_open, .ref a_p2_ways, .int g_p2_columns, z_p2_full])), (a_p2_open, .inl (cI, 256, .inl g_p2_open)), (a_p2_ways, .inl (cI, 256, .inl g_p2_ways))] H → va_D A [(a_p1, .inr (2, [.ref a_p1_saved, .ref a_p1_most, .ref a_p1_least, z_p1_unsaved])), (a_p1_saved, .inl (cI, 72, .inl g_p1_saved)), (a_p1_most, .inl (cI, 2304, .inl g_p1_most)), (a_p1_least, .inl (cI, 2304, .inl g_p1_least)), (a_p2, .inr (1, [.ref a_p2_open, .ref a_p2_ways, .int g_p2_columns, z_p2_full])), (a_p2_open, .inl (cI, 256, .inl g_p2_open)), (a_p2_ways, .inl (cI, 256, .inl g_p2_ways))] → va_S A s.heap H locs → lv_has ls 10 [(0, .ref a_p1), (1, .ref a_p2), (2, .int x2), (3, .int x3), (4, .int x4), (5, .int x5), (7, .int x7), (8, .int x8)] → W p l e (rmR (d + 1)) s m args below meth c H locs 0 0 QQ (F0 m 54 ls []) := by
          intro n54
          induction n54 with
          | zero => intro x7 x8 h; exact False.elim h
          | succ n54 ih54 =>
            intro x7 x8 h H locs ls hP hD hS hl
            refine lv_iload hx hb dX2_rowsThatSave_54 (lv_at hl 7 rfl) ?_
            refine lv_aload_n hx hb dX2_rowsThatSave_56 rfl (lv_at hl 1 rfl) ?_
            refine va_getN (D := (dC, dI)) (ci := 1) (v := .int g_p2_columns) (C := RX1) (T := TX1) (N := 4) hx hb hts in1 hown hK hP 4 rfl rfl 2 (by decide) f54 (fun _ h9 => h9) rfl dX2_rowsThatSave_57 ?_
            refine lv_icmp_ge (tgt := 120) hx hb dX2_rowsThatSave_60 (by decide) (fun k1 => ?_) (fun k1 => ?_)
            · have h := h.1 k1
              refine lv_iload hx hb dX2_rowsThatSave_120 (lv_at hl 6 rfl) ?_
              exact ret _ _ _ _ x7 () dX2_rowsThatSave_122 h (reP hP [0, 1, 2, 3, 4, 5, 6] rfl) (hD.sub [0, 1, 2, 3, 4, 5, 6] (by decide) rfl) hS
            · have h := h.2 k1
              refine lv_aload_n hx hb dX2_rowsThatSave_63 rfl (lv_at hl 1 rfl) ?_
              refine lv_iload_n hx hb dX2_rowsThatSave_64 rfl (lv_at hl 2 rfl) ?_
              refine lv_iload hx hb dX2_rowsThatSave_65 (lv_at hl 7 rfl) ?_
              refine MI.callV (As := [.int x2, .int x8]) (rest := []) (wr := [(a_p1, .inr (2, [.ref a_p1_saved, .ref a_p1_most, .ref a_p1_least, z_p1_unsaved])), (a_p1_saved, .inl (cI, 72, .inl g_p1_saved)), (a_p1_most, .inl (cI, 2304, .inl g_p1_most)), (a_p1_least, .inl (cI, 2304, .inl g_p1_least)), (a_p2_ways, .inl (cI, 256, .inl g_p2_ways))]) (ci := 1) (q0 := 0) (c_X1_mayFollow l dC dI cI cZ a_p2 a_p2_open (.ref a_p2_ways) (.int g_p2_columns) z_p2_full g_p2_open x2 x8 _ h) ⟨hx, hb, hml, hown, hts⟩ (cwV 2 hts gX2_rowsThatSave_X1_mayFollow rfl rfl rfl (by decide +kernel) ⟨by show 0 + 1 ≤ _; simp only [rmR]; omega, by show 8 + (_ + 11) + 0 ≤ _; simp only [rmR]; omega⟩) hK hP hD hS hA hNW [4, 5] [0, 1, 2, 3, 6] rfl rfl (by decide) (by decide) (by decide) rfl rfl rfl rfl hl.1 rfl (Nat.le_of_ble_eq_true rfl) dX2_rowsThatSave_67 ⟨Nat.zero_le _, Nat.zero_le _⟩ (fun r2 u H locs hw hP hD hS => ?_)
              obtain ⟨b3, rfl, hw⟩ := hw
              have h := hw
              try dsimp only at h
              have hP : va_P (dC, dI) vwCl [(a_p1, .inr (2, [.ref a_p1_saved, .ref a_p1_most, .ref a_p1_least, z_p1_unsaved])), (a_p1_saved, .inl (cI, 72, .inl g_p1_saved)), (a_p1_most, .inl (cI, 2304, .inl g_p1_most)), (a_p1_least, .inl (cI, 2304, .inl g_p1_least)), (a_p2_ways, .inl (cI, 256, .inl g_p2_ways)), (a_p2, .inr (1, [.ref a_p2_open, .ref a_p2_ways, .int g_p2_columns, z_p2_full])), (a_p2_open, .inl (cI, 256, .inl g_p2_open))] H := hP
              have hD : va_D A [(a_p1, .inr (2, [.ref a_p1_saved, .ref a_p1_most, .ref a_p1_least, z_p1_unsaved])), (a_p1_saved, .inl (cI, 72, .inl g_p1_saved)), (a_p1_most, .inl (cI, 2304, .inl g_p1_most)), (a_p1_least, .inl (cI, 2304, .inl g_p1_least)), (a_p2_ways, .inl (cI, 256, .inl g_p2_ways)), (a_p2, .inr (1, [.ref a_p2_open, .ref a_p2_ways, .int g_p2_columns, z_p2_full])), (a_p2_open, .inl (cI, 256, .inl g_p2_open))] := hD
              refine lv_if_eq (tgt := 114) hx hb dX2_rowsThatSave_70 (by decide) (fun k4 => ?_) (fun k4 => ?_)
              · have h := h.1 (bI_0 k4)
                refine lv_iinc (v := x8 + 1) (lv' := [(8, .int (x8 + 1)), (0, .ref a_p1), (1, .ref a_p2), (2, .int x2), (3, .int x3), (4, .int x4), (5, .int x5), (7, .int x7)]) hx hb dX2_rowsThatSave_114 hl (k := 7) rfl rfl (by decide) rfl (fun ls hl => ?_)
                refine lv_goto (tgt := 54) hx hb dX2_rowsThatSave_117 (by decide) ?_
                exact ih54 x7 (x8 + 1) h _ _ _ (reP hP [0, 1, 2, 3, 5, 6, 4] rfl) (hD.sub [0, 1, 2, 3, 5, 6, 4] (by decide) rfl) hS (lv_sub hl [1, 2, 3, 4, 5, 6, 7, 0] rfl)
              · have h := h.2 (bI_1 k4)
                refine lv_iload hx hb dX2_rowsThatSave_73 (lv_at hl 4 rfl) ?_
                refine lv_aload_n hx hb dX2_rowsThatSave_75 rfl (lv_at hl 0 rfl) ?_
                refine va_get (D := (dC, dI)) (ci := 2) (v := .ref a_p1_saved) (C := RX2) (T := TX2) (N := 4) hx hb hts in2 hown hK hP 0 rfl rfl 0 (by decide) f11 (fun _ h9 => h9) rfl dX2_rowsThatSave_76 ?_
                refine lv_iload_n hx hb dX2_rowsThatSave_79 rfl (lv_at hl 3 rfl) ?_
                refine lv_bipush (v := 8) hx hb dX2_rowsThatSave_80 (by decide) ?_
                refine lv_imul hx hb dX2_rowsThatSave_82 ?_
                refine lv_iload hx hb dX2_rowsThatSave_83 (lv_at hl 7 rfl) ?_
                refine lv_iadd hx hb dX2_rowsThatSave_85 ?_
                obtain ⟨hi5, h⟩ := h
                refine va_iald (D := (dC, dI)) hx hb hK hP 1 0 rfl rfl hi5 dX2_rowsThatSave_86 ?_
                refine lv_isub hx hb dX2_rowsThatSave_87 ?_
                refine lv_topi (fun x9 ex9 => ?_)
                have h := h x9 ex9
                refine lv_istore (lv' := [(9, .int x9), (0, .ref a_p1), (1, .ref a_p2), (2, .int x2), (3, .int x3), (4, .int x4), (5, .int x5), (7, .int x7), (8, .int x8)]) hx hb dX2_rowsThatSave_88 hl (by decide) rfl (fun ls hl => ?_)
                refine lv_iload hx hb dX2_rowsThatSave_90 (lv_at hl 7 rfl) ?_
                refine lv_aload_n hx hb dX2_rowsThatSave_92 rfl (lv_at hl 1 rfl) ?_
                refine lv_aload_n hx hb dX2_rowsThatSave_93 rfl (lv_at hl 2 rfl) ?_
                refine lv_iload_n hx hb dX2_rowsThatSave_94 rfl (lv_at hl 3 rfl) ?_
                refine lv_iconst (v := 1) hx hb dX2_rowsThatSave_95 (by decide) ?_
                refine lv_iload hx hb dX2_rowsThatSave_96 (lv_at hl 8 rfl) ?_
                refine lv_ishl hx hb dX2_rowsThatSave_98 ?_
                refine lv_ior hx hb dX2_rowsThatSave_99 ?_
                refine lv_iload hx hb dX2_rowsThatSave_100 (lv_at hl 8 rfl) ?_
                refine lv_iload hx hb dX2_rowsThatSave_102 (lv_at hl 0 rfl) ?_
                refine lv_iload hx hb dX2_rowsThatSave_104 (lv_at hl 6 rfl) ?_
                refine lv_iconst (v := 1) hx hb dX2_rowsThatSave_106 (by decide) ?_
                refine lv_iadd hx hb dX2_rowsThatSave_107 ?_
                refine MI.callS (As := [.ref a_p1, .ref a_p2, .int (x2 ||| (1 <<< (x8 &&& 31))), .int x8, .int x9, .int (x5 + 1)]) (rest := [.int x7]) (wr := []) (ihd a_p1 a_p1_saved a_p1_most a_p1_least a_p2 a_p2_open a_p2_ways z_p1_unsaved z_p2_full g_p1_saved g_p1_most g_p1_least g_p2_columns g_p2_open g_p2_ways (x2 ||| (1 <<< (x8 &&& 31))) x8 x9 (x5 + 1) _ h) ⟨hx, hb, hml, hown, hts⟩ (va_cwS 6 hts gX2_rowsThatSave_X2_rowsThatSave rfl rfl rfl (by decide +kernel) ⟨by show _ + 1 ≤ _; simp only [rmR]; omega, by simp only [rmR]; omega⟩) hK hP hD hS hA hNW [0, 1, 2, 3, 5, 6, 4] [] rfl rfl (by decide) (by decide) (by decide) rfl hl.1 rfl (Nat.le_of_ble_eq_true rfl) dX2_rowsThatSave_108 ⟨Nat.zero_le _, Nat.zero_le _⟩ (fun r6 u H locs hw hP hD hS => ?_)
                have h := hw
                try dsimp only at h
                have hP : va_P (dC, dI) vwCl [(a_p1, .inr (2, [.ref a_p1_saved, .ref a_p1_most, .ref a_p1_least, z_p1_unsaved])), (a_p1_saved, .inl (cI, 72, .inl g_p1_saved)), (a_p1_most, .inl (cI, 2304, .inl g_p1_most)), (a_p1_least, .inl (cI, 2304, .inl g_p1_least)), (a_p2, .inr (1, [.ref a_p2_open, .ref a_p2_ways, .int g_p2_columns, z_p2_full])), (a_p2_open, .inl (cI, 256, .inl g_p2_open)), (a_p2_ways, .inl (cI, 256, .inl g_p2_ways))] H := hP
                have hD : va_D A [(a_p1, .inr (2, [.ref a_p1_saved, .ref a_p1_most, .ref a_p1_least, z_p1_unsaved])), (a_p1_saved, .inl (cI, 72, .inl g_p1_saved)), (a_p1_most, .inl (cI, 2304, .inl g_p1_most)), (a_p1_least, .inl (cI, 2304, .inl g_p1_least)), (a_p2, .inr (1, [.ref a_p2_open, .ref a_p2_ways, .int g_p2_columns, z_p2_full])), (a_p2_open, .inl (cI, 256, .inl g_p2_open)), (a_p2_ways, .inl (cI, 256, .inl g_p2_ways))] := hD
                refine lv_iadd hx hb dX2_rowsThatSave_111 ?_
                refine lv_topi (fun x7_7 ex7_7 => ?_)
                have h := h x7_7 ex7_7
                refine lv_istore (lv' := [(7, .int x7_7), (9, .int x9), (0, .ref a_p1), (1, .ref a_p2), (2, .int x2), (3, .int x3), (4, .int x4), (5, .int x5), (8, .int x8)]) hx hb dX2_rowsThatSave_112 hl (by decide) rfl (fun ls hl => ?_)
                refine lv_iinc (v := x8 + 1) (lv' := [(8, .int (x8 + 1)), (7, .int x7_7), (9, .int x9), (0, .ref a_p1), (1, .ref a_p2), (2, .int x2), (3, .int x3), (4, .int x4), (5, .int x5)]) hx hb dX2_rowsThatSave_114 hl (k := 8) rfl rfl (by decide) rfl (fun ls hl => ?_)
                refine lv_goto (tgt := 54) hx hb dX2_rowsThatSave_117 (by decide) ?_
                exact ih54 x7_7 (x8 + 1) h _ _ _ (reP hP [0, 1, 2, 3, 4, 5, 6] rfl) (hD.sub [0, 1, 2, 3, 4, 5, 6] (by decide) rfl) hS (lv_sub hl [3, 4, 5, 6, 7, 8, 1, 0] rfl)
        obtain ⟨n, h⟩ := h
        exact L54 n 0 0 h _ _ _ (reP hP [0, 1, 2, 3, 4, 5, 6] rfl) (hD.sub [0, 1, 2, 3, 4, 5, 6] (by decide) rfl) hS (lv_sub hl [3, 4, 5, 6, 7, 8, 1, 0] rfl)
      · have h := h.2 k4
        refine lv_aload_n hx hb dX2_rowsThatSave_41 rfl (lv_at hl 2 rfl) ?_
        refine va_getN (D := (dC, dI)) (ci := 1) (v := .ref a_p2_ways) (C := RX1) (T := TX1) (N := 4) hx hb hts in1 hown hK hP 4 rfl rfl 1 (by decide) f89 (fun _ h9 => h9) rfl dX2_rowsThatSave_42 ?_
        refine lv_iload_n hx hb dX2_rowsThatSave_45 rfl (lv_at hl 3 rfl) ?_
        obtain ⟨hi5, h⟩ := h
        refine va_iald (D := (dC, dI)) hx hb hK hP 6 0 rfl rfl hi5 dX2_rowsThatSave_46 ?_
        exact ret _ _ _ _ (g_p2_ways (Int32.toNatClampNeg x2)) () dX2_rowsThatSave_47 h (reP hP [0, 1, 2, 3, 4, 5, 6] rfl) (hD.sub [0, 1, 2, 3, 4, 5, 6] (by decide) rfl) hS
    · have h := h.2 k3
      refine lv_iconst (v := 0) hx hb dX2_rowsThatSave_27 (by decide) ?_
      exact ret _ _ _ _ 0 () dX2_rowsThatSave_28 h (reP hP [0, 1, 2, 3, 4, 5, 6] rfl) (hD.sub [0, 1, 2, 3, 4, 5, 6] (by decide) rfl) hS
/-! ### X2_rowsUpTo rowsUpTo(LOnesDesk$Rows;I)I -/
def rX2_rowsUpTo : Room := { frames := 13, cells := 0, slots := 0, locals := 689 }
def q_X2_rowsUpTo (g_unsaved : Int32) (g_saved : Nat → Int32) (g_most : Nat → Int32) (g_least : Nat → Int32) (g_p1_columns : Int32) (g_p1_open : Nat → Int32) (g_p1_ways : Nat → Int32) (x2 : Int32) (Q : Int32 → Prop) : Prop :=
  (0 ≤ x2 → (x2 < g_unsaved → q_X2_rowsThatSave 10 g_saved g_most g_least g_p1_columns g_p1_open g_p1_ways (0 : Int32) (8 : Int32) (g_unsaved - x2) (0 : Int32) (fun r3 => Q r3)) ∧ (¬ x2 < g_unsaved → q_X1_howMany g_p1_ways (fun r4 => Q r4))) ∧ (¬ 0 ≤ x2 → Q 0)
set_option maxRecDepth 100000 in
set_option maxHeartbeats 4000000 in
theorem c_X2_rowsUpTo (l : Launch) (dC : Nat → ClassId) (dI : Nat → Nat → Nat) (cI cZ : ClassId) (a_this a_saved a_most a_least a_p1 a_p1_open a_p1_ways : Nat) (z_p1_full : Value) (g_unsaved : Int32) (g_saved : Nat → Int32) (g_most : Nat → Int32) (g_least : Nat → Int32) (g_p1_columns : Int32) (g_p1_open : Nat → Int32) (g_p1_ways : Nat → Int32) (x2 : Int32) (Q : Int32 → Prop) (h : q_X2_rowsUpTo g_unsaved g_saved g_most g_least g_p1_columns g_p1_open g_p1_ways x2 Q) : MI l yX2_rowsUpTo wsX2_rowsUpTo rX2_rowsUpTo (dC, dI) [(cI, .int), (cZ, .boolean)] [.ref a_this, .ref a_p1, .int x2] [(a_this, .inr (2, [.ref a_saved, .ref a_most, .ref a_least, .int g_unsaved])), (a_saved, .inl (cI, 72, .inl g_saved)), (a_most, .inl (cI, 2304, .inl g_most)), (a_least, .inl (cI, 2304, .inl g_least)), (a_p1, .inr (1, [.ref a_p1_open, .ref a_p1_ways, .int g_p1_columns, z_p1_full])), (a_p1_open, .inl (cI, 256, .inl g_p1_open)), (a_p1_ways, .inl (cI, 256, .inl g_p1_ways))] (fun (r : Int32) (u : Unit) => Q r) (fun u : Unit => [(a_this, .inr (2, [.ref a_saved, .ref a_most, .ref a_least, .int g_unsaved])), (a_saved, .inl (cI, 72, .inl g_saved)), (a_most, .inl (cI, 2304, .inl g_most)), (a_least, .inl (cI, 2304, .inl g_least)), (a_p1, .inr (1, [.ref a_p1_open, .ref a_p1_ways, .int g_p1_columns, z_p1_full])), (a_p1_open, .inl (cI, 256, .inl g_p1_open)), (a_p1_ways, .inl (cI, 256, .inl g_p1_ways))]) := by
  refine MI.of (cc := cX2_rowsUpTo) (maxL := 3) (by decide +kernel) rfl (Nat.le_of_ble_eq_true rfl) ?_
  intro p e s m args below meth c A QQ ls hx hb hml hown hts hA hK hP hD hS hNW ret hl
  have hl : lv_has ls 3 [(0, .ref a_this), (1, .ref a_p1), (2, .int x2)] := hl
  have hown : s.vm.findClass RX2 = some m.cls := hown
  have in2 : ∀ w ∈ u_ws RX2 TX2 4, w ∈ wsX2_rowsUpTo := fun _ w9 => List.mem_cons_of_mem _ (List.mem_append_left _ (List.mem_append_right _ w9))
  have f21 := hts (.fieldLink RX2 21 "OnesDesk$Savings" "unsaved" "I") (by decide +kernel)
  refine lv_iload_n hx hb dX2_rowsUpTo_0 rfl (lv_at hl 2 rfl) ?_
  refine lv_if_ge (tgt := 6) hx hb dX2_rowsUpTo_1 (by decide) (fun k1 => ?_) (fun k1 => ?_)
  · have h := h.1 k1
    refine lv_iload_n hx hb dX2_rowsUpTo_6 rfl (lv_at hl 2 rfl) ?_
    refine lv_aload_n hx hb dX2_rowsUpTo_7 rfl (lv_at hl 0 rfl) ?_
    refine va_get (D := (dC, dI)) (ci := 2) (v := .int g_unsaved) (C := RX2) (T := TX2) (N := 4) hx hb hts in2 hown hK hP 0 rfl rfl 3 (by decide) f21 (fun _ h9 => h9) rfl dX2_rowsUpTo_8 ?_
    refine lv_icmp_lt (tgt := 19) hx hb dX2_rowsUpTo_11 (by decide) (fun k2 => ?_) (fun k2 => ?_)
    · have h := h.1 k2
      refine lv_aload_n hx hb dX2_rowsUpTo_19 rfl (lv_at hl 0 rfl) ?_
      refine lv_aload_n hx hb dX2_rowsUpTo_20 rfl (lv_at hl 1 rfl) ?_
      refine lv_iconst (v := 0) hx hb dX2_rowsUpTo_21 (by decide) ?_
      refine lv_bipush (v := 8) hx hb dX2_rowsUpTo_22 (by decide) ?_
      refine lv_aload_n hx hb dX2_rowsUpTo_24 rfl (lv_at hl 0 rfl) ?_
      refine va_get (D := (dC, dI)) (ci := 2) (v := .int g_unsaved) (C := RX2) (T := TX2) (N := 4) hx hb hts in2 hown hK hP 0 rfl rfl 3 (by decide) f21 (fun _ h9 => h9) rfl dX2_rowsUpTo_25 ?_
      refine lv_iload_n hx hb dX2_rowsUpTo_28 rfl (lv_at hl 2 rfl) ?_
      refine lv_isub hx hb dX2_rowsUpTo_29 ?_
      refine lv_iconst (v := 0) hx hb dX2_rowsUpTo_30 (by decide) ?_
      refine MI.callS (As := [.ref a_this, .ref a_p1, .int 0, .int 8, .int (g_unsaved - x2), .int 0]) (rest := []) (wr := []) (c_X2_rowsThatSave 10 l dC dI cI cZ a_this a_saved a_most a_least a_p1 a_p1_open a_p1_ways (.int g_unsaved) z_p1_full g_saved g_most g_least g_p1_columns g_p1_open g_p1_ways (0 : Int32) (8 : Int32) (g_unsaved - x2) (0 : Int32) _ h) ⟨hx, hb, hml, hown, hts⟩ (va_cwS 6 hts gX2_rowsUpTo_X2_rowsThatSave rfl rfl rfl (by decide +kernel) ⟨Nat.le_of_ble_eq_true rfl, Nat.le_of_ble_eq_true rfl⟩) hK hP hD hS hA hNW [0, 1, 2, 3, 4, 5, 6] [] rfl rfl (by decide) (by decide) (by decide) rfl hl.1 rfl (Nat.le_of_ble_eq_true rfl) dX2_rowsUpTo_31 ⟨Nat.zero_le _, Nat.zero_le _⟩ (fun r3 u H locs hw hP hD hS => ?_)
      have h := hw
      try dsimp only at h
      have hP : va_P (dC, dI) vwCl [(a_this, .inr (2, [.ref a_saved, .ref a_most, .ref a_least, .int g_unsaved])), (a_saved, .inl (cI, 72, .inl g_saved)), (a_most, .inl (cI, 2304, .inl g_most)), (a_least, .inl (cI, 2304, .inl g_least)), (a_p1, .inr (1, [.ref a_p1_open, .ref a_p1_ways, .int g_p1_columns, z_p1_full])), (a_p1_open, .inl (cI, 256, .inl g_p1_open)), (a_p1_ways, .inl (cI, 256, .inl g_p1_ways))] H := hP
      have hD : va_D A [(a_this, .inr (2, [.ref a_saved, .ref a_most, .ref a_least, .int g_unsaved])), (a_saved, .inl (cI, 72, .inl g_saved)), (a_most, .inl (cI, 2304, .inl g_most)), (a_least, .inl (cI, 2304, .inl g_least)), (a_p1, .inr (1, [.ref a_p1_open, .ref a_p1_ways, .int g_p1_columns, z_p1_full])), (a_p1_open, .inl (cI, 256, .inl g_p1_open)), (a_p1_ways, .inl (cI, 256, .inl g_p1_ways))] := hD
      exact ret _ _ _ _ r3 () dX2_rowsUpTo_34 h (reP hP [0, 1, 2, 3, 4, 5, 6] rfl) (hD.sub [0, 1, 2, 3, 4, 5, 6] (by decide) rfl) hS
    · have h := h.2 k2
      refine lv_aload_n hx hb dX2_rowsUpTo_14 rfl (lv_at hl 1 rfl) ?_
      refine MI.callV (As := []) (rest := []) (wr := [(a_this, .inr (2, [.ref a_saved, .ref a_most, .ref a_least, .int g_unsaved])), (a_saved, .inl (cI, 72, .inl g_saved)), (a_most, .inl (cI, 2304, .inl g_most)), (a_least, .inl (cI, 2304, .inl g_least)), (a_p1_open, .inl (cI, 256, .inl g_p1_open))]) (ci := 1) (q0 := 0) (c_X1_howMany l dC dI cI cZ a_p1 a_p1_ways (.ref a_p1_open) (.int g_p1_columns) z_p1_full g_p1_ways _ h) ⟨hx, hb, hml, hown, hts⟩ (cwV 0 hts gX2_rowsUpTo_X1_howMany rfl rfl rfl (by decide +kernel) ⟨Nat.le_of_ble_eq_true rfl, Nat.le_of_ble_eq_true rfl⟩) hK hP hD hS hA hNW [4, 6] [0, 1, 2, 3, 5] rfl rfl (by decide) (by decide) (by decide) rfl rfl rfl rfl hl.1 rfl (Nat.le_of_ble_eq_true rfl) dX2_rowsUpTo_15 ⟨Nat.zero_le _, Nat.zero_le _⟩ (fun r4 u H locs hw hP hD hS => ?_)
      have h := hw
      try dsimp only at h
      have hP : va_P (dC, dI) vwCl [(a_this, .inr (2, [.ref a_saved, .ref a_most, .ref a_least, .int g_unsaved])), (a_saved, .inl (cI, 72, .inl g_saved)), (a_most, .inl (cI, 2304, .inl g_most)), (a_least, .inl (cI, 2304, .inl g_least)), (a_p1_open, .inl (cI, 256, .inl g_p1_open)), (a_p1, .inr (1, [.ref a_p1_open, .ref a_p1_ways, .int g_p1_columns, z_p1_full])), (a_p1_ways, .inl (cI, 256, .inl g_p1_ways))] H := hP
      have hD : va_D A [(a_this, .inr (2, [.ref a_saved, .ref a_most, .ref a_least, .int g_unsaved])), (a_saved, .inl (cI, 72, .inl g_saved)), (a_most, .inl (cI, 2304, .inl g_most)), (a_least, .inl (cI, 2304, .inl g_least)), (a_p1_open, .inl (cI, 256, .inl g_p1_open)), (a_p1, .inr (1, [.ref a_p1_open, .ref a_p1_ways, .int g_p1_columns, z_p1_full])), (a_p1_ways, .inl (cI, 256, .inl g_p1_ways))] := hD
      exact ret _ _ _ _ r4 () dX2_rowsUpTo_18 h (reP hP [0, 1, 2, 3, 5, 4, 6] rfl) (hD.sub [0, 1, 2, 3, 5, 4, 6] (by decide) rfl) hS
  · have h := h.2 k1
    refine lv_iconst (v := 0) hx hb dX2_rowsUpTo_4 (by decide) ?_
    exact ret _ _ _ _ 0 () dX2_rowsUpTo_5 h (reP hP [0, 1, 2, 3, 4, 5, 6] rfl) (hD.sub [0, 1, 2, 3, 4, 5, 6] (by decide) rfl) hS
