/-! QUESTIONS ABOUT KNOTS, ON BOTH SIDES. -/
/-- the first good row -/
def row0 (G : List (List Nat)) : List Nat := G.getD 0 []
theorem row0_mem {n : Nat} {G : List (List Nat)} (hG : GOk n G) : row0 G ∈ G ∧ G[0]? = some (row0 G) := by
  have hp : 0 < G.length := List.length_pos_iff.mpr hG.2.1
  have e : G[0]? = some (row0 G) := by
    unfold row0
    rw [List.getD_eq_getElem?_getD, List.getElem?_eq_getElem hp]
    rfl
  exact ⟨List.mem_of_getElem? e, e⟩
theorem opI_none : (match (none : Option Nat) with | none => (-9 : Int32) | some o => nI o) = -9 := rfl
def opI : Option Nat → Int32
  | none => -9
  | some o => nI o
theorem p_partsOf {n : Nat} {G : List (List Nat)} {size cols : Int32} {sets above firm first : Nat → Int32} (hT : TreeOk n G size cols sets above firm first) (hK : (KL n G).length ≤ 15) {k : Nat} (hk : k < (KL n G).length) {Q : Int32 → Prop} (h : Q (nI (fb_ct (inA (KL n G) k) k))) : q_X3_partsOf above (nI k) Q := by
  refine up2 (fun N x a => q_X3_partsOf_L4 (nI k) above Q N a x) (fun i a => a = nI (fb_ct (inA (KL n G) k) i)) k ?_ 0 0 (Nat.zero_le _) rfl
  intro m i a hi hI ih
  rw [q_X3_partsOf_L4]
  refine ⟨fun hx => ?_, fun hx => ⟨?_, ?_⟩⟩
  · rw [nI_leI (by omega) (by omega)] at hx
    have e : i = k := by omega
    subst e
    rw [hI]; exact h
  · rw [nI_leI (by omega) (by omega)] at hx
    exact vp_in_nI (by omega) (by omega)
  · rw [nI_leI (by omega) (by omega)] at hx
    have hik : i < k := by omega
    rw [nI_clamp (by omega), hT.2.2.2.1 i _ (kd_get (by omega)), nI_1 i]
    refine ⟨fun q => ih _ hik ?_, fun q => ih _ hik ?_⟩
    · have : inA (KL n G) k i = false := decide_eq_false q
      rw [hI, fb_ct_succ, this]; rfl
    · have : inA (KL n G) k i = true := decide_eq_true q
      rw [hI, fb_ct_succ, this, nI_1]; rfl
theorem p_partWith {n : Nat} {G : List (List Nat)} {size cols : Int32} {sets above firm first : Nat → Int32} (hT : TreeOk n G size cols sets above firm first) (hK : (KL n G).length ≤ 15) {k c : Nat} (hk : k < (KL n G).length) (hc : c < 31) {Q : Int32 → Prop} (h : Q (opI (pw (KL n G) k c))) : q_X3_partWith sets above (nI k) (nI (2 ^ c)) Q := by
  refine up1 (fun N x => q_X3_partWith_L2 (nI k) (nI (2 ^ c)) sets above Q N x) (fun i => ∀ o, o < i → (inA (KL n G) k o && (kd (KL n G) o).testBit c) = false) k ?_ 0 (Nat.zero_le _) (fun o ho => absurd ho (Nat.not_lt_zero o))
  intro m i hi hI ih
  rw [q_X3_partWith_L2]
  refine ⟨fun hx => ?_, fun hx => ⟨?_, ?_⟩⟩
  · rw [nI_leI (by omega) (by omega)] at hx
    have e : i = k := by omega
    subst e
    have : pw (KL n G) i c = none := List.find?_eq_none.mpr (fun o ho => by rw [hI o (List.mem_range.mp ho)]; simp)
    rw [this] at h
    exact h
  · rw [nI_leI (by omega) (by omega)] at hx
    exact vp_in_nI (by omega) (by omega)
  · rw [nI_leI (by omega) (by omega)] at hx
    have hik : i < k := by omega
    have hgk := kd_get (K := KL n G) (k := i) (by omega)
    rw [nI_clamp (by omega), hT.2.2.2.1 i _ hgk, hT.2.2.1 i _ hgk, nI_1 i, fa_bit hc]
    have go : (inA (KL n G) k i && (kd (KL n G) i).testBit c) = false → q_X3_partWith_L2 (nI k) (nI (2 ^ c)) sets above Q m (nI (i + 1)) := fun hf => ih hik (fun o ho => by
      by_cases e : o = i
      · subst e; exact hf
      · exact hI o (by omega))
    refine ⟨fun q => go ?_, fun q => ⟨fun q2 => go (by rw [q2]; simp), fun q2 => ?_⟩⟩
    · have : inA (KL n G) k i = false := decide_eq_false q
      rw [this]; rfl
    · have h1 : inA (KL n G) k i = true := decide_eq_true q
      have h2 : (kd (KL n G) i).testBit c = true := by cases hb : (kd (KL n G) i).testBit c <;> simp_all
      have : pw (KL n G) k c = some i := by
        unfold pw
        rw [List.find?_range_eq_some]
        exact ⟨by rw [h1, h2]; rfl, List.mem_range.mpr hik, fun j hj => by rw [hI j hj]; rfl⟩
      rw [this] at h
      exact h
theorem p_partWith0 {n : Nat} {G : List (List Nat)} {size cols : Int32} {sets above firm first : Nat → Int32} (hT : TreeOk n G size cols sets above firm first) (hK : (KL n G).length ≤ 15) {k : Nat} (hk : k < (KL n G).length) {Q : Int32 → Prop} (h : Q (-9)) : q_X3_partWith sets above (nI k) 0 Q := by
  refine up1 (fun N x => q_X3_partWith_L2 (nI k) 0 sets above Q N x) (fun _ => True) k ?_ 0 (Nat.zero_le _) trivial
  intro m i hi _ ih
  rw [q_X3_partWith_L2]
  refine ⟨fun _ => h, fun hx => ?_⟩
  rw [nI_leI (by omega) (by omega)] at hx
  refine ⟨vp_in_nI (by omega) (by omega), ?_⟩
  rw [nI_1]
  refine ⟨fun _ => ih (by omega) trivial, fun _ => ⟨fun _ => ih (by omega) trivial, fun q => absurd ?_ q⟩⟩
  exact b_ext (fun j _ => by rw [b_and, b_0]; simp)
theorem maskC {c seen : Nat} (hs : seen.testBit c = false) : nI (2 ^ c) &&& (nI seen ^^^ (-1)) = nI (2 ^ c) := by
  refine b_ext (fun i hi => ?_)
  rw [b_and, b_xor, b_m1 i hi, bt_nI _ hi, bt_nI _ hi, Nat.testBit_two_pow]
  by_cases e : c = i
  · subst e; rw [hs]; simp
  · simp [e]
theorem p_part {n : Nat} (hn : n ≤ 8) {G : List (List Nat)} (hG : GOk n G) (hP : KP n (KL n G)) {size cols : Int32} {sets above firm first : Nat → Int32} (hT : TreeOk n G size cols sets above firm first) {k i : Nat} (hk : k < (KL n G).length) (hi31 : i < 2 ^ 30) {Q : Int32 → Prop} (h : Q (opI ((ptF (KL n G) k (row0 G) 0)[i]?))) : q_X3_part (nI n) sets above first (nI k) (nI i) Q := by
  have hK := hP.2.2.2.2
  have hrow := hG.row _ (row0_mem hG).1
  refine up3 (fun N x a b => q_X3_part_L8 (nI k) (nI i) (nI n) sets above first Q N a b x) (fun p a b => ∃ (seen : Nat) (pre : List Nat), a = nI seen ∧ seen < 256 ∧ b = nI pre.length ∧ ptF (KL n G) k (row0 G) 0 = pre ++ ptF (KL n G) k ((row0 G).drop p) seen ∧ pre.length ≤ i) n ?_ 0 0 0 (Nat.zero_le _) ⟨0, [], rfl, by omega, rfl, rfl, Nat.zero_le _⟩
  intro m p a b hp hI ih
  obtain ⟨seen, pre, rfl, hseen, rfl, hpl, hpi⟩ := hI
  rw [q_X3_part_L8]
  refine ⟨fun hx => ?_, fun hx => ⟨?_, ?_⟩⟩
  · rw [nI_leI (by omega) (by omega)] at hx
    rw [List.drop_of_length_le (by rw [hrow.1]; exact hx), ptF, List.append_nil] at hpl
    rw [hpl, List.getElem?_eq_none hpi] at h
    exact h
  · rw [nI_leI (by omega) (by omega)] at hx
    exact vp_in_nI (by omega) (by omega)
  · rw [nI_leI (by omega) (by omega)] at hx
    have hpn : p < n := by omega
    have hm := hrow.small hn _ (getD_mem (l := row0 G) (p := p) (by rw [hrow.1]; exact hpn))
    have hd : (row0 G).drop p = (row0 G).getD p 0 :: (row0 G).drop (p + 1) := by
      rw [List.drop_eq_getElem_cons (by rw [hrow.1]; exact hpn), List.getD_eq_getElem?_getD, List.getElem?_eq_getElem (by rw [hrow.1]; exact hpn)]
      rfl
    rw [hd] at hpl
    have hfp : first p = nI ((row0 G).getD p 0) := hT.2.2.2.2.2 p hpn
    rw [nI_clamp (by omega), hfp]
    generalize (row0 G).getD p 0 = c at hm hpl
    rw [one_shl c (by omega), nI_1 p]
    intro x6 e6
    subst e6
    rw [ptF] at hpl
    by_cases q : seen.testBit c = true
    · rw [if_pos q] at hpl
      have hz : nI (2 ^ c) &&& (nI seen ^^^ (-1)) = 0 := by
        rw [andn0 (Nat.pow_lt_pow_right (by omega) (by omega))]
        exact sub_of (fun j hj => by
          rw [Nat.testBit_two_pow] at hj
          have : c = j := by simpa using hj
          rw [← this]; exact q)
      rw [hz]
      refine p_partWith0 hT hK hk ⟨fun _ => ih _ _ hpn ⟨seen, pre, rfl, hseen, rfl, hpl, hpi⟩, fun z => absurd rfl z⟩
    · rw [if_neg q] at hpl
      rw [maskC (by cases hb : seen.testBit c <;> simp_all)]
      refine p_partWith hT hK hk (by omega) ?_
      cases hpw : pw (KL n G) k c with
      | none =>
        rw [hpw] at hpl
        exact ⟨fun _ => ih _ _ hpn ⟨seen, pre, rfl, hseen, rfl, hpl, hpi⟩, fun z => absurd rfl z⟩
      | some o =>
        rw [hpw] at hpl
        simp only at hpl
        have ho := (pw_some hpw).1
        have hol := (hP.2.1 _ (kd_mem (K := KL n G) (k := o) (by omega))).2
        refine ⟨fun z => absurd z.symm (n9_ne (by omega)), fun _ => ?_⟩
        rw [nI_eq (by omega) (by omega)]
        refine ⟨fun z => ⟨vp_in_nI (by omega) (by omega), ?_⟩, fun z => ?_⟩
        · intro x7 e7
          show q_X3_part_L8 (nI k) (nI i) (nI n) sets above first Q m x7 (nI pre.length + 1) (nI (p + 1))
          rw [show opI (some o) = nI o from rfl, nI_clamp (by omega), hT.2.2.1 o _ (kd_get (by omega)), fa_or] at e7
          rw [nI_1]
          refine ih _ _ hpn ⟨seen ||| kd (KL n G) o, pre ++ [o], e7, Nat.or_lt_two_pow (n := 8) hseen (nIs hn hol), by simp, by rw [List.append_assoc]; exact hpl, by simp; omega⟩
        · rw [hpl, ← z] at h
          simp at h
          exact h
/-- the kind of a knot -/
def kindF (n : Nat) (G : List (List Nat)) (pl : List Nat) : Int32 := if pl.length = 0 then 0 else if pl.length = 2 then 1 else if fm G (kd (KL n G) (pl.getD 0 0) ||| kd (KL n G) (pl.getD 1 0)) then 3 else 2
theorem p_kindOf {n : Nat} (hn : n ≤ 8) {G : List (List Nat)} (hG : GOk n G) (hP : KP n (KL n G)) {size cols : Int32} {sets above firm first : Nat → Int32} (hT : TreeOk n G size cols sets above firm first) {k : Nat} (hk : k < (KL n G).length) {Q : Int32 → Prop} (h : Q (kindF n G (ptF (KL n G) k (row0 G) 0))) : q_X3_kindOf (nI n) sets above firm first (nI k) Q := by
  have hK := hP.2.2.2.2
  have h8 := pow_le8 hn
  have hl0 := hG.1 _ (row0_mem hG).1
  have hcnt := parts_count hn hP hk hl0
  have hne1 := parts_ne1 hn hP hk
  unfold q_X3_kindOf
  refine p_partsOf hT hK hk ?_
  have hle := fb_ct_le (inA (KL n G) k) k
  have hmem : ∀ o ∈ ptF (KL n G) k (row0 G) 0, o < k ∧ inA (KL n G) k o = true := fun o ho => ptF_mem _ _ ho
  rw [← hcnt] at hne1 hle ⊢
  generalize hpl : ptF (KL n G) k (row0 G) 0 = pl at h hne1 hle hmem ⊢
  rw [show (2 : Int32) = nI 2 from rfl, ← nI_0, nI_eq (by omega) (by omega), nI_eq (by omega) (by omega)]
  unfold kindF at h
  refine ⟨fun q => ⟨fun q2 => ?_, fun q2 => ?_⟩, fun q => ?_⟩
  · rw [if_neg q, if_neg q2] at h
    have g0 : pl[0]? = some (pl.getD 0 0) := by rw [List.getD_eq_getElem?_getD, List.getElem?_eq_getElem (by omega)]; rfl
    have g1 : pl[1]? = some (pl.getD 1 0) := by rw [List.getD_eq_getElem?_getD, List.getElem?_eq_getElem (by omega)]; rfl
    have m0 := hmem _ (List.mem_of_getElem? g0)
    have m1 := hmem _ (List.mem_of_getElem? g1)
    generalize pl.getD 0 0 = o0 at h g0 m0
    generalize pl.getD 1 0 = o1 at h g1 m1
    have s0 := (hP.2.1 _ (kd_mem (K := KL n G) (k := o0) (by omega))).2
    have s1 := (hP.2.1 _ (kd_mem (K := KL n G) (k := o1) (by omega))).2
    refine p_part (i := 0) hn hG hP hT hk (by omega) ?_
    rw [hpl, g0, show opI (some o0) = nI o0 from rfl]
    refine p_part (i := 1) hn hG hP hT hk (by omega) ?_
    rw [hpl, g1, show opI (some o1) = nI o1 from rfl]
    show (nI o0 = -9 → _) ∧ (¬ nI o0 = -9 → (¬ nI o1 = -9 → _) ∧ (nI o1 = -9 → _))
    refine ⟨fun z => absurd z.symm (n9_ne (by omega)), fun _ => ⟨fun _ => ?_, fun z => absurd z.symm (n9_ne (by omega))⟩⟩
    have hor : kd (KL n G) o0 ||| kd (KL n G) o1 < 2 ^ n := Nat.or_lt_two_pow s0 s1
    rw [nI_clamp (by omega), nI_clamp (by omega), hT.2.2.1 o0 _ (kd_get (by omega)), hT.2.2.1 o1 _ (kd_get (by omega)), fa_or, nI_clamp (by omega), hT.2.2.2.2.1 _ hor, nI_0, bI_z]
    refine ⟨vp_in_nI (by omega) (by omega), vp_in_nI (by omega) (by omega), vp_in_nI (by omega) (by omega), fun z => ?_, fun z => ?_⟩
    · rw [z] at h; exact h
    · have : fm G (kd (KL n G) o0 ||| kd (KL n G) o1) = true := by cases hb : fm G (kd (KL n G) o0 ||| kd (KL n G) o1) <;> simp_all
      rw [this] at h; exact h
  · rw [if_neg q, if_pos q2] at h; exact h
  · rw [if_pos q] at h; exact h
/-! the tree is grown when it is asked for -/
def TreeI (n : Nat) (G : List (List Nat)) (old size cols : Int32) (sets above firm first : Nat → Int32) : Prop := old = 1 ∨ (old = 0 ∧ TreeOk n G size cols sets above firm first)
theorem d_growTree {n : Nat} (h1 : 1 ≤ n) (hn : n ≤ 8) {f w wr : Nat → Int32} {G : List (List Nat)} (hR : Rw n f w G) (hG : GOk n G) {old size cols : Int32} {sets above firm first : Nat → Int32} (hI : TreeI n G old size cols sets above firm first) {Q : Int32 → Int32 → Int32 → (Nat → Int32) → (Nat → Int32) → (Nat → Int32) → (Nat → Int32) → (Nat → Int32) → Prop} (h : ∀ size cols sets above firm first wr, TreeOk n G size cols sets above firm first → Q 0 size cols sets above firm first wr) : q_X4_growTree old (nI n) (nI (2 ^ n - 1)) f w size cols sets above firm first wr Q := by
  unfold q_X4_growTree
  rcases hI with e | ⟨e, hT⟩
  · subst e
    refine ⟨fun q => absurd q (by decide), fun _ => ?_⟩
    have hpos : 0 < G.length := List.length_pos_iff.mpr hG.2.1
    refine p_write (i := 0) hn hR hpos (fun p' l hl hp => p_grow h1 hn hR hG (fun j hj => ?_) (fun a b c d e f hT => h a b c d e f p' hT))
    rw [hp j hj]
    have e := (row0_mem hG).2
    rw [hl] at e
    rw [Option.some.inj e]
    rfl
  · subst e
    exact ⟨fun _ => h _ _ _ _ _ _ _ hT, fun q => absurd rfl q⟩
def sp_knot (n : Nat) (G : List (List Nat)) (x1 x2 : Int32) : Ans := match ix x1 (KL n G).length with
  | none => .inl 1
  | some k => if x2 = 0 then .inr (nI (kd (KL n G) k)) else if x2 = 1 then .inr (kindF n G (ptF (KL n G) k (row0 G) 0)) else if x2 = 2 then .inr (nI (ptF (KL n G) k (row0 G) 0).length) else if x2 = 3 then .inr (laL (kd (KL n G) k) ((KL n G).drop (k + 1)) (k + 1)) else match ix (x2 - 4) (ptF (KL n G) k (row0 G) 0).length with
    | none => .inl 2
    | some i => .inr (nI ((ptF (KL n G) k (row0 G) 0).getD i 0))
theorem sub4 {x : Int32} (h : ¬ x < 0) : (x - 4).toInt = x.toInt - 4 := by
  rw [fa_lt] at h
  have t0 : (0 : Int32).toInt = 0 := by decide
  have t4 : (4 : Int32).toInt = 4 := by decide
  have := fb_rng x
  rw [fb_subI (by omega) (by omega), t4]
theorem ix_neg4 {x : Int32} (h : x < 0) {m : Nat} (hm : m ≤ 100) : ix (x - 4) m = none := by
  rw [fa_lt] at h
  have t0 : (0 : Int32).toInt = 0 := by decide
  have t4 : (4 : Int32).toInt = 4 := by decide
  have hr := fb_rng x
  have hv : (x - 4).toInt = x.toInt - 4 ∨ (x - 4).toInt = x.toInt - 4 + 4294967296 := by
    rcases Int.lt_or_le (x.toInt - 4) (-2147483648) with q | q
    · right
      rw [Int32.toInt_sub, t4, Int.bmod_def]
      omega
    · left
      rw [fb_subI (by omega) (by omega), t4]
  unfold ix
  rw [if_neg]
  rcases hv with q | q <;> rw [q] <;> omega
theorem d_knot {n : Nat} (h1 : 1 ≤ n) (hn : n ≤ 8) {f w wr rf : Nat → Int32} {G : List (List Nat)} (hR : Rw n f w G) (hG : GOk n G) {old size cols : Int32} {sets above firm first : Nat → Int32} (hI : TreeI n G old size cols sets above firm first) {x1 x2 : Int32} {Q : Int32 → Int32 → Int32 → Int32 → (Nat → Int32) → (Nat → Int32) → (Nat → Int32) → (Nat → Int32) → (Nat → Int32) → (Nat → Int32) → Prop} (h : ∀ size cols sets above firm first wr, TreeOk n G size cols sets above firm first → Q (ansR (sp_knot n G x1 x2)) 0 size cols sets above firm first wr (rfA rf (sp_knot n G x1 x2))) : q_X4_knot old (nI n) (nI (2 ^ n - 1)) f w size cols sets above firm first wr rf x1 x2 Q := by
  unfold q_X4_knot
  refine d_growTree h1 hn hR hG hI (fun size cols sets above firm first wr hT => ?_)
  have hP := KP_KL h1 hn hG
  have hK := hP.2.2.2.2
  have hl0 := hG.1 _ (row0_mem hG).1
  have h := h size cols sets above firm first wr hT
  rw [hT.1, hT.2.1] at h ⊢
  unfold sp_knot at h
  rcases ix_cases x1 (m := (KL n G).length) (by omega) with ⟨k, hk, rfl, e⟩ | ⟨hx, e⟩ | ⟨hx, hx2, e⟩
  · rw [e] at h
    simp only at h
    have hcnt := parts_count hn hP hk hl0
    have hpl8 := ptF_len (KL n G) k (row0 G) 0
    rw [(hG.row _ (row0_mem hG).1).1] at hpl8
    have t4 : (4 : Int32).toInt = 4 := by decide
    have t0 : (0 : Int32).toInt = 0 := by decide
    refine ⟨fun q => absurd q (nI_pos (by omega)), fun _ => ⟨fun _ => ⟨fun hneg => ?_, fun hneg => ?_⟩, fun q => absurd (nI_lt hk (by omega)) q⟩⟩
    · have n0 : ¬ x2 = 0 := fun z => by rw [z] at hneg; exact absurd hneg (by decide)
      have n1 : ¬ x2 = 1 := fun z => by rw [z] at hneg; exact absurd hneg (by decide)
      have n2 : ¬ x2 = 2 := fun z => by rw [z] at hneg; exact absurd hneg (by decide)
      have n3 : ¬ x2 = 3 := fun z => by rw [z] at hneg; exact absurd hneg (by decide)
      rw [if_neg n0, if_neg n1, if_neg n2, if_neg n3, ix_neg4 hneg (by omega)] at h
      exact d_refuse (k := 2) (by omega) (by omega) (by decide) h
    · refine p_partsOf hT hK hk ?_
      rw [← hcnt, show (4 : Int32) + nI (ptF (KL n G) k (row0 G) 0).length = nI (4 + (ptF (KL n G) k (row0 G) 0).length) from nI_add 4 _]
      have hsub := sub4 hneg
      have hx0 : 0 ≤ x2.toInt := by rw [fa_lt] at hneg; omega
      have hcmp : x2 < nI (4 + (ptF (KL n G) k (row0 G) 0).length) ↔ x2.toInt < 4 + (ptF (KL n G) k (row0 G) 0).length := by
        rw [fa_lt, nI_toInt (by omega)]
        omega
      rw [hcmp]
      refine ⟨fun hlt => ?_, fun hge => ?_⟩
      · have hgk := kd_get hk
        refine ⟨fun z => ⟨vp_in_nI (by omega) (by omega), ?_⟩, fun z => p_kindOf hn hG hP hT hk ?_, fun z => p_partsOf hT hK hk ?_, fun z => ⟨vp_in_nI (by omega) (by omega), ?_⟩, fun z => ?_⟩
        · rw [if_pos z] at h
          rw [nI_clamp (by omega), hT.2.2.1 k _ hgk]
          exact h
        · rw [if_neg (by rw [z]; decide), if_pos z] at h; exact h
        · rw [if_neg (by rw [z]; decide), if_neg (by rw [z]; decide), if_pos z, hcnt] at h; exact h
        · rw [if_neg (by rw [z]; decide), if_neg (by rw [z]; decide), if_neg (by rw [z]; decide), if_pos z] at h
          rw [nI_clamp (by omega), hT.2.2.2.1 k _ hgk]
          exact h
        · rw [if_neg z.1, if_neg z.2.1, if_neg z.2.2.1, if_neg z.2.2.2] at h
          have hx4 : 4 ≤ x2.toInt := by
            have i0 := lv_neT z.1 (a := 0) rfl
            have i1 := lv_neT z.2.1 (a := 1) rfl
            have i2 := lv_neT z.2.2.1 (a := 2) rfl
            have i3 := lv_neT z.2.2.2 (a := 3) rfl
            omega
          rcases ix_cases (x2 - 4) (m := (ptF (KL n G) k (row0 G) 0).length) (by omega) with ⟨i, hi, e4, e5⟩ | ⟨hy, -⟩ | ⟨-, hy, -⟩
          · rw [e5] at h
            rw [e4]
            refine p_part hn hG hP hT hk (by omega) ?_
            have : (ptF (KL n G) k (row0 G) 0)[i]? = some ((ptF (KL n G) k (row0 G) 0).getD i 0) := by rw [List.getD_eq_getElem?_getD, List.getElem?_eq_getElem hi]; rfl
            rw [this]
            exact h
          · rw [fa_lt, hsub, t0] at hy; omega
          · rw [fa_le, hsub, nI_toInt (by omega)] at hy; omega
      · have n0 : ¬ x2 = 0 := fun z => by rw [z, t0] at hge; omega
        have n1 : ¬ x2 = 1 := fun z => by rw [z, show (1 : Int32).toInt = 1 by decide] at hge; omega
        have n2 : ¬ x2 = 2 := fun z => by rw [z, show (2 : Int32).toInt = 2 by decide] at hge; omega
        have n3 : ¬ x2 = 3 := fun z => by rw [z, show (3 : Int32).toInt = 3 by decide] at hge; omega
        have hnone : ix (x2 - 4) (ptF (KL n G) k (row0 G) 0).length = none := by
          unfold ix
          rw [if_neg]
          rw [hsub]
          omega
        rw [if_neg n0, if_neg n1, if_neg n2, if_neg n3, hnone] at h
        exact d_refuse (k := 2) (by omega) (by omega) (by decide) h
  · rw [e] at h
    exact ⟨fun _ => d_refuse (k := 1) (by omega) (by omega) (by decide) h, fun q => absurd hx q⟩
  · rw [e] at h
    refine ⟨fun q => absurd q hx, fun _ => ⟨fun q => ?_, fun _ => d_refuse (k := 1) (by omega) (by omega) (by decide) h⟩⟩
    rw [fa_le] at hx2; rw [fa_lt] at q; omega
def sp_join (n : Nat) (G : List (List Nat)) (x1 x2 : Int32) : Ans := match ix x1 n, ix x2 n with
  | some a, some b => .inr (laL (2 ^ a ||| 2 ^ b) (KL n G) 0)
  | _, _ => .inl 1
theorem d_join {n : Nat} (h1 : 1 ≤ n) (hn : n ≤ 8) {f w wr rf : Nat → Int32} {G : List (List Nat)} (hR : Rw n f w G) (hG : GOk n G) {old size cols : Int32} {sets above firm first : Nat → Int32} (hI : TreeI n G old size cols sets above firm first) {x1 x2 : Int32} {Q : Int32 → Int32 → Int32 → Int32 → (Nat → Int32) → (Nat → Int32) → (Nat → Int32) → (Nat → Int32) → (Nat → Int32) → (Nat → Int32) → Prop} (h : ∀ old size cols sets above firm first wr, TreeI n G old size cols sets above firm first → Q (ansR (sp_join n G x1 x2)) old size cols sets above firm first wr (rfA rf (sp_join n G x1 x2))) : q_X4_join (nI n) old (nI n) (nI (2 ^ n - 1)) f w size cols sets above firm first wr rf x1 x2 Q := by
  have hK := KL_len h1 hn G
  have no : sp_join n G x1 x2 = .inl 1 → q_X4_refuse rf ((-1) : Int32) (fun r5 g4 => Q r5 old size cols sets above firm first wr g4) := fun e => by
    rw [e] at h
    exact d_refuse (k := 1) (by omega) (by omega) (by decide) (h _ _ _ _ _ _ _ _ hI)
  unfold q_X4_join
  refine d_isColumn hn ⟨fun q => no ?_, fun q1 => d_isColumn hn ⟨fun q2 => ?_, fun q => no ?_⟩⟩
  · unfold sp_join
    cases hx : ix x1 n
    · rfl
    · rw [hx] at q; cases q
  · rcases ix_cases x1 (m := n) (by omega) with ⟨a, ha, rfl, ea⟩ | ⟨_, e⟩ | ⟨_, _, e⟩
    · rcases ix_cases x2 (m := n) (by omega) with ⟨b, hb, rfl, eb⟩ | ⟨_, e⟩ | ⟨_, _, e⟩
      · refine d_growTree h1 hn hR hG hI (fun size cols sets above firm first wr hT => ?_)
        have h := h 0 size cols sets above firm first wr (Or.inr ⟨rfl, hT⟩)
        unfold sp_join at h
        rw [ea, eb] at h
        rw [pair_int hn ha hb, hT.1] at *
        have := pair_lt ha hb
        have := pow_le8 hn
        exact p_leastAround (i0 := 0) hK hT.2.2.1 (by omega) (Nat.zero_le _) h
      · rw [e] at q2; cases q2
      · rw [e] at q2; cases q2
    · rw [e] at q1; cases q1
    · rw [e] at q1; cases q1
  · unfold sp_join
    cases hx : ix x2 n
    · cases ix x1 n <;> rfl
    · rw [hx] at q; cases q
