/-! KNOTS, THE REFERENCE'S ANSWERS. -/
theorem m_above {K : List Nat} (hK : K.length ≤ 15) {kt : Nat → Int32} (hs : HoldsN kt K) {s : Nat} (hs8 : s < 256) (hk8 : ∀ t ∈ K, t < 256) {Q : Int32 → Prop} (h : Q (laL s K 0)) : q_X5_above (nI K.length) kt (nI s) 0 Q := by
  refine up1 (fun N x => q_X5_above_L2 (nI s) 0 (nI K.length) kt Q N x) (fun i => laL s K 0 = laL s (K.drop i) i) K.length ?_ 0 (Nat.zero_le _) rfl
  intro m i hi hI ih
  rw [q_X5_above_L2]
  refine ⟨fun hx => ?_, fun hx => ⟨?_, ?_⟩⟩
  · rw [nI_leI (by omega) (by omega)] at hx
    rw [List.drop_of_length_le hx] at hI
    rw [hI] at h
    exact h
  · rw [nI_leI (by omega) (by omega)] at hx
    exact vp_in_nI (by omega) (by omega)
  · rw [nI_leI (by omega) (by omega)] at hx
    have hlt : i < K.length := by omega
    have h8 := hk8 _ (List.getElem_mem hlt)
    rw [nI_clamp (by omega), hs i _ (List.getElem?_eq_getElem hlt), fa_and, nI_eq (Nat.lt_of_le_of_lt Nat.and_le_left (by omega)) (by omega), Nat.and_comm, nI_1]
    rw [List.drop_eq_getElem_cons hlt, laL] at hI
    refine ⟨fun q => ih hlt ?_, fun q => ⟨fun _ => ?_, fun z => absurd rfl z⟩⟩
    · rw [if_neg q] at hI; exact hI
    · rw [if_pos q] at hI; rw [hI] at h; exact h
theorem m_aboveB {n : Nat} (hn : n ≤ 8) {K : List Nat} (hP : KP n K) {kt : Nat → Int32} (hs : HoldsN kt K) {k : Nat} (hk : k < K.length) {Q : Int32 → Prop} (h : Q (laL (kd K k) (K.drop (k + 1)) (k + 1))) : q_X5_above (nI K.length) kt (nI (kd K k)) 1 Q := by
  have hK := hP.2.2.2.2
  have hk8 : ∀ i, i < K.length → kd K i < 256 := fun i hi => nIs hn (hP.2.1 _ (kd_mem hi)).2
  refine up1 (fun N x => q_X5_above_L2 (nI (kd K k)) 1 (nI K.length) kt Q N x) (fun i => i ≤ k ∨ (k < i ∧ laL (kd K k) (K.drop (k + 1)) (k + 1) = laL (kd K k) (K.drop i) i)) K.length ?_ 0 (Nat.zero_le _) (Or.inl (Nat.zero_le _))
  intro m i hi hI ih
  rw [q_X5_above_L2]
  refine ⟨fun hx => ?_, fun hx => ⟨?_, ?_⟩⟩
  · rw [nI_leI (by omega) (by omega)] at hx
    rcases hI with q | ⟨-, q⟩
    · omega
    · rw [List.drop_of_length_le hx] at q
      rw [q] at h
      exact h
  · rw [nI_leI (by omega) (by omega)] at hx
    exact vp_in_nI (by omega) (by omega)
  · rw [nI_leI (by omega) (by omega)] at hx
    have hlt : i < K.length := by omega
    have b1 := hk8 i hlt
    have b2 := hk8 k hk
    rw [nI_clamp (by omega), hs i _ (kd_get hlt), fa_and, nI_eq (Nat.lt_of_le_of_lt Nat.and_le_left (by omega)) (by omega), Nat.and_comm, nI_1, nI_eq (by omega) (by omega)]
    have hdrop : K.drop i = kd K i :: K.drop (i + 1) := by
      rw [List.drop_eq_getElem_cons hlt]
      have := kd_get hlt
      rw [List.getElem?_eq_getElem hlt] at this
      rw [Option.some.inj this]
    have stay : (i ≤ k ∨ ¬ kd K k &&& kd K i = kd K k) → q_X5_above_L2 (nI (kd K k)) 1 (nI K.length) kt Q m (nI (i + 1)) := fun hz => ih hlt (by
      rcases hI with q | ⟨q1, q⟩
      · by_cases e : i = k
        · subst e; exact Or.inr ⟨by omega, rfl⟩
        · exact Or.inl (by omega)
      · refine Or.inr ⟨by omega, ?_⟩
        rw [hdrop, laL] at q
        rcases hz with z | z
        · omega
        · rw [if_neg z] at q; exact q)
    refine ⟨fun q => stay (Or.inr q), fun q => ⟨fun z => absurd z (by decide), fun _ => ⟨fun q2 => ?_, fun q2 => ?_⟩⟩⟩
    · rcases Nat.lt_trichotomy i k with z | z | z
      · exact stay (Or.inl (by omega))
      · exact stay (Or.inl (by omega))
      · exact absurd q2.symm (kd_lt hP z hlt).ne
    · rcases Nat.lt_trichotomy i k with z | z | z
      · have hr := kd_lt hP z hk
        exact absurd (card_eqs b1 q hr.card).symm q2
      · exact absurd (by rw [z]) q2
      · rcases hI with w | ⟨-, w⟩
        · omega
        · rw [hdrop, laL, if_pos q] at w
          rw [w] at h
          exact h
theorem m_partsOf {n : Nat} (hn : n ≤ 8) {G : List (List Nat)} (hG : GOk n G) {K : List Nat} (hP : KP n K) {good kt pt : Nat → Int32} (ha : Holds good G) (hs : HoldsN kt K) {k : Nat} (hk : k < K.length) {p0 : Int32} {Q : Int32 → (Nat → Int32) → Prop} (h : ∀ pt', HoldsN pt' (ptF K k (row0 G) 0) → Q (nI (ptF K k (row0 G) 0).length) pt') : q_X5_partsOf (nI n) (nI K.length) p0 good kt pt (nI k) Q := by
  have hK := hP.2.2.2.2
  have hrow := hG.row _ (row0_mem hG).1
  have hk8 : ∀ i, i < K.length → kd K i < 256 := fun i hi => nIs hn (hP.2.1 _ (kd_mem hi)).2
  have hkk := hk8 k hk
  have hpt : ∀ {L : List Nat} {c : Nat} {seen : Nat}, (¬ (kd K k).testBit c = true) → ptF K k (c :: L) seen = ptF K k L seen := fun {L c seen} hc => by
    rw [ptF]
    by_cases q : seen.testBit c = true
    · rw [if_pos q]
    · rw [if_neg q]
      cases hp : pw K k c with
      | none => rfl
      | some o =>
        obtain ⟨q1, q2, q3⟩ := pw_some hp
        rw [inA_iff hK hk q1] at q2
        exact absurd (sub_bit q2.1 q3) hc
  refine up4 (fun N x a b c => q_X5_partsOf_L9 (nI k) (nI n) (nI K.length) good kt Q N a x b c) (fun p a b c => ∃ (seen : Nat) (pre : List Nat), a = nI seen ∧ seen < 256 ∧ b = nI pre.length ∧ HoldsN c pre ∧ ptF K k (row0 G) 0 = pre ++ ptF K k ((row0 G).drop p) seen ∧ pre.length ≤ p) n ?_ 0 0 0 pt (Nat.zero_le _) ⟨0, [], rfl, by omega, rfl, fun i x hx => by simp at hx, rfl, Nat.zero_le _⟩
  intro m p a b c hp hI ih
  obtain ⟨seen, pre, rfl, hseen, rfl, hpre, hpl, hpp⟩ := hI
  rw [q_X5_partsOf_L9]
  refine ⟨fun hx => ?_, fun hx => ⟨?_, ?_⟩⟩
  · rw [nI_leI (by omega) (by omega)] at hx
    rw [List.drop_of_length_le (by rw [hrow.1]; exact hx), ptF, List.append_nil] at hpl
    rw [← hpl] at hpre ⊢
    exact h c hpre
  · rw [nI_leI (by omega) (by omega)] at hx
    exact vp_in_nI (by omega) (by omega)
  · rw [nI_leI (by omega) (by omega)] at hx
    have hpn : p < n := by omega
    rw [nI_clamp (show k < 2 ^ 31 by omega), hs k _ (kd_get hk)]
    refine p_bits hkk ?_
    have hc8 : card (kd K k) ≤ 8 := card_le 8 (by omega) _ hkk
    rw [show (1 : Int32) = nI 1 from rfl, nI_leI (by omega) (by omega)]
    refine ⟨fun hleaf => ?_, fun hbig => ?_⟩
    · have hnil : ptF K k (row0 G) 0 = [] := List.eq_nil_iff_forall_not_mem.mpr (fun o ho => by
        obtain ⟨q1, q2⟩ := ptF_mem _ _ ho
        rw [leaf_none hn hP hk hleaf q1] at q2
        cases q2)
      have hp0 : pre = [] := by
        rw [hnil] at hpl
        exact (List.append_eq_nil_iff.mp hpl.symm).1
      rw [hp0, ← hnil] at hpre ⊢
      exact h c hpre
    · rw [sb_cl0, ha 0 _ (row0_mem hG).2]
      refine p_columnAt hn hrow hpn ?_
      have hm := hrow.small hn _ (getD_mem (l := row0 G) (p := p) (by rw [hrow.1]; exact hpn))
      have hmn := hrow.2.1 _ (getD_mem (l := row0 G) (p := p) (by rw [hrow.1]; exact hpn))
      have hd : (row0 G).drop p = (row0 G).getD p 0 :: (row0 G).drop (p + 1) := by
        rw [List.drop_eq_getElem_cons (by rw [hrow.1]; exact hpn), List.getD_eq_getElem?_getD, List.getElem?_eq_getElem (by rw [hrow.1]; exact hpn)]
        rfl
      rw [hd] at hpl
      generalize (row0 G).getD p 0 = d at hm hmn hpl
      rw [show (nI 1 : Int32) = 1 from rfl, sh1 _ (by omega), sh1 _ (by omega), bt_nI _ (by omega), bt_nI _ (by omega), bI_z, bI_eq1]
      refine ⟨fun q => ?_, fun q => ⟨fun q2 => ?_, fun q2 => ?_⟩⟩
      · rw [nI_1]
        rw [hpt (by rw [q]; simp)] at hpl
        exact ih _ _ _ hpn ⟨seen, pre, rfl, hseen, rfl, hpre, hpl, by omega⟩
      · have hbit : (kd K k).testBit d = true := by cases hb : (kd K k).testBit d <;> simp_all
        have hns : seen.testBit d = false := by cases hb : seen.testBit d <;> simp_all
        obtain ⟨o, ho, hoA, hob, holast, hosub⟩ := pw_ex hn hP hk (by omega) hbit
        have hpw := pw_of hn hP hk ho hoA hob
        rw [one_shl d (by omega)]
        refine m_above hK hs (Nat.pow_lt_pow_right (n := 8) (by omega) (by omega)) (fun t ht => nIs hn (hP.2.1 t ht).2) ?_
        generalize laL (2 ^ d) K 0 = r8
        refine up2 (fun N x y => q_X5_partsOf_L84 (nI k) (nI seen) (nI p) (nI d) (nI pre.length) kt c (fun y0 y1 y2 y3 => q_X5_partsOf_L9 (nI k) (nI n) (nI K.length) good kt Q m y0 y1 y2 y3) N y x) (fun i y => o < i → y = nI o) k ?_ 0 r8 (Nat.zero_le _) (fun z => absurd z (Nat.not_lt_zero o))
        intro m2 i y hi hJ ih2
        rw [q_X5_partsOf_L84]
        refine ⟨fun hx => ?_, fun hx => ⟨?_, ?_⟩⟩
        · rw [nI_leI (by omega) (by omega)] at hx
          rw [hJ (by omega)]
          unfold q_X5_partsOf_J135
          refine ⟨vp_in_nI (by omega) (by omega), vp_in_nI (by omega) (by omega), ?_⟩
          intro x3 e3
          rw [nI_clamp (show o < 2 ^ 31 by omega), hs o _ (kd_get (by omega)), fa_or] at e3
          rw [nI_1, nI_1, nI_clamp (show pre.length < 2 ^ 31 by omega)]
          rw [ptF, if_neg (by rw [hns]; simp), hpw] at hpl
          simp only at hpl
          refine ih _ _ _ hpn ⟨seen ||| kd K o, pre ++ [o], e3, Nat.or_lt_two_pow (n := 8) hseen (hk8 o (by omega)), by simp, hpre.push o, by rw [List.append_assoc]; exact hpl, by simp; omega⟩
        · rw [nI_leI (by omega) (by omega)] at hx
          exact vp_in_nI (by omega) (by omega)
        · rw [nI_leI (by omega) (by omega)] at hx
          have hik : i < k := by omega
          have hi8 := hk8 i (by omega)
          rw [nI_clamp (show i < 2 ^ 31 by omega), hs i _ (kd_get (by omega)), nI_1, sh1 _ (by omega), bt_nI _ (by omega), bI_eq1, nI_clamp (show k < 2 ^ 31 by omega), hs k _ (kd_get hk), andn0 (by omega)]
          have stay : ¬ ((kd K i).testBit d = true ∧ kd K i &&& kd K k = kd K i) → q_X5_partsOf_L84 (nI k) (nI seen) (nI p) (nI d) (nI pre.length) kt c (fun y0 y1 y2 y3 => q_X5_partsOf_L9 (nI k) (nI n) (nI K.length) good kt Q m y0 y1 y2 y3) m2 y (nI (i + 1)) := fun hz => ih2 y hik (fun hoi => by
            by_cases e : i = o
            · subst e; exact absurd ⟨hob, hosub⟩ hz
            · exact hJ (by omega))
          refine ⟨fun z => stay (fun w => z w.1), fun z => ⟨vp_in_nI (by omega) (by omega), fun z2 => stay (fun w => z2 w.2), fun z2 => ih2 _ hik (fun hoi => ?_)⟩⟩
          by_cases e : i = o
          · rw [e]
          · exact absurd ⟨z, z2⟩ (holast i (by omega) hik)
      · rw [nI_1]
        rw [ptF, if_pos q2] at hpl
        exact ih _ _ _ hpn ⟨seen, pre, rfl, hseen, rfl, hpre, hpl, by omega⟩
def KnI (n : Nat) (G : List (List Nat)) (kn ks : Int32) (al kt : Nat → Int32) : Prop := kn = 0 ∨ (kn = 1 ∧ KnownOk n G ks al kt)
theorem m_knot {n : Nat} (h1 : 1 ≤ n) (hn : n ≤ 8) {G : List (List Nat)} (hG : GOk n G) {good al kt pt rf : Nat → Int32} (ha : Holds good G) {kn ks p0 : Int32} (hkn : KnI n G kn ks al kt) {x1 x2 : Int32} {Q : Int32 → Int32 → Int32 → Int32 → (Nat → Int32) → (Nat → Int32) → (Nat → Int32) → (Nat → Int32) → Prop} (h : ∀ ks p0 al kt pt, KnownOk n G ks al kt → Q (ansR (sp_knot n G x1 x2)) 1 ks p0 (rfA rf (sp_knot n G x1 x2)) al kt pt) : q_X5_knot (nI n) (nI G.length) kn ks p0 rf good al kt pt x1 x2 Q := by
  unfold q_X5_knot
  refine m_know h1 hn hG ha hkn (fun ks al kt hO => ?_)
  have hP := KP_KL h1 hn hG
  have hK := hP.2.2.2.2
  have h8 := pow_le8 hn
  have h := fun p0 pt => h ks p0 al kt pt hO
  obtain ⟨ek, hh, hal⟩ := hO
  subst ek
  refine m_isIn (by omega) ?_
  unfold sp_knot at h
  rcases ix_cases x1 (m := (KL n G).length) (by omega) with ⟨k, hk, rfl, e⟩ | ⟨hx, e⟩ | ⟨hx, hx2, e⟩
  · rw [e] at h ⊢
    simp only at h
    refine ⟨fun _ => m_partsOf hn hG hP ha hh hk (fun pt' hpt => ?_), fun q => Bool.noConfusion q⟩
    have hpl8 := ptF_len (KL n G) k (row0 G) 0
    rw [(hG.row _ (row0_mem hG).1).1] at hpl8
    have hmem : ∀ o ∈ ptF (KL n G) k (row0 G) 0, o < k ∧ inA (KL n G) k o = true := fun o ho => ptF_mem _ _ ho
    have hne1 := parts_ne1 hn hP hk
    rw [← parts_count hn hP hk (hG.1 _ (row0_mem hG).1)] at hne1
    have h := h (nI (ptF (KL n G) k (row0 G) 0).length) pt'
    have hgk := kd_get hk
    generalize hpl : ptF (KL n G) k (row0 G) 0 = pl at h hpt hpl8 hmem hne1
    refine ⟨fun z => ⟨vp_in_nI (by omega) (by omega), ?_⟩, fun z => ?_, fun z => ?_, fun z => ⟨vp_in_nI (by omega) (by omega), ?_⟩, fun z => ?_⟩
    · rw [if_pos z] at h
      rw [nI_clamp (by omega), hh k _ hgk]
      exact h
    · rw [if_neg (by rw [z]; decide), if_pos z] at h
      unfold kindF at h
      rw [show (3 : Int32) = nI 3 from rfl, nI_leI (by omega) (by omega)]
      refine ⟨fun q => ?_, fun q => ?_⟩
      · rw [if_neg (by omega), if_neg (by omega)] at h
        have g0 : pl[0]? = some (pl.getD 0 0) := by rw [List.getD_eq_getElem?_getD, List.getElem?_eq_getElem (by omega)]; rfl
        have g1 : pl[1]? = some (pl.getD 1 0) := by rw [List.getD_eq_getElem?_getD, List.getElem?_eq_getElem (by omega)]; rfl
        have m0 := hmem _ (List.mem_of_getElem? g0)
        have m1 := hmem _ (List.mem_of_getElem? g1)
        generalize pl.getD 0 0 = o0 at h g0 m0
        generalize pl.getD 1 0 = o1 at h g1 m1
        have s0 := hP.2.1 _ (kd_mem (K := KL n G) (k := o0) (by omega))
        have s1 := hP.2.1 _ (kd_mem (K := KL n G) (k := o1) (by omega))
        have hor : kd (KL n G) o0 ||| kd (KL n G) o1 < 2 ^ n := Nat.or_lt_two_pow s0.2 s1.2
        have hor0 : kd (KL n G) o0 ||| kd (KL n G) o1 ≠ 0 := fun w => s0.1 (Nat.eq_zero_of_le_zero (by rw [← w]; exact Nat.left_le_or))
        rw [sb_cl0, show Int32.toNatClampNeg 1 = 1 from nI_clamp (n := 1) (by omega), hpt 0 _ g0, hpt 1 _ g1, nI_clamp (show o0 < 2 ^ 31 by omega), nI_clamp (show o1 < 2 ^ 31 by omega), hh o0 _ (kd_get (by omega)), hh o1 _ (kd_get (by omega)), fa_or, nI_clamp (by omega), hal _ hor0 hor, bI_z]
        refine ⟨vp_in_nI (by omega) (by omega), vp_in_nI (by omega) (by omega), vp_in_nI (by omega) (by omega), fun w => ?_, fun w => ?_⟩
        · rw [w] at h; exact h
        · have : fm G (kd (KL n G) o0 ||| kd (KL n G) o1) = true := by cases hb : fm G (kd (KL n G) o0 ||| kd (KL n G) o1) <;> simp_all
          rw [this] at h; exact h
      · have e2 : nI pl.length / 2 = nI (pl.length / 2) := pk_div (d := 2) (by omega) (by omega) (by omega)
        rw [e2]
        by_cases w : pl.length = 0
        · rw [if_pos w] at h
          rw [w] at h ⊢; exact h
        · have w2 : pl.length = 2 := by omega
          rw [if_neg w, if_pos w2] at h
          rw [w2] at h ⊢; exact h
    · rw [if_neg (by rw [z]; decide), if_neg (by rw [z]; decide), if_pos z] at h; exact h
    · rw [if_neg (by rw [z]; decide), if_neg (by rw [z]; decide), if_neg (by rw [z]; decide), if_pos z] at h
      rw [nI_clamp (by omega), hh k _ hgk]
      exact m_aboveB hn hP hh hk h
    · rw [if_neg z.1, if_neg z.2.1, if_neg z.2.2.1, if_neg z.2.2.2] at h
      have i0 := lv_neT z.1 (a := 0) rfl
      have i1 := lv_neT z.2.1 (a := 1) rfl
      have i2 := lv_neT z.2.2.1 (a := 2) rfl
      have i3 := lv_neT z.2.2.2 (a := 3) rfl
      have t3 : (3 : Int32).toInt = 3 := by decide
      have t0 : (0 : Int32).toInt = 0 := by decide
      refine ⟨fun q => ?_, fun q => ⟨fun q2 => ?_, fun q2 => ?_⟩⟩
      · have hneg : x2 < 0 := by rw [fa_le] at q; rw [fa_lt]; omega
        rw [ix_neg4 hneg (by omega)] at h
        exact m_refuse (k := 2) (by omega) (by omega) (by decide) h
      · have hpos : ¬ x2 < 0 := fun w => by rw [fa_lt] at w; rw [fa_le] at q; omega
        have hnone : ix (x2 - 4) pl.length = none := by
          rw [fa_le, nI_toInt (by omega)] at q2
          unfold ix
          rw [if_neg]
          omega
        rw [hnone] at h
        exact m_refuse (k := 2) (by omega) (by omega) (by decide) h
      · have hpos : ¬ x2 < 0 := fun w => by rw [fa_lt] at w; rw [fa_le] at q; omega
        have hsub := sub4 hpos
        rcases ix_cases (x2 - 4) (m := pl.length) (by omega) with ⟨i, hi, e4, e5⟩ | ⟨hy, -⟩ | ⟨-, hy, -⟩
        · rw [e5] at h
          rw [e4]
          refine ⟨vp_in_nI (by omega) (by omega), ?_⟩
          have : pl[i]? = some (pl.getD i 0) := by rw [List.getD_eq_getElem?_getD, List.getElem?_eq_getElem hi]; rfl
          rw [nI_clamp (by omega), hpt i _ this]
          exact h
        · rw [fa_lt, hsub, t0] at hy; rw [fa_le] at q; omega
        · exact absurd hy q2
  · rw [e] at h ⊢
    exact ⟨fun q => Bool.noConfusion q, fun _ => m_refuse (k := 1) (by omega) (by omega) (by decide) (h _ _)⟩
  · rw [e] at h ⊢
    exact ⟨fun q => Bool.noConfusion q, fun _ => m_refuse (k := 1) (by omega) (by omega) (by decide) (h _ _)⟩
theorem m_join {n : Nat} (h1 : 1 ≤ n) (hn : n ≤ 8) {G : List (List Nat)} (hG : GOk n G) {good al kt rf : Nat → Int32} (ha : Holds good G) {kn ks : Int32} (hkn : KnI n G kn ks al kt) {x1 x2 : Int32} {Q : Int32 → Int32 → Int32 → (Nat → Int32) → (Nat → Int32) → (Nat → Int32) → Prop} (h : ∀ kn ks al kt, KnI n G kn ks al kt → Q (ansR (sp_join n G x1 x2)) kn ks (rfA rf (sp_join n G x1 x2)) al kt) : q_X5_join (nI n) (nI G.length) kn ks rf good al kt x1 x2 Q := by
  have hP := KP_KL h1 hn hG
  have hK := hP.2.2.2.2
  have no : sp_join n G x1 x2 = .inl 1 → q_X5_refuse rf ((-1) : Int32) (fun r5 g4 => Q r5 kn ks g4 al kt) := fun e => by
    rw [e] at h
    exact m_refuse (k := 1) (by omega) (by omega) (by decide) (h _ _ _ _ hkn)
  unfold q_X5_join
  refine m_isColumn hn ⟨fun q => no ?_, fun q1 => m_isColumn hn ⟨fun q2 => ?_, fun q => no ?_⟩⟩
  · unfold sp_join
    cases hx : ix x1 n
    · rfl
    · rw [hx] at q; cases q
  · rcases ix_cases x1 (m := n) (by omega) with ⟨a, ha1, rfl, ea⟩ | ⟨_, e⟩ | ⟨_, _, e⟩
    · rcases ix_cases x2 (m := n) (by omega) with ⟨b, hb, rfl, eb⟩ | ⟨_, e⟩ | ⟨_, _, e⟩
      · refine m_know h1 hn hG ha hkn (fun ks al kt hO => ?_)
        have h := h 1 ks al kt (Or.inr ⟨rfl, hO⟩)
        unfold sp_join at h
        rw [ea, eb] at h
        rw [pair_int hn ha1 hb, hO.1] at *
        have := pair_lt ha1 hb
        have := pow_le8 hn
        exact m_above hK hO.2.1 (by omega) (fun t ht => nIs hn (hP.2.1 t ht).2) h
      · rw [e] at q2; cases q2
      · rw [e] at q2; cases q2
    · rw [e] at q1; cases q1
    · rw [e] at q1; cases q1
  · unfold sp_join
    cases hx : ix x2 n
    · cases ix x1 n <;> rfl
    · rw [hx] at q; cases q
