/-! BOTH SIDES MAKE THE KNOTS. -/
def HoldsN (a : Nat → Int32) (L : List Nat) : Prop := ∀ i x, L[i]? = some x → a i = nI x
theorem nar_b (b : Bool) : vp_nar .boolean (bI b) = bI b := by cases b <;> decide
theorem bI_z {b : Bool} : bI b = 0 ↔ b = false := ⟨bI_0, fun h => by rw [h]; rfl⟩
theorem p_crosses {s o : Nat} (hs : s < 256) (ho : o < 256) {Q : Bool → Prop} (h : Q (crB s o)) : q_X3_crosses (nI s) (nI o) Q := by
  unfold q_X3_crosses
  rw [and0 (by omega), andn0 (by omega), andn0 (by omega)]
  unfold crB at h
  refine ⟨fun q => ?_, fun q => ⟨fun q2 => ?_, fun q2 => ⟨fun q3 => ?_, fun q3 => ?_⟩⟩⟩
  · simpa [q] using h
  · simpa [q, q2] using h
  · simpa [q, q2, q3] using h
  · simpa [q, q2, q3] using h
theorem p_isKnot {n : Nat} (h1 : 1 ≤ n) (hn : n ≤ 8) {G : List (List Nat)} {firm : Nat → Int32} (hf : ∀ s, s < 2 ^ n → firm s = bI (fm G s)) {s : Nat} (hs : s < 2 ^ n) (h0 : s ≠ 0) {Q : Bool → Prop} (h : Q (isKn n G s)) : q_X3_isKnot firm (nI s) (nI (2 ^ n - 1)) Q := by
  have h8 := pow_le8 hn
  have hp : 2 ^ 1 ≤ 2 ^ n := Nat.pow_le_pow_right (by omega) h1
  unfold q_X3_isKnot
  refine ⟨vp_in_nI (by omega) (by omega), ?_⟩
  rw [nI_clamp (by omega), hf s hs, bI_z]
  unfold isKn at h
  refine ⟨fun q => ?_, fun q => ?_⟩
  · have hfm : fm G s = true := by cases hx : fm G s <;> simp_all
    rw [hfm, decide_eq_false h0] at h
    simp only [Bool.not_false, Bool.true_and] at h
    refine up1 (fun N x => q_X3_isKnot_L13 (nI s) (nI (2 ^ n - 1)) firm Q N x) (fun i => unc G s i = true ∧ 1 ≤ i) (2 ^ n) ?_ 1 (by omega) ⟨by simp [unc], Nat.le_refl 1⟩
    intro m i hi hI ih
    obtain ⟨hu, hi1⟩ := hI
    rw [q_X3_isKnot_L13]
    refine ⟨fun hc => ?_, fun hc => ?_⟩
    · have e := (full_lt hn hi).mp hc
      rw [← e, hu] at h
      exact h
    · have hlt : i < 2 ^ n := by
        have := mt (full_lt hn hi).mpr hc
        omega
      refine ⟨vp_in_nI (by omega) (by omega), ?_⟩
      rw [nI_clamp (by omega), hf i hlt, bI_z, nI_1]
      refine ⟨fun q2 => ih hlt ⟨by simp [unc, hu, q2], by omega⟩, fun q2 => p_crosses (by omega) (by omega) ⟨fun q3 => ih hlt ⟨by simp [unc, hu, q3], by omega⟩, fun q3 => ?_⟩⟩
      have : unc G s (2 ^ n) = false := Bool.eq_false_iff.mpr (fun z => unc_iff.mp z i hlt (by omega) (by cases hx : fm G i <;> simp_all) (crB_iff.mp q3))
      rw [this] at h
      exact h
  · rw [q, decide_eq_false h0] at h
    exact h
theorem knI_1 (n : Nat) (G : List (List Nat)) (m : Nat) : knI n G m 1 = [] := by simp [knI, isKn]
theorem knI_succ (n : Nat) (G : List (List Nat)) (m i : Nat) : knI n G m (i + 1) = knI n G m i ++ (if (decide (card i = m) && isKn n G i) then [i] else []) := by
  unfold knI
  rw [List.range_succ, List.filter_append]
  congr 1
  cases h : (decide (card i = m) && isKn n G i) <;> simp [List.filter_cons, h]
theorem kn_len {n : Nat} (h1 : 1 ≤ n) (hn : n ≤ 8) (G : List (List Nat)) {j i : Nat} (hj : j < n) (hi : i ≤ 2 ^ n) : (knM n G j ++ knI n G (j + 1) i).length ≤ 15 := by
  refine Nat.le_trans ?_ (KL_len h1 hn G)
  have a := len_cat_le (fun j => knI n G (j + 1) (2 ^ n)) (show j + 1 ≤ n by omega)
  have b : (knI n G (j + 1) i).length ≤ (knI n G (j + 1) (2 ^ n)).length := by
    unfold knI
    rw [len_range, len_range]
    exact fb_ct_mono _ hi
  have c : cat (fun j => knI n G (j + 1) (2 ^ n)) (j + 1) = knM n G j ++ knI n G (j + 1) (2 ^ n) := rfl
  rw [c, List.length_append] at a
  rw [List.length_append]
  exact Nat.le_trans (by omega) a
theorem HoldsN.push {a : Nat → Int32} {L : List Nat} (h : HoldsN a L) (x : Nat) : HoldsN (upd a L.length (nI x)) (L ++ [x]) := fun i y hy => by
  by_cases e : i = L.length
  · subst e
    rw [pk_us]
    simp at hy
    rw [hy]
  · rw [pk_un e]
    rw [List.getElem?_append] at hy
    split at hy
    · exact h i y hy
    · rw [List.getElem?_eq_none (by simp; omega)] at hy
      cases hy
theorem p_addKnots {n : Nat} (h1 : 1 ≤ n) (hn : n ≤ 8) {G : List (List Nat)} {firm sets : Nat → Int32} (hf : ∀ s, s < 2 ^ n → firm s = bI (fm G s)) {j : Nat} (hj : j < n) (hs : HoldsN sets (knM n G j)) {Q : Int32 → (Nat → Int32) → Prop} (h : ∀ sets', HoldsN sets' (knM n G (j + 1)) → Q (nI (knM n G (j + 1)).length) sets') : q_X3_addKnots (nI (knM n G j).length) sets firm (nI (j + 1)) (nI (2 ^ n - 1)) Q := by
  have h8 := pow_le8 hn
  have hp : 2 ^ 1 ≤ 2 ^ n := Nat.pow_le_pow_right (by omega) h1
  refine up3 (fun N x a b => q_X3_addKnots_L2 (nI (j + 1)) (nI (2 ^ n - 1)) firm Q N x a b) (fun i a b => 1 ≤ i ∧ a = nI (knM n G j ++ knI n G (j + 1) i).length ∧ HoldsN b (knM n G j ++ knI n G (j + 1) i)) (2 ^ n) ?_ 1 _ sets (by omega) ⟨Nat.le_refl 1, by rw [knI_1, List.append_nil], by rw [knI_1, List.append_nil]; exact hs⟩
  intro m i a b hi hI ih
  obtain ⟨hi1, rfl, hb⟩ := hI
  rw [q_X3_addKnots_L2]
  refine ⟨fun hc => ?_, fun hc => ?_⟩
  · have e := (full_lt hn hi).mp hc
    subst e
    exact h b hb
  · have hlt : i < 2 ^ n := by
      have := mt (full_lt hn hi).mpr hc
      omega
    have hc8 : card i ≤ 8 := card_le 8 (by omega) i (by omega)
    have hl15 := kn_len h1 hn G hj hi
    have hl15' := kn_len h1 hn G hj (show i + 1 ≤ 2 ^ n by omega)
    rw [knI_succ] at hl15'
    have hno : (decide (card i = j + 1) && isKn n G i) = false → q_X3_addKnots_L2 (nI (j + 1)) (nI (2 ^ n - 1)) firm Q m (nI (i + 1)) (nI (knM n G j ++ knI n G (j + 1) i).length) b := fun hq => by
      have e : knM n G j ++ knI n G (j + 1) i = knM n G j ++ knI n G (j + 1) (i + 1) := by rw [knI_succ, hq]; simp
      rw [e] at hb ⊢
      exact ih _ _ hlt ⟨by omega, rfl, hb⟩
    rw [nI_1]
    refine p_bitCount (by omega) ?_
    rw [nI_eq (by omega) (by omega)]
    refine ⟨fun q => hno (by simp [q]), fun q => p_isKnot h1 hn hf hlt (by omega) ⟨fun q2 => hno (by simp [q2]), fun q2 => ?_⟩⟩
    have hyes : (decide (card i = j + 1) && isKn n G i) = true := by simp [q, q2]
    rw [hyes, if_pos rfl, ← List.append_assoc, List.length_append, List.length_singleton] at hl15'
    rw [show (15 : Int32) = nI 15 from rfl, nI_leI (by omega) (by omega)]
    refine ⟨fun q3 => by omega, fun _ => ⟨vp_in_nI (by omega) (by omega), ?_⟩⟩
    rw [nI_clamp (by omega), nI_1]
    have e : (knM n G j ++ knI n G (j + 1) i) ++ [i] = knM n G j ++ knI n G (j + 1) (i + 1) := by rw [knI_succ, hyes, if_pos rfl, List.append_assoc]
    have hpush := hb.push i
    rw [e] at hpush
    refine ih _ _ hlt ⟨by omega, ?_, hpush⟩
    rw [← e]
    exact congrArg nI (List.length_append (as := knM n G j ++ knI n G (j + 1) i) (bs := [i])).symm
/-- the first knot of a list that has all of a set -/
def laL (s : Nat) : List Nat → Nat → Int32
  | [], _ => -9
  | t :: L, j => if s &&& t = s then nI j else laL s L (j + 1)
theorem p_leastAround {K : List Nat} (hK : K.length ≤ 15) {sets : Nat → Int32} (hs : HoldsN sets K) {s i0 : Nat} (hs8 : s < 256) (hi0 : i0 ≤ K.length) {Q : Int32 → Prop} (h : Q (laL s (K.drop i0) i0)) : q_X3_leastAround (nI K.length) sets (nI s) (nI i0) Q := by
  refine up1 (fun N x => q_X3_leastAround_L2 (nI s) (nI K.length) sets Q N x) (fun i => laL s (K.drop i0) i0 = laL s (K.drop i) i) K.length ?_ i0 hi0 rfl
  intro m i hi hI ih
  rw [q_X3_leastAround_L2]
  refine ⟨fun hx => ?_, fun hx => ⟨?_, ?_⟩⟩
  · rw [nI_leI (by omega) (by omega)] at hx
    rw [List.drop_of_length_le hx] at hI
    rw [hI] at h
    exact h
  · rw [nI_leI (by omega) (by omega)] at hx
    exact vp_in_nI (by omega) (by omega)
  · rw [nI_leI (by omega) (by omega)] at hx
    have hlt : i < K.length := by omega
    rw [nI_clamp (by omega), hs i _ (List.getElem?_eq_getElem hlt), andn0 (by omega), nI_1]
    rw [List.drop_eq_getElem_cons hlt, laL] at hI
    refine ⟨fun q => ih hlt ?_, fun q => ?_⟩
    · rw [if_neg q] at hI; exact hI
    · rw [if_pos q] at hI; rw [hI] at h; exact h
/-- the tree as the class holds it -/
def TreeOk (n : Nat) (G : List (List Nat)) (size cols : Int32) (sets above firm first : Nat → Int32) : Prop := size = nI (KL n G).length ∧ cols = nI n ∧ HoldsN sets (KL n G) ∧ (∀ k s, (KL n G)[k]? = some s → above k = laL s ((KL n G).drop (k + 1)) (k + 1)) ∧ (∀ s, s < 2 ^ n → firm s = bI (fm G s)) ∧ ∀ p, p < n → first p = nI ((G.getD 0 []).getD p 0)
theorem KL_lt {n : Nat} (G : List (List Nat)) {s : Nat} (h : s ∈ KL n G) : s < 2 ^ n ∧ isKn n G s = true := by
  obtain ⟨j, hj, hm⟩ := mem_cat.mp h
  obtain ⟨h1, h2⟩ := List.mem_filter.mp hm
  rw [Bool.and_eq_true] at h2
  exact ⟨List.mem_range.mp h1, h2.2⟩
theorem fm_along {n : Nat} (hn : n ≤ 8) {G : List (List Nat)} (hG : ∀ l ∈ G, l ∈ P n) {s : Nat} (hs : s < 2 ^ n) : fm G s = true ↔ ∀ l ∈ G, along (okS s) 0 l = true := by
  unfold fm
  rw [List.all_eq_true]
  exact ⟨fun h l hl => by rw [← tog_along hn hs (hG l hl)]; exact h l hl, fun h l hl => by rw [tog_along hn hs (hG l hl)]; exact h l hl⟩
theorem p_grow {n : Nat} (h1 : 1 ≤ n) (hn : n ≤ 8) {f w p2 : Nat → Int32} {G : List (List Nat)} (hR : Rw n f w G) (hG : GOk n G) (hp2 : ∀ j, j < n → p2 j = nI ((G.getD 0 []).getD j 0)) {c1 c2 : Int32} {sets above firm first : Nat → Int32} {Q : Int32 → Int32 → (Nat → Int32) → (Nat → Int32) → (Nat → Int32) → (Nat → Int32) → Prop} (h : ∀ size cols sets' above' firm' first', TreeOk n G size cols sets' above' firm' first' → Q size cols sets' above' firm' first') : q_X3_grow c1 c2 sets above firm first (nI n) (nI (2 ^ n - 1)) f p2 Q := by
  have h8 := pow_le8 hn
  have hp0 : 2 ^ 1 ≤ 2 ^ n := Nat.pow_le_pow_right (by omega) h1
  have hK := KL_len h1 hn G
  obtain ⟨hg, hp, -, -, hl⟩ := hR
  refine up2 (fun N x a => q_X3_grow_L10 (nI n) sets above firm (nI (2 ^ n - 1)) f p2 Q N x a) (fun i a => ∀ j, j < i → a j = nI ((G.getD 0 []).getD j 0)) n ?_ 0 first (Nat.zero_le _) (fun j hj => absurd hj (Nat.not_lt_zero j))
  intro m i first hi hI ih
  rw [q_X3_grow_L10]
  refine ⟨fun hx => ?_, fun hx => ⟨?_, ?_⟩⟩
  · rw [nI_leI (by omega) (by omega)] at hx
    have e : i = n := by omega
    subst e
    clear ih
    refine up2 (fun N x a => q_X3_grow_L35 (nI i) sets above first (nI (2 ^ i - 1)) f Q N x a) (fun s a => ∀ t, t < s → a t = bI (fm G t)) (2 ^ i) ?_ 0 firm (Nat.zero_le _) (fun t ht => absurd ht (Nat.not_lt_zero t))
    intro m2 s firm hs hS ih2
    rw [q_X3_grow_L35]
    refine ⟨fun hc => ?_, fun hc => ?_⟩
    · have e := (full_lt hn hs).mp hc
      subst e
      clear ih2
      unfold q_X3_grow_J60
      have key : ∀ (m3 j : Nat) (size : Int32) (sets : Nat → Int32), j + m3 = i → size = nI (knM i G j).length → HoldsN sets (knM i G j) → q_X3_grow_L67 (nI i) above firm first (nI (2 ^ i - 1)) Q (m3 + 1) (nI (j + 1)) size sets := by
        intro m3
        induction m3 with
        | zero =>
          intro j size sets hj hsz hh
          have e : j = i := by omega
          subst e
          rw [q_X3_grow_L67]
          refine ⟨fun _ => ?_, fun q => absurd (nI_lt (by omega) (by omega)) q⟩
          unfold q_X3_grow_J90
          subst hsz
          refine up2 (fun N x a => q_X3_grow_L92 (nI (KL j G).length) (nI j) sets firm first Q N x a) (fun k a => ∀ t s, t < k → (KL j G)[t]? = some s → a t = laL s ((KL j G).drop (t + 1)) (t + 1)) (KL j G).length ?_ 0 above (Nat.zero_le _) (fun t s ht => absurd ht (Nat.not_lt_zero t))
          intro m4 k ab hk hKk ih4
          rw [q_X3_grow_L92]
          refine ⟨fun hx => ?_, fun hx => ⟨?_, ?_⟩⟩
          · rw [nI_leI (by omega) (by omega)] at hx
            refine h _ _ _ _ _ _ ⟨rfl, rfl, hh, fun t s ht => hKk t s (Nat.lt_of_lt_of_le (List.getElem?_eq_some_iff.mp ht).1 hx) ht, hS, hI⟩
          · rw [nI_leI (by omega) (by omega)] at hx
            exact vp_in_nI (by omega) (by omega)
          · rw [nI_leI (by omega) (by omega)] at hx
            have hlt : k < (KL j G).length := by omega
            have hgk := List.getElem?_eq_getElem hlt
            rw [nI_clamp (by omega), hh k _ hgk, nI_1]
            have hs2 := (KL_lt G (List.getElem_mem hlt)).1
            refine p_leastAround hK hh (by omega) (by omega) (ih4 _ hlt (fun t s ht hts => ?_))
            by_cases e : t = k
            · subst e
              rw [hgk] at hts
              cases hts
              exact pk_us
            · rw [pk_un e]
              exact hKk t s (by omega) hts
        | succ m3 ih3 =>
          intro j size sets hj hsz hh
          subst hsz
          rw [q_X3_grow_L67]
          refine ⟨fun q => absurd q (nI_nlt (by omega) (by omega)), fun _ => ?_⟩
          rw [nI_1]
          exact p_addKnots h1 hn hS (by omega) hh (fun sets' hs' => ih3 (j + 1) _ _ (by omega) rfl hs')
      exact ⟨i + 1, key i 0 0 sets (by omega) rfl (fun t x ht => by simp [knM, cat] at ht)⟩
    · have hlt : s < 2 ^ i := by
        have := mt (full_lt hn hs).mpr hc
        omega
      refine p_alwaysTogether hn hg hp hl hlt (fun b hb => ⟨vp_in_nI (by omega) (by omega), ?_⟩)
      have eb : b = fm G s := by
        have hf := fm_along hn hG.1 hlt
        cases hx : fm G s
        · refine Bool.eq_false_iff.mpr (fun z => ?_)
          rw [hf.mpr (hb.mp z)] at hx; cases hx
        · exact hb.mpr (hf.mp hx)
      rw [nI_clamp (by omega), nI_1, nar_b, eb]
      refine ih2 _ hlt (fun t ht => ?_)
      by_cases e : t = s
      · subst e; exact pk_us
      · rw [pk_un e]; exact hS t (by omega)
  · rw [nI_leI (by omega) (by omega)] at hx
    exact vp_in_nI (by omega) (by omega)
  · rw [nI_leI (by omega) (by omega)] at hx
    rw [nI_clamp (by omega), nI_1, hp2 i (by omega)]
    refine ih _ (by omega) (fun j hj => ?_)
    by_cases e : j = i
    · subst e; exact pk_us
    · rw [pk_un e]; exact hI j (by omega)
/-! the reference -/
def KnownOk (n : Nat) (G : List (List Nat)) (knots : Int32) (always knot : Nat → Int32) : Prop := knots = nI (KL n G).length ∧ HoldsN knot (KL n G) ∧ ∀ s, s ≠ 0 → s < 2 ^ n → always s = bI (fm G s)
theorem m_isCrossed {n : Nat} (h1 : 1 ≤ n) (hn : n ≤ 8) {G : List (List Nat)} {al : Nat → Int32} (hf : ∀ s, s ≠ 0 → s < 2 ^ n → al s = bI (fm G s)) {s : Nat} (hs : s < 2 ^ n) {Q : Bool → Prop} (h : Q (!unc G s (2 ^ n))) : q_X5_isCrossed al (nI s) (nI (2 ^ n)) Q := by
  have h8 := pow_le8 hn
  have hp : 2 ^ 1 ≤ 2 ^ n := Nat.pow_le_pow_right (by omega) h1
  refine up1 (fun N x => q_X5_isCrossed_L2 (nI s) (nI (2 ^ n)) al Q N x) (fun i => unc G s i = true ∧ 1 ≤ i) (2 ^ n) ?_ 1 (by omega) ⟨by simp [unc], Nat.le_refl 1⟩
  intro m i hi hI ih
  obtain ⟨hu, hi1⟩ := hI
  rw [q_X5_isCrossed_L2]
  refine ⟨fun hc => ?_, fun hc => ?_⟩
  · rw [nI_leI (by omega) (by omega)] at hc
    have e : i = 2 ^ n := by omega
    rw [← e, hu] at h
    exact h
  · rw [nI_leI (by omega) (by omega)] at hc
    have hlt : i < 2 ^ n := by omega
    refine ⟨vp_in_nI (by omega) (by omega), ?_⟩
    rw [nI_clamp (by omega), hf i (by omega) hlt, bI_z, nI_1, and0 (by omega), andn0 (by omega), andn0 (by omega)]
    have hfm : ¬ fm G i = false → fm G i = true := fun q => by cases hx : fm G i <;> simp_all
    refine ⟨fun q2 => ih hlt ⟨by simp [unc, hu, q2], by omega⟩, fun q2 => ⟨fun q3 => ih hlt ⟨by simp [unc, hu, crB, q3], by omega⟩, fun q3 => ⟨fun q4 => ih hlt ⟨by simp [unc, hu, crB, q4], by omega⟩, fun q4 => ⟨fun q5 => ih hlt ⟨by simp [unc, hu, crB, q5], by omega⟩, fun q5 => ?_⟩⟩⟩⟩
    have : unc G s (2 ^ n) = false := Bool.eq_false_iff.mpr (fun z => unc_iff.mp z i hlt (by omega) (hfm q2) ⟨q3, q4, q5⟩)
    rw [this] at h
    exact h
theorem m_know {n : Nat} (h1 : 1 ≤ n) (hn : n ≤ 8) {G : List (List Nat)} (hG : GOk n G) {good al kt : Nat → Int32} (ha : Holds good G) {kn ks : Int32} (hkn : kn = 0 ∨ (kn = 1 ∧ KnownOk n G ks al kt)) {Q : Int32 → Int32 → (Nat → Int32) → (Nat → Int32) → Prop} (h : ∀ ks' al' kt', KnownOk n G ks' al' kt' → Q 1 ks' al' kt') : q_X5_know (nI n) (nI G.length) kn ks good al kt Q := by
  have h8 := pow_le8 hn
  have hp0 : 2 ^ 1 ≤ 2 ^ n := Nat.pow_le_pow_right (by omega) h1
  have hlen := hG.2.2.1
  unfold q_X5_know
  rcases hkn with e | ⟨e, hok⟩
  · refine ⟨fun _ => ?_, fun q => absurd e q⟩
    intro x1 e1
    rw [one_shl n (by omega)] at e1
    subst e1
    refine up2 (fun N x a => q_X5_know_L22 (nI (2 ^ n)) (nI n) (nI G.length) 1 good kt Q N x a) (fun s a => 1 ≤ s ∧ ∀ t, t ≠ 0 → t < s → a t = bI (fm G t)) (2 ^ n) ?_ 1 al (by omega) ⟨Nat.le_refl 1, fun t h1 h2 => by omega⟩
    intro m s al hs hS ih
    obtain ⟨hs1, hS⟩ := hS
    rw [q_X5_know_L22]
    refine ⟨fun hc => ?_, fun hc => ?_⟩
    · rw [nI_leI (by omega) (by omega)] at hc
      have e : s = 2 ^ n := by omega
      subst e
      clear ih
      unfold q_X5_know_J44
      have key : ∀ (m3 j : Nat) (ks : Int32) (kt : Nat → Int32), j + m3 = n → ks = nI (knM n G j).length → HoldsN kt (knM n G j) → q_X5_know_L51 (nI (2 ^ n)) (nI n) 1 al Q (m3 + 1) (nI (j + 1)) ks kt := by
        intro m3
        induction m3 with
        | zero =>
          intro j ks kt hj hsz hh
          have e : j = n := by omega
          subst e
          rw [q_X5_know_L51]
          refine ⟨fun _ => h _ _ _ ⟨hsz, hh, fun t h1 h2 => hS t h1 h2⟩, fun q => absurd (nI_lt (by omega) (by omega)) q⟩
        | succ m3 ih3 =>
          intro j ks kt hj hsz hh
          subst hsz
          rw [q_X5_know_L51]
          refine ⟨fun q => absurd q (nI_nlt (by omega) (by omega)), fun _ => ?_⟩
          refine up3 (fun N x a b => q_X5_know_L61 (nI (2 ^ n)) (nI (j + 1)) al (fun y0 y1 y2 => q_X5_know_L51 (nI (2 ^ n)) (nI n) 1 al Q (m3 + 1) y0 y1 y2) N x a b) (fun i a b => 1 ≤ i ∧ a = nI (knM n G j ++ knI n G (j + 1) i).length ∧ HoldsN b (knM n G j ++ knI n G (j + 1) i)) (2 ^ n) ?_ 1 _ kt (by omega) ⟨Nat.le_refl 1, by rw [knI_1, List.append_nil], by rw [knI_1, List.append_nil]; exact hh⟩
          intro m4 i a b hi hI ih4
          obtain ⟨hi1, rfl, hb⟩ := hI
          rw [q_X5_know_L61]
          refine ⟨fun hc => ?_, fun hc => ?_⟩
          · rw [nI_leI (by omega) (by omega)] at hc
            have e : i = 2 ^ n := by omega
            subst e
            rw [nI_1]
            exact ih3 (j + 1) _ _ (by omega) rfl hb
          · rw [nI_leI (by omega) (by omega)] at hc
            have hlt : i < 2 ^ n := by omega
            have hc8 : card i ≤ 8 := card_le 8 (by omega) i (by omega)
            have hl15 := kn_len h1 hn G (show j < n by omega) hi
            have hno : (decide (card i = j + 1) && isKn n G i) = false → q_X5_know_L61 (nI (2 ^ n)) (nI (j + 1)) al (fun y0 y1 y2 => q_X5_know_L51 (nI (2 ^ n)) (nI n) 1 al Q (m3 + 1) y0 y1 y2) m4 (nI (i + 1)) (nI (knM n G j ++ knI n G (j + 1) i).length) b := fun hq => by
              have e : knM n G j ++ knI n G (j + 1) i = knM n G j ++ knI n G (j + 1) (i + 1) := by rw [knI_succ, hq]; simp
              rw [e] at hb ⊢
              exact ih4 _ _ hlt ⟨by omega, rfl, hb⟩
            rw [nI_1 i]
            refine p_bits (by omega) ?_
            rw [nI_eq (by omega) (by omega)]
            refine ⟨fun q => hno (by simp [q]), fun q => ⟨vp_in_nI (by omega) (by omega), ?_⟩⟩
            rw [nI_clamp (by omega), hS i (by omega) hlt, bI_z]
            refine ⟨fun q2 => hno (by simp [isKn, q2]), fun q2 => ?_⟩
            have hfm : fm G i = true := by cases hx : fm G i <;> simp_all
            have hi0 : i ≠ 0 := by omega
            refine m_isCrossed h1 hn hS hlt ⟨fun q3 => ⟨vp_in_nI (by omega) (by omega), ?_⟩, fun q3 => hno ?_⟩
            · have hu : unc G i (2 ^ n) = true := by simpa using q3
              have hyes : (decide (card i = j + 1) && isKn n G i) = true := by simp [q, isKn, hfm, hu, hi0]
              rw [nI_clamp (by omega), nI_1]
              have e : (knM n G j ++ knI n G (j + 1) i) ++ [i] = knM n G j ++ knI n G (j + 1) (i + 1) := by rw [knI_succ, hyes, if_pos rfl, List.append_assoc]
              have hpush := hb.push i
              rw [e] at hpush
              refine ih4 _ _ hlt ⟨by omega, ?_, hpush⟩
              rw [← e]
              exact congrArg nI (List.length_append (as := knM n G j ++ knI n G (j + 1) i) (bs := [i])).symm
            · have hu : unc G i (2 ^ n) = false := by simpa using q3
              simp [isKn, hu]
      exact ⟨n + 1, key n 0 0 kt (by omega) rfl (fun t x ht => by simp [knM, cat] at ht)⟩
    · rw [nI_leI (by omega) (by omega)] at hc
      have hlt : s < 2 ^ n := by omega
      refine p_isAlways hn hG.row hlen ha ⟨vp_in_nI (by omega) (by omega), ?_⟩
      rw [nI_clamp (by omega), nI_1, nar_b]
      refine ih _ hlt ⟨by omega, fun t ht0 ht => ?_⟩
      by_cases e : t = s
      · subst e; exact pk_us
      · rw [pk_un e]; exact hS t ht0 (by omega)
  · subst e
    exact ⟨fun q => absurd q (by decide), fun _ => h _ _ _ hok⟩
