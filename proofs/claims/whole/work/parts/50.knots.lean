/-! KNOTS: how many, and that both sides make the same list. -/
/-- two sets cross -/
def Cr (s t : Nat) : Prop := s &&& t ≠ 0 ∧ s &&& t ≠ s ∧ t &&& s ≠ t
theorem Cr_bits {s t : Nat} : Cr s t ↔ (∃ i, s.testBit i = true ∧ t.testBit i = true) ∧ (∃ i, s.testBit i = true ∧ t.testBit i = false) ∧ (∃ i, t.testBit i = true ∧ s.testBit i = false) := by
  have a : ∀ s t : Nat, s &&& t ≠ 0 ↔ ∃ i, s.testBit i = true ∧ t.testBit i = true := fun s t => by
    constructor
    · intro h
      refine Classical.byContradiction (fun q => h (dis_of (fun i hi => ?_)))
      cases hb : t.testBit i
      · rfl
      · exact absurd ⟨i, hi, hb⟩ q
    · rintro ⟨i, h1, h2⟩ q
      rw [dis_bit q h1] at h2
      cases h2
  have b : ∀ s t : Nat, s &&& t ≠ s ↔ ∃ i, s.testBit i = true ∧ t.testBit i = false := fun s t => by
    constructor
    · intro h
      refine Classical.byContradiction (fun q => h (sub_of (fun i hi => ?_)))
      cases hb : t.testBit i
      · exact absurd ⟨i, hi, hb⟩ q
      · rfl
    · rintro ⟨i, h1, h2⟩ q
      rw [sub_bit q h1] at h2
      cases h2
  unfold Cr
  rw [a, b, b]
theorem low_add {n s : Nat} (hs : s < 2 ^ n) (i : Nat) : (2 ^ n + s).testBit i = (s.testBit i || decide (i = n)) := by
  have e : 2 ^ n + s = 2 ^ n ||| s := by
    rw [Nat.or_comm]
    refine (Nat.add_comm _ _).trans ?_
    refine Nat.eq_of_testBit_eq (fun j => ?_)
    rw [fb_bit_set, Nat.add_comm]
    by_cases q : j = n
    · subst q
      rw [Nat.testBit_two_pow_add_eq, bit_lt hs (Nat.le_refl _)]
      simp
    · rcases Nat.lt_or_ge j n with z | z
      · rw [Nat.testBit_two_pow_add_gt z]
        simp [q]
      · rw [bit_lt hs z, bit_lt (n := n + 1) (by rw [Nat.pow_succ]; omega) (by omega)]
        simp [q]
  rw [e, Nat.or_comm, fb_bit_set]
theorem ct_one {p : Nat → Bool} : ∀ {m : Nat}, (∀ i j, i < m → j < m → p i = true → p j = true → i = j) → fb_ct p m ≤ 1
  | 0, _ => Nat.zero_le _
  | m + 1, h => by
    rw [fb_ct_succ]
    by_cases q : p m = true
    · have : fb_ct p m = 0 := fb_ct_zero.mpr (fun k hk => by
        cases hb : p k
        · rfl
        · have := h k m (by omega) (by omega) hb q
          omega)
      rw [this, if_pos q]
      exact Nat.le_refl _
    · rw [if_neg q]
      have := ct_one (p := p) (m := m) (fun i j hi hj => h i j (by omega) (by omega))
      omega
theorem laminar : ∀ (n : Nat) (F : Nat → Bool), F 0 = false → (∀ s t, s < 2 ^ (n + 1) → t < 2 ^ (n + 1) → F s = true → F t = true → ¬ Cr s t) → fb_ct F (2 ^ (n + 1)) ≤ 2 * n + 1
  | 0, F, h0, _ => by
    show fb_ct F 2 ≤ 1
    rw [fb_ct_succ, fb_ct_succ, h0]
    simp [fb_ct]
    split <;> omega
  | n + 1, F, h0, hl => by
    have hp : 2 ^ (n + 1 + 1) = 2 ^ (n + 1) + 2 ^ (n + 1) := by rw [Nat.pow_succ]; omega
    have hpos : 0 < 2 ^ (n + 1) := Nat.two_pow_pos _
    generalize hM : 2 ^ (n + 1) = M at hpos
    have hlow : ∀ s, s < M → s < 2 ^ (n + 1 + 1) ∧ M + s < 2 ^ (n + 1 + 1) := fun s hs => by rw [hp, hM]; omega
    -- bits of the two copies of a set
    have bl : ∀ s, s < M → ∀ i, (M + s).testBit i = (s.testBit i || decide (i = n + 1)) := fun s hs i => by rw [← hM]; exact low_add (by rw [hM]; exact hs) i
    have bs : ∀ s, s < M → ∀ i, s.testBit i = true → i ≠ n + 1 := fun s hs i hi e => by
      rw [bit_lt (n := n + 1) (by rw [hM]; exact hs) (by omega)] at hi
      cases hi
    let F1 : Nat → Bool := fun s => !decide (s = 0) && (F s || F (M + s))
    let F2 : Nat → Bool := fun s => !decide (s = 0) && (F s && F (M + s))
    have hF1 : fb_ct F1 M ≤ 2 * n + 1 := by
      rw [← hM]
      refine laminar n F1 rfl (fun s t hs ht q1 q2 hc => ?_)
      rw [hM] at hs ht
      have q1 : F s = true ∨ F (M + s) = true := by
        have : (!decide (s = 0) && (F s || F (M + s))) = true := q1
        rw [Bool.and_eq_true, Bool.or_eq_true] at this
        exact this.2
      have q2 : F t = true ∨ F (M + t) = true := by
        have : (!decide (t = 0) && (F t || F (M + t))) = true := q2
        rw [Bool.and_eq_true, Bool.or_eq_true] at this
        exact this.2
      obtain ⟨⟨i1, a1, a2⟩, ⟨i2, b1, b2⟩, ⟨i3, c1, c2⟩⟩ := Cr_bits.mp hc
      have n2 := bs s hs i2 b1
      have n3 := bs t ht i3 c1
      rcases q1 with q1 | q1 <;> rcases q2 with q2 | q2
      · exact hl s t (hlow s hs).1 (hlow t ht).1 q1 q2 hc
      · exact hl s (M + t) (hlow s hs).1 (hlow t ht).2 q1 q2 (Cr_bits.mpr ⟨⟨i1, a1, by rw [bl t ht, a2]; rfl⟩, ⟨i2, b1, by rw [bl t ht, b2]; simp [n2]⟩, ⟨i3, by rw [bl t ht, c1]; rfl, c2⟩⟩)
      · exact hl (M + s) t (hlow s hs).2 (hlow t ht).1 q1 q2 (Cr_bits.mpr ⟨⟨i1, by rw [bl s hs, a1]; rfl, a2⟩, ⟨i2, by rw [bl s hs, b1]; rfl, b2⟩, ⟨i3, c1, by rw [bl s hs, c2]; simp [n3]⟩⟩)
      · exact hl (M + s) (M + t) (hlow s hs).2 (hlow t ht).2 q1 q2 (Cr_bits.mpr ⟨⟨i1, by rw [bl s hs, a1]; rfl, by rw [bl t ht, a2]; rfl⟩, ⟨i2, by rw [bl s hs, b1]; rfl, by rw [bl t ht, b2]; simp [n2]⟩, ⟨i3, by rw [bl t ht, c1]; rfl, by rw [bl s hs, c2]; simp [n3]⟩⟩)
    have two : ∀ s t, s < M → t < M → F2 s = true → F2 t = true → (∀ i, s.testBit i = true → t.testBit i = true) → s = t := by
      intro s t hs ht q1 q2 hsub
      refine Classical.byContradiction (fun hne => ?_)
      have q1 : (!decide (s = 0) && (F s && F (M + s))) = true := q1
      have q2 : (!decide (t = 0) && (F t && F (M + t))) = true := q2
      simp only [Bool.and_eq_true, Bool.not_eq_true', decide_eq_false_iff_not] at q1 q2
      obtain ⟨i1, hi1⟩ := Nat.exists_testBit_of_ne_zero q1.1
      have hx : ∃ i, t.testBit i = true ∧ s.testBit i = false := by
        refine Classical.byContradiction (fun hno => hne (Nat.eq_of_testBit_eq (fun i => ?_)))
        cases h1 : s.testBit i <;> cases h2 : t.testBit i
        · rfl
        · exact absurd ⟨i, h2, h1⟩ hno
        · rw [hsub i h1] at h2; cases h2
        · rfl
      obtain ⟨i3, c1, c2⟩ := hx
      have n3 := bs t ht i3 c1
      refine hl (M + s) t (hlow s hs).2 (hlow t ht).1 q1.2.2 q2.2.1 (Cr_bits.mpr ⟨⟨i1, by rw [bl s hs, hi1]; rfl, hsub i1 hi1⟩, ⟨n + 1, by rw [bl s hs]; simp, ?_⟩, ⟨i3, c1, by rw [bl s hs, c2]; simp [n3]⟩⟩)
      cases hb : t.testBit (n + 1)
      · rfl
      · exact absurd rfl (bs t ht (n + 1) hb)
    have hF2 : fb_ct F2 M ≤ 1 := by
      refine ct_one (fun s t hs ht q1 q2 => ?_)
      have r1 : (!decide (s = 0) && (F s && F (M + s))) = true := q1
      have r2 : (!decide (t = 0) && (F t && F (M + t))) = true := q2
      simp only [Bool.and_eq_true, Bool.not_eq_true', decide_eq_false_iff_not] at r1 r2
      have hnc := hl (M + s) (M + t) (hlow s hs).2 (hlow t ht).2 r1.2.2 r2.2.2
      rw [Cr_bits] at hnc
      by_cases hsub : ∀ i, s.testBit i = true → t.testBit i = true
      · exact two s t hs ht q1 q2 hsub
      · by_cases hsub2 : ∀ i, t.testBit i = true → s.testBit i = true
        · exact (two t s ht hs q2 q1 hsub2).symm
        · refine absurd ⟨⟨n + 1, by rw [bl s hs]; simp, by rw [bl t ht]; simp⟩, ?_, ?_⟩ hnc
          · obtain ⟨i, hi⟩ := Classical.not_forall.mp hsub
            obtain ⟨h1, h2⟩ := Classical.not_imp.mp hi
            have n2 := bs s hs i h1
            exact ⟨i, by rw [bl s hs, h1]; rfl, by rw [bl t ht]; simp [n2]; simpa using h2⟩
          · obtain ⟨i, hi⟩ := Classical.not_forall.mp hsub2
            obtain ⟨h1, h2⟩ := Classical.not_imp.mp hi
            have n2 := bs t ht i h1
            exact ⟨i, by rw [bl t ht, h1]; rfl, by rw [bl s hs]; simp [n2]; simpa using h2⟩
    have sum : ∀ m, fb_ct F m + fb_ct (fun k => F (M + k)) m ≤ 1 + fb_ct F1 m + fb_ct F2 m := by
      intro m
      induction m with
      | zero => simp [fb_ct]
      | succ m ih =>
        rw [fb_ct_succ, fb_ct_succ, fb_ct_succ, fb_ct_succ]
        by_cases hm : m = 0
        · subst hm
          rw [h0]
          simp [fb_ct]
          split <;> omega
        · have e1 : F1 m = (F m || F (M + m)) := by show (!decide (m = 0) && _) = _; simp [hm]
          have e2 : F2 m = (F m && F (M + m)) := by show (!decide (m = 0) && _) = _; simp [hm]
          rw [e1, e2]
          cases F m <;> cases F (M + m) <;> simp <;> omega
    have := sum M
    rw [hp, hM, fb_ct_split]
    omega
/-! the knots of a list of rows -/
/-- a set stands together in each -/
def fm (G : List (List Nat)) (s : Nat) : Bool := G.all (tog s)
def crB (s o : Nat) : Bool := !decide (s &&& o = 0) && (!decide (s &&& o = s) && !decide (o &&& s = o))
theorem crB_iff {s o : Nat} : crB s o = true ↔ Cr s o := by
  unfold crB Cr
  simp
/-- no firm set below i crosses it -/
def unc (G : List (List Nat)) (s : Nat) : Nat → Bool
  | 0 => true
  | i + 1 => unc G s i && !(!decide (i = 0) && fm G i && crB s i)
theorem unc_iff {G : List (List Nat)} {s : Nat} : ∀ {i : Nat}, unc G s i = true ↔ ∀ o, o < i → o ≠ 0 → fm G o = true → ¬ Cr s o
  | 0 => ⟨fun _ o h => absurd h (Nat.not_lt_zero o), fun _ => rfl⟩
  | i + 1 => by
    rw [unc, Bool.and_eq_true, unc_iff]
    constructor
    · rintro ⟨h1, h2⟩ o ho hne hf hc
      by_cases e : o = i
      · subst e
        rw [crB_iff.mpr hc, hf] at h2
        simp [hne] at h2
      · exact h1 o (by omega) hne hf hc
    · intro h
      refine ⟨fun o ho => h o (by omega), ?_⟩
      by_cases e : i = 0
      · simp [e]
      · cases hf : fm G i
        · simp
        · cases hc : crB s i
          · simp
          · exact absurd (crB_iff.mp hc) (h i (by omega) e hf)
def isKn (n : Nat) (G : List (List Nat)) (s : Nat) : Bool := !decide (s = 0) && (fm G s && unc G s (2 ^ n))
theorem isKn_iff {n : Nat} {G : List (List Nat)} {s : Nat} : isKn n G s = true ↔ s ≠ 0 ∧ fm G s = true ∧ ∀ o, o < 2 ^ n → o ≠ 0 → fm G o = true → ¬ Cr s o := by
  unfold isKn
  rw [Bool.and_eq_true, Bool.and_eq_true, unc_iff]
  simp
/-- those of m columns, below i -/
def knI (n : Nat) (G : List (List Nat)) (m i : Nat) : List Nat := (List.range i).filter (fun s => decide (card s = m) && isKn n G s)
/-- those of at most m columns, in their order -/
def knM (n : Nat) (G : List (List Nat)) (m : Nat) : List Nat := cat (fun j => knI n G (j + 1) (2 ^ n)) m
def KL (n : Nat) (G : List (List Nat)) : List Nat := knM n G n
theorem len_range {p : Nat → Bool} : ∀ i : Nat, ((List.range i).filter p).length = fb_ct p i
  | 0 => rfl
  | i + 1 => by
    rw [List.range_succ, List.filter_append, List.length_append, len_range i, fb_ct_succ]
    congr 1
    cases h : p i <;> simp [h]
theorem len_knM (n : Nat) (G : List (List Nat)) : ∀ m : Nat, (knM n G m).length = fb_ct (fun s => decide (card s ≤ m) && (!decide (card s = 0) && isKn n G s)) (2 ^ n)
  | 0 => by
    rw [show (knM n G 0).length = 0 from rfl]
    symm
    refine fb_ct_zero.mpr (fun k _ => ?_)
    by_cases q : card k = 0
    · simp [q]
    · have : ¬ card k ≤ 0 := by omega
      simp [this]
  | m + 1 => by
    have e : knM n G (m + 1) = knM n G m ++ knI n G (m + 1) (2 ^ n) := rfl
    rw [e, List.length_append, len_knM n G m]
    unfold knI
    rw [len_range, ← fb_ct_or]
    · refine fb_ct_cong (fun s _ => ?_)
      by_cases q1 : card s ≤ m
      · have q2 : ¬ card s = m + 1 := by omega
        have q3 : card s ≤ m + 1 := by omega
        simp [q1, q2, q3]
      · by_cases q2 : card s = m + 1
        · simp [q2]
        · have q3 : ¬ card s ≤ m + 1 := by omega
          simp [q1, q2, q3]
    · rintro s _ ⟨h1, h2⟩
      simp only [Bool.and_eq_true, decide_eq_true_iff] at h1 h2
      omega
theorem KL_len {n : Nat} (h1 : 1 ≤ n) (hn : n ≤ 8) (G : List (List Nat)) : (KL n G).length ≤ 15 := by
  unfold KL
  rw [len_knM]
  refine Nat.le_trans (fb_ct_sub (q := isKn n G) (fun s _ h => ?_)) ?_
  · simp only [Bool.and_eq_true] at h
    exact h.2.2
  · have h := laminar (n - 1) (isKn n G) (by simp [isKn]) (fun s t hs ht q1 q2 => ?_)
    · rw [show n - 1 + 1 = n by omega] at h
      omega
    · rw [show n - 1 + 1 = n by omega] at hs ht
      obtain ⟨-, -, h3⟩ := isKn_iff.mp q1
      obtain ⟨t0, tf, -⟩ := isKn_iff.mp q2
      exact h3 t ht t0 tf
