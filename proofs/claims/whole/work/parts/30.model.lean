/-! THE REFERENCE'S ROWS: numbers of 4 bits a column; runs; what it filters and counts. -/
def encF (r : Nat) (l : List Nat) : Nat := l.foldl (fun r c => r * 16 + c) r
def enc (l : List Nat) : Nat := encF 0 l
theorem encF_cons (r c : Nat) (l : List Nat) : encF r (c :: l) = encF (r * 16 + c) l := rfl
theorem encF_app (r : Nat) (l1 l2 : List Nat) : encF r (l1 ++ l2) = encF (encF r l1) l2 := by unfold encF; rw [List.foldl_append]
theorem encF_lt : ∀ (l : List Nat) (r : Nat), (∀ c ∈ l, c < 16) → encF r l < (r + 1) * 2 ^ (4 * l.length)
  | [], r, _ => by simp [encF]
  | c :: l, r, h => by
    have h1 := encF_lt l (r * 16 + c) (fun d hd => h d (List.mem_cons_of_mem _ hd))
    have h2 := h c List.mem_cons_self
    rw [encF_cons, List.length_cons, show 4 * (l.length + 1) = 4 * l.length + 4 by omega, Nat.pow_add]
    refine Nat.lt_of_lt_of_le h1 ?_
    rw [Nat.mul_comm (2 ^ (4 * l.length)) (2 ^ 4), ← Nat.mul_assoc]
    exact Nat.mul_le_mul_right _ (by omega)
theorem encF_div : ∀ (l : List Nat) (r : Nat), (∀ c ∈ l, c < 16) → encF r l / 2 ^ (4 * l.length) = r
  | [], r, _ => by simp [encF]
  | c :: l, r, h => by
    have h1 := encF_div l (r * 16 + c) (fun d hd => h d (List.mem_cons_of_mem _ hd))
    have h2 := h c List.mem_cons_self
    rw [encF_cons, List.length_cons, show 4 * (l.length + 1) = 4 * l.length + 4 by omega, Nat.pow_add, ← Nat.div_div_eq_div_mul, h1]
    omega
/-- a row of n columns -/
def Row (n : Nat) (l : List Nat) : Prop := l.length = n ∧ (∀ c ∈ l, c < n) ∧ l.Nodup
theorem Row.small {n : Nat} {l : List Nat} (h : Row n l) (hn : n ≤ 8) : ∀ c ∈ l, c < 8 := fun c hc => Nat.lt_of_lt_of_le (h.2.1 c hc) hn
theorem enc_lt {n : Nat} (hn : n ≤ 8) {l : List Nat} (h : Row n l) : enc l < 2 ^ 31 := by
  have hs := h.small hn
  have hlen := h.1
  cases l with
  | nil => simp [enc, encF]
  | cons c l =>
    have h1 := encF_lt l c (fun d hd => by have := hs d (List.mem_cons_of_mem _ hd); omega)
    have h2 := hs c List.mem_cons_self
    rw [List.length_cons] at hlen
    show encF 0 (c :: l) < _
    rw [encF_cons, show 0 * 16 + c = c by omega]
    refine Nat.lt_of_lt_of_le h1 ?_
    have h3 : 2 ^ (4 * l.length) ≤ 2 ^ 28 := Nat.pow_le_pow_right (by omega) (by omega)
    exact Nat.le_trans (Nat.mul_le_mul (show c + 1 ≤ 8 by omega) h3) (by decide)
theorem enc_dig {n : Nat} (hn : n ≤ 8) {l : List Nat} (h : Row n l) {p : Nat} (hp : p < n) : enc l / 2 ^ (4 * (n - 1 - p)) % 16 = l.getD p 0 := by
  have hs := h.small hn
  have hlen := h.1
  have e1 : l = l.take (p + 1) ++ l.drop (p + 1) := (List.take_append_drop _ _).symm
  have e2 : l.take (p + 1) = l.take p ++ [l.getD p 0] := by
    rw [List.take_succ]
    congr 1
    rw [List.getD_eq_getElem?_getD, List.getElem?_eq_getElem (by omega)]
    rfl
  have hd : (l.drop (p + 1)).length = n - 1 - p := by rw [List.length_drop]; omega
  have hmem : l.getD p 0 < 8 := by
    rw [List.getD_eq_getElem?_getD, List.getElem?_eq_getElem (by omega)]
    exact hs _ (List.getElem_mem _)
  have e3 : enc l = encF (encF 0 (l.take p) * 16 + l.getD p 0) (l.drop (p + 1)) := by
    unfold enc
    conv => lhs; rw [e1, encF_app, e2, encF_app]
    rfl
  rw [e3, ← hd, encF_div _ _ (fun c hc => by have := hs c (List.mem_of_mem_drop hc); omega)]
  omega
theorem p_columnAt {n : Nat} (hn : n ≤ 8) {l : List Nat} (hl : Row n l) {p : Nat} (hp : p < n) {Q : Int32 → Prop} (h : Q (nI (l.getD p 0))) : q_X5_columnAt (nI n) (nI (enc l)) (nI p) Q := by
  unfold q_X5_columnAt
  have e : (4 : Int32) * ((nI n - 1) - nI p) = nI (4 * (n - 1 - p)) := by
    rw [show nI n - 1 = nI (n - 1) from pk_sub (b := 1) (by omega), pk_sub (by omega), show (4 : Int32) = nI 4 from rfl, pk_mul]
  have hlt := enc_lt hn hl
  rw [e, pk_shrN hlt _ (4 * (n - 1 - p)) (s_l _ (by omega)), pk_andN (Nat.lt_of_le_of_lt (Nat.div_le_self _ _) (by omega)) (m := 15) 4 (by decide), enc_dig hn hl hp]
  exact h
theorem getD_mem {l : List Nat} {p : Nat} (hp : p < l.length) : l.getD p 0 ∈ l := by
  rw [List.getD_eq_getElem?_getD, List.getElem?_eq_getElem hp]
  exact List.getElem_mem _
theorem p_placeOf {n : Nat} (hn : n ≤ 8) {l : List Nat} (hl : Row n l) {c : Nat} (hc : c ∈ l) {Q : Int32 → Prop} (h : Q (nI (l.idxOf c))) : q_X5_placeOf (nI n) (nI (enc l)) (nI c) Q := by
  have hlt : l.idxOf c < l.length := List.idxOf_lt_length_iff.mpr hc
  have hlen := hl.1
  have hc8 := hl.small hn c hc
  refine up1 (fun N x => q_X5_placeOf_L2 (nI (enc l)) (nI c) (nI n) Q N x) (fun _ => True) (l.idxOf c) ?_ 0 (Nat.zero_le _) trivial
  intro m i hi _ ih
  rw [q_X5_placeOf_L2]
  refine p_columnAt hn hl (by omega) ?_
  have hm := hl.small hn _ (getD_mem (l := l) (p := i) (by omega))
  rw [nI_eq (by omega) (by omega), nI_1]
  refine ⟨fun e => ?_, fun e => ih ?_ trivial⟩
  · have : l.idxOf c = i := by
      have hil : i < l.length := by omega
      have h1 : l[i]'hil = c := by
        have e' := e
        rw [List.getD_eq_getElem?_getD, List.getElem?_eq_getElem hil] at e'
        exact e'
      have h2 := List.Nodup.idxOf_getElem hl.2.2 i hil
      rw [h1] at h2
      exact h2
    rw [this] at h
    exact h
  · rcases Nat.lt_or_eq_of_le hi with q | q
    · exact q
    · refine absurd ?_ e
      rw [q, List.getD_eq_getElem?_getD, List.getElem?_eq_getElem hlt]
      exact List.getElem_idxOf hlt
/-- how many times a set begins anew along a row -/
def runsF (s : Nat) : Bool → List Nat → Nat
  | _, [] => 0
  | on, c :: l => (if s.testBit c && !on then 1 else 0) + runsF s (s.testBit c) l
theorem runsF_le (s : Nat) : ∀ (l : List Nat) (on : Bool), runsF s on l ≤ l.length
  | [], _ => Nat.le_refl 0
  | c :: l, on => by
    have := runsF_le s l (s.testBit c)
    rw [runsF, List.length_cons]
    split <;> omega
theorem p_runs {n : Nat} (hn : n ≤ 8) {l : List Nat} (hl : Row n l) {s : Nat} {Q : Int32 → Prop} (h : Q (nI (runsF s false l))) : q_X5_runs (nI n) (nI (enc l)) (nI s) Q := by
  have hlen := hl.1
  have hrl := runsF_le s l false
  refine up3 (fun N x a b => q_X5_runs_L8 (nI (enc l)) (nI s) (nI n) Q N a b x) (fun p a b => ∃ (k : Nat) (on : Bool), a = nI k ∧ b = bI on ∧ k + runsF s on (l.drop p) = runsF s false l) n ?_ 0 0 0 (Nat.zero_le _) ⟨0, false, rfl, rfl, by simp⟩
  intro m p a b hp hI ih
  obtain ⟨k, on, rfl, rfl, hk⟩ := hI
  rw [q_X5_runs_L8]
  refine ⟨fun hx => ?_, fun hx => ?_⟩
  · rw [nI_leI (by omega) (by omega)] at hx
    have e : p = n := by omega
    subst e
    rw [List.drop_of_length_le (by omega), runsF] at hk
    rw [show k = runsF s false l by omega]
    exact h
  · rw [nI_leI (by omega) (by omega)] at hx
    refine p_columnAt hn hl (by omega) ?_
    have hm := hl.small hn _ (getD_mem (l := l) (p := p) (by omega))
    have hd : l.drop p = l.getD p 0 :: l.drop (p + 1) := by
      rw [List.drop_eq_getElem_cons (by omega), List.getD_eq_getElem?_getD, List.getElem?_eq_getElem (by omega)]
      rfl
    generalize l.getD p 0 = c at hm hd
    rw [sh1 _ (by omega), bt_nI _ (by omega), nI_1]
    intro t5 e5 t9 e9 z hz
    have e5' : t5 = bI (s.testBit c) := by
      rw [e5]
      cases s.testBit c <;> decide
    refine ih z t5 (by omega) ⟨k + (if s.testBit c && !on then 1 else 0), s.testBit c, ?_, e5', ?_⟩
    · rw [hz, e9, e5', ← nI_add]
      congr 1
      cases s.testBit c <;> cases on <;> decide
    · rw [hd, runsF] at hk
      omega
/-- a set stands together in a row -/
def tog (s : Nat) (l : List Nat) : Bool := decide (runsF s false l < 2)
theorem p_isTogether {n : Nat} (hn : n ≤ 8) {l : List Nat} (hl : Row n l) {s : Nat} {Q : Bool → Prop} (h : Q (tog s l)) : q_X5_isTogether (nI n) (nI (enc l)) (nI s) Q := by
  unfold q_X5_isTogether
  refine p_runs hn hl ?_
  have hrl := runsF_le s l false
  have hlen := hl.1
  rw [show (2 : Int32) = nI 2 from rfl, nI_leI (by omega) (by omega)]
  unfold tog at h
  refine ⟨fun q => ?_, fun q => ?_⟩
  · rw [decide_eq_false (by omega)] at h; exact h
  · rw [decide_eq_true (by omega)] at h; exact h
/-! together, step by step -/
theorem runs_pos {s : Nat} : ∀ (l : List Nat), (∃ c ∈ l, s.testBit c = true) → 0 < runsF s false l
  | [], h => by obtain ⟨c, hc, -⟩ := h; cases hc
  | d :: l, h => by
    rw [runsF]
    cases hd : s.testBit d
    · obtain ⟨c, hc, hb⟩ := h
      rcases List.mem_cons.mp hc with e | e
      · rw [e, hd] at hb; cases hb
      · have := runs_pos l ⟨c, e, hb⟩
        omega
    · simp
      omega
theorem runs_none {s : Nat} : ∀ (l : List Nat) (on : Bool), (∀ c ∈ l, s.testBit c = false) → runsF s on l = 0
  | [], _, _ => rfl
  | d :: l, on, h => by
    have hd := h d List.mem_cons_self
    rw [runsF, hd, runs_none l false (fun c hc => h c (List.mem_cons_of_mem _ hc))]
    simp
theorem sub_bit {s S : Nat} (h : s &&& S = s) {i : Nat} (hi : s.testBit i = true) : S.testBit i = true := by
  have := congrArg (fun x => Nat.testBit x i) h
  simp only [Nat.testBit_and, hi] at this
  simpa using this
theorem sub_of {s S : Nat} (h : ∀ i, s.testBit i = true → S.testBit i = true) : s &&& S = s := by
  refine Nat.eq_of_testBit_eq (fun i => ?_)
  rw [Nat.testBit_and]
  cases hs : s.testBit i
  · rfl
  · rw [h i hs]; rfl
theorem dis_bit {s S : Nat} (h : s &&& S = 0) {i : Nat} (hi : s.testBit i = true) : S.testBit i = false := by
  have := congrArg (fun x => Nat.testBit x i) h
  simp only [Nat.testBit_and, hi, Nat.zero_testBit] at this
  simpa using this
theorem dis_of {s S : Nat} (h : ∀ i, s.testBit i = true → S.testBit i = false) : s &&& S = 0 := by
  refine Nat.eq_of_testBit_eq (fun i => ?_)
  rw [Nat.testBit_and, Nat.zero_testBit]
  cases hs : s.testBit i
  · rfl
  · rw [h i hs]; rfl
theorem okS_sub {s S : Nat} (h : s &&& S = s) : ∀ (l : List Nat) {R : Nat}, (∀ i, S.testBit i = true → R.testBit i = true) → along (okS s) R l = true
  | [], _, _ => rfl
  | c :: l, R, hR => by
    rw [along, Bool.and_eq_true]
    refine ⟨?_, okS_sub h l (fun i hi => by rw [ins_bit, hR i hi]; rfl)⟩
    have : s &&& R = s := sub_of (fun i hi => hR i (sub_bit h hi))
    simp [okS, this]
theorem Gr_fullg (n : Nat) : Gr n (fullg n) := fun S _ c h => by
  simp [fullg] at h
  exact ⟨h.1, by simp [h.2]⟩
theorem tog_on {n s : Nat} (hn : n ≤ 8) (hs : s < 2 ^ n) : ∀ (l : List Nat) {k S : Nat}, S < 2 ^ n → card S + k = n → l ∈ paths n (fullg n) k S → s &&& S ≠ 0 → (runsF s true l = 0 ↔ along (okS s) S l = true)
  | [], k, S, hS, hk, hm, hne => by simp [runsF, along]
  | c :: l, k, S, hS, hk, hm, hne => by
    cases k with
    | zero => rw [paths] at hm; simp at hm
    | succ k =>
      obtain ⟨c', l', e, hc, hg, hm'⟩ := mem_paths.mp hm
      injection e with e1 e2
      subst e1; subst e2
      have hb : S.testBit c = false := (Gr_fullg n S hS c hg).2
      have hcd := card_ins S (nIs hn hS) c (by omega) hb
      have hl := ins_lt hS hc
      rw [runsF, along]
      by_cases hsub : s &&& S = s
      · have hsc : s.testBit c = false := by
          cases q : s.testBit c
          · rfl
          · rw [sub_bit hsub q] at hb; cases hb
        have hno : ∀ d ∈ l, s.testBit d = false := fun d hd => by
          have h2 := ((paths_ok (Gr_fullg n) _ _ l hl hm').2.1 d hd).2
          cases q : s.testBit d
          · rfl
          · rw [ins_bit, sub_bit hsub q] at h2; cases h2
        have ha := okS_sub hsub l (R := ins S c) (fun i hi => by rw [ins_bit, hi]; rfl)
        rw [hsc, runs_none l false hno, ha]
        simp [okS, hsub]
      · cases hsc : s.testBit c
        · have hz : okS s S c = false := by simp [okS, hsub, hne, hsc]
          have hex : ∃ d ∈ l, s.testBit d = true := by
            refine Classical.byContradiction (fun hno => hsub (sub_of (fun i hi => ?_)))
            have hin : i < n := by
              rcases Nat.lt_or_ge i n with q | q
              · exact q
              · rw [bit_lt hs q] at hi; cases hi
            rcases paths_all hn (Gr_fullg n) hl (by omega) hm' hin with q | q
            · rw [ins_bit] at q
              by_cases hic : i = c
              · subst hic; rw [hsc] at hi; cases hi
              · simpa [hic] using q
            · exact absurd ⟨i, q, hi⟩ hno
          have := runs_pos l hex
          rw [hz]
          simp
          omega
        · have hne2 : s &&& ins S c ≠ 0 := fun h => by
            have := dis_bit h hsc
            rw [ins_bit] at this
            simp at this
          have ih := tog_on hn hs l hl (by omega) hm' hne2
          have hz : okS s S c = true := by simp [okS, hsc]
          rw [hz]
          simpa using ih
theorem tog_off {n s : Nat} (hn : n ≤ 8) (hs : s < 2 ^ n) : ∀ (l : List Nat) {k S : Nat}, S < 2 ^ n → card S + k = n → l ∈ paths n (fullg n) k S → s &&& S = 0 → (runsF s false l < 2 ↔ along (okS s) S l = true)
  | [], k, S, hS, hk, hm, hz => by simp [runsF, along]
  | c :: l, k, S, hS, hk, hm, hz => by
    cases k with
    | zero => rw [paths] at hm; simp at hm
    | succ k =>
      obtain ⟨c', l', e, hc, hg, hm'⟩ := mem_paths.mp hm
      injection e with e1 e2
      subst e1; subst e2
      have hb : S.testBit c = false := (Gr_fullg n S hS c hg).2
      have hcd := card_ins S (nIs hn hS) c (by omega) hb
      have hl := ins_lt hS hc
      have hok : okS s S c = true := by simp [okS, hz]
      rw [runsF, along, hok]
      cases hsc : s.testBit c
      · have hz2 : s &&& ins S c = 0 := dis_of (fun i hi => by
          rw [ins_bit, dis_bit hz hi]
          have : i ≠ c := fun q => by rw [q, hsc] at hi; cases hi
          simp [this])
        simpa using tog_off hn hs l hl (by omega) hm' hz2
      · have hne2 : s &&& ins S c ≠ 0 := fun h => by
          have := dis_bit h hsc
          rw [ins_bit] at this
          simp at this
        have ih := tog_on hn hs l hl (by omega) hm' hne2
        simp only [Bool.true_and, ← ih]
        simp
        omega
theorem tog_along {n s : Nat} (hn : n ≤ 8) (hs : s < 2 ^ n) {l : List Nat} (hm : l ∈ paths n (fullg n) n 0) : tog s l = along (okS s) 0 l := by
  have h := tog_off hn hs l (Nat.two_pow_pos n) (by rw [card_0]; omega) hm (by simp)
  unfold tog
  cases ha : along (okS s) 0 l
  · refine decide_eq_false (fun q => ?_)
    have := h.mp q
    rw [ha] at this
    cases this
  · exact decide_eq_true (h.mpr ha)
