/-! THE PARTS OF A KNOT. -/
/-- one limb more -/
theorem ct_step {p q : Nat → Bool} {o k : Nat} (ho : o < k) (hp : p o = true) (hq : q o = false) (he : ∀ j, j < k → j ≠ o → p j = q j) : fb_ct p k = fb_ct q k + 1 := by
  have e := fb_ct_upd q true ho
  rw [hq] at e
  have e2 : fb_ct (fun j => if j = o then true else q j) k = fb_ct p k := fb_ct_cong (fun j hj => by
    by_cases z : j = o
    · rw [if_pos z, z, hp]
    · rw [if_neg z, he j hj z])
  rw [e2] at e
  simpa using e
theorem card_sub {s t : Nat} (h : s &&& t = s) : card s ≤ card t := fb_ct_sub (fun k _ hk => sub_bit h hk)
theorem card_eqs {s t : Nat} (ht : t < 256) (h : s &&& t = s) (hc : card t ≤ card s) : s = t := by
  refine Nat.eq_of_testBit_eq (fun i => ?_)
  cases h1 : s.testBit i <;> cases h2 : t.testBit i
  · rfl
  · exfalso
    have hi : i < 8 := by
      rcases Nat.lt_or_ge i 8 with q | q
      · exact q
      · rw [bit_lt (n := 8) ht q] at h2; cases h2
    have e := ct_step (p := fun k => if k = i then true else s.testBit k) (q := fun k => s.testBit k) hi (by simp) h1 (fun j _ hj => by simp [hj])
    have le : fb_ct (fun k => if k = i then true else s.testBit k) 8 ≤ fb_ct (fun k => t.testBit k) 8 := fb_ct_sub (fun k _ hk => by
      by_cases q : k = i
      · rw [q]; exact h2
      · simp only [q, if_false] at hk; exact sub_bit h hk)
    unfold card at hc
    omega
  · rw [sub_bit h h1] at h2; cases h2
  · rfl
/-- the order of knots, and that they don't cross -/
def Rk (s t : Nat) : Prop := card s < card t ∨ (card s = card t ∧ s < t)
def KP (n : Nat) (K : List Nat) : Prop := K.Pairwise Rk ∧ (∀ s ∈ K, s ≠ 0 ∧ s < 2 ^ n) ∧ (∀ s ∈ K, ∀ t ∈ K, ¬ Cr s t) ∧ (∀ c, c < n → 2 ^ c ∈ K) ∧ K.length ≤ 15
theorem sng_card : ∀ c, c < 8 → card (2 ^ c) = 1 := by decide +kernel
theorem sng_or (c S : Nat) : 2 ^ c &&& S = 0 ∨ 2 ^ c &&& S = 2 ^ c := by
  cases h : S.testBit c
  · left
    refine dis_of (fun i hi => ?_)
    rw [Nat.testBit_two_pow] at hi
    have : c = i := by simpa using hi
    rw [← this]; exact h
  · right
    refine sub_of (fun i hi => ?_)
    rw [Nat.testBit_two_pow] at hi
    have : c = i := by simpa using hi
    rw [← this]; exact h
theorem tog_sng {n c : Nat} (hn : n ≤ 8) (hc : c < n) {l : List Nat} (hl : l ∈ P n) : tog (2 ^ c) l = true := by
  rw [tog_along hn (Nat.pow_lt_pow_right (by omega) hc) hl, along_iff]
  intro l1 d l2 _
  unfold okS
  rcases sng_or c (setOf 0 l1) with h | h
  · simp [h]
  · simp [h]
theorem Rk_pair (n : Nat) (G : List (List Nat)) : ∀ m : Nat, (knM n G m).Pairwise Rk ∧ ∀ s ∈ knM n G m, card s ≤ m
  | 0 => ⟨List.Pairwise.nil, fun s hs => by cases hs⟩
  | m + 1 => by
    obtain ⟨h1, h2⟩ := Rk_pair n G m
    have e : knM n G (m + 1) = knM n G m ++ knI n G (m + 1) (2 ^ n) := rfl
    have hc : ∀ s ∈ knI n G (m + 1) (2 ^ n), card s = m + 1 := fun s hs => by
      have := (List.mem_filter.mp hs).2
      rw [Bool.and_eq_true] at this
      exact of_decide_eq_true this.1
    rw [e]
    constructor
    · refine List.pairwise_append.mpr ⟨h1, ?_, fun s hs t ht => Or.inl ?_⟩
      · have hlt : (knI n G (m + 1) (2 ^ n)).Pairwise (fun a b => a < b) := List.Pairwise.filter _ List.pairwise_lt_range
        refine List.Pairwise.imp_of_mem (fun {s t} hs ht hst => Or.inr ⟨?_, hst⟩) hlt
        rw [hc s hs, hc t ht]
      · have := h2 s hs
        have := hc t ht
        omega
    · intro s hs
      rcases List.mem_append.mp hs with q | q
      · have := h2 s q
        omega
      · have := hc s q
        omega
theorem KP_KL {n : Nat} (h1 : 1 ≤ n) (hn : n ≤ 8) {G : List (List Nat)} (hG : GOk n G) : KP n (KL n G) := by
  refine ⟨(Rk_pair n G n).1, fun s hs => ?_, fun s hs t ht => ?_, fun c hc => ?_, KL_len h1 hn G⟩
  · obtain ⟨q1, q2⟩ := KL_lt G hs
    exact ⟨(isKn_iff.mp q2).1, q1⟩
  · obtain ⟨-, q2⟩ := KL_lt G hs
    obtain ⟨t1, t2⟩ := KL_lt G ht
    exact (isKn_iff.mp q2).2.2 t t1 (isKn_iff.mp t2).1 (isKn_iff.mp t2).2.1
  · have hlt : 2 ^ c < 2 ^ n := Nat.pow_lt_pow_right (by omega) hc
    have hk : isKn n G (2 ^ c) = true := isKn_iff.mpr ⟨by have := Nat.two_pow_pos c; omega, List.all_eq_true.mpr (fun l hl => tog_sng hn hc (hG.1 l hl)), fun o _ _ _ hcr => by
      rcases sng_or c o with q | q
      · exact hcr.1 q
      · exact hcr.2.1 q⟩
    refine mem_cat.mpr ⟨0, by omega, List.mem_filter.mpr ⟨List.mem_range.mpr hlt, ?_⟩⟩
    rw [sng_card c (by omega), hk]
    rfl
/-- a knot by its number -/
def kd (K : List Nat) (k : Nat) : Nat := K.getD k 0
theorem kd_get {K : List Nat} {k : Nat} (h : k < K.length) : K[k]? = some (kd K k) := by
  unfold kd
  rw [List.getD_eq_getElem?_getD, List.getElem?_eq_getElem h]
  rfl
theorem kd_mem {K : List Nat} {k : Nat} (h : k < K.length) : kd K k ∈ K := List.mem_of_getElem? (kd_get h)
theorem kd_lt {n : Nat} {K : List Nat} (h : KP n K) {i j : Nat} (hij : i < j) (hj : j < K.length) : Rk (kd K i) (kd K j) := by
  have := List.pairwise_iff_getElem.mp h.1 i j (by omega) hj hij
  have e1 := kd_get (K := K) (k := i) (by omega)
  have e2 := kd_get hj
  rw [List.getElem?_eq_getElem (by omega)] at e1
  rw [List.getElem?_eq_getElem hj] at e2
  rw [← Option.some.inj e1, ← Option.some.inj e2]
  exact this
theorem Rk.ne {s t : Nat} (h : Rk s t) : s ≠ t := fun e => by
  subst e
  rcases h with q | ⟨-, q⟩ <;> exact absurd q (Nat.lt_irrefl _)
theorem Rk.card {s t : Nat} (h : Rk s t) : card s ≤ card t := by
  rcases h with q | ⟨q, -⟩ <;> omega
/-- two knots that share a column: the earlier lies in the later -/
theorem kd_nest {n : Nat} (hn : n ≤ 8) {K : List Nat} (h : KP n K) {i j c : Nat} (hij : i < j) (hj : j < K.length) (h1 : (kd K i).testBit c = true) (h2 : (kd K j).testBit c = true) : kd K i &&& kd K j = kd K i := by
  have hr := kd_lt h hij hj
  have hnc := h.2.2.1 _ (kd_mem (K := K) (k := i) (by omega)) _ (kd_mem hj)
  refine Classical.byContradiction (fun q => hnc ⟨fun z => ?_, q, fun z => ?_⟩)
  · rw [dis_bit z h1] at h2; cases h2
  · have e := card_eqs (s := kd K j) (t := kd K i) (nIs hn (h.2.1 _ (kd_mem (K := K) (k := i) (by omega))).2) z hr.card
    exact hr.ne e.symm
/-- which knots are parts of k -/
def inA (K : List Nat) (k o : Nat) : Bool := decide (laL (kd K o) (K.drop (o + 1)) (o + 1) = nI k)
theorem laL_cases (s : Nat) : ∀ (L : List Nat) (i : Nat), (∃ j, j < L.length ∧ laL s L i = nI (i + j) ∧ s &&& kd L j = s ∧ ∀ j', j' < j → ¬ s &&& kd L j' = s) ∨ (laL s L i = -9 ∧ ∀ j, j < L.length → ¬ s &&& kd L j = s)
  | [], i => Or.inr ⟨rfl, fun j hj => by simp at hj⟩
  | t :: L, i => by
    rw [laL]
    by_cases q : s &&& t = s
    · rw [if_pos q]
      exact Or.inl ⟨0, by simp, rfl, q, fun j' hj => absurd hj (Nat.not_lt_zero j')⟩
    · rw [if_neg q]
      rcases laL_cases s L (i + 1) with ⟨j, h1, h2, h3, h4⟩ | ⟨h1, h2⟩
      · refine Or.inl ⟨j + 1, by simp; omega, by rw [h2]; congr 1; omega, h3, fun j' hj => ?_⟩
        cases j' with
        | zero => exact q
        | succ j' => exact h4 j' (by omega)
      · refine Or.inr ⟨h1, fun j hj => ?_⟩
        cases j with
        | zero => exact q
        | succ j => exact h2 j (by simpa using hj)
theorem kd_drop (K : List Nat) (i j : Nat) : kd (K.drop i) j = kd K (i + j) := by
  unfold kd
  rw [List.getD_eq_getElem?_getD, List.getD_eq_getElem?_getD, List.getElem?_drop]
theorem n9_ne {k : Nat} (h : k < 2 ^ 31) : ¬ (-9 : Int32) = nI k := fun e => by
  have h9 : (nI k).toInt = (k : Int) := nI_toInt h
  rw [← e] at h9
  have : ((-9 : Int32)).toInt = -9 := by decide
  omega
theorem inA_iff {K : List Nat} (hK : K.length ≤ 15) {k o : Nat} (hk : k < K.length) (ho : o < k) : inA K k o = true ↔ (kd K o &&& kd K k = kd K o ∧ ∀ j, o < j → j < k → ¬ kd K o &&& kd K j = kd K o) := by
  unfold inA
  rw [decide_eq_true_iff]
  rcases laL_cases (kd K o) (K.drop (o + 1)) (o + 1) with ⟨j, h1, h2, h3, h4⟩ | ⟨h1, h2⟩
  · rw [List.length_drop] at h1
    rw [h2, nI_eq (by omega) (by omega)]
    rw [kd_drop] at h3
    constructor
    · intro e
      rw [e] at h3
      refine ⟨h3, fun j' q1 q2 => ?_⟩
      have := h4 (j' - (o + 1)) (by omega)
      rw [kd_drop, show o + 1 + (j' - (o + 1)) = j' by omega] at this
      exact this
    · rintro ⟨q1, q2⟩
      rcases Nat.lt_trichotomy (o + 1 + j) k with z | z | z
      · exact absurd h3 (q2 _ (by omega) z)
      · exact z
      · have := h4 (k - (o + 1)) (by omega)
        rw [kd_drop, show o + 1 + (k - (o + 1)) = k by omega] at this
        exact absurd q1 this
  · rw [h1]
    constructor
    · intro e; exact absurd e (n9_ne (by omega))
    · rintro ⟨q1, -⟩
      have := h2 (k - (o + 1)) (by rw [List.length_drop]; omega)
      rw [kd_drop, show o + 1 + (k - (o + 1)) = k by omega] at this
      exact absurd q1 this
/-- two parts that share a column are one -/
theorem inA_one {n : Nat} (hn : n ≤ 8) {K : List Nat} (h : KP n K) {k o p c : Nat} (hk : k < K.length) (ho : o < k) (hp : p < k) (h1 : inA K k o = true) (h2 : inA K k p = true) (b1 : (kd K o).testBit c = true) (b2 : (kd K p).testBit c = true) : o = p := by
  rw [inA_iff h.2.2.2.2 hk ho] at h1
  rw [inA_iff h.2.2.2.2 hk hp] at h2
  rcases Nat.lt_trichotomy o p with q | q | q
  · exact absurd (kd_nest hn h q (by omega) b1 b2) (h1.2 p q hp)
  · exact q
  · exact absurd (kd_nest hn h q (by omega) b2 b1) (h2.2 o q ho)
/-- the last knot before k, within it, with a column: it is a part -/
theorem last_part {n : Nat} (hn : n ≤ 8) {K : List Nat} (h : KP n K) {k o c : Nat} (hk : k < K.length) (ho : o < k) (hb : (kd K o).testBit c = true) (hsub : kd K o &&& kd K k = kd K o) (hlast : ∀ j, o < j → j < k → ¬ ((kd K j).testBit c = true ∧ kd K j &&& kd K k = kd K j)) : inA K k o = true := by
  rw [inA_iff h.2.2.2.2 hk ho]
  refine ⟨hsub, fun j q1 q2 hz => hlast j q1 q2 ⟨sub_bit hz hb, ?_⟩⟩
  exact kd_nest hn h q2 hk (sub_bit hz hb) (sub_bit hsub hb)
/-- the part of k that has a column -/
def pw (K : List Nat) (k c : Nat) : Option Nat := (List.range k).find? (fun o => inA K k o && (kd K o).testBit c)
theorem pw_some {K : List Nat} {k c o : Nat} (h : pw K k c = some o) : o < k ∧ inA K k o = true ∧ (kd K o).testBit c = true := by
  have h1 := List.mem_range.mp (List.mem_of_find?_eq_some h)
  have h2 := List.find?_some h
  rw [Bool.and_eq_true] at h2
  exact ⟨h1, h2.1, h2.2⟩
theorem pw_none {K : List Nat} {k c : Nat} (h : pw K k c = none) {o : Nat} (ho : o < k) (h1 : inA K k o = true) : (kd K o).testBit c = false := by
  have := List.find?_eq_none.mp h o (List.mem_range.mpr ho)
  rw [h1] at this
  simpa using this
theorem pw_of {n : Nat} (hn : n ≤ 8) {K : List Nat} (h : KP n K) {k c o : Nat} (hk : k < K.length) (ho : o < k) (h1 : inA K k o = true) (hb : (kd K o).testBit c = true) : pw K k c = some o := by
  cases hp : pw K k c with
  | none => rw [pw_none hp ho h1] at hb; cases hb
  | some p =>
    obtain ⟨q1, q2, q3⟩ := pw_some hp
    rw [inA_one hn h hk q1 ho q2 h1 q3 hb]
/-- the parts in the order of a row -/
def ptF (K : List Nat) (k : Nat) : List Nat → Nat → List Nat
  | [], _ => []
  | c :: r, seen => if seen.testBit c then ptF K k r seen else match pw K k c with
    | none => ptF K k r seen
    | some o => o :: ptF K k r (seen ||| kd K o)
theorem ptF_len (K : List Nat) (k : Nat) : ∀ (r : List Nat) (seen : Nat), (ptF K k r seen).length ≤ r.length
  | [], _ => Nat.le_refl 0
  | c :: r, seen => by
    rw [ptF, List.length_cons]
    by_cases q : seen.testBit c = true
    · rw [if_pos q]
      have := ptF_len K k r seen
      omega
    · rw [if_neg q]
      cases pw K k c with
      | none =>
        have := ptF_len K k r seen
        simp only
        omega
      | some o =>
        have := ptF_len K k r (seen ||| kd K o)
        simp only [List.length_cons]
        omega
theorem ptF_mem {K : List Nat} {k : Nat} : ∀ (r : List Nat) (seen : Nat) {o : Nat}, o ∈ ptF K k r seen → o < k ∧ inA K k o = true
  | [], _, o, h => by cases h
  | c :: r, seen, o, h => by
    rw [ptF] at h
    by_cases q : seen.testBit c = true
    · rw [if_pos q] at h
      exact ptF_mem r seen h
    · rw [if_neg q] at h
      cases hp : pw K k c with
      | none => rw [hp] at h; exact ptF_mem r seen h
      | some p =>
        rw [hp] at h
        simp only at h
        rcases List.mem_cons.mp h with e | e
        · subst e
          exact ⟨(pw_some hp).1, (pw_some hp).2.1⟩
        · exact ptF_mem r _ e
theorem ptF_count {n : Nat} (hn : n ≤ 8) {K : List Nat} (h : KP n K) {k : Nat} (hk : k < K.length) : ∀ (r : List Nat) (seen : Nat), (∀ o, o < k → inA K k o = true → (kd K o &&& seen = 0 ∨ kd K o &&& seen = kd K o)) → (ptF K k r seen).length = fb_ct (fun o => inA K k o && (r.any (fun c => (kd K o).testBit c) && decide (kd K o &&& seen = 0))) k
  | [], seen, _ => by
    symm
    refine fb_ct_zero.mpr (fun o _ => ?_)
    simp
  | c :: r, seen, hinv => by
    rw [ptF]
    have skip : (∀ o, o < k → inA K k o = true → kd K o &&& seen = 0 → (kd K o).testBit c = false) → (ptF K k r seen).length = fb_ct (fun o => inA K k o && ((c :: r).any (fun c => (kd K o).testBit c) && decide (kd K o &&& seen = 0))) k := fun hno => by
      rw [ptF_count hn h hk r seen hinv]
      refine fb_ct_cong (fun o ho => ?_)
      cases h1 : inA K k o
      · rfl
      · by_cases h2 : kd K o &&& seen = 0
        · rw [List.any_cons, hno o ho h1 h2]
          simp
        · simp [h2]
    by_cases q : seen.testBit c = true
    · rw [if_pos q]
      refine skip (fun o _ _ hz => ?_)
      cases hb : (kd K o).testBit c
      · rfl
      · rw [dis_bit hz hb] at q; cases q
    · rw [if_neg q]
      cases hp : pw K k c with
      | none => exact skip (fun o ho h1 _ => pw_none hp ho h1)
      | some p =>
        obtain ⟨hp1, hp2, hp3⟩ := pw_some hp
        have hpz : kd K p &&& seen = 0 := by
          rcases hinv p hp1 hp2 with z | z
          · exact z
          · exact absurd (sub_bit z hp3) q
        have hdis : ∀ o, o < k → inA K k o = true → o ≠ p → kd K o &&& kd K p = 0 := fun o ho h1 hne => dis_of (fun i hi => by
          cases hb : (kd K p).testBit i
          · rfl
          · exact absurd (inA_one hn h hk ho hp1 h1 hp2 hi hb) hne)
        have key : ∀ o, o < k → inA K k o = true → o ≠ p → (kd K o &&& (seen ||| kd K p) = kd K o &&& seen) := fun o ho h1 hne => by
          refine Nat.eq_of_testBit_eq (fun i => ?_)
          rw [Nat.testBit_and, Nat.testBit_and, Nat.testBit_or]
          cases hb : (kd K o).testBit i
          · rfl
          · rw [dis_bit (hdis o ho h1 hne) hb]; simp
        have hpp : kd K p &&& (seen ||| kd K p) = kd K p := sub_of (fun i hi => by rw [Nat.testBit_or, hi]; simp)
        simp only [List.length_cons]
        rw [ptF_count hn h hk r (seen ||| kd K p) (fun o ho h1 => ?_)]
        · symm
          refine ct_step hp1 ?_ ?_ (fun o ho hne => ?_)
          · rw [hp2, List.any_cons, hp3]
            simp [hpz]
          · rw [hpp]
            have : ¬ kd K p = 0 := fun z => by rw [z] at hp3; simp at hp3
            simp [this]
          · cases h1 : inA K k o
            · rfl
            · rw [key o ho h1 hne, List.any_cons]
              have : (kd K o).testBit c = false := by
                cases hb : (kd K o).testBit c
                · rfl
                · exact absurd (inA_one hn h hk ho hp1 h1 hp2 hb hp3) hne
              rw [this]
              simp
        · by_cases hne : o = p
          · subst hne; exact Or.inr hpp
          · rw [key o ho h1 hne]; exact hinv o ho h1
/-- how many parts -/
theorem parts_count {n : Nat} (hn : n ≤ 8) {K : List Nat} (h : KP n K) {k : Nat} (hk : k < K.length) {l : List Nat} (hl : l ∈ P n) : (ptF K k l 0).length = fb_ct (inA K k) k := by
  rw [ptF_count hn h hk l 0 (fun o _ _ => Or.inl (by simp))]
  refine fb_ct_cong (fun o ho => ?_)
  cases h1 : inA K k o
  · rfl
  · have hm := h.2.1 _ (kd_mem (K := K) (k := o) (by omega))
    obtain ⟨i, hi⟩ := Nat.exists_testBit_of_ne_zero hm.1
    have hin : i < n := by
      rcases Nat.lt_or_ge i n with q | q
      · exact q
      · rw [bit_lt hm.2 q] at hi; cases hi
    have : l.any (fun c => (kd K o).testBit c) = true := List.any_eq_true.mpr ⟨i, P_mem hn hl hin, hi⟩
    rw [this]
    simp
/-- each column of a knot of two or more columns is in a part -/
theorem pw_ex {n : Nat} (hn : n ≤ 8) {K : List Nat} (h : KP n K) {k c : Nat} (hk : k < K.length) (h2 : 2 ≤ card (kd K k)) (hc : (kd K k).testBit c = true) : ∃ o, o < k ∧ inA K k o = true ∧ (kd K o).testBit c = true ∧ (∀ j, o < j → j < k → ¬ ((kd K j).testBit c = true ∧ kd K j &&& kd K k = kd K j)) ∧ kd K o &&& kd K k = kd K o := by
  have hm := h.2.1 _ (kd_mem hk)
  have hcn : c < n := by
    rcases Nat.lt_or_ge c n with q | q
    · exact q
    · rw [bit_lt hm.2 q] at hc; cases hc
  obtain ⟨i, hi⟩ := List.getElem?_of_mem (h.2.2.2.1 c hcn)
  have hil : i < K.length := (List.getElem?_eq_some_iff.mp hi).1
  have hik : kd K i = 2 ^ c := by
    have := kd_get hil
    rw [hi] at this
    exact (Option.some.inj this).symm
  have hlt : i < k := by
    rcases Nat.lt_trichotomy i k with q | q | q
    · exact q
    · rw [← q, hik, sng_card c (by omega)] at h2; omega
    · have := (kd_lt h q hil).card
      rw [hik, sng_card c (by omega)] at this
      omega
  have hbi : (kd K i).testBit c = true := by rw [hik, Nat.testBit_two_pow]; simp
  have hsi : kd K i &&& kd K k = kd K i := kd_nest hn h hlt hk hbi hc
  obtain ⟨o, ho, ⟨q1, q2⟩, q3⟩ := fb_last (p := fun o => (kd K o).testBit c = true ∧ kd K o &&& kd K k = kd K o) ⟨i, hlt, hbi, hsi⟩
  exact ⟨o, ho, last_part hn h hk ho q1 q2 q3, q1, q3, q2⟩
/-- a leaf has no parts -/
theorem leaf_none {n : Nat} (hn : n ≤ 8) {K : List Nat} (h : KP n K) {k : Nat} (hk : k < K.length) (h2 : card (kd K k) ≤ 1) {o : Nat} (ho : o < k) : inA K k o = false := by
  refine Bool.eq_false_iff.mpr (fun z => ?_)
  rw [inA_iff h.2.2.2.2 hk ho] at z
  have hm := h.2.1 _ (kd_mem (K := K) (k := o) (by omega))
  have hr := kd_lt h ho hk
  have e := card_eqs (nIs hn (h.2.1 _ (kd_mem hk)).2) z.1 (by
    have : 1 ≤ card (kd K o) := by
      obtain ⟨i, hi⟩ := Nat.exists_testBit_of_ne_zero hm.1
      have hin : i < 8 := by
        rcases Nat.lt_or_ge i 8 with q | q
        · exact q
        · rw [bit_lt (n := 8) (nIs hn hm.2) q] at hi; cases hi
      exact fb_ct_pos.mpr ⟨i, hin, hi⟩
    omega)
  exact hr.ne e
/-- no knot has just one part -/
theorem parts_ne1 {n : Nat} (hn : n ≤ 8) {K : List Nat} (h : KP n K) {k : Nat} (hk : k < K.length) : fb_ct (inA K k) k ≠ 1 := by
  intro e
  by_cases h2 : 2 ≤ card (kd K k)
  · obtain ⟨o, ho, hp⟩ := fb_ct_pos.mp (show 0 < fb_ct (inA K k) k by omega)
    have huniq : ∀ p, p < k → inA K k p = true → p = o := fun p hpk hpp => by
      refine Classical.byContradiction (fun hne => ?_)
      have hst := ct_step (p := inA K k) (q := fun j => if j = o then false else inA K k j) ho hp (by simp) (fun j _ hj => by simp [hj])
      have : 0 < fb_ct (fun j => if j = o then false else inA K k j) k := fb_ct_pos.mpr ⟨p, hpk, by simp [hne, hpp]⟩
      omega
    have hsub : kd K k &&& kd K o = kd K k := sub_of (fun i hi => by
      obtain ⟨p, q1, q2, q3, -⟩ := pw_ex hn h hk h2 hi
      rw [huniq p q1 q2] at q3
      exact q3)
    have hr := kd_lt h ho hk
    have ez := card_eqs (nIs hn (h.2.1 _ (kd_mem (K := K) (k := o) (by omega))).2) hsub hr.card
    exact hr.ne ez.symm
  · obtain ⟨o, ho, hp⟩ := fb_ct_pos.mp (show 0 < fb_ct (inA K k) k by omega)
    rw [leaf_none hn h hk (by omega) ho] at hp
    cases hp
