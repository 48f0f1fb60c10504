/-! WAYS THROUGH THE SETS: rows of columns as paths; nothing of the machine here. -/
/-- the set S with the column c -/
def ins (S c : Nat) : Nat := S ||| 2 ^ c
theorem ins_bit (S c i : Nat) : (ins S c).testBit i = (S.testBit i || decide (i = c)) := fb_bit_set S c i
/-- how many of the first eight columns are in a set -/
def card (S : Nat) : Nat := fb_ct (fun i => S.testBit i) 8
theorem card_ins : ∀ S, S < 256 → ∀ c, c < 8 → S.testBit c = false → card (ins S c) = card S + 1 := by decide +kernel
theorem card_full : ∀ n, n < 9 → card (2 ^ n - 1) = n := by decide +kernel
theorem full_of_card : ∀ n, n < 9 → ∀ S, S < 2 ^ n → card S = n → S = 2 ^ n - 1 := by decide +kernel
theorem card_le : ∀ n, n < 9 → ∀ S, S < 2 ^ n → card S ≤ n := by decide +kernel
theorem card_0 : card 0 = 0 := by decide +kernel
theorem pow_le8 {n : Nat} (h : n ≤ 8) : 2 ^ n ≤ 256 := Nat.pow_le_pow_right (by omega) h
theorem ins_lt {n S c : Nat} (hS : S < 2 ^ n) (hc : c < n) : ins S c < 2 ^ n := Nat.or_lt_two_pow hS (Nat.pow_lt_pow_right (by omega) hc)
theorem ins_gt {S c : Nat} (h : S.testBit c = false) : S < ins S c := by
  have h1 : S ≤ ins S c := Nat.left_le_or
  have h2 : S ≠ ins S c := fun e => by
    have h3 : (ins S c).testBit c = true := by rw [ins_bit]; simp
    rw [← e, h] at h3
    cases h3
  omega
theorem bit_lt {n S c : Nat} (hS : S < 2 ^ n) (hc : n ≤ c) : S.testBit c = false := Nat.testBit_lt_two_pow (Nat.lt_of_lt_of_le hS (Nat.pow_le_pow_right (by omega) hc))
theorem full_bit {n c : Nat} : (2 ^ n - 1).testBit c = decide (c < n) := Nat.testBit_two_pow_sub_one n c
/-- a list made of pieces -/
def cat {α : Type} (f : Nat → List α) : Nat → List α
  | 0 => []
  | c + 1 => cat f c ++ f c
theorem mem_cat {α : Type} {f : Nat → List α} {x : α} : ∀ {n : Nat}, x ∈ cat f n ↔ ∃ c, c < n ∧ x ∈ f c
  | 0 => by simp [cat]
  | n + 1 => by
    rw [cat, List.mem_append, mem_cat]
    constructor
    · rintro (⟨c, h1, h2⟩ | h)
      · exact ⟨c, by omega, h2⟩
      · exact ⟨n, by omega, h⟩
    · rintro ⟨c, h1, h2⟩
      rcases Nat.lt_or_ge c n with q | q
      · exact Or.inl ⟨c, q, h2⟩
      · have e : c = n := by omega
        subst e
        exact Or.inr h2
theorem len_cat {α : Type} (f : Nat → List α) : ∀ n : Nat, (cat f n).length = fb_sm (fun c => (f c).length) n
  | 0 => rfl
  | n + 1 => by rw [cat, List.length_append, len_cat f n, fb_sm_succ]
theorem cat_congr {α : Type} {f g : Nat → List α} : ∀ {n : Nat}, (∀ c, c < n → f c = g c) → cat f n = cat g n
  | 0, _ => rfl
  | n + 1, h => by rw [cat, cat, cat_congr (fun c hc => h c (by omega)), h n (by omega)]
theorem cat_filter {α : Type} (p : α → Bool) (f : Nat → List α) : ∀ n : Nat, (cat f n).filter p = cat (fun c => (f c).filter p) n
  | 0 => rfl
  | n + 1 => by rw [cat, List.filter_append, cat_filter p f n, cat]
theorem cat_map {α β : Type} (h : α → β) (f : Nat → List α) : ∀ n : Nat, (cat f n).map h = cat (fun c => (f c).map h) n
  | 0 => rfl
  | n + 1 => by rw [cat, List.map_append, cat_map h f n, cat]
/-- where a piece stands -/
theorem cat_get {α : Type} (f : Nat → List α) {c i : Nat} (hi : i < (f c).length) : ∀ {n : Nat}, c < n → (cat f n)[(cat f c).length + i]? = (f c)[i]?
  | 0, h => by omega
  | n + 1, h => by
    rw [cat]
    rcases Nat.lt_or_ge c n with q | q
    · have hl : (cat f c).length + i < (cat f n).length := by
        rw [len_cat, len_cat]
        have := fb_sm_part (fun c => (f c).length) q
        omega
      rw [List.getElem?_append_left hl]
      exact cat_get f hi q
    · have e : c = n := by omega
      subst e
      rw [List.getElem?_append_right (by omega)]
      congr 1
      omega
/-- the ways on from S, k columns each, in the order of rows -/
def paths (n : Nat) (g : Nat → Nat → Bool) : Nat → Nat → List (List Nat)
  | 0, _ => [[]]
  | k + 1, S => cat (fun c => if g S c then (paths n g k (ins S c)).map (fun l => c :: l) else []) n
theorem mem_paths {n : Nat} {g : Nat → Nat → Bool} {k S : Nat} {l : List Nat} : l ∈ paths n g (k + 1) S ↔ ∃ c l', l = c :: l' ∧ c < n ∧ g S c = true ∧ l' ∈ paths n g k (ins S c) := by
  rw [paths, mem_cat]
  constructor
  · rintro ⟨c, hc, h⟩
    by_cases hg : g S c = true
    · rw [if_pos hg] at h
      obtain ⟨l', h1, h2⟩ := List.mem_map.mp h
      exact ⟨c, l', h2.symm, hc, hg, h1⟩
    · rw [if_neg hg] at h
      cases h
  · rintro ⟨c, l', rfl, hc, hg, h⟩
    exact ⟨c, hc, by rw [if_pos hg]; exact List.mem_map.mpr ⟨l', h, rfl⟩⟩
theorem paths_congr {n : Nat} {g g' : Nat → Nat → Bool} (h : ∀ S, S < 2 ^ n → ∀ c, c < n → g S c = g' S c) : ∀ (k S : Nat), S < 2 ^ n → paths n g k S = paths n g' k S
  | 0, _, _ => rfl
  | k + 1, S, hS => by
    rw [paths, paths]
    refine cat_congr (fun c hc => ?_)
    rw [h S hS c hc, paths_congr h k (ins S c) (ins_lt hS hc)]
/-- a word on each step of a way -/
def along (h : Nat → Nat → Bool) : Nat → List Nat → Bool
  | _, [] => true
  | S, c :: l => h S c && along h (ins S c) l
theorem along_congr {h h' : Nat → Nat → Bool} : ∀ {S : Nat} {l : List Nat}, (∀ S c, h S c = h' S c) → along h S l = along h' S l
  | _, [], _ => rfl
  | S, c :: l, e => by rw [along, along, e, along_congr e]
theorem paths_filter (n : Nat) (g h : Nat → Nat → Bool) : ∀ (k S : Nat), (paths n g k S).filter (along h S) = paths n (fun S c => g S c && h S c) k S
  | 0, S => rfl
  | k + 1, S => by
    rw [paths, cat_filter, paths]
    refine cat_congr (fun c hc => ?_)
    rw [← paths_filter n g h k (ins S c)]
    by_cases hg : g S c = true
    · by_cases hh : h S c = true
      · simp only [hg, hh, if_true, Bool.and_true, List.filter_map]
        congr 1
        refine List.filter_congr (fun l _ => ?_)
        simp [along, hh]
      · have hh' : h S c = false := by cases hx : h S c <;> simp_all
        simp [hg, hh', List.filter_map, along, Function.comp_def]
    · have hg' : g S c = false := by cases hx : g S c <;> simp_all
      simp [hg']
/-- steps of a graph go to columns that don't stand yet -/
def Gr (n : Nat) (g : Nat → Nat → Bool) : Prop := ∀ S, S < 2 ^ n → ∀ c, g S c = true → c < n ∧ S.testBit c = false
theorem paths_ok {n : Nat} {g : Nat → Nat → Bool} (hg : Gr n g) : ∀ (k S : Nat) (l : List Nat), S < 2 ^ n → l ∈ paths n g k S → l.length = k ∧ (∀ c ∈ l, c < n ∧ S.testBit c = false) ∧ l.Nodup ∧ along g S l = true
  | 0, S, l, _, h => by
    rw [paths, List.mem_singleton] at h
    subst h
    simp [along]
  | k + 1, S, l, hS, h => by
    obtain ⟨c, l', rfl, hc, hgc, h'⟩ := mem_paths.mp h
    obtain ⟨h1, h2, h3, h4⟩ := paths_ok hg k (ins S c) l' (ins_lt hS hc) h'
    have hb := (hg S hS c hgc).2
    refine ⟨by simp [h1], ?_, ?_, by simp [along, hgc, h4]⟩
    · intro d hd
      rcases List.mem_cons.mp hd with e | e
      · subst e
        exact ⟨hc, hb⟩
      · obtain ⟨q1, q2⟩ := h2 d e
        rw [ins_bit] at q2
        exact ⟨q1, by cases hx : S.testBit d <;> simp_all⟩
    · refine List.nodup_cons.mpr ⟨fun e => ?_, h3⟩
      have := (h2 c e).2
      rw [ins_bit] at this
      simp at this
/-- the set of a beginning -/
def setOf (S : Nat) (l : List Nat) : Nat := l.foldl ins S
theorem setOf_bit : ∀ (l : List Nat) (S i : Nat), (setOf S l).testBit i = (S.testBit i || decide (i ∈ l))
  | [], S, i => by simp [setOf]
  | c :: l, S, i => by
    have ih := setOf_bit l (ins S c) i
    unfold setOf at ih ⊢
    rw [List.foldl_cons, ih, ins_bit]
    by_cases h1 : i = c <;> by_cases h2 : i ∈ l <;> simp [h1, h2]
theorem setOf_lt {n : Nat} : ∀ (l : List Nat) {S : Nat}, S < 2 ^ n → (∀ c ∈ l, c < n) → setOf S l < 2 ^ n
  | [], _, h, _ => h
  | c :: l, S, h, hl => by
    unfold setOf
    rw [List.foldl_cons]
    exact setOf_lt l (ins_lt h (hl c List.mem_cons_self)) (fun d hd => hl d (List.mem_cons_of_mem _ hd))
theorem setOf_card {n : Nat} (hn : n ≤ 8) : ∀ (l : List Nat) {S : Nat}, S < 2 ^ n → (∀ c ∈ l, c < n ∧ S.testBit c = false) → l.Nodup → card (setOf S l) = card S + l.length
  | [], S, _, _, _ => by simp [setOf]
  | c :: l, S, h, hl, hd => by
    obtain ⟨hc1, hc2⟩ := hl c List.mem_cons_self
    obtain ⟨hd1, hd2⟩ := List.nodup_cons.mp hd
    have ih := setOf_card hn l (S := ins S c) (ins_lt h hc1) (fun d hdm => ?_) hd2
    · unfold setOf at ih ⊢
      rw [List.foldl_cons, ih, card_ins S (Nat.lt_of_lt_of_le h (pow_le8 hn)) c (by omega) hc2, List.length_cons]
      omega
    · obtain ⟨q1, q2⟩ := hl d (List.mem_cons_of_mem _ hdm)
      refine ⟨q1, ?_⟩
      rw [ins_bit, q2]
      have : d ≠ c := fun e => hd1 (e ▸ hdm)
      simp [this]
/-- a whole way ends in the full set: every column is on it or stood before -/
theorem paths_full {n : Nat} (hn : n ≤ 8) {g : Nat → Nat → Bool} (hg : Gr n g) {k S : Nat} {l : List Nat} (hS : S < 2 ^ n) (hk : card S + k = n) (h : l ∈ paths n g k S) : setOf S l = 2 ^ n - 1 := by
  obtain ⟨h1, h2, h3, -⟩ := paths_ok hg k S l hS h
  refine full_of_card n (by omega) _ (setOf_lt l hS (fun c hc => (h2 c hc).1)) ?_
  rw [setOf_card hn l hS h2 h3, h1, hk]
theorem paths_all {n : Nat} (hn : n ≤ 8) {g : Nat → Nat → Bool} (hg : Gr n g) {k S : Nat} {l : List Nat} (hS : S < 2 ^ n) (hk : card S + k = n) (h : l ∈ paths n g k S) {c : Nat} (hc : c < n) : S.testBit c = true ∨ c ∈ l := by
  have h1 := setOf_bit l S c
  rw [paths_full hn hg hS hk h, full_bit] at h1
  simp [hc] at h1
  exact h1
/-- how many -/
theorem len_paths (n : Nat) (g : Nat → Nat → Bool) (k S : Nat) : (paths n g (k + 1) S).length = fb_sm (fun c => if g S c then (paths n g k (ins S c)).length else 0) n := by
  rw [paths, len_cat]
  refine fb_sm_cong (fun c _ => ?_)
  by_cases h : g S c = true
  · rw [if_pos h, if_pos h, List.length_map]
  · rw [if_neg h, if_neg h]
    rfl
theorem len_paths_le (n : Nat) (g : Nat → Nat → Bool) : ∀ (k S : Nat), (paths n g k S).length ≤ n ^ k
  | 0, _ => by simp [paths]
  | k + 1, S => by
    rw [len_paths, Nat.pow_succ, Nat.mul_comm]
    refine Nat.le_trans (fb_sm_le (g := fun _ => n ^ k) (fun c _ => ?_)) (by rw [fb_sm_const]; exact Nat.le_refl _)
    by_cases h : g S c = true
    · rw [if_pos h]
      exact len_paths_le n g k (ins S c)
    · rw [if_neg h]
      exact Nat.zero_le _
theorem len_small {n : Nat} (hn : n ≤ 8) (g : Nat → Nat → Bool) {k : Nat} (hk : k ≤ 8) (S : Nat) : (paths n g k S).length ≤ 16777216 := by
  refine Nat.le_trans (len_paths_le n g k S) ?_
  exact Nat.le_trans (Nat.pow_le_pow_left hn k) (Nat.le_trans (Nat.pow_le_pow_right (by omega) hk) (by decide))
/-- no row twice -/
theorem paths_nodup (n : Nat) (g : Nat → Nat → Bool) : ∀ (k S : Nat), (paths n g k S).Nodup
  | 0, S => by simp [paths]
  | k + 1, S => by
    rw [paths]
    have key : ∀ m : Nat, (cat (fun c => if g S c then (paths n g k (ins S c)).map (fun l => c :: l) else []) m).Nodup := by
      intro m
      induction m with
      | zero => simp [cat]
      | succ m ih =>
        rw [cat]
        refine List.nodup_append.mpr ⟨ih, ?_, ?_⟩
        · by_cases h : g S m = true
          · rw [if_pos h]
            exact List.Pairwise.map _ (fun a b hab e => hab (List.cons.inj e).2) (paths_nodup n g k (ins S m))
          · rw [if_neg h]
            exact List.nodup_nil
        · intro a ha b hb e
          subst e
          obtain ⟨c, hc, h1⟩ := mem_cat.mp ha
          by_cases h2 : g S c = true
          · rw [if_pos h2] at h1
            obtain ⟨l1, -, e1⟩ := List.mem_map.mp h1
            by_cases h3 : g S m = true
            · rw [if_pos h3] at hb
              obtain ⟨l2, -, e2⟩ := List.mem_map.mp hb
              have := (List.cons.inj (e1.trans e2.symm)).1
              omega
            · rw [if_neg h3] at hb
              cases hb
          · rw [if_neg h2] at h1
            cases h1
    exact key n
