/-! ROWS BY THEIR NUMBERS, DISTANCES, WHAT STANDS TOGETHER ALWAYS. -/
def ahead (n : Nat) (f : Nat → Int32) (S c : Nat) : Nat := fb_sm (fun l => if ob f S l then Wf n f (ins S l) else 0) c
theorem ahead_succ (n : Nat) (f : Nat → Int32) (S c : Nat) : ahead n f S (c + 1) = ahead n f S c + (if ob f S c then Wf n f (ins S c) else 0) := fb_sm_succ _ _
theorem ahead_le {n : Nat} (hn : n ≤ 8) (f : Nat → Int32) (S : Nat) {c : Nat} (hc : c ≤ n) : ahead n f S c ≤ 134217728 := by
  refine Nat.le_trans (fb_sm_le (g := fun _ => 16777216) (fun c _ => ?_)) (by rw [fb_sm_const]; omega)
  by_cases h : ob f S c = true
  · rw [if_pos h]; exact Wf_le hn f _
  · rw [if_neg h]; exact Nat.zero_le _
theorem p_howMany {w : Nat → Int32} {k : Nat} (h0 : w 0 = nI k) {Q : Int32 → Prop} (h : Q (nI k)) : q_X1_howMany w Q := by
  unfold q_X1_howMany
  rw [sb_cl0, h0]
  exact h
theorem p_rowsAhead {n : Nat} (hn : n ≤ 8) {f w : Nat → Int32} (hg : Gr n (ob f)) {S c : Nat} (hS : S < 2 ^ n) (hc : c ≤ n) (hw : ∀ d, ob f S d = true → w (ins S d) = nI (Wf n f (ins S d))) {Q : Int32 → Prop} (h : Q (nI (ahead n f S c))) : q_X1_rowsAhead f w (nI S) (nI c) Q := by
  have h8 := pow_le8 hn
  refine up2 (fun N x a => q_X1_rowsAhead_L5 (nI S) (nI c) f w Q N a x) (fun i a => a = nI (ahead n f S i)) c ?_ 0 0 (Nat.zero_le _) rfl
  intro m i a hi hI ih
  rw [q_X1_rowsAhead_L5]
  refine ⟨fun hx => ?_, fun hx => ?_⟩
  · rw [nI_leI (by omega) (by omega)] at hx
    have e : i = c := by omega
    subst e
    rw [hI]
    exact h
  · rw [nI_leI (by omega) (by omega)] at hx
    rw [nI_1]
    refine p_mayFollow (by omega) (by omega) ⟨fun hb => ih a (by omega) ?_, fun hb => ?_⟩
    · have : ob f S i = false := hb
      rw [hI, ahead_succ, this]
      rfl
    · have hob : ob f S i = true := hb
      have hil : ins S i < 2 ^ n := ins_lt hS (by omega)
      rw [or_ins S (by omega)]
      refine ⟨vp_in_nI (by omega) (by omega), ?_⟩
      intro z hz
      rw [nI_clamp (by omega), hw i hob] at hz
      refine ih z (by omega) ?_
      rw [hz, hI, nI_add, ahead_succ, hob]
      rfl
theorem p_columnOfRest {n : Nat} (hn : n ≤ 8) {f w : Nat → Int32} (hg : Gr n (ob f)) {S r : Nat} (hS : S < 2 ^ n) (hne : S ≠ 2 ^ n - 1) (hr : r < Wf n f S) (hw : ∀ d, ob f S d = true → w (ins S d) = nI (Wf n f (ins S d))) {Q : Int32 → Prop} (h : ∀ c, c < n → ob f S c = true → ahead n f S c ≤ r → r < ahead n f S c + Wf n f (ins S c) → Q (nI c)) : q_X1_columnOfRest (nI n) f w (nI S) (nI r) Q := by
  have h8 := pow_le8 hn
  have hrl := Wf_le hn f S
  refine up2 (fun N x a => q_X1_columnOfRest_L5 (nI S) (nI n) f w Q N a x) (fun i a => ahead n f S i ≤ r ∧ a = nI (r - ahead n f S i)) n ?_ 0 (nI r) (Nat.zero_le _) ⟨Nat.zero_le _, rfl⟩
  intro m i a hi hI ih
  obtain ⟨hI1, hI2⟩ := hI
  rw [q_X1_columnOfRest_L5]
  refine ⟨fun hx => ?_, fun hx => ?_⟩
  · rw [nI_leI (by omega) (by omega)] at hx
    have e : i = n := by omega
    subst e
    have : Wf i f S = ahead i f S i := Wf_step hn hg hS hne
    omega
  · rw [nI_leI (by omega) (by omega)] at hx
    rw [nI_1]
    refine p_mayFollow (by omega) (by omega) ⟨fun hb => ih a (by omega) ?_, fun hb => ?_⟩
    · have : ob f S i = false := hb
      rw [ahead_succ, this]
      exact ⟨hI1, hI2⟩
    · have hob : ob f S i = true := hb
      have hil : ins S i < 2 ^ n := ins_lt hS (by omega)
      rw [or_ins S (by omega)]
      refine ⟨vp_in_nI (by omega) (by omega), ?_⟩
      intro z hz
      rw [nI_clamp (by omega), hw i hob] at hz
      have hwl := Wf_le hn f (ins S i)
      rw [hz, hI2, nI_leI (by omega) (by omega)]
      refine ⟨fun hq => ?_, fun hq => h i (by omega) hob hI1 (by omega)⟩
      intro z2 hz2
      rw [pk_sub hq] at hz2
      refine ih z2 (by omega) ?_
      rw [ahead_succ, if_pos hob]
      exact ⟨by omega, by rw [hz2]; congr 1; omega⟩
theorem len_pieces (n : Nat) (f : Nat → Int32) {k S c : Nat} (hn : n ≤ 8) (hg : Gr n (ob f)) (hS : S < 2 ^ n) (hk : card S + (k + 1) = n) (hc : c ≤ n) : (cat (fun c => if ob f S c then (paths n (ob f) k (ins S c)).map (fun l => c :: l) else []) c).length = ahead n f S c := by
  rw [len_cat]
  refine fb_sm_cong (fun d hd => ?_)
  by_cases h : ob f S d = true
  · rw [if_pos h, if_pos h, List.length_map]
    unfold Wf
    rw [card_ins S (nIs hn hS) d (by omega) (hg S hS d h).2, show n - (card S + 1) = k by omega]
  · rw [if_neg h, if_neg h]
    rfl
theorem path_get {n : Nat} (hn : n ≤ 8) {f : Nat → Int32} (hg : Gr n (ob f)) {k S c j : Nat} (hS : S < 2 ^ n) (hk : card S + (k + 1) = n) (hc : c < n) (hob : ob f S c = true) (hj : j < Wf n f (ins S c)) : (paths n (ob f) (k + 1) S)[ahead n f S c + j]? = ((paths n (ob f) k (ins S c))[j]?).map (fun l => c :: l) := by
  have hcd := card_ins S (nIs hn hS) c (by omega) (hg S hS c hob).2
  have hlen : Wf n f (ins S c) = (paths n (ob f) k (ins S c)).length := by
    unfold Wf
    rw [show n - card (ins S c) = k by omega]
  rw [ob_paths_succ, ← len_pieces n f hn hg hS hk (Nat.le_of_lt hc), cat_get _ (by simp only [hob, if_true, List.length_map]; omega) hc]
  simp [hob]
theorem p_write {n : Nat} (hn : n ≤ 8) {f w p : Nat → Int32} {G : List (List Nat)} (hR : Rw n f w G) {i : Nat} (hi : i < G.length) {Q : (Nat → Int32) → Prop} (h : ∀ (p' : Nat → Int32) (l : List Nat), G[i]? = some l → (∀ j, j < n → p' j = nI (l.getD j 0)) → Q p') : q_X1_write (nI n) f w p (nI i) Q := by
  have h8 := pow_le8 hn
  have h0 : 0 < 2 ^ n := Nat.two_pow_pos n
  obtain ⟨hg, hp, hw0, hw, -⟩ := hR
  refine up4 (fun N x a b c => q_X1_write_L8 (nI n) f w Q N a b x c) (fun k a b p' => ∃ (S r : Nat) (l1 : List Nat), a = nI S ∧ b = nI r ∧ S < 2 ^ n ∧ card S = k ∧ l1.length = k ∧ r < Wf n f S ∧ (∀ t, (paths n (ob f) (n - k) S)[r]? = some t → G[i]? = some (l1 ++ t)) ∧ ∀ j, j < k → p' j = nI (l1.getD j 0)) n ?_ 0 (nI 0) (nI i) p (Nat.zero_le _) ?_
  · intro m k a b p' hk hI ih
    obtain ⟨S, r, l1, rfl, rfl, hS, hcard, hlen, hr, hG, hpp⟩ := hI
    have hrl := Wf_le hn f S
    rw [q_X1_write_L8]
    refine ⟨fun hx => ?_, fun hx => ?_⟩
    · rw [nI_leI (by omega) (by omega)] at hx
      have e : k = n := by omega
      subst e
      have hS2 := full_of_card k (by omega) S hS hcard
      rw [hS2, Wf_full hn] at hr
      have hr0 : r = 0 := by omega
      refine h p' l1 ?_ hpp
      have := hG [] (by rw [Nat.sub_self, hr0]; rfl)
      rwa [List.append_nil] at this
    · rw [nI_leI (by omega) (by omega)] at hx
      have hne : S ≠ 2 ^ n - 1 := fun e => by rw [e, card_full n (by omega)] at hcard; omega
      refine p_columnOfRest hn hg hS hne hr (fun d hd => hw S hS d hd) (fun c hc hob h1 h2 => ?_)
      refine p_rowsAhead hn hg hS (Nat.le_of_lt hc) (fun d hd => hw S hS d hd) ?_
      intro z hz
      rw [pk_sub h1] at hz
      refine ⟨vp_in_nI (by omega) (by omega), ?_⟩
      intro z2 hz2
      rw [or_ins S (by omega)] at hz2
      rw [nI_clamp (by omega), nI_1]
      refine ih z2 z _ (by omega) ⟨ins S c, r - ahead n f S c, l1 ++ [c], hz2, hz, ins_lt hS hc, by rw [card_ins S (nIs hn hS) c (by omega) (hg S hS c hob).2, hcard], by simp [hlen], by omega, fun t ht => ?_, fun j hj => ?_⟩
      · have hx2 := path_get hn hg (k := n - k - 1) hS (by omega) hc hob (j := r - ahead n f S c) (by omega)
        rw [show n - k - 1 = n - (k + 1) by omega, ht, show ahead n f S c + (r - ahead n f S c) = r by omega, show n - (k + 1) + 1 = n - k by omega] at hx2
        have := hG _ hx2
        rw [this, List.append_assoc]
        rfl
      · by_cases e : j = k
        · subst e
          rw [pk_us]
          congr 1
          rw [← hlen]
          simp
        · rw [pk_un e, hpp j (by omega)]
          congr 1
          rw [List.getD_eq_getElem?_getD, List.getD_eq_getElem?_getD, List.getElem?_append_left (by omega)]
  · refine ⟨0, i, [], rfl, rfl, h0, card_0, rfl, ?_, fun t ht => ?_, fun j hj => absurd hj (Nat.not_lt_zero j)⟩
    · unfold Wf
      rw [card_0, Nat.sub_zero, hp]
      exact hi
    · rw [Nat.sub_zero, hp] at ht
      rw [ht]
      rfl
/-- a row as a number, 4 bits a column: its columns -/
def dig (n r p : Nat) : Nat := r / 2 ^ (4 * (n - 1 - p)) % 16
def digs (n r : Nat) : List Nat := (List.range n).map (dig n r)
theorem digs_take {n r p : Nat} (hp : p < n) : (digs n r).take (p + 1) = (digs n r).take p ++ [dig n r p] := by
  rw [List.take_succ]
  congr 1
  unfold digs
  simp [hp]
theorem digs_drop {n r p : Nat} (hp : p < n) : ∃ t, digs n r = (digs n r).take p ++ dig n r p :: t := by
  refine ⟨(digs n r).drop (p + 1), ?_⟩
  have h1 := (List.take_append_drop (p + 1) (digs n r)).symm
  rw [digs_take hp, List.append_assoc] at h1
  exact h1
theorem dig_bits {n r p : Nat} (hn : n ≤ 8) (hr : r < 2 ^ 32) (hp : p < n) : ((Int32.toUInt32 (nI r) >>> (Int32.toUInt32 (4 * ((nI n - 1) - nI p)) &&& Int32.toUInt32 31)).toInt32) &&& 15 = nI (dig n r p) := by
  have e : (4 : Int32) * ((nI n - 1) - nI p) = nI (4 * (n - 1 - p)) := by
    rw [show nI n - 1 = nI (n - 1) from pk_sub (b := 1) (by omega), pk_sub (by omega), show (4 : Int32) = nI 4 from rfl, pk_mul]
  rw [e, pk_ushrN hr _ (4 * (n - 1 - p)) (s_u _ (by omega))]
  exact pk_andN (Nat.lt_of_le_of_lt (Nat.div_le_self _ _) hr) (m := 15) 4 (by decide)
theorem hi_bits {n r : Nat} (hn : n < 8) (hr : r < 2 ^ 32) : ((Int32.toUInt32 (nI r) >>> (Int32.toUInt32 (4 * nI n) &&& Int32.toUInt32 31)).toInt32) = nI (r / 2 ^ (4 * n)) := by
  rw [show (4 : Int32) * nI n = nI (4 * n) by rw [show (4 : Int32) = nI 4 from rfl, pk_mul], pk_ushrN hr _ (4 * n) (s_u _ (by omega))]
theorem p_numberOf {n : Nat} (h1 : 1 ≤ n) (hn : n ≤ 8) {f w : Nat → Int32} {G : List (List Nat)} (hR : Rw n f w G) {r : Nat} (hr : r < 2 ^ 32) {Q : Int32 → Prop} (ha : ∀ num, G[num]? = some (digs n r) → r / 2 ^ (4 * n) = 0 → Q (nI num)) (hb : (digs n r ∉ G ∨ r / 2 ^ (4 * n) ≠ 0) → Q (-9)) : q_X1_numberOf (nI n) f w (nI r) Q := by
  have h8 := pow_le8 hn
  have h0 : 0 < 2 ^ n := Nat.two_pow_pos n
  obtain ⟨hg, hp, hw0, hw, -⟩ := hR
  have main : r / 2 ^ (4 * n) = 0 → q_X1_numberOf_J23 (nI r) (nI n) f w Q := by
    intro hz
    refine up3 (fun N x a b => q_X1_numberOf_L30 (nI r) (nI n) f w Q N a b x) (fun p a b => ∃ (S num : Nat), a = nI S ∧ b = nI num ∧ S < 2 ^ n ∧ card S = p ∧ (∀ t j, (paths n (ob f) (n - p) S)[j]? = some t → G[num + j]? = some ((digs n r).take p ++ t)) ∧ ∀ t, (digs n r).take p ++ t ∈ G → t ∈ paths n (ob f) (n - p) S) n ?_ 0 0 0 (Nat.zero_le _) ⟨0, 0, rfl, rfl, h0, card_0, fun t j ht => ?_, fun t ht => ?_⟩
    · intro m p a b hpn hI ih
      obtain ⟨S, num, rfl, rfl, hS, hcard, hG, hM⟩ := hI
      rw [q_X1_numberOf_L30]
      refine ⟨fun hx => ?_, fun hx => ?_⟩
      · rw [nI_leI (by omega) (by omega)] at hx
        have e : p = n := by omega
        subst e
        refine ha num ?_ hz
        have := hG [] 0 (by rw [Nat.sub_self]; rfl)
        rwa [List.append_nil, List.take_of_length_le (by simp [digs])] at this
      · rw [nI_leI (by omega) (by omega)] at hx
        have hpl : p < n := by omega
        intro x5 e5
        rw [dig_bits hn hr hpl] at e5
        subst e5
        have hd16 : dig n r p < 16 := Nat.mod_lt _ (by decide)
        refine p_mayFollow (by omega) (by omega) ⟨fun hbt => ?_, fun hbf => ?_⟩
        · have hob : ob f S (dig n r p) = true := hbt
          obtain ⟨hdn, hdb⟩ := hg S hS _ hob
          refine p_rowsAhead hn hg hS (Nat.le_of_lt hdn) (fun d hd => hw S hS d hd) ?_
          intro z hz3 z2 hz2
          rw [nI_add] at hz3
          rw [or_ins S (by omega)] at hz2
          rw [nI_1]
          refine ih z2 z hpl ⟨ins S (dig n r p), num + ahead n f S (dig n r p), hz2, hz3, ins_lt hS hdn, by rw [card_ins S (nIs hn hS) _ (by omega) hdb, hcard], fun t j ht => ?_, fun t ht => ?_⟩
          · have hjl : j < Wf n f (ins S (dig n r p)) := by
              unfold Wf
              rw [card_ins S (nIs hn hS) _ (by omega) hdb, hcard]
              exact (List.getElem?_eq_some_iff.mp ht).1
            have hx2 := path_get hn hg (k := n - p - 1) hS (by omega) hdn hob hjl
            rw [show n - p - 1 = n - (p + 1) by omega, ht, show n - (p + 1) + 1 = n - p by omega] at hx2
            have := hG _ _ hx2
            rw [Nat.add_assoc, this, digs_take hpl, List.append_assoc]
            rfl
          · rw [digs_take hpl, List.append_assoc] at ht
            have := hM _ ht
            rw [show n - p = (n - (p + 1)) + 1 by omega] at this
            obtain ⟨c, l', e, -, -, h'⟩ := mem_paths.mp this
            injection e with e1 e2
            subst e1; subst e2
            exact h'
        · refine hb (Or.inl (fun hmem => ?_))
          obtain ⟨t, ht⟩ := digs_drop (r := r) hpl
          rw [ht] at hmem
          have := hM _ hmem
          rw [show n - p = (n - (p + 1)) + 1 by omega] at this
          obtain ⟨c, l', e, -, hgc, -⟩ := mem_paths.mp this
          injection e with e1 e2
          subst e1
          unfold ob at hgc
          rw [hgc] at hbf
          cases hbf
    · rw [Nat.sub_zero, hp] at ht
      rw [Nat.zero_add, ht]
      rfl
    · rw [Nat.sub_zero, hp]
      exact ht
  unfold q_X1_numberOf
  rw [show (8 : Int32) = nI 8 from rfl, nI_leI (by omega) (by omega)]
  refine ⟨fun h => main ?_, fun h => ?_⟩
  · have e : n = 8 := by omega
    subst e
    exact Nat.div_eq_of_lt hr
  · rw [hi_bits (by omega) hr, ← nI_0, nI_eq ?_ (by omega)]
    · exact ⟨main, fun h2 => hb (Or.inr h2)⟩
    · have h16 : 2 ^ 4 ≤ 2 ^ (4 * n) := Nat.pow_le_pow_right (by omega) (by omega)
      have : r / 2 ^ (4 * n) ≤ r / 2 ^ 4 := Nat.div_le_div_left h16 (by omega)
      omega
