/-! LISTS OF ROWS IN THE REFERENCE'S ARRAYS. -/
def Holds (a : Nat → Int32) (L : List (List Nat)) : Prop := ∀ i l, L[i]? = some l → a i = nI (enc l)
/-- all rows of n columns -/
def P (n : Nat) : List (List Nat) := paths n (fullg n) n 0
theorem P_row {n : Nat} {l : List Nat} (h : l ∈ P n) : Row n l := by
  obtain ⟨h1, h2, h3, -⟩ := paths_ok (Gr_fullg n) n 0 l (Nat.two_pow_pos n) h
  exact ⟨h1, fun c hc => (h2 c hc).1, h3⟩
def fac : Nat → Nat
  | 0 => 1
  | k + 1 => (k + 1) * fac k
theorem cnt_out : ∀ n, n < 9 → ∀ S, S < 2 ^ n → fb_ct (fun c => fullg n S c) n + card S = n := by decide +kernel
theorem sm_ind (p : Nat → Bool) (v : Nat) : ∀ n, fb_sm (fun c => if p c then v else 0) n = fb_ct p n * v
  | 0 => by simp [fb_sm, fb_ct]
  | n + 1 => by
    rw [fb_sm_succ, sm_ind p v n, fb_ct_succ]
    cases p n
    · simp
    · simp [Nat.succ_mul]
theorem len_fac {n : Nat} (hn : n ≤ 8) : ∀ (k S : Nat), S < 2 ^ n → card S + k = n → (paths n (fullg n) k S).length = fac k
  | 0, S, _, _ => rfl
  | k + 1, S, hS, hk => by
    rw [len_paths]
    have e : ∀ c, c < n → (if fullg n S c then (paths n (fullg n) k (ins S c)).length else 0) = (if fullg n S c then fac k else 0) := fun c hc => by
      by_cases h : fullg n S c = true
      · have hcd := card_ins S (nIs hn hS) c (by omega) (Gr_fullg n S hS c h).2
        rw [if_pos h, if_pos h, len_fac hn k (ins S c) (ins_lt hS hc) (by omega)]
      · rw [if_neg h, if_neg h]
    rw [fb_sm_cong e, sm_ind]
    have := cnt_out n (by omega) S hS
    have h2 : fb_ct (fullg n S) n = k + 1 := by
      have h3 : fb_ct (fullg n S) n + card S = n := this
      omega
    rw [h2]
    rfl
theorem len_P {n : Nat} (hn : n ≤ 8) : (P n).length ≤ 40320 := by
  unfold P
  rw [len_fac hn n 0 (Nat.two_pow_pos n) (by rw [card_0]; omega)]
  exact (by decide : ∀ n, n < 9 → fac n ≤ 40320) n (by omega)
theorem P_ne {n : Nat} (hn : n ≤ 8) : P n ≠ [] := fun h => by
  have := len_fac hn n 0 (Nat.two_pow_pos n) (by rw [card_0]; omega)
  unfold P at h
  rw [h] at this
  exact absurd this ((by decide : ∀ n, n < 9 → ¬ 0 = fac n) n (by omega))
theorem take_last {α : Type} {L : List α} {i : Nat} {l : α} (h : L[i]? = some l) : L.take (i + 1) = L.take i ++ [l] := by
  rw [List.take_succ, h]
  rfl
theorem p_filter {n : Nat} (hn : n ≤ 8) {a : Nat → Int32} {L : List (List Nat)} (hL : ∀ l ∈ L, Row n l) (hlen : L.length ≤ 40320) (ha : Holds a L) {s : Nat} {Q : Int32 → (Nat → Int32) → Prop} (h : ∀ a' : Nat → Int32, Holds a' (L.filter (tog s)) → Q (nI (L.filter (tog s)).length) a') : q_X5_filter (nI n) a (nI L.length) (nI s) Q := by
  refine up3 (fun N x k p => q_X5_filter_L6 (nI L.length) (nI s) (nI n) Q N k x p) (fun i k p => k = nI ((L.take i).filter (tog s)).length ∧ Holds p ((L.take i).filter (tog s)) ∧ ∀ j l, i ≤ j → L[j]? = some l → p j = nI (enc l)) L.length ?_ 0 0 a (Nat.zero_le _) ⟨rfl, fun i l h => by simp at h, fun j l _ h => ha j l h⟩
  intro m i k p hi hI ih
  obtain ⟨rfl, hH, hr⟩ := hI
  have hkl : ((L.take i).filter (tog s)).length ≤ i := Nat.le_trans (List.length_filter_le _ _) (by rw [List.length_take]; omega)
  rw [q_X5_filter_L6]
  refine ⟨fun hx => ?_, fun hx => ?_⟩
  · rw [nI_leI (by omega) (by omega)] at hx
    have e : L.take i = L := List.take_of_length_le hx
    rw [e] at hH ⊢
    exact h p hH
  · rw [nI_leI (by omega) (by omega)] at hx
    have hlt : i < L.length := by omega
    have hl : L[i]? = some (L[i]'hlt) := List.getElem?_eq_getElem hlt
    refine ⟨vp_in_nI (by omega) (by omega), ?_⟩
    rw [nI_clamp (by omega), hr i _ (Nat.le_refl i) hl, nI_1 i]
    refine p_isTogether hn (hL _ (List.getElem_mem _)) ⟨fun hb => ⟨vp_in_nI (by omega) (by omega), ?_⟩, fun hb => ih _ _ hlt ⟨?_, ?_, fun j l hj hjl => hr j l (by omega) hjl⟩⟩
    · rw [nI_clamp (by omega), nI_1]
      have ef : (L.take (i + 1)).filter (tog s) = (L.take i).filter (tog s) ++ [L[i]'hlt] := by
        rw [take_last hl, List.filter_append]
        simp [hb]
      refine ih _ _ hlt ⟨by rw [ef]; simp, fun j l hj => ?_, fun j l hj hjl => ?_⟩
      · rw [ef] at hj
        by_cases e : j = ((L.take i).filter (tog s)).length
        · subst e
          rw [pk_us]
          simp at hj
          rw [hj]
        · rw [pk_un e]
          refine hH j l ?_
          rw [List.getElem?_append] at hj
          split at hj
          · exact hj
          · rename_i hge
            have : j - ((L.take i).filter (tog s)).length ≠ 0 := by omega
            rw [List.getElem?_eq_none (by simp; omega)] at hj
            cases hj
      · rw [pk_un (by omega)]
        exact hr j l (by omega) hjl
    · rw [take_last hl, List.filter_append]
      simp [hb]
    · rw [take_last hl, List.filter_append]
      simp [hb]
      exact hH
theorem p_isAny {n : Nat} (hn : n ≤ 8) {a : Nat → Int32} {L : List (List Nat)} (hL : ∀ l ∈ L, Row n l) (hlen : L.length ≤ 40320) (ha : Holds a L) {s : Nat} {Q : Bool → Prop} (h : Q (L.any (tog s))) : q_X5_isAny (nI n) (nI L.length) a (nI s) Q := by
  refine up2 (fun N x b => q_X5_isAny_L4 (nI s) (nI n) (nI L.length) a Q N b x) (fun i b => b = (L.take i).any (tog s)) L.length ?_ 0 false (Nat.zero_le _) rfl
  intro m i b hi hI ih
  rw [q_X5_isAny_L4]
  refine ⟨fun hx => ?_, fun hx => ⟨fun hb => ?_, fun hb => ?_⟩⟩
  · rw [nI_leI (by omega) (by omega)] at hx
    rw [hI, List.take_of_length_le hx]
    exact h
  · have : L.any (tog s) = true := by
      rw [hI] at hb
      obtain ⟨l, h1, h2⟩ := List.any_eq_true.mp hb
      exact List.any_eq_true.mpr ⟨l, List.mem_of_mem_take h1, h2⟩
    rw [hb, ← this]
    exact h
  · rw [nI_leI (by omega) (by omega)] at hx
    have hlt : i < L.length := by omega
    have hl : L[i]? = some (L[i]'hlt) := List.getElem?_eq_getElem hlt
    refine ⟨vp_in_nI (by omega) (by omega), ?_⟩
    rw [nI_clamp (by omega), ha i _ hl, nI_1]
    refine p_isTogether hn (hL _ (List.getElem_mem _)) (ih _ hlt ?_)
    rw [take_last hl, List.any_append, ← hI, hb]
    simp
theorem p_isAlways {n : Nat} (hn : n ≤ 8) {a : Nat → Int32} {L : List (List Nat)} (hL : ∀ l ∈ L, Row n l) (hlen : L.length ≤ 40320) (ha : Holds a L) {s : Nat} {Q : Bool → Prop} (h : Q (L.all (tog s))) : q_X5_isAlways (nI n) (nI L.length) a (nI s) Q := by
  refine up2 (fun N x b => q_X5_isAlways_L4 (nI s) (nI n) (nI L.length) a Q N b x) (fun i b => b = (L.take i).all (tog s)) L.length ?_ 0 true (Nat.zero_le _) rfl
  intro m i b hi hI ih
  rw [q_X5_isAlways_L4]
  refine ⟨fun hx => ?_, fun hx => ⟨fun hb => ?_, fun hb => ?_⟩⟩
  · rw [nI_leI (by omega) (by omega)] at hx
    rw [hI, List.take_of_length_le hx]
    exact h
  · have : L.all (tog s) = false := by
      rw [hI] at hb
      refine Bool.eq_false_iff.mpr (fun h2 => ?_)
      have : (L.take i).all (tog s) = true := List.all_eq_true.mpr (fun l hl => List.all_eq_true.mp h2 l (List.mem_of_mem_take hl))
      rw [hb] at this
      cases this
    rw [hb, ← this]
    exact h
  · rw [nI_leI (by omega) (by omega)] at hx
    have hlt : i < L.length := by omega
    have hl : L[i]? = some (L[i]'hlt) := List.getElem?_eq_getElem hlt
    refine ⟨vp_in_nI (by omega) (by omega), ?_⟩
    rw [nI_clamp (by omega), ha i _ hl, nI_1]
    refine p_isTogether hn (hL _ (List.getElem_mem _)) (ih _ hlt ?_)
    rw [take_last hl, List.all_append, ← hI, hb]
    simp
/-! all rows, made by the reference -/
theorem shl4 {r c : Nat} (hc : c < 16) (hr : r * 16 < 2 ^ 32) : ((nI r) <<< ((4 : Int32) &&& 31)) ||| nI c = nI (r * 16 + c) := by
  rw [show (4 : Int32) = nI 4 from rfl, pk_shlN _ 4 (s_l 4 (by omega)) (by omega), Nat.mul_comm r]
  exact fa_or_sum (k := 4) r hc
theorem len_cat_le {α : Type} (f : Nat → List α) {c n : Nat} (h : c ≤ n) : (cat f c).length ≤ (cat f n).length := by
  rw [len_cat, len_cat]
  have := fb_sm_mono (fun c => (f c).length) c (n - c)
  rw [show c + (n - c) = n by omega] at this
  exact this
theorem p_extend {n : Nat} (h1 : 1 ≤ n) (hn : n ≤ 8) : ∀ (k d : Nat), k < d → ∀ (S r many : Nat) (a : Nat → Int32) (Q : Int32 → (Nat → Int32) → Prop), S < 2 ^ n → card S + k = n → r < 2 ^ (4 * (n - k)) → many + (paths n (fullg n) k S).length ≤ 40320 → (∀ a' : Nat → Int32, (∀ j, j < many → a' j = a j) → (∀ j l, (paths n (fullg n) k S)[j]? = some l → a' (many + j) = nI (encF r l)) → Q (nI (many + (paths n (fullg n) k S).length)) a') → q_X5_extend d (nI n) (nI many) a (nI r) (nI S) (nI (n - k)) Q
  | k, 0, hd, _, _, _, _, _, _, _, _, _, _ => by omega
  | 0, d + 1, hd, S, r, many, a, Q, hS, hk, hr, hb, h => by
    rw [q_X5_extend]
    rw [Nat.sub_zero]
    have hb' : many + 1 ≤ 40320 := hb
    refine ⟨fun q => absurd rfl q, fun _ => ⟨vp_in_nI (by omega) (by omega), ?_⟩⟩
    rw [nI_clamp (by omega), nI_1]
    refine h _ (fun j hj => pk_un (by omega)) (fun j l hj => ?_)
    cases j with
    | zero =>
      cases hj
      exact pk_us
    | succ j => simp [paths] at hj
  | k + 1, d + 1, hd, S, r, many, a, Q, hS, hk, hr, hb, h => by
    have h8 := pow_le8 hn
    rw [q_X5_extend]
    refine ⟨fun _ => ?_, fun q => absurd ((nI_eq (by omega) (by omega)).mp q) (by omega)⟩
    let F : Nat → List (List Nat) := fun c => if fullg n S c then (paths n (fullg n) k (ins S c)).map (fun l => c :: l) else []
    have eF : paths n (fullg n) (k + 1) S = cat F n := rfl
    refine up3 (fun N x mm aa => q_X5_extend_L32 (q_X5_extend d) (nI r) (nI S) (nI (n - (k + 1))) (nI n) Q N x mm aa) (fun c mm aa => mm = nI (many + (cat F c).length) ∧ (∀ j, j < many → aa j = a j) ∧ ∀ j l, (cat F c)[j]? = some l → aa (many + j) = nI (encF r l)) n ?_ 0 (nI many) a (Nat.zero_le _) ⟨rfl, fun _ _ => rfl, fun j l hj => by simp [cat] at hj⟩
    intro m c mm aa hc hI ih
    obtain ⟨rfl, hI1, hI2⟩ := hI
    rw [q_X5_extend_L32]
    refine ⟨fun hx => ?_, fun hx => ?_⟩
    · rw [nI_leI (by omega) (by omega)] at hx
      have e : c = n := by omega
      subst e
      rw [← eF]
      exact h aa hI1 hI2
    · rw [nI_leI (by omega) (by omega)] at hx
      have hcn : c < n := by omega
      rw [nI_1, sh1 _ (by omega), bt_nI _ (by omega)]
      have hle := len_cat_le F (show c + 1 ≤ n by omega)
      have hcat : cat F (c + 1) = cat F c ++ F c := rfl
      refine ⟨fun hb1 => ?_, fun hb0 => ?_⟩
      · have hbit : S.testBit c = true := bI_1 hb1
        have hF : F c = [] := by
          show (if fullg n S c then _ else _) = _
          rw [if_neg]
          simp [fullg, hbit]
        rw [hF, List.append_nil] at hcat
        refine ih _ _ hcn ⟨by rw [hcat], hI1, ?_⟩
        rw [hcat]
        exact hI2
      · have hbit : S.testBit c = false := bI_0 hb0
        have hg : fullg n S c = true := by simp [fullg, hbit, hcn]
        have hF : F c = (paths n (fullg n) k (ins S c)).map (fun l => c :: l) := if_pos hg
        have hcd := card_ins S (nIs hn hS) c (by omega) hbit
        have hFl : (F c).length = (paths n (fullg n) k (ins S c)).length := by rw [hF, List.length_map]
        have hr2 : r * 16 < 2 ^ 32 := by
          have h2 : 2 ^ (4 * (n - (k + 1))) ≤ 2 ^ 28 := Nat.pow_le_pow_right (by omega) (by omega)
          omega
        rw [shl4 (by omega) hr2, or_ins S (by omega), nI_1, show n - (k + 1) + 1 = n - k by omega]
        rw [hcat, List.length_append, hFl] at hle
        rw [← eF] at hle
        refine p_extend h1 hn k d (by omega) (ins S c) (r * 16 + c) (many + (cat F c).length) aa _ (ins_lt hS hcn) (by omega) ?_ (by omega) (fun a' q1 q2 => ih _ _ hcn ⟨?_, fun j hj => ?_, fun j l hj => ?_⟩)
        · rw [show n - k = (n - (k + 1)) + 1 by omega, show 4 * (n - (k + 1) + 1) = 4 * (n - (k + 1)) + 4 by omega, Nat.pow_add]
          omega
        · rw [hcat, List.length_append, hFl, Nat.add_assoc]
        · rw [q1 j (by omega), hI1 j hj]
        · rw [hcat] at hj
          rw [List.getElem?_append] at hj
          split at hj
          · rename_i hlt
            rw [q1 _ (by omega)]
            exact hI2 j l hj
          · rename_i hge
            rw [hF, List.getElem?_map] at hj
            cases hq : (paths n (fullg n) k (ins S c))[j - (cat F c).length]? with
            | none => rw [hq] at hj; cases hj
            | some l' =>
              rw [hq] at hj
              have e : c :: l' = l := Option.some.inj hj
              have := q2 _ l' hq
              rw [show many + (cat F c).length + (j - (cat F c).length) = many + j by omega] at this
              rw [this, ← e]
              rfl
theorem p_lay {n : Nat} (h1 : 1 ≤ n) (hn : n ≤ 8) {x1 x2 x3 x4 x5 : Int32} {all good : Nat → Int32} {Q : Int32 → Int32 → Int32 → Int32 → Int32 → (Nat → Int32) → (Nat → Int32) → Prop} (h : ∀ all' good' : Nat → Int32, Holds all' (P n) → Holds good' (P n) → Q (nI n) 0 (nI (P n).length) (nI (P n).length) 0 all' good') : q_X5_lay x1 x2 x3 x4 x5 all good (nI n) Q := by
  unfold q_X5_lay
  have hl := len_P hn
  have hx := p_extend h1 hn n 9 (by omega) 0 0 0 all (fun g_many_1 g_all_2 => ∃ N : Nat, q_X5_lay_L24 (nI n) 0 g_many_1 g_all_2 Q N 0 good) (Nat.two_pow_pos n) (by rw [card_0]; omega) (Nat.two_pow_pos _) (by rw [Nat.zero_add]; exact hl) ?_
  · rw [Nat.sub_self] at hx
    exact hx
  · intro all' _ hall
    rw [Nat.zero_add]
    have hH : Holds all' (P n) := fun i l hi => by
      have := hall i l hi
      rw [Nat.zero_add] at this
      exact this
    refine up2 (fun N x g => q_X5_lay_L24 (nI n) 0 (nI (P n).length) all' Q N x g) (fun i g => ∀ j, j < i → g j = all' j) (P n).length ?_ 0 good (Nat.zero_le _) (fun j hj => absurd hj (Nat.not_lt_zero j))
    intro m i g hi hI ih
    rw [q_X5_lay_L24]
    refine ⟨fun hx => ?_, fun hx => ⟨?_, ?_⟩⟩
    · rw [nI_leI (by omega) (by omega)] at hx
      have e : i = (P n).length := by omega
      unfold q_X5_lay_J50
      refine h all' g hH (fun j l hj => ?_)
      rw [hI j (by rw [e]; exact (List.getElem?_eq_some_iff.mp hj).1)]
      exact hH j l hj
    · rw [nI_leI (by omega) (by omega)] at hx
      exact vp_in_nI (by omega) (by omega)
    · rw [nI_leI (by omega) (by omega)] at hx
      rw [nI_clamp (by omega), nI_1]
      refine ih _ (by omega) (fun j hj => ?_)
      by_cases e : j = i
      · subst e; exact pk_us
      · rw [pk_un e]; exact hI j (by omega)
/-! the rows in which the lines that are taken stand together -/
def Cn (tk : Nat → Bool) (sets : Nat → Nat) : Nat → List Nat → Bool
  | 0, _ => true
  | m + 1, l => Cn tk sets m l && (!tk m || tog (sets m) l)
def GS (n : Nat) (tk : Nat → Bool) (sets : Nat → Nat) (m : Nat) : List (List Nat) := (P n).filter (Cn tk sets m)
theorem GS_yes {n : Nat} {tk : Nat → Bool} {sets : Nat → Nat} {m : Nat} (h : tk m = true) : (GS n tk sets m).filter (tog (sets m)) = GS n tk sets (m + 1) := by
  unfold GS
  rw [List.filter_filter]
  refine List.filter_congr (fun l _ => ?_)
  rw [Cn, h]
  simp [Bool.and_comm]
theorem GS_no {n : Nat} {tk : Nat → Bool} {sets : Nat → Nat} {m : Nat} (h : tk m = false) : GS n tk sets m = GS n tk sets (m + 1) := by
  unfold GS
  refine List.filter_congr (fun l _ => ?_)
  rw [Cn, h]
  simp
theorem GS_row {n : Nat} {tk : Nat → Bool} {sets : Nat → Nat} {m : Nat} : ∀ l ∈ GS n tk sets m, Row n l := fun l hl => P_row (List.mem_filter.mp hl).1
theorem GS_len {n : Nat} (hn : n ≤ 8) {tk : Nat → Bool} {sets : Nat → Nat} {m : Nat} : (GS n tk sets m).length ≤ 40320 := Nat.le_trans (List.length_filter_le _ _) (len_P hn)
theorem p_goodWithout {n nl : Nat} (hn : n ≤ 8) (hnl : nl ≤ 40) {sA tA all to : Nat → Int32} {sets : Nat → Nat} {tk : Nat → Bool} {x2 : Int32} (hs : ∀ k, k < nl → sA k = nI (sets k)) (htk : ∀ k, k < nl → (tk k = true ↔ (¬ nI k = x2 ∧ tA k = 0))) (hall : Holds all (P n)) {Q : Int32 → (Nat → Int32) → Prop} (h : ∀ to' : Nat → Int32, Holds to' (GS n tk sets nl) → Q (nI (GS n tk sets nl).length) to') : q_X5_goodWithout (nI n) (nI nl) (nI (P n).length) sA tA all to x2 Q := by
  have hl := len_P hn
  refine up2 (fun N x g => q_X5_goodWithout_L2 x2 (nI n) (nI nl) (nI (P n).length) sA tA all Q N x g) (fun i g => ∀ j, j < i → g j = all j) (P n).length ?_ 0 to (Nat.zero_le _) (fun j hj => absurd hj (Nat.not_lt_zero j))
  intro m i g hi hI ih
  rw [q_X5_goodWithout_L2]
  refine ⟨fun hx => ?_, fun hx => ⟨?_, ?_⟩⟩
  · rw [nI_leI (by omega) (by omega)] at hx
    have e : i = (P n).length := by omega
    have hH : Holds g (GS n tk sets 0) := fun j l hj => by
      have hj : (P n)[j]? = some l := by
        have : GS n tk sets 0 = P n := by unfold GS; exact List.filter_eq_self.mpr (fun _ _ => rfl)
        rwa [this] at hj
      rw [hI j (by rw [e]; exact (List.getElem?_eq_some_iff.mp hj).1)]
      exact hall j l hj
    have hlen0 : (P n).length = (GS n tk sets 0).length := by
      have : GS n tk sets 0 = P n := by unfold GS; exact List.filter_eq_self.mpr (fun _ _ => rfl)
      rw [this]
    unfold q_X5_goodWithout_J25
    rw [hlen0]
    refine up3 (fun N x c p => q_X5_goodWithout_L33 x2 (nI n) (nI nl) sA tA Q N c x p) (fun k c p => c = nI (GS n tk sets k).length ∧ Holds p (GS n tk sets k)) nl ?_ 0 _ g (Nat.zero_le _) ⟨rfl, hH⟩
    intro m2 k c p hk hK ih2
    obtain ⟨rfl, hp⟩ := hK
    rw [q_X5_goodWithout_L33]
    refine ⟨fun hx => ?_, fun hx => ?_⟩
    · rw [nI_leI (by omega) (by omega)] at hx
      have e : k = nl := by omega
      subst e
      exact h p hp
    · rw [nI_leI (by omega) (by omega)] at hx
      have hkn : k < nl := by omega
      rw [nI_1]
      have skip : tk k = false → q_X5_goodWithout_L33 x2 (nI n) (nI nl) sA tA Q m2 (nI (GS n tk sets k).length) (nI (k + 1)) p := fun hf => by
        rw [GS_no hf] at hp ⊢
        exact ih2 _ _ hkn ⟨rfl, hp⟩
      refine ⟨fun q => skip ?_, fun q => ⟨vp_in_nI (by omega) (by omega), ?_⟩⟩
      · refine Bool.eq_false_iff.mpr (fun z => ((htk k hkn).mp z).1 q)
      · rw [nI_clamp (by omega)]
        refine ⟨fun q2 => skip (Bool.eq_false_iff.mpr (fun z => q2 ((htk k hkn).mp z).2)), fun q2 => ?_⟩
        have ht : tk k = true := (htk k hkn).mpr ⟨q, q2⟩
        rw [hs k hkn]
        refine p_filter hn GS_row (GS_len hn) hp (fun a' ha' => ?_)
        rw [GS_yes ht] at ha' ⊢
        exact ih2 _ _ hkn ⟨rfl, ha'⟩
  · rw [nI_leI (by omega) (by omega)] at hx
    exact vp_in_nI (by omega) (by omega)
  · rw [nI_leI (by omega) (by omega)] at hx
    rw [nI_clamp (by omega), nI_1]
    refine ih _ (by omega) (fun j hj => ?_)
    by_cases e : j = i
    · subst e; exact pk_us
    · rw [pk_un e]; exact hI j (by omega)
