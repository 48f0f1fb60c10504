/-! THE REFERENCE'S QUESTIONS OVER THE GOOD ROWS. -/
/-- what a question needs of the good rows -/
def GOk (n : Nat) (G : List (List Nat)) : Prop := (∀ l ∈ G, l ∈ P n) ∧ G ≠ [] ∧ G.length ≤ 40320 ∧ G.Nodup
theorem GOk.row {n : Nat} {G : List (List Nat)} (h : GOk n G) : ∀ l ∈ G, Row n l := fun l hl => P_row (h.1 l hl)
theorem P_mem {n : Nat} (hn : n ≤ 8) {l : List Nat} (h : l ∈ P n) {c : Nat} (hc : c < n) : c ∈ l := by
  rcases paths_all hn (Gr_fullg n) (Nat.two_pow_pos n) (by rw [card_0]; omega) h hc with q | q
  · simp at q
  · exact q
theorem len_next {α : Type} {L : List α} {p : α → Bool} {i : Nat} {l : α} (h : L[i]? = some l) : ((L.take (i + 1)).filter p).length = ((L.take i).filter p).length + (if p l then 1 else 0) := by
  rw [take_last h, List.filter_append, List.length_append]
  congr 1
  cases hp : p l <;> simp [hp]
def sp_row (n : Nat) (G : List (List Nat)) (x1 x2 : Int32) : Ans := match ix x1 G.length with
  | none => .inl 1
  | some i => if x2 < 0 then .inl 4 else match ix x2 n with
    | none => .inl 6
    | some p => .inr (nI ((G.getD i []).getD p 0))
theorem getD_eq {α : Type} {L : List α} {i : Nat} {d l : α} (h : L[i]? = some l) : L.getD i d = l := by rw [List.getD_eq_getElem?_getD, h]; rfl
theorem m_row {n : Nat} (hn : n ≤ 8) {G : List (List Nat)} (hG : GOk n G) {good rf : Nat → Int32} (ha : Holds good G) {x1 x2 : Int32} {Q : Int32 → (Nat → Int32) → Prop} (h : Q (ansR (sp_row n G x1 x2)) (rfA rf (sp_row n G x1 x2))) : q_X5_row (nI n) (nI G.length) rf good x1 x2 Q := by
  have hlen := hG.2.2.1
  unfold q_X5_row
  refine m_isIn (by omega) ?_
  unfold sp_row at h
  rcases ix_cases x1 (m := G.length) (by omega) with ⟨i, hi, rfl, e⟩ | ⟨hx, e⟩ | ⟨hx, hx2, e⟩
  · rw [e] at h ⊢
    refine ⟨fun _ => ?_, fun q => Bool.noConfusion q⟩
    simp only at h
    have hl : G[i]? = some (G[i]'hi) := List.getElem?_eq_getElem hi
    rw [getD_eq hl] at h
    by_cases hneg : x2 < 0
    · rw [if_pos hneg] at h
      refine ⟨fun q => ?_, fun _ => m_refuse (k := 4) (by omega) (by omega) (by decide) h⟩
      rw [fa_le] at q; rw [fa_lt] at hneg; omega
    · rw [if_neg hneg] at h
      refine ⟨fun _ => ?_, fun q => absurd (fa_of_nlt hneg) q⟩
      rcases ix_cases x2 (m := n) (by omega) with ⟨p, hp, rfl, e2⟩ | ⟨hy, e2⟩ | ⟨hy, hy2, e2⟩
      · rw [e2] at h
        refine ⟨fun _ => ⟨vp_in_nI (by omega) (by omega), ?_⟩, fun q => absurd (nI_lt hp (by omega)) q⟩
        rw [nI_clamp (by omega), ha i _ hl]
        exact p_columnAt hn (hG.row _ (List.getElem_mem _)) hp h
      · exact absurd hy hneg
      · rw [e2] at h
        refine ⟨fun q => ?_, fun _ => m_refuse (k := 6) (by omega) (by omega) (by decide) h⟩
        rw [fa_le] at hy2; rw [fa_lt] at q; omega
  · rw [e] at h ⊢
    exact ⟨fun q => Bool.noConfusion q, fun _ => m_refuse (k := 1) (by omega) (by omega) (by decide) h⟩
  · rw [e] at h ⊢
    exact ⟨fun q => Bool.noConfusion q, fun _ => m_refuse (k := 1) (by omega) (by omega) (by decide) h⟩
/-- the number of a row: the place of the first that is told so -/
def rkF (x : Int32) : List (List Nat) → Nat → Int32
  | [], _ => -9
  | l :: L, i => if nI (enc l) = x then nI i else rkF x L (i + 1)
theorem m_rank {G : List (List Nat)} (hlen : G.length ≤ 40320) {good : Nat → Int32} (ha : Holds good G) {x : Int32} {Q : Int32 → Prop} (h : Q (rkF x G 0)) : q_X5_rank (nI G.length) good x Q := by
  refine up1 (fun N y => q_X5_rank_L2 x (nI G.length) good Q N y) (fun i => rkF x G 0 = rkF x (G.drop i) i) G.length ?_ 0 (Nat.zero_le _) rfl
  intro m i hi hI ih
  rw [q_X5_rank_L2]
  refine ⟨fun hx => ?_, fun hx => ?_⟩
  · rw [nI_leI (by omega) (by omega)] at hx
    rw [List.drop_of_length_le hx] at hI
    rw [hI] at h
    exact h
  · rw [nI_leI (by omega) (by omega)] at hx
    have hlt : i < G.length := by omega
    have hl : G[i]? = some (G[i]'hlt) := List.getElem?_eq_getElem hlt
    refine ⟨vp_in_nI (by omega) (by omega), ?_⟩
    rw [nI_clamp (by omega), ha i _ hl, nI_1]
    rw [List.drop_eq_getElem_cons hlt, rkF] at hI
    refine ⟨fun q => ih hlt ?_, fun q => ?_⟩
    · rw [if_neg q] at hI
      exact hI
    · rw [if_pos q] at hI
      rw [hI] at h
      exact h
/-- a set: in how many rows -/
def cP (p : List Nat → Bool) (G : List (List Nat)) : Nat := (G.filter p).length
theorem cP_le (p : List Nat → Bool) (G : List (List Nat)) : cP p G ≤ G.length := List.length_filter_le _ _
def sp_together (n : Nat) (G : List (List Nat)) (x : Int32) : Ans := match ix x (2 ^ n) with
  | none => .inl 2
  | some s => .inr (told (cP (tog s) G) G.length)
theorem m_together {n : Nat} (hn : n ≤ 8) {G : List (List Nat)} (hG : GOk n G) {good rf : Nat → Int32} (ha : Holds good G) {x1 : Int32} {Q : Int32 → (Nat → Int32) → Prop} (h : Q (ansR (sp_together n G x1)) (rfA rf (sp_together n G x1))) : q_X5_together (nI n) (nI G.length) rf good x1 Q := by
  have hlen := hG.2.2.1
  have h8 := pow_le8 hn
  unfold q_X5_together
  refine m_isSet hn ?_
  unfold sp_together at h
  rcases ix_cases x1 (m := 2 ^ n) (by omega) with ⟨s, hs, rfl, e⟩ | ⟨hx, e⟩ | ⟨hx, hx2, e⟩
  · rw [e] at h ⊢
    refine ⟨fun _ => ?_, fun q => Bool.noConfusion q⟩
    refine up2 (fun N x a => q_X5_together_L19 (nI s) (nI n) (nI G.length) rf good Q N a x) (fun i a => a = nI ((G.take i).filter (tog s)).length) G.length ?_ 0 0 (Nat.zero_le _) rfl
    intro m i a hi hI ih
    rw [q_X5_together_L19]
    refine ⟨fun hx => ?_, fun hx => ?_⟩
    · rw [nI_leI (by omega) (by omega)] at hx
      rw [List.take_of_length_le hx] at hI
      unfold q_X5_together_J55
      rw [hI]
      have := cP_le (tog s) G
      unfold cP at this
      exact m_told (by omega) (by omega) h
    · rw [nI_leI (by omega) (by omega)] at hx
      have hlt : i < G.length := by omega
      have hl : G[i]? = some (G[i]'hlt) := List.getElem?_eq_getElem hlt
      refine ⟨vp_in_nI (by omega) (by omega), ?_⟩
      rw [nI_clamp (by omega), ha i _ hl, nI_1]
      refine p_isTogether hn (hG.row _ (List.getElem_mem _)) ?_
      intro t et z ez
      refine ih z hlt ?_
      rw [ez, et, hI, len_next hl, ← nI_add]
      congr 1
      cases tog s (G[i]'hlt) <;> decide
  · rw [e] at h ⊢
    exact ⟨fun q => Bool.noConfusion q, fun _ => m_refuse (k := 2) (by omega) (by omega) (by decide) h⟩
  · rw [e] at h ⊢
    exact ⟨fun q => Bool.noConfusion q, fun _ => m_refuse (k := 2) (by omega) (by omega) (by decide) h⟩
/-- all columns but those of a set -/
def cpl (n s : Nat) : Nat := (2 ^ n - 1) ^^^ s
theorem cpl_lt {n s : Nat} (hs : s < 2 ^ n) : cpl n s < 2 ^ n := Nat.xor_lt_two_pow (by have := Nat.two_pow_pos n; omega) hs
theorem cpl_eq {n s : Nat} (hn : n ≤ 8) (hs : s < 2 ^ n) : nI (2 ^ n - 1) &&& (nI s ^^^ (-1)) = nI (cpl n s) := by
  refine b_ext (fun i hi => ?_)
  unfold cpl
  rw [b_and, b_xor, b_m1 i hi, bt_nI _ hi, bt_nI _ hi, bt_nI _ hi, Nat.testBit_xor, full_bit]
  rcases Nat.lt_or_ge i n with q | q
  · simp [q]
  · rw [bit_lt hs q]
    simp
def sp_round (n : Nat) (G : List (List Nat)) (x : Int32) : Ans := match ix x (2 ^ n) with
  | none => .inl 2
  | some s => .inr (told (cP (fun l => tog s l || tog (cpl n s) l) G) G.length)
theorem m_round {n : Nat} (hn : n ≤ 8) {G : List (List Nat)} (hG : GOk n G) {good rf : Nat → Int32} (ha : Holds good G) {x1 : Int32} {Q : Int32 → (Nat → Int32) → Prop} (h : Q (ansR (sp_round n G x1)) (rfA rf (sp_round n G x1))) : q_X5_round (nI n) (nI G.length) rf good x1 Q := by
  have hlen := hG.2.2.1
  have h8 := pow_le8 hn
  unfold q_X5_round
  refine m_isSet hn ?_
  unfold sp_round at h
  rcases ix_cases x1 (m := 2 ^ n) (by omega) with ⟨s, hs, rfl, e⟩ | ⟨hx, e⟩ | ⟨hx, hx2, e⟩
  · rw [e] at h ⊢
    refine ⟨fun _ => ?_, fun q => Bool.noConfusion q⟩
    rw [one_shl n (by omega), show nI (2 ^ n) - 1 = nI (2 ^ n - 1) from pk_sub (b := 1) (Nat.two_pow_pos n), cpl_eq hn hs]
    intro x2 e2
    subst e2
    refine up2 (fun N x a => q_X5_round_L33 (nI s) (nI (cpl n s)) (nI n) (nI G.length) rf good Q N a x) (fun i a => a = nI ((G.take i).filter (fun l => tog s l || tog (cpl n s) l)).length) G.length ?_ 0 0 (Nat.zero_le _) rfl
    intro m i a hi hI ih
    rw [q_X5_round_L33]
    refine ⟨fun hx => ?_, fun hx => ?_⟩
    · rw [nI_leI (by omega) (by omega)] at hx
      rw [List.take_of_length_le hx] at hI
      unfold q_X5_round_J86
      rw [hI]
      have := cP_le (fun l => tog s l || tog (cpl n s) l) G
      unfold cP at this
      exact m_told (by omega) (by omega) h
    · rw [nI_leI (by omega) (by omega)] at hx
      have hlt : i < G.length := by omega
      have hl : G[i]? = some (G[i]'hlt) := List.getElem?_eq_getElem hlt
      have hrow := hG.row _ (List.getElem_mem hlt)
      have hn2 := len_next (p := fun l => tog s l || tog (cpl n s) l) hl
      refine ⟨vp_in_nI (by omega) (by omega), ?_⟩
      rw [nI_clamp (by omega), ha i _ hl, nI_1]
      refine p_isTogether hn hrow ⟨fun hb => ?_, fun hb => p_isTogether hn hrow ⟨fun hb2 => ?_, fun hb2 => ?_⟩⟩
      · intro z ez
        refine ih z hlt ?_
        rw [ez, hI, hn2, ← nI_add, hb]
        rfl
      · intro z ez
        refine ih z hlt ?_
        rw [ez, hI, hn2, ← nI_add, hb, hb2]
        rfl
      · intro z ez
        refine ih z hlt ?_
        rw [ez, hI, hn2, ← nI_add, hb, hb2]
        rfl
  · rw [e] at h ⊢
    exact ⟨fun q => Bool.noConfusion q, fun _ => m_refuse (k := 2) (by omega) (by omega) (by decide) h⟩
  · rw [e] at h ⊢
    exact ⟨fun q => Bool.noConfusion q, fun _ => m_refuse (k := 2) (by omega) (by omega) (by decide) h⟩
/-- b between a and c -/
def bw (a b c : Nat) (l : List Nat) : Bool := decide ((l.idxOf a < l.idxOf b ∧ l.idxOf b < l.idxOf c) ∨ (l.idxOf c < l.idxOf b ∧ l.idxOf b < l.idxOf a))
def sp_between (n : Nat) (G : List (List Nat)) (x1 x2 x3 : Int32) : Ans := match ix x1 n, ix x2 n, ix x3 n with
  | some a, some b, some c => if a = b ∨ b = c ∨ a = c then .inl 1 else .inr (told (cP (bw a b c) G) G.length)
  | _, _, _ => .inl 1
theorem idx_lt {n : Nat} (hn : n ≤ 8) {l : List Nat} (h : l ∈ P n) {c : Nat} (hc : c < n) : l.idxOf c < n := by
  have h1 := List.idxOf_lt_length_iff.mpr (P_mem hn h hc)
  rwa [(P_row h).1] at h1
theorem bw_int {ia ib ic : Nat} (h1 : ia < 2 ^ 31) (h2 : ib < 2 ^ 31) (h3 : ic < 2 ^ 31) : (if nI ib ≤ nI ia then (if nI ib ≤ nI ic then (0 : Int32) else (if nI ia ≤ nI ib then 0 else 1)) else (if nI ib < nI ic then 1 else (if nI ib ≤ nI ic then 0 else (if nI ia ≤ nI ib then 0 else 1)))) = nI (if decide ((ia < ib ∧ ib < ic) ∨ (ic < ib ∧ ib < ia)) = true then 1 else 0) := by
  simp only [nI_leI h2 h1, nI_leI h2 h3, nI_leI h1 h2, nI_ltI h2 h3]
  by_cases hd : ((ia < ib ∧ ib < ic) ∨ (ic < ib ∧ ib < ia))
  · rw [decide_eq_true hd]
    by_cases w1 : ib ≤ ia <;> by_cases w2 : ib ≤ ic <;> by_cases w3 : ia ≤ ib <;> by_cases w4 : ib < ic <;> simp only [w1, w2, w3, w4, if_true, if_false] <;> first | rfl | (exfalso; omega)
  · rw [decide_eq_false hd]
    by_cases w1 : ib ≤ ia <;> by_cases w2 : ib ≤ ic <;> by_cases w3 : ia ≤ ib <;> by_cases w4 : ib < ic <;> simp only [w1, w2, w3, w4, if_true, if_false] <;> first | rfl | (exfalso; omega)
theorem m_between {n : Nat} (hn : n ≤ 8) {G : List (List Nat)} (hG : GOk n G) {good rf : Nat → Int32} (ha : Holds good G) {x1 x2 x3 : Int32} {Q : Int32 → (Nat → Int32) → Prop} (h : Q (ansR (sp_between n G x1 x2 x3)) (rfA rf (sp_between n G x1 x2 x3))) : q_X5_between (nI n) (nI G.length) rf good x1 x2 x3 Q := by
  have hlen := hG.2.2.1
  have no : sp_between n G x1 x2 x3 = .inl 1 → q_X5_refuse rf ((-1) : Int32) (fun r5 g_refusals_4 => Q r5 g_refusals_4) := fun e => by
    rw [e] at h
    exact m_refuse (k := 1) (by omega) (by omega) (by decide) h
  unfold q_X5_between
  refine m_isColumn hn ⟨fun q => no ?_, fun q1 => m_isColumn hn ⟨fun q => no ?_, fun q2 => m_isColumn hn ⟨fun q => no ?_, fun q3 => ?_⟩⟩⟩
  · unfold sp_between
    cases hx : ix x1 n
    · rfl
    · rw [hx] at q; cases q
  · unfold sp_between
    cases hx : ix x2 n
    · cases ix x1 n <;> rfl
    · rw [hx] at q; cases q
  · unfold sp_between
    cases hx : ix x3 n
    · cases ix x1 n <;> cases ix x2 n <;> rfl
    · rw [hx] at q; cases q
  · rcases ix_cases x1 (m := n) (by omega) with ⟨a, ha1, rfl, ea⟩ | ⟨_, e⟩ | ⟨_, _, e⟩
    · rcases ix_cases x2 (m := n) (by omega) with ⟨b, hb1, rfl, eb⟩ | ⟨_, e⟩ | ⟨_, _, e⟩
      · rcases ix_cases x3 (m := n) (by omega) with ⟨c, hc1, rfl, ec⟩ | ⟨_, e⟩ | ⟨_, _, e⟩
        · have es : sp_between n G (nI a) (nI b) (nI c) = if a = b ∨ b = c ∨ a = c then .inl 1 else .inr (told (cP (bw a b c) G) G.length) := by
            unfold sp_between
            rw [ea, eb, ec]
          rw [nI_eq (by omega) (by omega), nI_eq (by omega) (by omega), nI_eq (by omega) (by omega)]
          refine ⟨fun q => no (by rw [es, if_pos (Or.inl q)]), fun n1 => ⟨fun q => no (by rw [es, if_pos (Or.inr (Or.inl q))]), fun n2 => ⟨fun n3 => ?_, fun q => no (by rw [es, if_pos (Or.inr (Or.inr q))])⟩⟩⟩
          rw [es, if_neg (by rintro (q | q | q) <;> contradiction)] at h
          refine up2 (fun N x z => q_X5_between_L51 (nI a) (nI b) (nI c) (nI n) (nI G.length) rf good Q N z x) (fun i z => z = nI ((G.take i).filter (bw a b c)).length) G.length ?_ 0 0 (Nat.zero_le _) rfl
          intro m i z hi hI ih
          rw [q_X5_between_L51]
          refine ⟨fun hx => ?_, fun hx => ?_⟩
          · rw [nI_leI (by omega) (by omega)] at hx
            rw [List.take_of_length_le hx] at hI
            unfold q_X5_between_J146
            rw [hI]
            have := cP_le (bw a b c) G
            unfold cP at this
            exact m_told (by omega) (by omega) h
          · rw [nI_leI (by omega) (by omega)] at hx
            have hlt : i < G.length := by omega
            have hl : G[i]? = some (G[i]'hlt) := List.getElem?_eq_getElem hlt
            have hm := hG.1 _ (List.getElem_mem hlt)
            refine ⟨vp_in_nI (by omega) (by omega), ?_⟩
            rw [nI_clamp (by omega), ha i _ hl, nI_1]
            refine p_placeOf hn (P_row hm) (P_mem hn hm ha1) (p_placeOf hn (P_row hm) (P_mem hn hm hb1) (p_placeOf hn (P_row hm) (P_mem hn hm hc1) ?_))
            intro t et z2 ez
            refine ih z2 hlt ?_
            rw [ez, hI, len_next hl, ← nI_add]
            congr 1
            rw [et]
            have i1 := idx_lt hn hm ha1
            have i2 := idx_lt hn hm hb1
            have i3 := idx_lt hn hm hc1
            exact bw_int (by omega) (by omega) (by omega)
        · rw [e] at q3; cases q3
        · rw [e] at q3; cases q3
      · rw [e] at q2; cases q2
      · rw [e] at q2; cases q2
    · rw [e] at q1; cases q1
    · rw [e] at q1; cases q1
/-- two columns: both are there, and they differ -/
def two (n : Nat) (x1 x2 : Int32) : Option (Nat × Nat) := match ix x1 n, ix x2 n with
  | some a, some b => if a = b then none else some (a, b)
  | _, _ => none
theorem two_some {n : Nat} (hn : n ≤ 8) {x1 x2 : Int32} {a b : Nat} (h : two n x1 x2 = some (a, b)) : a < n ∧ b < n ∧ a ≠ b ∧ x1 = nI a ∧ x2 = nI b := by
  unfold two at h
  rcases ix_cases x1 (m := n) (by omega) with ⟨a', ha1, e1, ea⟩ | ⟨_, e⟩ | ⟨_, _, e⟩
  · rcases ix_cases x2 (m := n) (by omega) with ⟨b', hb1, e2, eb⟩ | ⟨_, e⟩ | ⟨_, _, e⟩
    · rw [ea, eb] at h
      simp only at h
      by_cases q : a' = b'
      · rw [if_pos q] at h; cases h
      · rw [if_neg q] at h
        cases h
        exact ⟨ha1, hb1, q, e1, e2⟩
    · rw [ea, e] at h; cases h
    · rw [ea, e] at h; cases h
  · rw [e] at h; cases h
  · rw [e] at h; cases h
/-- the reference asks for two columns -/
theorem m_two {n : Nat} (hn : n ≤ 8) {x1 x2 : Int32} {rf : Nat → Int32} {Q : Int32 → (Nat → Int32) → Prop} {R : Prop} (hno : two n x1 x2 = none → Q (-1) (bump rf 1)) (hy : ∀ a b, two n x1 x2 = some (a, b) → R) : q_X5_isColumn (nI n) x1 (fun b2 => (b2 = false → q_X5_refuse rf ((-1) : Int32) (fun r5 g4 => Q r5 g4)) ∧ (b2 = true → q_X5_isColumn (nI n) x2 (fun b7 => (b7 = false → q_X5_refuse rf ((-1) : Int32) (fun r10 g9 => Q r10 g9)) ∧ (b7 = true → (¬ x1 = x2 → R) ∧ (x1 = x2 → q_X5_refuse rf ((-1) : Int32) (fun r13 g12 => Q r13 g12)))))) := by
  have no : two n x1 x2 = none → q_X5_refuse rf ((-1) : Int32) (fun r5 g4 => Q r5 g4) := fun e => m_refuse (k := 1) (by omega) (by omega) (by decide) (hno e)
  refine m_isColumn hn ⟨fun q => no ?_, fun q1 => m_isColumn hn ⟨fun q => no ?_, fun q2 => ?_⟩⟩
  · unfold two
    cases hx : ix x1 n
    · rfl
    · rw [hx] at q; cases q
  · unfold two
    cases hx : ix x2 n
    · cases ix x1 n <;> rfl
    · rw [hx] at q; cases q
  · rcases ix_cases x1 (m := n) (by omega) with ⟨a, ha1, rfl, ea⟩ | ⟨_, e⟩ | ⟨_, _, e⟩
    · rcases ix_cases x2 (m := n) (by omega) with ⟨b, hb1, rfl, eb⟩ | ⟨_, e⟩ | ⟨_, _, e⟩
      · have es : two n (nI a) (nI b) = if a = b then none else some (a, b) := by
          unfold two
          rw [ea, eb]
        rw [nI_eq (by omega) (by omega)]
        exact ⟨fun q => hy a b (by rw [es, if_neg q]), fun q => no (by rw [es, if_pos q])⟩
      · rw [e] at q2; cases q2
      · rw [e] at q2; cases q2
    · rw [e] at q1; cases q1
    · rw [e] at q1; cases q1
def sp_next (n : Nat) (G : List (List Nat)) (x1 x2 : Int32) : Ans := match two n x1 x2 with
  | none => .inl 1
  | some (a, b) => .inr (told (cP (tog (2 ^ a ||| 2 ^ b)) G) G.length)
theorem pair_lt {n a b : Nat} (ha : a < n) (hb : b < n) : 2 ^ a ||| 2 ^ b < 2 ^ n := Nat.or_lt_two_pow (Nat.pow_lt_pow_right (by omega) ha) (Nat.pow_lt_pow_right (by omega) hb)
theorem pair_int {n a b : Nat} (hn : n ≤ 8) (ha : a < n) (hb : b < n) : ((1 : Int32) <<< (nI a &&& 31)) ||| ((1 : Int32) <<< (nI b &&& 31)) = nI (2 ^ a ||| 2 ^ b) := by rw [one_shl a (by omega), one_shl b (by omega), fa_or]
theorem m_next {n : Nat} (hn : n ≤ 8) {G : List (List Nat)} (hG : GOk n G) {good rf : Nat → Int32} (ha : Holds good G) {x1 x2 : Int32} {Q : Int32 → (Nat → Int32) → Prop} (h : Q (ansR (sp_next n G x1 x2)) (rfA rf (sp_next n G x1 x2))) : q_X5_next (nI n) (nI G.length) rf good x1 x2 Q := by
  refine m_two hn (fun e => ?_) (fun a b e => ?_)
  · unfold sp_next at h
    rw [e] at h
    exact h
  · obtain ⟨ha1, hb1, hne, rfl, rfl⟩ := two_some hn e
    have hp := pair_lt ha1 hb1
    have h8 := pow_le8 hn
    rw [pair_int hn ha1 hb1]
    refine m_together hn hG ha ?_
    unfold sp_next at h
    rw [e] at h
    unfold sp_together
    rw [ix_nI hp (by omega)]
    exact h
def atEnd (n a : Nat) (l : List Nat) : Bool := decide (l.getD 0 0 = a) || decide (l.getD (n - 1) 0 = a)
def sp_ends (n : Nat) (G : List (List Nat)) (x1 : Int32) : Ans := match ix x1 n with
  | none => .inl 1
  | some a => .inr (told (cP (atEnd n a) G) G.length)
theorem m_ends {n : Nat} (h1 : 1 ≤ n) (hn : n ≤ 8) {G : List (List Nat)} (hG : GOk n G) {good rf : Nat → Int32} (ha : Holds good G) {x1 : Int32} {Q : Int32 → (Nat → Int32) → Prop} (h : Q (ansR (sp_ends n G x1)) (rfA rf (sp_ends n G x1))) : q_X5_ends (nI n) (nI G.length) rf good x1 Q := by
  have hlen := hG.2.2.1
  unfold q_X5_ends
  refine m_isColumn hn ?_
  unfold sp_ends at h
  rcases ix_cases x1 (m := n) (by omega) with ⟨a, ha1, rfl, e⟩ | ⟨hx, e⟩ | ⟨hx, hx2, e⟩
  · rw [e] at h ⊢
    refine ⟨fun _ => ?_, fun q => Bool.noConfusion q⟩
    refine up2 (fun N x z => q_X5_ends_L18 (nI a) (nI n) (nI G.length) rf good Q N z x) (fun i z => z = nI ((G.take i).filter (atEnd n a)).length) G.length ?_ 0 0 (Nat.zero_le _) rfl
    intro m i z hi hI ih
    rw [q_X5_ends_L18]
    refine ⟨fun hx => ?_, fun hx => ?_⟩
    · rw [nI_leI (by omega) (by omega)] at hx
      rw [List.take_of_length_le hx] at hI
      unfold q_X5_ends_J75
      rw [hI]
      have := cP_le (atEnd n a) G
      unfold cP at this
      exact m_told (by omega) (by omega) h
    · rw [nI_leI (by omega) (by omega)] at hx
      have hlt : i < G.length := by omega
      have hl : G[i]? = some (G[i]'hlt) := List.getElem?_eq_getElem hlt
      have hrow := hG.row _ (List.getElem_mem hlt)
      have hn2 := len_next (p := atEnd n a) hl
      have s0 := hrow.small hn _ (getD_mem (l := G[i]'hlt) (p := 0) (by rw [hrow.1]; omega))
      have s1 := hrow.small hn _ (getD_mem (l := G[i]'hlt) (p := n - 1) (by rw [hrow.1]; omega))
      refine ⟨vp_in_nI (by omega) (by omega), ?_⟩
      rw [nI_clamp (by omega), ha i _ hl, nI_1, show nI n - 1 = nI (n - 1) from pk_sub (b := 1) h1, show (0 : Int32) = nI 0 from rfl]
      refine p_columnAt hn hrow (by omega) ?_
      rw [nI_eq (by omega) (by omega)]
      refine ⟨fun q => ?_, fun q => p_columnAt hn hrow (by omega) ?_⟩
      · intro z2 ez
        refine ih z2 hlt ?_
        rw [ez, hI, hn2, ← nI_add]
        have : atEnd n a (G[i]'hlt) = true := by unfold atEnd; rw [decide_eq_true q]; simp
        rw [this]
        rfl
      · rw [nI_eq (by omega) (by omega)]
        refine ⟨fun q2 => ?_, fun q2 => ?_⟩
        · intro z2 ez
          refine ih z2 hlt ?_
          rw [ez, hI, hn2, ← nI_add]
          have : atEnd n a (G[i]'hlt) = false := by unfold atEnd; rw [decide_eq_false q, decide_eq_false q2]; rfl
          rw [this]
          rfl
        · intro z2 ez
          refine ih z2 hlt ?_
          rw [ez, hI, hn2, ← nI_add]
          have : atEnd n a (G[i]'hlt) = true := by unfold atEnd; rw [decide_eq_true q2]; simp
          rw [this]
          rfl
  · rw [e] at h ⊢
    exact ⟨fun q => Bool.noConfusion q, fun _ => m_refuse (k := 1) (by omega) (by omega) (by decide) h⟩
  · rw [e] at h ⊢
    exact ⟨fun q => Bool.noConfusion q, fun _ => m_refuse (k := 1) (by omega) (by omega) (by decide) h⟩
/-- the places' distance -/
def dst (a b : Nat) (l : List Nat) : Nat := if l.idxOf a ≤ l.idxOf b then l.idxOf b - l.idxOf a else l.idxOf a - l.idxOf b
def extL (least : Bool) : List Nat → Nat
  | [] => 0
  | [x] => x
  | x :: y :: L => if least then min x (extL least (y :: L)) else max x (extL least (y :: L))
theorem extL_ok (least : Bool) : ∀ (L : List Nat), L ≠ [] → IsExt (least = true) (extL least L) L
  | [], h => absurd rfl h
  | [x], _ => ⟨List.mem_singleton.mpr rfl, fun w hw => by rw [List.mem_singleton.mp hw]; exact ⟨fun _ => Nat.le_refl _, fun _ => Nat.le_refl _⟩⟩
  | x :: y :: L, _ => by
    obtain ⟨h1, h2⟩ := extL_ok least (y :: L) (by simp)
    rw [extL]
    cases least
    · simp only [Bool.false_eq_true, if_false] at h2 ⊢
      constructor
      · rcases Nat.le_total x (extL false (y :: L)) with q | q
        · rw [Nat.max_eq_right q]; exact List.mem_cons_of_mem _ h1
        · rw [Nat.max_eq_left q]; exact List.mem_cons_self
      · intro w hw
        refine ⟨fun q => absurd q id, fun _ => ?_⟩
        rcases List.mem_cons.mp hw with e | e
        · rw [e]; exact Nat.le_max_left _ _
        · exact Nat.le_trans ((h2 w e).2 id) (Nat.le_max_right _ _)
    · simp only [if_true] at h2 ⊢
      constructor
      · rcases Nat.le_total x (extL true (y :: L)) with q | q
        · rw [Nat.min_eq_left q]; exact List.mem_cons_self
        · rw [Nat.min_eq_right q]; exact List.mem_cons_of_mem _ h1
      · intro w hw
        refine ⟨fun _ => ?_, fun q => absurd trivial q⟩
        rcases List.mem_cons.mp hw with e | e
        · rw [e]; exact Nat.min_le_left _ _
        · exact Nat.le_trans (Nat.min_le_right _ _) ((h2 w e).1 trivial)
def sp_apart (n : Nat) (G : List (List Nat)) (x1 x2 x3 : Int32) : Ans := match two n x1 x2 with
  | none => .inl 1
  | some (a, b) => .inr (nI (extL (decide (¬ x3 = 0)) (G.map (dst a b))))
theorem ext_val {x3 : Int32} {v : Nat} {L : List Nat} (h : IsExt (¬ x3 = 0) v L) : v = extL (decide (¬ x3 = 0)) L := by
  have hne : L ≠ [] := List.ne_nil_of_mem h.1
  have h2 := extL_ok (decide (¬ x3 = 0)) L hne
  have h3 : IsExt (¬ x3 = 0) (extL (decide (¬ x3 = 0)) L) L := by
    refine ⟨h2.1, fun w hw => ⟨fun q => (h2.2 w hw).1 (decide_eq_true q), fun q => (h2.2 w hw).2 (fun z => q (of_decide_eq_true z))⟩⟩
  exact h.one h3
theorem m_apart {n : Nat} (hn : n ≤ 8) {G : List (List Nat)} (hG : GOk n G) {good rf : Nat → Int32} (ha : Holds good G) {x1 x2 x3 : Int32} {Q : Int32 → (Nat → Int32) → Prop} (h : Q (ansR (sp_apart n G x1 x2 x3)) (rfA rf (sp_apart n G x1 x2 x3))) : q_X5_apart (nI n) (nI G.length) rf good x1 x2 x3 Q := by
  have hlen := hG.2.2.1
  have hpos : 0 < G.length := List.length_pos_iff.mpr hG.2.1
  refine m_two hn (fun e => ?_) (fun a b e => ?_)
  · unfold sp_apart at h
    rw [e] at h
    exact h
  · obtain ⟨ha1, hb1, hne, rfl, rfl⟩ := two_some hn e
    unfold sp_apart at h
    rw [e] at h
    refine up2 (fun N x z => q_X5_apart_L33 (nI a) (nI b) x3 (nI n) (nI G.length) rf good Q N z x) (fun i z => (i = 0 ∧ z = -1) ∨ ∃ v, z = nI v ∧ v ≤ 8 ∧ IsExt (¬ x3 = 0) v ((G.take i).map (dst a b))) G.length ?_ 0 (-1) (Nat.zero_le _) (Or.inl ⟨rfl, rfl⟩)
    intro m i z hi hI ih
    rw [q_X5_apart_L33]
    refine ⟨fun hx => ?_, fun hx => ?_⟩
    · rw [nI_leI (by omega) (by omega)] at hx
      rcases hI with ⟨q, -⟩ | ⟨v, rfl, -, hv⟩
      · omega
      · rw [List.take_of_length_le hx] at hv
        rw [ext_val hv]
        exact h
    · rw [nI_leI (by omega) (by omega)] at hx
      have hlt : i < G.length := by omega
      have hl : G[i]? = some (G[i]'hlt) := List.getElem?_eq_getElem hlt
      have hm := hG.1 _ (List.getElem_mem hlt)
      have i1 := idx_lt hn hm ha1
      have i2 := idx_lt hn hm hb1
      refine ⟨vp_in_nI (by omega) (by omega), ?_⟩
      rw [nI_clamp (by omega), ha i _ hl, nI_1]
      refine p_placeOf hn (P_row hm) (P_mem hn hm ha1) (p_placeOf hn (P_row hm) (P_mem hn hm hb1) ?_)
      intro x6 e6
      have e6' : x6 = nI (dst a b (G[i]'hlt)) := by
        rw [e6]
        unfold dst
        generalize List.idxOf a (G[i]'hlt) = ia at i1
        generalize List.idxOf b (G[i]'hlt) = ib at i2
        have t0 : (0 : Int32).toInt = 0 := by decide
        have t1 := pk_sub_toInt (a := ia) (b := ib) (by omega) (by omega)
        by_cases q : ia ≤ ib
        · rw [if_pos q]
          by_cases q2 : ia = ib
          · subst q2
            rw [if_pos (by rw [fa_le, t1, t0]; omega), pk_sub (Nat.le_refl _)]
          · rw [if_neg (by rw [fa_le, t1, t0]; omega)]
            rw [fa_eq, nI_toInt (by omega), fb_subI (by rw [t0, t1]; omega) (by rw [t0, t1]; omega), t0, t1]
            omega
        · rw [if_neg q, if_pos (by rw [fa_le, t1, t0]; omega), pk_sub (by omega)]
      have hd8 : dst a b (G[i]'hlt) ≤ 8 := by unfold dst; split <;> omega
      subst e6'
      have htk : (G.take (i + 1)).map (dst a b) = (G.take i).map (dst a b) ++ [dst a b (G[i]'hlt)] := by rw [take_last hl, List.map_append]; rfl
      generalize dst a b (G[i]'hlt) = d at hd8 htk
      rcases hI with ⟨q, rfl⟩ | ⟨v, rfl, hv8, hv⟩
      · refine ⟨fun _ => ih _ hlt (Or.inr ⟨d, rfl, hd8, ?_⟩), fun q2 => absurd (by decide) q2⟩
        subst q
        rw [htk]
        exact ⟨by simp, fun w hw => by simp at hw; rw [hw]; exact ⟨fun _ => Nat.le_refl _, fun _ => Nat.le_refl _⟩⟩
      · have keep : ((¬ x3 = 0 → v ≤ d) ∧ (x3 = 0 → d ≤ v)) → q_X5_apart_L33 (nI a) (nI b) x3 (nI n) (nI G.length) rf good Q m (nI v) (nI (i + 1)) := fun q => ih _ hlt (Or.inr ⟨v, rfl, hv8, by
          rw [htk]
          refine ⟨List.mem_append_left _ hv.1, fun w hw => ?_⟩
          rcases List.mem_append.mp hw with q3 | q3
          · exact hv.2 w q3
          · rw [List.mem_singleton.mp q3]
            exact ⟨q.1, fun z => q.2 (Classical.byContradiction z)⟩⟩)
        have take : ((¬ x3 = 0 → d ≤ v) ∧ (x3 = 0 → v ≤ d)) → q_X5_apart_L33 (nI a) (nI b) x3 (nI n) (nI G.length) rf good Q m (nI d) (nI (i + 1)) := fun q => ih _ hlt (Or.inr ⟨d, rfl, hd8, by
          rw [htk]
          refine ⟨List.mem_append_right _ (List.mem_singleton.mpr rfl), fun w hw => ?_⟩
          rcases List.mem_append.mp hw with q3 | q3
          · have := hv.2 w q3
            exact ⟨fun z => Nat.le_trans (q.1 z) (this.1 z), fun z => Nat.le_trans (this.2 z) (q.2 (Classical.byContradiction z))⟩
          · rw [List.mem_singleton.mp q3]
            exact ⟨fun _ => Nat.le_refl _, fun _ => Nat.le_refl _⟩⟩)
        refine ⟨fun q => absurd q (nI_pos (by omega)), fun _ => ⟨fun q0 => ?_, fun q0 => ?_⟩⟩
        · rw [nI_leI (by omega) (by omega)]
          exact ⟨fun q => keep ⟨fun z => absurd q0 z, fun _ => q⟩, fun q => take ⟨fun z => absurd q0 z, fun _ => by omega⟩⟩
        · rw [nI_leI (by omega) (by omega)]
          exact ⟨fun q => keep ⟨fun _ => q, fun z => absurd z q0⟩, fun q => take ⟨fun _ => by omega, fun z => absurd z q0⟩⟩
