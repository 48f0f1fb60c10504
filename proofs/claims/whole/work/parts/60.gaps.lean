/-! GAPS: what rows save. -/
/-- what two columns side by side save -/
def sv (nl : Nat) (sets sts wts : Nat → Nat) (a b : Nat) : Nat := if a < 8 ∧ a ≠ b then fb_sm (fun k => if sts k = 1 ∧ (sets k).testBit a = true ∧ (sets k).testBit b = true then wts k else 0) nl else 0
/-- gaps of a row that saves nothing -/
def us (nl : Nat) (sets sts wts : Nat → Nat) : Nat := fb_sm (fun k => if sts k = 1 then wts k * (card (sets k) - 1) else 0) nl
/-- the gaps of a row -/
def gpN (nl : Nat) (sets sts wts : Nat → Nat) (l : List Nat) : Nat := fb_sm (fun k => if sts k = 1 then wts k * (runsF (sets k) false l - 1) else 0) nl
def sav (v : Nat → Nat → Nat) : Nat → List Nat → Nat
  | _, [] => 0
  | a, c :: l => v a c + sav v c l
def adjF (s : Nat) : Bool → List Nat → Nat
  | _, [] => 0
  | on, c :: l => (if s.testBit c && on then 1 else 0) + adjF s (s.testBit c) l
def cntF (s : Nat) : List Nat → Nat
  | [] => 0
  | c :: l => (if s.testBit c then 1 else 0) + cntF s l
theorem runs_adj (s : Nat) : ∀ (l : List Nat) (on : Bool), runsF s on l + adjF s on l = cntF s l
  | [], _ => rfl
  | c :: l, on => by
    have := runs_adj s l (s.testBit c)
    rw [runsF, adjF, cntF]
    cases hb : s.testBit c <;> cases on <;> rw [hb] at this <;> simp <;> omega
theorem cnt_card {n s : Nat} (hn : n ≤ 8) : ∀ (l : List Nat) (S : Nat), S < 2 ^ n → (∀ c ∈ l, c < n ∧ S.testBit c = false) → l.Nodup → card (s &&& setOf S l) = card (s &&& S) + cntF s l
  | [], S, _, _, _ => rfl
  | c :: l, S, hS, hc, hnd => by
    obtain ⟨hc1, hc2⟩ := hc c List.mem_cons_self
    obtain ⟨hd1, hd2⟩ := List.nodup_cons.mp hnd
    have ih := cnt_card (s := s) hn l (ins S c) (ins_lt hS hc1) (fun d hd => by
      obtain ⟨q1, q2⟩ := hc d (List.mem_cons_of_mem _ hd)
      refine ⟨q1, ?_⟩
      rw [ins_bit, q2]
      have : d ≠ c := fun e => hd1 (e ▸ hd)
      simp [this]) hd2
    show card (s &&& setOf (ins S c) l) = _
    rw [ih, cntF]
    have : card (s &&& ins S c) = card (s &&& S) + (if s.testBit c then 1 else 0) := by
      cases hb : s.testBit c
      · congr 1
        refine Nat.eq_of_testBit_eq (fun i => ?_)
        rw [Nat.testBit_and, Nat.testBit_and, ins_bit]
        by_cases e : i = c
        · subst e; rw [hb]; rfl
        · simp [e]
      · unfold card
        refine ct_step (o := c) (by omega) ?_ ?_ (fun j _ hj => ?_)
        · rw [Nat.testBit_and, ins_bit, hb]; simp
        · rw [Nat.testBit_and, hc2]; simp
        · rw [Nat.testBit_and, Nat.testBit_and, ins_bit]; simp [hj]
    rw [this]
    omega
theorem cnt_P {n s : Nat} (hn : n ≤ 8) (hs : s < 2 ^ n) {l : List Nat} (hl : l ∈ P n) : cntF s l = card s := by
  have hrow := P_row hl
  have h := cnt_card (s := s) hn l 0 (Nat.two_pow_pos n) (fun c hc => ⟨hrow.2.1 c hc, by simp⟩) hrow.2.2
  rw [paths_full hn (Gr_fullg n) (Nat.two_pow_pos n) (by rw [card_0]; omega) hl, Nat.and_two_pow_sub_one_eq_mod, Nat.mod_eq_of_lt hs] at h
  simp [card_0] at h
  exact h.symm
theorem sav_adj {nl : Nat} {sets sts wts : Nat → Nat} : ∀ (l : List Nat) (a : Nat), a < 8 → a ∉ l → l.Nodup → (∀ c ∈ l, c < 8) → sav (sv nl sets sts wts) a l = fb_sm (fun k => if sts k = 1 then wts k * adjF (sets k) ((sets k).testBit a) l else 0) nl
  | [], a, _, _, _, _ => by
    symm
    rw [fb_sm_cong (g := fun _ => 0) (fun k _ => by simp [adjF]), fb_sm_const]
    rfl
  | c :: l, a, ha, hm, hnd, hc => by
    obtain ⟨hd1, hd2⟩ := List.nodup_cons.mp hnd
    have hac : a ≠ c := fun e => hm (e ▸ List.mem_cons_self)
    rw [sav, sav_adj l c (hc c List.mem_cons_self) hd1 hd2 (fun d hd => hc d (List.mem_cons_of_mem _ hd))]
    unfold sv
    rw [if_pos ⟨ha, hac⟩, ← fb_sm_add]
    refine fb_sm_cong (fun k _ => ?_)
    rw [adjF]
    by_cases q : sts k = 1
    · simp only [q, true_and, if_true]
      cases h1 : (sets k).testBit a <;> cases h2 : (sets k).testBit c <;> simp [Nat.mul_add]
    · simp [q]
theorem sav_8 {nl : Nat} {sets sts wts : Nat → Nat} {l : List Nat} {n : Nat} (hn : n ≤ 8) (hl : Row n l) : sav (sv nl sets sts wts) 8 l = fb_sm (fun k => if sts k = 1 then wts k * adjF (sets k) false l else 0) nl := by
  have hs := hl.small hn
  cases l with
  | nil =>
    symm
    rw [fb_sm_cong (g := fun _ => 0) (fun k _ => by simp [adjF]), fb_sm_const]
    rfl
  | cons c l =>
    obtain ⟨hd1, hd2⟩ := List.nodup_cons.mp hl.2.2
    rw [sav, sav_adj l c (hs c List.mem_cons_self) hd1 hd2 (fun d hd => hs d (List.mem_cons_of_mem _ hd))]
    have : sv nl sets sts wts 8 c = 0 := if_neg (by omega)
    rw [this, Nat.zero_add]
    refine fb_sm_cong (fun k _ => ?_)
    rw [adjF]
    simp
theorem gp_sav {n nl : Nat} {sets sts wts : Nat → Nat} (hW : WF n nl sets sts wts) {l : List Nat} (hl : l ∈ P n) : gpN nl sets sts wts l + sav (sv nl sets sts wts) 8 l = us nl sets sts wts := by
  obtain ⟨h1, hn, hnl, hk, -⟩ := hW
  rw [sav_8 hn (P_row hl)]
  unfold gpN us
  rw [← fb_sm_add]
  refine fb_sm_cong (fun k hkn => ?_)
  by_cases q : sts k = 1
  · simp only [q, if_true]
    have e := runs_adj (sets k) l false
    rw [cnt_P hn (hk k hkn).1 hl] at e
    have hpos : 0 < runsF (sets k) false l := by
      obtain ⟨i, hi⟩ := Nat.exists_testBit_of_ne_zero ((hk k hkn).2.2.2 q)
      have hin : i < n := by
        rcases Nat.lt_or_ge i n with z | z
        · exact z
        · rw [bit_lt (hk k hkn).1 z] at hi; cases hi
      exact runs_pos l ⟨i, P_mem hn hl hin, hi⟩
    rw [← Nat.mul_add]
    congr 1
    omega
  · simp [q]
theorem us_le {n nl : Nat} {sets sts wts : Nat → Nat} (hW : WF n nl sets sts wts) : us nl sets sts wts ≤ 32000 := by
  obtain ⟨h1, hn, hnl, hk, -⟩ := hW
  unfold us
  refine Nat.le_trans (fb_sm_le (g := fun _ => 800) (fun k hkn => ?_)) (by rw [fb_sm_const]; omega)
  by_cases q : sts k = 1
  · rw [if_pos q]
    have hc := card_le 8 (by omega) _ (nIs hn (hk k hkn).1)
    exact Nat.mul_le_mul (hk k hkn).2.2.1 (show card (sets k) - 1 ≤ 8 by omega)
  · rw [if_neg q]; exact Nat.zero_le _
theorem sv_le {n nl : Nat} {sets sts wts : Nat → Nat} (hW : WF n nl sets sts wts) (a b : Nat) : sv nl sets sts wts a b ≤ 4000 := by
  obtain ⟨h1, hn, hnl, hk, -⟩ := hW
  unfold sv
  split
  · refine Nat.le_trans (fb_sm_le (g := fun _ => 100) (fun k hkn => ?_)) (by rw [fb_sm_const]; omega)
    split
    · exact (hk k hkn).2.2.1
    · exact Nat.zero_le _
  · exact Nat.zero_le _
theorem sav_le {v : Nat → Nat → Nat} (hv : ∀ a b, v a b ≤ 4000) : ∀ (l : List Nat) (a : Nat), sav v a l ≤ 4000 * l.length
  | [], _ => Nat.zero_le _
  | c :: l, a => by
    have := sav_le hv l c
    have := hv a c
    rw [sav, List.length_cons]
    omega
/-! the reference's gaps -/
theorem m_gapsOf {n nl : Nat} {sets sts wts : Nat → Nat} (hW : WF n nl sets sts wts) {se st we : Nat → Int32} (hL : LA nl sets sts wts se st we) {l : List Nat} (hl : l ∈ P n) {Q : Int32 → Prop} (h : Q (nI (gpN nl sets sts wts l))) : q_X5_gapsOf (nI n) (nI nl) se st we (nI (enc l)) Q := by
  obtain ⟨h1, hn, hnl, hk, -⟩ := hW
  have hrow := P_row hl
  refine up2 (fun N x a => q_X5_gapsOf_L4 (nI (enc l)) (nI n) (nI nl) se st we Q N a x) (fun i a => a = nI (gpN i sets sts wts l)) nl ?_ 0 0 (Nat.zero_le _) rfl
  intro m i a hi hI ih
  rw [q_X5_gapsOf_L4]
  refine ⟨fun hx => ?_, fun hx => ⟨?_, ?_⟩⟩
  · rw [nI_leI (by omega) (by omega)] at hx
    have e : i = nl := by omega
    subst e
    rw [hI]; exact h
  · rw [nI_leI (by omega) (by omega)] at hx
    exact vp_in_nI (by omega) (by omega)
  · rw [nI_leI (by omega) (by omega)] at hx
    have hlt : i < nl := by omega
    obtain ⟨e1, e2, e3⟩ := hL i hlt
    rw [nI_clamp (by omega), e1, e2, e3, show (1 : Int32) = nI 1 from rfl, st_eq (hk i hlt).2.1 (by omega)]
    refine ⟨fun q => ?_, fun q => p_runs hn hrow ?_⟩
    · intro z ez
      rw [show nI i + nI 1 = nI (i + 1) from nI_add i 1]
      refine ih z hlt ?_
      rw [ez, hI]
      unfold gpN
      rw [fb_sm_succ, if_neg q]
      exact nI_add _ 0
    · intro z ez
      rw [show nI i + nI 1 = nI (i + 1) from nI_add i 1]
      refine ih z hlt ?_
      have hpos : 0 < runsF (sets i) false l := by
        obtain ⟨j, hj⟩ := Nat.exists_testBit_of_ne_zero ((hk i hlt).2.2.2 q)
        have hin : j < n := by
          rcases Nat.lt_or_ge j n with w | w
          · exact w
          · rw [bit_lt (hk i hlt).1 w] at hj; cases hj
        exact runs_pos l ⟨j, P_mem hn hl hin, hj⟩
      rw [ez, hI, pk_sub hpos, pk_mul, nI_add]
      unfold gpN
      rw [fb_sm_succ, if_pos q]
theorem gp_le {n nl : Nat} {sets sts wts : Nat → Nat} (hW : WF n nl sets sts wts) {l : List Nat} (hl : l ∈ P n) : gpN nl sets sts wts l ≤ 32000 := by
  have := gp_sav hW hl
  have := us_le hW
  omega
def sp_gaps (nl : Nat) (sets sts wts : Nat → Nat) (G : List (List Nat)) (x : Int32) : Ans := match ix x G.length with
  | none => .inl 1
  | some i => .inr (nI (gpN nl sets sts wts (G.getD i [])))
theorem m_gaps {n nl : Nat} {sets sts wts : Nat → Nat} (hW : WF n nl sets sts wts) {se st we good rf : Nat → Int32} (hL : LA nl sets sts wts se st we) (ha : Holds good (GG n nl sets sts)) {x : Int32} {Q : Int32 → (Nat → Int32) → Prop} (h : Q (ansR (sp_gaps nl sets sts wts (GG n nl sets sts) x)) (rfA rf (sp_gaps nl sets sts wts (GG n nl sets sts) x))) : q_X5_gaps (nI n) (nI nl) (nI (GG n nl sets sts).length) rf se st we good x Q := by
  have hG := hW.ok
  have hlen := hG.2.2.1
  unfold q_X5_gaps
  refine m_isIn (by omega) ?_
  unfold sp_gaps at h
  rcases ix_cases x (m := (GG n nl sets sts).length) (by omega) with ⟨i, hi, rfl, e⟩ | ⟨hx, e⟩ | ⟨hx, hx2, e⟩
  · rw [e] at h ⊢
    have hl := List.getElem?_eq_getElem hi
    refine ⟨fun q => Bool.noConfusion q, fun _ => ⟨vp_in_nI (by omega) (by omega), ?_⟩⟩
    rw [nI_clamp (by omega), ha i _ hl]
    simp only at h
    rw [getD_eq hl] at h
    exact m_gapsOf hW hL (hG.1 _ (List.getElem_mem hi)) h
  · rw [e] at h ⊢
    exact ⟨fun _ => m_refuse (k := 1) (by omega) (by omega) (by decide) h, fun q => Bool.noConfusion q⟩
  · rw [e] at h ⊢
    exact ⟨fun _ => m_refuse (k := 1) (by omega) (by omega) (by decide) h, fun q => Bool.noConfusion q⟩
/-- the first row of the fewest gaps -/
def IsBest (g : List Nat → Nat) (G : List (List Nat)) (i : Nat) : Prop := ∃ l : List Nat, G[i]? = some l ∧ (∀ (j : Nat) (l' : List Nat), G[j]? = some l' → g l ≤ g l') ∧ ∀ (j : Nat) (l' : List Nat), j < i → G[j]? = some l' → g l < g l'
theorem IsBest.one {g : List Nat → Nat} {G : List (List Nat)} {i j : Nat} (h1 : IsBest g G i) (h2 : IsBest g G j) : i = j := by
  obtain ⟨l1, a1, b1, c1⟩ := h1
  obtain ⟨l2, a2, b2, c2⟩ := h2
  rcases Nat.lt_trichotomy i j with q | q | q
  · have := c2 i l1 q a1
    have := b1 j l2 a2
    omega
  · exact q
  · have := c1 j l2 q a2
    have := b2 i l1 a1
    omega
theorem m_best {n nl : Nat} {sets sts wts : Nat → Nat} (hW : WF n nl sets sts wts) {se st we good : Nat → Int32} (hL : LA nl sets sts wts se st we) (ha : Holds good (GG n nl sets sts)) {Q : Int32 → Prop} (h : ∀ i, i < 40320 → IsBest (gpN nl sets sts wts) (GG n nl sets sts) i → Q (nI i)) : q_X5_best (nI n) (nI nl) (nI (GG n nl sets sts).length) se st we good Q := by
  have hG := hW.ok
  have hlen := hG.2.2.1
  have hpos : 0 < (GG n nl sets sts).length := List.length_pos_iff.mpr hG.2.1
  unfold q_X5_best
  have g0 := (row0_mem hG).2
  have m0 := hG.1 _ (row0_mem hG).1
  rw [sb_cl0, ha 0 _ g0]
  refine m_gapsOf hW hL m0 ?_
  refine up3 (fun N x a b => q_X5_best_L15 (nI n) (nI nl) (nI (GG n nl sets sts).length) se st we good Q N a b x) (fun k a b => 1 ≤ k ∧ ∃ (i : Nat) (l : List Nat), a = nI i ∧ b = nI (gpN nl sets sts wts l) ∧ i < k ∧ (GG n nl sets sts)[i]? = some l ∧ (∀ (j : Nat) (l' : List Nat), j < k → (GG n nl sets sts)[j]? = some l' → gpN nl sets sts wts l ≤ gpN nl sets sts wts l') ∧ ∀ (j : Nat) (l' : List Nat), j < i → (GG n nl sets sts)[j]? = some l' → gpN nl sets sts wts l < gpN nl sets sts wts l') (GG n nl sets sts).length ?_ 1 (nI 0) _ (by omega) ⟨Nat.le_refl 1, 0, _, rfl, rfl, by omega, g0, fun j l' hj hl' => ?_, fun j l' hj => absurd hj (Nat.not_lt_zero j)⟩
  · intro m k a b hk hI ih
    obtain ⟨hk1, i, l, rfl, rfl, hik, hil, hall, hfst⟩ := hI
    have hml := hG.1 _ (List.mem_of_getElem? hil)
    have hgl := gp_le hW hml
    rw [q_X5_best_L15]
    refine ⟨fun hx => ?_, fun hx => ⟨?_, ?_⟩⟩
    · rw [nI_leI (by omega) (by omega)] at hx
      refine h i (by omega) ⟨l, hil, fun j l' hl' => hall j l' (Nat.lt_of_lt_of_le (List.getElem?_eq_some_iff.mp hl').1 hx) hl', hfst⟩
    · rw [nI_leI (by omega) (by omega)] at hx
      exact vp_in_nI (by omega) (by omega)
    · rw [nI_leI (by omega) (by omega)] at hx
      have hlt : k < (GG n nl sets sts).length := by omega
      have hgk := List.getElem?_eq_getElem hlt
      have hmk := hG.1 _ (List.getElem_mem hlt)
      rw [nI_clamp (by omega), ha k _ hgk, nI_1]
      refine m_gapsOf hW hL hmk ?_
      have hgk2 := gp_le hW hmk
      rw [nI_ltI (by omega) (by omega)]
      refine ⟨fun q => ih _ _ hlt ⟨by omega, k, _, rfl, rfl, by omega, hgk, fun j l' hj hl' => ?_, fun j l' hj hl' => ?_⟩, fun q => ih _ _ hlt ⟨by omega, i, l, rfl, rfl, by omega, hil, fun j l' hj hl' => ?_, hfst⟩⟩
      · by_cases e : j = k
        · subst e; rw [hgk] at hl'; cases hl'; exact Nat.le_refl _
        · have := hall j l' (by omega) hl'; omega
      · have := hall j l' hj hl'; omega
      · by_cases e : j = k
        · subst e; rw [hgk] at hl'; cases hl'; omega
        · exact hall j l' (by omega) hl'
  · have e : j = 0 := by omega
    subst e
    rw [g0] at hl'
    cases hl'
    exact Nat.le_refl _
def wtP (nl : Nat) (sets sts wts : Nat → Nat) (x : Int32) (l : List Nat) : Bool := decide ((gpN nl sets sts wts l : Int) ≤ x.toInt)
theorem m_within {n nl : Nat} {sets sts wts : Nat → Nat} (hW : WF n nl sets sts wts) {se st we good : Nat → Int32} (hL : LA nl sets sts wts se st we) (ha : Holds good (GG n nl sets sts)) {x : Int32} {Q : Int32 → Prop} (h : Q (nI (cP (wtP nl sets sts wts x) (GG n nl sets sts)))) : q_X5_within (nI n) (nI nl) (nI (GG n nl sets sts).length) se st we good x Q := by
  have hG := hW.ok
  have hlen := hG.2.2.1
  refine up2 (fun N y a => q_X5_within_L4 x (nI n) (nI nl) (nI (GG n nl sets sts).length) se st we good Q N a y) (fun i a => a = nI (((GG n nl sets sts).take i).filter (wtP nl sets sts wts x)).length) (GG n nl sets sts).length ?_ 0 0 (Nat.zero_le _) rfl
  intro m i a hi hI ih
  rw [q_X5_within_L4]
  refine ⟨fun hx => ?_, fun hx => ⟨?_, ?_⟩⟩
  · rw [nI_leI (by omega) (by omega)] at hx
    rw [List.take_of_length_le hx] at hI
    rw [hI]; exact h
  · rw [nI_leI (by omega) (by omega)] at hx
    exact vp_in_nI (by omega) (by omega)
  · rw [nI_leI (by omega) (by omega)] at hx
    have hlt : i < (GG n nl sets sts).length := by omega
    have hl := List.getElem?_eq_getElem hlt
    have hm := hG.1 _ (List.getElem_mem hlt)
    have hg := gp_le hW hm
    rw [nI_clamp (by omega), ha i _ hl, nI_1]
    refine m_gapsOf hW hL hm ?_
    intro t et z ez
    refine ih z hlt ?_
    rw [ez, hI, len_next hl, ← nI_add]
    congr 1
    rw [et]
    unfold wtP
    by_cases q : x < nI (gpN nl sets sts wts ((GG n nl sets sts)[i]'hlt))
    · rw [if_pos q, decide_eq_false]
      · rfl
      · rw [fa_lt, nI_toInt (by omega)] at q; omega
    · rw [if_neg q, decide_eq_true]
      · rfl
      · rw [fa_lt, nI_toInt (by omega)] at q; omega
