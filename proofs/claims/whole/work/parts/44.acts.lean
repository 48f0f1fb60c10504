/-! THE CALLS THAT CHANGE LINES, AND SMALL QUESTIONS ABOUT THEM. -/
theorem LA.set_st {nl : Nat} {sets sts wts : Nat → Nat} {a b c : Nat → Int32} (h : LA nl sets sts wts a b c) {k v : Nat} : LA nl sets (updN sts k v) wts a (upd b k (nI v)) c := fun j hj => by
  obtain ⟨h1, h2, h3⟩ := h j hj
  refine ⟨h1, ?_, h3⟩
  by_cases e : j = k
  · subst e; rw [pk_us, updN_s]
  · rw [pk_un e, updN_n e, h2]
theorem LA.set_wt {nl : Nat} {sets sts wts : Nat → Nat} {a b c : Nat → Int32} (h : LA nl sets sts wts a b c) {k v : Nat} : LA nl sets sts (updN wts k v) a b (upd c k (nI v)) := fun j hj => by
  obtain ⟨h1, h2, h3⟩ := h j hj
  refine ⟨h1, h2, ?_⟩
  by_cases e : j = k
  · subst e; rw [pk_us, updN_s]
  · rw [pk_un e, updN_n e, h3]
theorem LA.add {nl : Nat} {sets sts wts : Nat → Nat} {a b c : Nat → Int32} (h : LA nl sets sts wts a b c) {s v w : Nat} {b' : Nat → Int32} (hb : ∀ j, j < nl → b' j = b j) (hb2 : b' nl = nI v) : LA (nl + 1) (updN sets nl s) (updN sts nl v) (updN wts nl w) (upd a nl (nI s)) b' (upd c nl (nI w)) := fun j hj => by
  by_cases e : j = nl
  · subst e; rw [pk_us, pk_us, updN_s, updN_s, updN_s]; exact ⟨rfl, hb2, rfl⟩
  · obtain ⟨h1, h2, h3⟩ := h j (by omega)
    rw [pk_un e, pk_un e, updN_n e, updN_n e, updN_n e, hb j (by omega)]
    exact ⟨h1, h2, h3⟩
/-- what a line is when it is told -/
def tkV (G : List (List Nat)) (s : Nat) : Nat := if G.any (tog s) then 0 else 1
theorem tkV_G {n nl k : Nat} {sets sts : Nat → Nat} (hk : k < nl) (hs : sts k ≠ 0) : GG n nl sets (updN sts k (tkV (GG n nl sets sts) (sets k))) = if (GG n nl sets sts).any (tog (sets k)) then (GG n nl sets sts).filter (tog (sets k)) else GG n nl sets sts := by
  unfold tkV
  cases h : (GG n nl sets sts).any (tog (sets k))
  · simp only [Bool.false_eq_true, if_false]
    exact GG_same hs (by omega)
  · simp only [if_true]
    exact GG_take hk hs
theorem any_ne {G : List (List Nat)} {s : Nat} (hG : G ≠ []) : (if G.any (tog s) then G.filter (tog s) else G) ≠ [] := by
  cases h : G.any (tog s)
  · simpa using hG
  · simp only [if_true]
    obtain ⟨l, h1, h2⟩ := List.any_eq_true.mp h
    exact List.ne_nil_of_mem (List.mem_filter.mpr ⟨h1, h2⟩)
theorem tkV_ne0 {G : List (List Nat)} (hG : G ≠ []) {s : Nat} (h : tkV G s = 1) : s ≠ 0 := fun e => by
  subst e
  unfold tkV at h
  have : G.any (tog 0) = true := by
    obtain ⟨l, hl⟩ := List.exists_mem_of_ne_nil _ hG
    exact List.any_eq_true.mpr ⟨l, hl, tog_0 l⟩
  rw [this] at h
  simp at h
theorem tkV_le {G : List (List Nat)} {s : Nat} : tkV G s ≤ 1 := by unfold tkV; split <;> omega
theorem tkV_if (G : List (List Nat)) (s : Nat) : nI (if G.any (tog s) then 0 else 1) = nI (tkV G s) := rfl
theorem WF.again {n nl : Nat} {sets sts wts : Nat → Nat} (h : WF n nl sets sts wts) {k : Nat} (hk : k < nl) (hs : sts k ≠ 0) : WF n nl sets (updN sts k (tkV (GG n nl sets sts) (sets k))) wts := by
  obtain ⟨h1, hn, hnl, hall, hne⟩ := h
  refine ⟨h1, hn, hnl, fun j hj => ?_, by rw [tkV_G hk hs]; exact any_ne hne⟩
  obtain ⟨a, b, c, d⟩ := hall j hj
  by_cases e : j = k
  · subst e
    rw [updN_s]
    have := tkV_le (G := GG n nl sets sts) (s := sets j)
    exact ⟨a, by omega, c, fun q => tkV_ne0 hne q⟩
  · rw [updN_n e]
    exact ⟨a, b, c, d⟩
theorem GG_drop_ne {n nl k : Nat} {sets sts : Nat → Nat} (h : GG n nl sets sts ≠ []) : GG n nl sets (updN sts k 2) ≠ [] := by
  obtain ⟨l, hl⟩ := List.exists_mem_of_ne_nil _ h
  obtain ⟨h1, h2⟩ := List.mem_filter.mp hl
  refine List.ne_nil_of_mem (List.mem_filter.mpr ⟨h1, ?_⟩)
  have gen : ∀ m, Cn (tkn sts) sets m l = true → Cn (tkn (updN sts k 2)) sets m l = true := by
    intro m
    induction m with
    | zero => intro _; rfl
    | succ m ih =>
      intro q
      rw [Cn, Bool.and_eq_true] at q ⊢
      refine ⟨ih q.1, ?_⟩
      by_cases e : m = k
      · subst e
        simp [tkn, updN]
      · have : tkn (updN sts k 2) m = tkn sts m := by unfold tkn; rw [updN_n e]
        rw [this]
        exact q.2
  exact gen nl h2
theorem WF.drop {n nl : Nat} {sets sts wts : Nat → Nat} (h : WF n nl sets sts wts) {k : Nat} : WF n nl sets (updN sts k 2) wts := by
  obtain ⟨h1, hn, hnl, hall, hne⟩ := h
  refine ⟨h1, hn, hnl, fun j hj => ?_, GG_drop_ne hne⟩
  obtain ⟨a, b, c, d⟩ := hall j hj
  by_cases e : j = k
  · subst e
    rw [updN_s]
    exact ⟨a, by omega, c, fun q => by omega⟩
  · rw [updN_n e]
    exact ⟨a, b, c, d⟩
theorem WF.wt {n nl : Nat} {sets sts wts : Nat → Nat} (h : WF n nl sets sts wts) {k v : Nat} (hv : v ≤ 100) : WF n nl sets sts (updN wts k v) := by
  obtain ⟨h1, hn, hnl, hall, hne⟩ := h
  refine ⟨h1, hn, hnl, fun j hj => ?_, hne⟩
  obtain ⟨a, b, c, d⟩ := hall j hj
  by_cases e : j = k
  · subst e
    rw [updN_s]
    exact ⟨a, b, hv, d⟩
  · rw [updN_n e]
    exact ⟨a, b, c, d⟩
/-- the lines with a new one -/
theorem GG_add {n nl s : Nat} {sets sts : Nat → Nat} : GG n (nl + 1) (updN sets nl s) (updN sts nl (tkV (GG n nl sets sts) s)) = if (GG n nl sets sts).any (tog s) then (GG n nl sets sts).filter (tog s) else GG n nl sets sts := by
  have e1 := GG_new (n := n) (nl := nl) (s := s) (v := 1) (w := 0) (sets := sets) (sts := sts) (by omega)
  have e2 := tkV_G (n := n) (nl := nl + 1) (k := nl) (sets := updN sets nl s) (sts := updN sts nl 1) (by omega) (by rw [updN_s]; omega)
  rw [updN_s, e1] at e2
  rw [← e2]
  refine GS_congr (fun j _ => ⟨?_, rfl⟩)
  unfold tkn
  by_cases e : j = nl
  · subst e; rw [updN_s, updN_s]
  · rw [updN_n e, updN_n e, updN_n e]
theorem WF.line {n nl : Nat} {sets sts wts : Nat → Nat} (h : WF n nl sets sts wts) {s : Nat} (hs : s < 2 ^ n) (hnl : nl < 40) : WF n (nl + 1) (updN sets nl s) (updN sts nl (tkV (GG n nl sets sts) s)) (updN wts nl 1) := by
  obtain ⟨h1, hn, -, hall, hne⟩ := h
  refine ⟨h1, hn, by omega, fun j hj => ?_, by rw [GG_add]; exact any_ne hne⟩
  by_cases e : j = nl
  · subst e
    rw [updN_s, updN_s, updN_s]
    have := tkV_le (G := GG n j sets sts) (s := s)
    exact ⟨hs, by omega, by omega, fun q => tkV_ne0 hne q⟩
  · rw [updN_n e, updN_n e, updN_n e]
    exact hall j (by omega)
theorem WF.table {n : Nat} (h1 : 1 ≤ n) (hn : n ≤ 8) (sets sts wts : Nat → Nat) : WF n 0 sets sts wts ∧ GG n 0 sets sts = P n := by
  have e : GG n 0 sets sts = P n := by unfold GG GS; exact List.filter_eq_self.mpr (fun _ _ => rfl)
  exact ⟨⟨h1, hn, by omega, fun k hk => absurd hk (Nat.not_lt_zero k), by rw [e]; exact P_ne hn⟩, e⟩
/-! small questions -/
def sp_lineOf (nl : Nat) (sets sts wts : Nat → Nat) (x1 x2 : Int32) : Ans := match ix x1 nl with
  | none => .inl 1
  | some l => if x2 = 0 then .inr (nI (sets l)) else if x2 = 1 then .inr (nI (sts l)) else if x2 = 2 then .inr (nI (wts l)) else if x2 = 3 then .inr (nI (card (sets l))) else .inl 2
theorem card_low : ∀ s, s < 256 → s ≠ 0 → card (s &&& (s - 1)) + 1 = card s ∧ s &&& (s - 1) < s := by decide +kernel
theorem p_bits {s : Nat} (hs : s < 256) {Q : Int32 → Prop} (h : Q (nI (card s))) : q_X5_bits (nI s) Q := by
  have key : ∀ (m s c : Nat), s < 256 → s ≤ m → Q (nI (c + card s)) → ∃ N, q_X5_bits_L4 Q N (nI c) (nI s) := by
    intro m
    induction m with
    | zero =>
      intro s c hs hm hq
      have e : s = 0 := by omega
      subst e
      refine ⟨1, ?_⟩
      rw [q_X5_bits_L4]
      rw [card_0, Nat.add_zero] at hq
      exact ⟨fun _ => hq, fun q => absurd rfl q⟩
    | succ m ih =>
      intro s c hs hm hq
      by_cases e : s = 0
      · subst e
        refine ⟨1, ?_⟩
        rw [q_X5_bits_L4]
        rw [card_0, Nat.add_zero] at hq
        exact ⟨fun _ => hq, fun q => absurd rfl q⟩
      · obtain ⟨e1, e2⟩ := card_low s hs e
        obtain ⟨N, hN⟩ := ih (s &&& (s - 1)) (c + 1) (by omega) (by omega) (by rw [show c + 1 + card (s &&& (s - 1)) = c + card s by omega]; exact hq)
        refine ⟨N + 1, ?_⟩
        rw [q_X5_bits_L4]
        refine ⟨fun q => absurd q (nI_ne0 (by omega) (by omega)), fun _ x ex => ?_⟩
        rw [show nI s - 1 = nI (s - 1) from pk_sub (b := 1) (by omega), fa_and] at ex
        rw [ex, nI_1]
        exact hN
  exact key s s 0 hs (Nat.le_refl s) (by rw [Nat.zero_add]; exact h)
theorem m_lineOf {n nl : Nat} {sets sts wts : Nat → Nat} (hW : WF n nl sets sts wts) {se st we rf : Nat → Int32} (hL : LA nl sets sts wts se st we) {x1 x2 : Int32} {Q : Int32 → (Nat → Int32) → Prop} (h : Q (ansR (sp_lineOf nl sets sts wts x1 x2)) (rfA rf (sp_lineOf nl sets sts wts x1 x2))) : q_X5_lineOf (nI nl) rf se st we x1 x2 Q := by
  obtain ⟨h1, hn, hnl, hk, hne⟩ := hW
  unfold q_X5_lineOf
  refine m_isLine hnl ?_
  unfold sp_lineOf at h
  rcases ix_cases x1 (m := nl) (by omega) with ⟨l, hlt, rfl, e⟩ | ⟨hx, e⟩ | ⟨hx, hx2, e⟩
  · rw [e] at h ⊢
    simp only at h
    refine ⟨fun _ => ?_, fun q => Bool.noConfusion q⟩
    obtain ⟨q1, q2, q3⟩ := hL l hlt
    rw [nI_clamp (by omega), q1, q2, q3]
    have hv : vp_in (nI l) 40 := vp_in_nI (by omega) (by omega)
    refine ⟨fun z => ⟨hv, ?_⟩, fun z => ⟨hv, ?_⟩, fun z => ⟨hv, ?_⟩, fun z => ⟨hv, p_bits (nIs hn (hk l hlt).1) ?_⟩, fun z => m_refuse (k := 2) (by omega) (by omega) (by decide) ?_⟩
    · rw [if_pos z] at h; exact h
    · rw [if_neg (by rw [z]; decide), if_pos z] at h; exact h
    · rw [if_neg (by rw [z]; decide), if_neg (by rw [z]; decide), if_pos z] at h; exact h
    · rw [if_neg (by rw [z]; decide), if_neg (by rw [z]; decide), if_neg (by rw [z]; decide), if_pos z] at h; exact h
    · rw [if_neg z.1, if_neg z.2.1, if_neg z.2.2.1, if_neg z.2.2.2] at h; exact h
  · rw [e] at h ⊢
    exact ⟨fun q => Bool.noConfusion q, fun _ => m_refuse (k := 1) (by omega) (by omega) (by decide) h⟩
  · rw [e] at h ⊢
    exact ⟨fun q => Bool.noConfusion q, fun _ => m_refuse (k := 1) (by omega) (by omega) (by decide) h⟩
theorem d_lineOf {n nl : Nat} {sets sts wts : Nat → Nat} (hW : WF n nl sets sts wts) {se st we rf : Nat → Int32} (hL : LA nl sets sts wts se st we) {x1 x2 : Int32} {Q : Int32 → (Nat → Int32) → Prop} (h : Q (ansR (sp_lineOf nl sets sts wts x1 x2)) (rfA rf (sp_lineOf nl sets sts wts x1 x2))) : q_X4_lineOf (nI nl) se st we rf x1 x2 Q := by
  obtain ⟨h1, hn, hnl, hk, hne⟩ := hW
  unfold q_X4_lineOf
  refine d_has hnl ?_
  unfold sp_lineOf at h
  rcases ix_cases x1 (m := nl) (by omega) with ⟨l, hlt, rfl, e⟩ | ⟨hx, e⟩ | ⟨hx, hx2, e⟩
  · rw [e] at h ⊢
    simp only at h
    refine ⟨fun _ => ?_, fun q => Bool.noConfusion q⟩
    obtain ⟨q1, q2, q3⟩ := hL l hlt
    rw [nI_clamp (by omega), q1, q2, q3]
    have hv : vp_in (nI l) 40 := vp_in_nI (by omega) (by omega)
    refine ⟨fun z => ⟨hv, ?_⟩, fun z => ⟨hv, ?_⟩, fun z => ⟨hv, ?_⟩, fun z => ⟨hv, p_bitCount (nIs hn (hk l hlt).1) ?_⟩, fun z => d_refuse (k := 2) (by omega) (by omega) (by decide) ?_⟩
    · rw [if_pos z] at h; exact h
    · rw [if_neg (by rw [z]; decide), if_pos z] at h; exact h
    · rw [if_neg (by rw [z]; decide), if_neg (by rw [z]; decide), if_pos z] at h; exact h
    · rw [if_neg (by rw [z]; decide), if_neg (by rw [z]; decide), if_neg (by rw [z]; decide), if_pos z] at h; exact h
    · rw [if_neg z.1, if_neg z.2.1, if_neg z.2.2.1, if_neg z.2.2.2] at h; exact h
  · rw [e] at h ⊢
    exact ⟨fun q => Bool.noConfusion q, fun _ => d_refuse (k := 1) (by omega) (by omega) (by decide) h⟩
  · rw [e] at h ⊢
    exact ⟨fun q => Bool.noConfusion q, fun _ => d_refuse (k := 1) (by omega) (by omega) (by decide) h⟩
/-- how many lines are so -/
def inSt (nl : Nat) (sts : Nat → Nat) (v : Nat) : Nat := fb_ct (fun k => decide (sts k = v)) nl
theorem m_inState {n nl : Nat} {sets sts wts : Nat → Nat} (hW : WF n nl sets sts wts) {se st we : Nat → Int32} (hL : LA nl sets sts wts se st we) {v : Nat} (hv : v ≤ 2) {Q : Int32 → Prop} (h : Q (nI (inSt nl sts v))) : q_X5_inState (nI nl) st (nI v) Q := by
  obtain ⟨h1, hn, hnl, hk, hne⟩ := hW
  refine up2 (fun N x a => q_X5_inState_L4 (nI v) (nI nl) st Q N a x) (fun i a => a = nI (inSt i sts v)) nl ?_ 0 0 (Nat.zero_le _) rfl
  intro m i a hi hI ih
  rw [q_X5_inState_L4]
  refine ⟨fun hx => ?_, fun hx => ⟨?_, ?_⟩⟩
  · rw [nI_leI (by omega) (by omega)] at hx
    have e : i = nl := by omega
    subst e
    rw [hI]; exact h
  · rw [nI_leI (by omega) (by omega)] at hx
    exact vp_in_nI (by omega) (by omega)
  · rw [nI_leI (by omega) (by omega)] at hx
    have hlt : i < nl := by omega
    rw [nI_clamp (by omega), (hL i hlt).2.1, nI_1]
    intro t et z ez
    refine ih z hlt ?_
    rw [ez, hI]
    unfold inSt
    rw [fb_ct_succ, ← nI_add]
    congr 1
    rw [et]
    by_cases q : sts i = v
    · rw [if_pos (by rw [q]), decide_eq_true q]; rfl
    · rw [if_neg (fun z => q ((st_eq (hk i hlt).2.1 hv).mp z)), decide_eq_false q]; rfl
theorem d_inState {n nl : Nat} {sets sts wts : Nat → Nat} (hW : WF n nl sets sts wts) {se st we : Nat → Int32} (hL : LA nl sets sts wts se st we) {v : Nat} (hv : v ≤ 2) {Q : Int32 → Prop} (h : Q (nI (inSt nl sts v))) : q_X0_howMany (nI nl) st (nI v) Q := by
  obtain ⟨h1, hn, hnl, hk, hne⟩ := hW
  refine up2 (fun N x a => q_X0_howMany_L4 (nI v) (nI nl) st Q N a x) (fun i a => a = nI (inSt i sts v)) nl ?_ 0 0 (Nat.zero_le _) rfl
  intro m i a hi hI ih
  rw [q_X0_howMany_L4]
  refine ⟨fun hx => ?_, fun hx => ⟨?_, ?_⟩⟩
  · rw [nI_leI (by omega) (by omega)] at hx
    have e : i = nl := by omega
    subst e
    rw [hI]; exact h
  · rw [nI_leI (by omega) (by omega)] at hx
    exact vp_in_nI (by omega) (by omega)
  · rw [nI_leI (by omega) (by omega)] at hx
    have hlt : i < nl := by omega
    rw [nI_clamp (by omega), (hL i hlt).2.1, nI_1, st_eq (hk i hlt).2.1 hv]
    refine ⟨fun q => ih _ hlt ?_, fun q => ih _ hlt ?_⟩
    · rw [hI]
      unfold inSt
      rw [fb_ct_succ, decide_eq_false q]
      rfl
    · rw [hI]
      unfold inSt
      rw [fb_ct_succ, decide_eq_true q, nI_1]
      rfl
def sp_count (n nl : Nat) (sts : Nat → Nat) (rf : Nat → Int32) (x : Int32) : Int32 := if 10 < x ∧ x < 17 then rf (x - 10).toNatClampNeg else if x = 0 then nI n else if x = 1 then nI nl else if x = 2 then nI (inSt nl sts 0) else if x = 3 then nI (inSt nl sts 1) else if x = 4 then nI (inSt nl sts 2) else -9
theorem cnt_in {x : Int32} (h1 : 10 < x) (h2 : x < 17) : vp_in (x - 10) 7 := by
  rw [fa_lt] at h1 h2
  rw [vp_in_iff]
  have e1 : (10 : Int32).toInt = 10 := by decide
  have e2 : (17 : Int32).toInt = 17 := by decide
  rw [fb_subI (by omega) (by omega)]
  omega
theorem m_count {n nl : Nat} {sets sts wts : Nat → Nat} (hW : WF n nl sets sts wts) {se st we rf : Nat → Int32} (hL : LA nl sets sts wts se st we) {x : Int32} {Q : Int32 → Prop} (h : Q (sp_count n nl sts rf x)) : q_X5_count (nI n) (nI nl) rf st x Q := by
  unfold sp_count at h
  have J : ¬ (10 < x ∧ x < 17) → q_X5_count_J22 x (nI n) (nI nl) st Q := fun hno => by
    rw [if_neg hno] at h
    unfold q_X5_count_J22
    refine ⟨fun z => ?_, fun z => ?_, fun z => ?_, fun z => ?_, fun z => ?_, fun z => ?_⟩
    · rw [if_pos z] at h; exact h
    · rw [if_neg (by rw [z]; decide), if_pos z] at h; exact h
    · rw [if_neg (by rw [z]; decide), if_neg (by rw [z]; decide), if_pos z] at h
      subst z
      exact m_inState hW hL (v := 0) (by omega) h
    · rw [if_neg (by rw [z]; decide), if_neg (by rw [z]; decide), if_neg (by rw [z]; decide), if_pos z] at h
      subst z
      exact m_inState hW hL (v := 1) (by omega) h
    · rw [if_neg (by rw [z]; decide), if_neg (by rw [z]; decide), if_neg (by rw [z]; decide), if_neg (by rw [z]; decide), if_pos z] at h
      subst z
      exact m_inState hW hL (v := 2) (by omega) h
    · rw [if_neg z.1, if_neg z.2.1, if_neg z.2.2.1, if_neg z.2.2.2.1, if_neg z.2.2.2.2] at h; exact h
  unfold q_X5_count
  refine ⟨fun q => J (fun z => ?_), fun q => ⟨fun q2 => J (fun z => ?_), fun q2 => ?_⟩⟩
  · have z1 := z.1; rw [fa_lt] at z1; rw [fa_le] at q; omega
  · have z2 := z.2; rw [fa_lt] at z2; rw [fa_le] at q2; omega
  · have w1 := fa_of_nle q
    have w2 := fa_of_nle q2
    rw [if_pos ⟨w1, w2⟩] at h
    exact ⟨cnt_in w1 w2, h⟩
theorem d_count {n nl : Nat} {sets sts wts : Nat → Nat} (hW : WF n nl sets sts wts) {se st we rf : Nat → Int32} (hL : LA nl sets sts wts se st we) {x : Int32} {Q : Int32 → Prop} (h : Q (sp_count n nl sts rf x)) : q_X4_count (nI n) (nI nl) st rf x Q := by
  unfold sp_count at h
  have J : ¬ (10 < x ∧ x < 17) → q_X4_count_J22 x (nI n) (nI nl) st Q := fun hno => by
    rw [if_neg hno] at h
    unfold q_X4_count_J22
    refine ⟨fun z => ?_, fun z => ?_, fun z => ?_, fun z => ?_, fun z => ?_, fun z => ?_⟩
    · rw [if_pos z] at h; exact h
    · rw [if_neg (by rw [z]; decide), if_pos z] at h; exact h
    · rw [if_neg (by rw [z]; decide), if_neg (by rw [z]; decide), if_pos z] at h
      exact d_inState hW hL (v := 0) (by omega) h
    · rw [if_neg (by rw [z]; decide), if_neg (by rw [z]; decide), if_neg (by rw [z]; decide), if_pos z] at h
      exact d_inState hW hL (v := 1) (by omega) h
    · rw [if_neg (by rw [z]; decide), if_neg (by rw [z]; decide), if_neg (by rw [z]; decide), if_neg (by rw [z]; decide), if_pos z] at h
      exact d_inState hW hL (v := 2) (by omega) h
    · rw [if_neg z.1, if_neg z.2.1, if_neg z.2.2.1, if_neg z.2.2.2.1, if_neg z.2.2.2.2] at h; exact h
  unfold q_X4_count
  refine ⟨fun q => J (fun z => ?_), fun q => ⟨fun q2 => J (fun z => ?_), fun q2 => ?_⟩⟩
  · have z1 := z.1; rw [fa_lt] at z1; rw [fa_le] at q; omega
  · have z2 := z.2
    rw [fa_lt] at z2 q2
    have e1 : (16 : Int32).toInt = 16 := by decide
    have e2 : (17 : Int32).toInt = 17 := by decide
    omega
  · have w1 := fa_of_nle q
    have w2 : x < 17 := by
      have := fa_of_nlt q2
      rw [fa_le] at this
      rw [fa_lt]
      have e1 : (16 : Int32).toInt = 16 := by decide
      have e2 : (17 : Int32).toInt = 17 := by decide
      omega
    rw [if_pos ⟨w1, w2⟩] at h
    exact ⟨cnt_in w1 w2, h⟩
