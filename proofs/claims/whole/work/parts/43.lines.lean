/-! LINES: taken, left, dropped. -/
def updN (f : Nat → Nat) (k v : Nat) : Nat → Nat := fun j => if j = k then v else f j
theorem updN_s {f : Nat → Nat} {k v : Nat} : updN f k v k = v := if_pos rfl
theorem updN_n {f : Nat → Nat} {k v j : Nat} (h : j ≠ k) : updN f k v j = f j := if_neg h
/-- which lines are taken -/
def tkn (sts : Nat → Nat) : Nat → Bool := fun k => decide (sts k = 0)
/-- the good rows -/
def GG (n nl : Nat) (sets sts : Nat → Nat) : List (List Nat) := GS n (tkn sts) sets nl
theorem Cn_congr {tk tk' : Nat → Bool} {sets sets' : Nat → Nat} : ∀ {m : Nat} {l : List Nat}, (∀ k, k < m → tk k = tk' k ∧ sets k = sets' k) → Cn tk sets m l = Cn tk' sets' m l
  | 0, _, _ => rfl
  | m + 1, l, h => by
    rw [Cn, Cn, Cn_congr (fun k hk => h k (by omega)), (h m (by omega)).1, (h m (by omega)).2]
theorem GS_congr {n m : Nat} {tk tk' : Nat → Bool} {sets sets' : Nat → Nat} (h : ∀ k, k < m → tk k = tk' k ∧ sets k = sets' k) : GS n tk sets m = GS n tk' sets' m := List.filter_congr (fun _ _ => Cn_congr h)
theorem Cn_add {tk tk' : Nat → Bool} {sets : Nat → Nat} {k : Nat} (hk : tk k = false) (hk' : tk' k = true) (ho : ∀ j, j ≠ k → tk' j = tk j) (l : List Nat) : ∀ m : Nat, Cn tk' sets m l = (Cn tk sets m l && (!decide (k < m) || tog (sets k) l))
  | 0 => by simp [Cn]
  | m + 1 => by
    rw [Cn, Cn, Cn_add hk hk' ho l m]
    by_cases e : m = k
    · subst e
      rw [hk, hk']
      cases Cn tk sets m l <;> cases tog (sets m) l <;> simp
    · rw [ho m e]
      by_cases q : k < m
      · have q2 : k < m + 1 := by omega
        simp only [q, q2, decide_true]
        cases Cn tk sets m l <;> cases tog (sets k) l <;> cases tk m <;> cases tog (sets m) l <;> rfl
      · have q2 : ¬ k < m + 1 := by omega
        simp only [q, q2, decide_false]
        cases Cn tk sets m l <;> cases tk m <;> cases tog (sets m) l <;> rfl
theorem GG_take {n nl k : Nat} {sets sts : Nat → Nat} (hk : k < nl) (hs : sts k ≠ 0) : GG n nl sets (updN sts k 0) = (GG n nl sets sts).filter (tog (sets k)) := by
  unfold GG GS
  rw [List.filter_filter]
  refine List.filter_congr (fun l _ => ?_)
  rw [Cn_add (tk := tkn sts) (k := k) (by simp [tkn, hs]) (by simp [tkn, updN]) (fun j hj => by simp [tkn, updN, hj])]
  simp [hk, Bool.and_comm]
theorem GG_same {n nl k v : Nat} {sets sts : Nat → Nat} (hs : sts k ≠ 0) (hv : v ≠ 0) : GG n nl sets (updN sts k v) = GG n nl sets sts := by
  refine GS_congr (fun j _ => ⟨?_, rfl⟩)
  unfold tkn
  by_cases e : j = k
  · subst e
    rw [updN_s, decide_eq_false hs, decide_eq_false hv]
  · rw [updN_n e]
theorem GG_new {n nl s v w : Nat} {sets sts : Nat → Nat} (hv : v ≠ 0) : GG n (nl + 1) (updN sets nl s) (updN sts nl v) = GG n nl sets sts := by
  unfold GG
  rw [← GS_no (by simp [tkn, updN, hv])]
  refine GS_congr (fun j hj => ⟨?_, updN_n (by omega)⟩)
  unfold tkn
  rw [updN_n (by omega)]
theorem GG_ok {n nl : Nat} (hn : n ≤ 8) {sets sts : Nat → Nat} (h : GG n nl sets sts ≠ []) : GOk n (GG n nl sets sts) := ⟨fun l hl => (List.mem_filter.mp hl).1, h, GS_len hn, List.filter_sublist.nodup (paths_nodup n (fullg n) n 0)⟩
/-- the lines in an object's arrays -/
def LA (nl : Nat) (sets sts wts : Nat → Nat) (a b c : Nat → Int32) : Prop := ∀ k, k < nl → a k = nI (sets k) ∧ b k = nI (sts k) ∧ c k = nI (wts k)
/-- the lines are as they must be -/
def WF (n nl : Nat) (sets sts wts : Nat → Nat) : Prop := 1 ≤ n ∧ n ≤ 8 ∧ nl ≤ 40 ∧ (∀ k, k < nl → sets k < 2 ^ n ∧ sts k ≤ 2 ∧ wts k ≤ 100 ∧ (sts k = 1 → sets k ≠ 0)) ∧ GG n nl sets sts ≠ []
theorem WF.ok {n nl : Nat} {sets sts wts : Nat → Nat} (h : WF n nl sets sts wts) : GOk n (GG n nl sets sts) := GG_ok h.2.1 h.2.2.2.2
/-! a line is told: both sides -/
theorem any_cP {G : List (List Nat)} {s : Nat} : (G.any (tog s) = true ↔ 0 < cP (tog s) G) := by
  unfold cP
  rw [List.any_eq_true, List.length_pos_iff_exists_mem]
  constructor
  · rintro ⟨l, h1, h2⟩; exact ⟨l, List.mem_filter.mpr ⟨h1, h2⟩⟩
  · rintro ⟨l, h⟩; exact ⟨l, (List.mem_filter.mp h).1, (List.mem_filter.mp h).2⟩
theorem narrow_paths {n : Nat} {f f3 : Nat → Int32} {G : List (List Nat)} (hn : n ≤ 8) (hp : paths n (ob f) n 0 = G) {gate : Nat → Nat → Bool} (h : ∀ S, S < 2 ^ n → ∀ c, c < 32 → bt (f3 S) c = (bt (f S) c && gate S c)) : paths n (ob f3) n 0 = G.filter (along gate 0) := by
  rw [← hp, paths_filter]
  exact paths_congr (fun S hS c hc => h S hS c (by omega)) n 0 (Nat.two_pow_pos n)
theorem d_takeOrLeave {n : Nat} (h1 : 1 ≤ n) (hn : n ≤ 8) {f w : Nat → Int32} {G : List (List Nat)} (hR : Rw n f w G) (hG : GOk n G) {tc tf o1 o2 : Int32} {to tw ls lt : Nat → Int32} {k s : Nat} (hk : k < 40) (hs : s < 2 ^ n) (hls : ls k = nI s) {Q : Int32 → Int32 → (Nat → Int32) → (Nat → Int32) → (Nat → Int32) → Int32 → Int32 → (Nat → Int32) → (Nat → Int32) → Prop} (h : ∀ f' w' c1 c2 c3 c4, Rw n f' w' (if G.any (tog s) then G.filter (tog s) else G) → Q 1 1 (upd lt k (nI (if G.any (tog s) then 0 else 1))) f' w' c1 c2 c3 c4) : q_X4_takeOrLeave o1 o2 ls lt (nI n) (nI (2 ^ n - 1)) f w tc tf to tw (nI k) Q := by
  have hlen := hG.2.2.1
  unfold q_X4_takeOrLeave q_X4_forgetDerived
  refine ⟨vp_in_nI hk (by omega), ?_⟩
  rw [nI_clamp (by omega), hls]
  intro x2 e2
  subst e2
  refine d_rowsWith h1 hn hR hG hs (fun c1 c2 c3 c4 => ?_)
  have hle := cP_le (tog s) G
  rw [← nI_0, nI_leI (by omega) (by omega)]
  refine ⟨fun q => ?_, fun q => ?_⟩
  · have hany : G.any (tog s) = false := Bool.eq_false_iff.mpr (fun z => by have := any_cP.mp z; omega)
    have := h f w c1 c2 c3 c4 (by rw [hany]; exact hR)
    rw [hany] at this
    exact this
  · have hany : G.any (tog s) = true := any_cP.mpr (by omega)
    refine p_keep hn hs (fun f2 hf2 => ?_)
    obtain ⟨hg2, -⟩ := narrow_ok hn hR.1 hR.2.1 (f3 := f2) (gate := okS s) hf2
    have hp2 := narrow_paths hn hR.2.1 hf2
    rw [filter_tog hn hG.1 hs] at hp2
    refine p_reckon h1 hn hg2 (fun w2 hw2 => p_closeDeadWays hn hg2 hw2 (fun f3 hf3 => ?_))
    have hR3 := close_ok hn hg2 hw2 hf3
    rw [hp2] at hR3
    have := h f3 w2 c1 c2 c3 c4 (by rw [hany]; exact hR3)
    rw [hany] at this
    exact this
theorem m_takes {n : Nat} (hn : n ≤ 8) {G : List (List Nat)} (hG : GOk n G) {good se st : Nat → Int32} (ha : Holds good G) {kn : Int32} {k s : Nat} (hk : k < 40) (hs : se k = nI s) {Q : Int32 → Int32 → (Nat → Int32) → (Nat → Int32) → Prop} (h : ∀ good' kn', Holds good' (if G.any (tog s) then G.filter (tog s) else G) → (G.any (tog s) = false → kn' = kn) → (G.any (tog s) = true → kn' = 0) → Q (nI (if G.any (tog s) then G.filter (tog s) else G).length) kn' (upd st k (nI (if G.any (tog s) then 0 else 1))) good') : q_X5_takes (nI n) (nI G.length) kn se st good (nI k) Q := by
  have hlen := hG.2.2.1
  unfold q_X5_takes
  refine ⟨vp_in_nI hk (by omega), ?_⟩
  rw [nI_clamp (by omega), hs]
  refine p_isAny hn hG.row hlen ha ?_
  cases hany : G.any (tog s)
  · intro t et
    have e1 : t = nI 1 := by rw [et]; decide
    subst e1
    rw [pk_us]
    refine ⟨fun q => absurd rfl q, fun _ => ?_⟩
    have := h good kn (by rw [hany]; exact ha) (fun _ => rfl) (fun q => by rw [hany] at q; cases q)
    rw [hany] at this
    exact this
  · intro t et
    have e1 : t = nI 0 := by rw [et]; decide
    subst e1
    rw [pk_us]
    refine ⟨fun _ => p_filter hn hG.row hlen ha (fun a' ha' => ?_), fun q => absurd q (by decide)⟩
    have := h a' 0 (by rw [hany]; exact ha') (fun q => by rw [hany] at q; cases q) (fun _ => rfl)
    rw [hany] at this
    exact this
/-! all taken lines but one -/
theorem d_keepTaken {n nl : Nat} (h1 : 1 ≤ n) (hn : n ≤ 8) (hnl : nl ≤ 40) {sets : Nat → Nat} {ls lt : Nat → Int32} {tk : Nat → Bool} {x2 : Int32} (hs : ∀ k, k < nl → ls k = nI (sets k) ∧ sets k < 2 ^ n) (htk : ∀ k, k < nl → (tk k = true ↔ (¬ nI k = x2 ∧ lt k = 0))) {pc pf : Int32} {po pw : Nat → Int32} {Q : Int32 → Int32 → Int32 → (Nat → Int32) → (Nat → Int32) → Prop} (h : ∀ f' w' : Nat → Int32, Gr n (ob f') → (∀ S, S < 2 ^ n → w' S = nI (Wf n f' S)) → paths n (ob f') n 0 = GS n tk sets nl → Q (nI (GS n tk sets nl).length) (nI n) (nI (2 ^ n - 1)) f' w') : q_X4_keepTaken (nI n) (nI nl) ls lt pc pf po pw x2 Q := by
  unfold q_X4_keepTaken
  refine p_letAll h1 hn (fun f0 hf0 => ?_)
  have hp0 : paths n (ob f0) n 0 = GS n tk sets 0 := by
    have e : GS n tk sets 0 = P n := by unfold GS; exact List.filter_eq_self.mpr (fun _ _ => rfl)
    rw [e]
    exact paths_congr (fun S hS c hc => hf0 S hS c (by omega)) n 0 (Nat.two_pow_pos n)
  refine up2 (fun N x a => q_X4_keepTaken_L10 x2 (nI nl) ls lt (nI n) (nI (2 ^ n - 1)) pw Q N x a) (fun k f => Gr n (ob f) ∧ paths n (ob f) n 0 = GS n tk sets k) nl ?_ 0 f0 (Nat.zero_le _) ⟨Gr_full hf0, hp0⟩
  intro m k f hk hI ih
  obtain ⟨hg, hp⟩ := hI
  rw [q_X4_keepTaken_L10]
  refine ⟨fun hx => ?_, fun hx => ?_⟩
  · rw [nI_leI (by omega) (by omega)] at hx
    have e : k = nl := by omega
    subst e
    unfold q_X4_keepTaken_J57
    refine p_reckon h1 hn hg (fun w' hw' => ?_)
    have e2 : Wf n f 0 = (GS n tk sets k).length := by
      unfold Wf
      rw [card_0, Nat.sub_zero, hp]
    rw [e2]
    exact h f w' hg hw' hp
  · rw [nI_leI (by omega) (by omega)] at hx
    have hkn : k < nl := by omega
    rw [nI_1]
    have skip : tk k = false → q_X4_keepTaken_L10 x2 (nI nl) ls lt (nI n) (nI (2 ^ n - 1)) pw Q m (nI (k + 1)) f := fun hf => ih f hkn ⟨hg, by rw [hp, GS_no hf]⟩
    refine ⟨fun q => skip (Bool.eq_false_iff.mpr (fun z => ((htk k hkn).mp z).1 q)), fun q => ⟨vp_in_nI (by omega) (by omega), ?_⟩⟩
    rw [nI_clamp (by omega)]
    refine ⟨fun q2 => skip (Bool.eq_false_iff.mpr (fun z => q2 ((htk k hkn).mp z).2)), fun q2 => ?_⟩
    have ht : tk k = true := (htk k hkn).mpr ⟨q, q2⟩
    obtain ⟨e1, hsl⟩ := hs k hkn
    rw [e1]
    refine p_keep hn hsl (fun f2 hf2 => ih f2 hkn ⟨(narrow_ok hn hg hp (f3 := f2) (gate := okS (sets k)) hf2).1, ?_⟩)
    rw [narrow_paths hn hp hf2, filter_tog (G := GS n tk sets k) hn (fun l hl => (List.mem_filter.mp hl).1) hsl, GS_yes ht]
/-! why a line is left -/
def whyF (tk : Nat → Bool) (sets : Nat → Nat) : Nat → Nat → List (List Nat) → Int32
  | 0, _, _ => -9
  | m + 1, k, L => if tk k then (if (L.filter (tog (sets k))).length = 0 then nI k else whyF tk sets m (k + 1) (L.filter (tog (sets k)))) else whyF tk sets m (k + 1) L
def sp_why (n nl : Nat) (sets sts : Nat → Nat) (x : Int32) : Ans := match ix x nl with
  | none => .inl 1
  | some l => if sts l = 1 then .inr (whyF (tkn sts) sets nl 0 ((P n).filter (tog (sets l)))) else .inl 3
theorem sub_len {n : Nat} (hn : n ≤ 8) {L : List (List Nat)} {p : List Nat → Bool} (h : L.length ≤ 40320) : (L.filter p).length ≤ 40320 := Nat.le_trans (List.length_filter_le _ _) h
theorem st_eq {v c : Nat} (hv : v ≤ 2) (hc : c ≤ 2) : nI v = nI c ↔ v = c := nI_eq (by omega) (by omega)
theorem m_why {n nl : Nat} {sets sts wts : Nat → Nat} (hW : WF n nl sets sts wts) {se st we all trial rf : Nat → Int32} (hL : LA nl sets sts wts se st we) (hall : Holds all (P n)) {x : Int32} {Q : Int32 → (Nat → Int32) → (Nat → Int32) → Prop} (h : ∀ t', Q (ansR (sp_why n nl sets sts x)) (rfA rf (sp_why n nl sets sts x)) t') : q_X5_why (nI n) (nI nl) (nI (P n).length) rf se st all trial x Q := by
  obtain ⟨h1, hn, hnl, hk, hne⟩ := hW
  have hl := len_P hn
  unfold q_X5_why
  refine m_isLine hnl ?_
  unfold sp_why at h
  rcases ix_cases x (m := nl) (by omega) with ⟨l, hlt, rfl, e⟩ | ⟨hx, e⟩ | ⟨hx, hx2, e⟩
  · rw [e] at h ⊢
    simp only at h
    refine ⟨fun _ => ⟨vp_in_nI (by omega) (by omega), ?_⟩, fun q => Bool.noConfusion q⟩
    rw [nI_clamp (by omega), (hL l hlt).2.1, show (1 : Int32) = nI 1 from rfl, st_eq (hk l hlt).2.1 (by omega)]
    refine ⟨fun q => ?_, fun q => ?_⟩
    · rw [if_pos q] at h
      refine up2 (fun N y g => q_X5_why_L33 (nI l) (nI n) (nI nl) (nI (P n).length) rf se st all Q N y g) (fun i g => ∀ j, j < i → g j = all j) (P n).length ?_ 0 trial (Nat.zero_le _) (fun j hj => absurd hj (Nat.not_lt_zero j))
      intro m i g hi hI ih
      rw [q_X5_why_L33]
      refine ⟨fun hx => ?_, fun hx => ⟨?_, ?_⟩⟩
      · rw [nI_leI (by omega) (by omega)] at hx
        have ei : i = (P n).length := by omega
        have hH : Holds g (P n) := fun j r hj => by
          rw [hI j (by rw [ei]; exact (List.getElem?_eq_some_iff.mp hj).1)]
          exact hall j r hj
        unfold q_X5_why_J59
        refine ⟨vp_in_nI (by omega) (by omega), ?_⟩
        rw [nI_clamp (by omega), (hL l hlt).1]
        refine p_filter hn (fun r hr => P_row hr) hl hH (fun a' ha' => ?_)
        refine up3 (fun N y c p => q_X5_why_L80 (nI n) (nI nl) rf se st Q N c y p) (fun k c p => ∃ L : List (List Nat), c = nI L.length ∧ Holds p L ∧ (∀ r ∈ L, Row n r) ∧ L.length ≤ 40320 ∧ whyF (tkn sts) sets nl 0 ((P n).filter (tog (sets l))) = whyF (tkn sts) sets (nl - k) k L) nl ?_ 0 _ a' (Nat.zero_le _) ⟨_, rfl, ha', fun r hr => P_row (List.mem_filter.mp hr).1, sub_len hn hl, by rw [Nat.sub_zero]⟩
        intro m2 k c p hkn hK ih2
        obtain ⟨L, rfl, hp, hrow, hLl, hwhy⟩ := hK
        rw [q_X5_why_L80]
        refine ⟨fun hx => ?_, fun hx => ⟨?_, ?_⟩⟩
        · rw [nI_leI (by omega) (by omega)] at hx
          rw [show nl - k = 0 by omega, whyF] at hwhy
          have := h p
          rw [hwhy] at this
          exact this
        · rw [nI_leI (by omega) (by omega)] at hx
          exact vp_in_nI (by omega) (by omega)
        · rw [nI_leI (by omega) (by omega)] at hx
          have hkl : k < nl := by omega
          rw [nI_clamp (by omega), (hL k hkl).2.1, (hL k hkl).1, ← nI_0, st_eq (hk k hkl).2.1 (by omega), nI_1]
          rw [show nl - k = (nl - (k + 1)) + 1 by omega, whyF] at hwhy
          refine ⟨fun q0 => ?_, fun q0 => ?_⟩
          · have ht : tkn sts k = true := decide_eq_true q0
            rw [if_pos ht] at hwhy
            refine p_filter hn hrow hLl hp (fun a2 ha2 => ?_)
            have hl2 := sub_len hn (p := tog (sets k)) hLl
            rw [nI_eq (by omega) (by omega)]
            refine ⟨fun z => ih2 _ _ hkl ⟨_, rfl, ha2, fun r hr => hrow r (List.mem_filter.mp hr).1, hl2, ?_⟩, fun z => ?_⟩
            · rw [if_neg z] at hwhy; exact hwhy
            · rw [if_pos z] at hwhy
              have := h a2
              rw [hwhy] at this
              exact this
          · have ht : ¬ tkn sts k = true := fun z => q0 (of_decide_eq_true z)
            rw [if_neg ht] at hwhy
            exact ih2 _ _ hkl ⟨L, rfl, hp, hrow, hLl, hwhy⟩
      · rw [nI_leI (by omega) (by omega)] at hx
        exact vp_in_nI (by omega) (by omega)
      · rw [nI_leI (by omega) (by omega)] at hx
        rw [nI_clamp (by omega), nI_1]
        refine ih _ (by omega) (fun j hj => ?_)
        by_cases e : j = i
        · subst e; exact pk_us
        · rw [pk_un e]; exact hI j (by omega)
    · rw [if_neg q] at h
      exact m_refuse (k := 3) (by omega) (by omega) (by decide) (h _)
  · rw [e] at h ⊢
    exact ⟨fun q => Bool.noConfusion q, fun _ => m_refuse (k := 1) (by omega) (by omega) (by decide) (h _)⟩
  · rw [e] at h ⊢
    exact ⟨fun q => Bool.noConfusion q, fun _ => m_refuse (k := 1) (by omega) (by omega) (by decide) (h _)⟩
theorem d_why {n nl : Nat} {sets sts wts : Nat → Nat} (hW : WF n nl sets sts wts) {se st we rf : Nat → Int32} (hL : LA nl sets sts wts se st we) {tc tf : Int32} {to tw : Nat → Int32} {x : Int32} {Q : Int32 → Int32 → Int32 → (Nat → Int32) → (Nat → Int32) → (Nat → Int32) → Prop} (h : ∀ c1 c2 c3 c4, Q (ansR (sp_why n nl sets sts x)) c1 c2 c3 c4 (rfA rf (sp_why n nl sets sts x))) : q_X4_why (nI n) (nI nl) se st tc tf to tw rf x Q := by
  obtain ⟨h1, hn, hnl, hk, hne⟩ := hW
  have hl := len_P hn
  unfold q_X4_why
  refine d_has hnl ?_
  unfold sp_why at h
  rcases ix_cases x (m := nl) (by omega) with ⟨l, hlt, rfl, e⟩ | ⟨hx, e⟩ | ⟨hx, hx2, e⟩
  · rw [e] at h ⊢
    simp only at h
    refine ⟨fun _ => ⟨vp_in_nI (by omega) (by omega), ?_⟩, fun q => Bool.noConfusion q⟩
    rw [nI_clamp (by omega), (hL l hlt).2.1, show (1 : Int32) = nI 1 from rfl, st_eq (hk l hlt).2.1 (by omega)]
    refine ⟨fun q => ?_, fun q => ?_⟩
    · rw [if_pos q] at h
      refine p_letAll h1 hn (fun f0 hf0 => ?_)
      have hp0 : paths n (ob f0) n 0 = P n := paths_congr (fun S hS c hc => hf0 S hS c (by omega)) n 0 (Nat.two_pow_pos n)
      rw [(hL l hlt).1]
      refine p_keep hn (hk l hlt).1 (fun f1 hf1 => ?_)
      have hp1 := narrow_paths hn hp0 hf1
      rw [filter_tog hn (fun _ z => z) (hk l hlt).1] at hp1
      refine up3 (fun N y a b => q_X4_why_L66 (nI nl) se st (nI n) (nI (2 ^ n - 1)) rf Q N y a b) (fun k f w => ∃ L : List (List Nat), Gr n (ob f) ∧ paths n (ob f) n 0 = L ∧ (∀ r ∈ L, r ∈ P n) ∧ L.length ≤ 40320 ∧ whyF (tkn sts) sets nl 0 ((P n).filter (tog (sets l))) = whyF (tkn sts) sets (nl - k) k L) nl ?_ 0 f1 tw (Nat.zero_le _) ⟨_, (narrow_ok hn (Gr_full hf0) hp0 (f3 := f1) (gate := okS (sets l)) hf1).1, hp1, fun r hr => (List.mem_filter.mp hr).1, sub_len hn hl, by rw [Nat.sub_zero]⟩
      intro m2 k f w hkn hK ih2
      obtain ⟨L, hg, hp, hLP, hLl, hwhy⟩ := hK
      rw [q_X4_why_L66]
      refine ⟨fun hx => ?_, fun hx => ⟨?_, ?_⟩⟩
      · rw [nI_leI (by omega) (by omega)] at hx
        rw [show nl - k = 0 by omega, whyF] at hwhy
        have := h (nI n) (nI (2 ^ n - 1)) f w
        rw [hwhy] at this
        exact this
      · rw [nI_leI (by omega) (by omega)] at hx
        exact vp_in_nI (by omega) (by omega)
      · rw [nI_leI (by omega) (by omega)] at hx
        have hkl : k < nl := by omega
        rw [nI_clamp (by omega), (hL k hkl).2.1, (hL k hkl).1, ← nI_0, st_eq (hk k hkl).2.1 (by omega), nI_1]
        rw [show nl - k = (nl - (k + 1)) + 1 by omega, whyF] at hwhy
        refine ⟨fun q0 => ?_, fun q0 => ?_⟩
        · have ht : ¬ tkn sts k = true := fun z => q0 (of_decide_eq_true z)
          rw [if_neg ht] at hwhy
          exact ih2 _ _ hkl ⟨L, hg, hp, hLP, hLl, hwhy⟩
        · have ht : tkn sts k = true := decide_eq_true q0
          rw [if_pos ht] at hwhy
          refine p_keep hn (hk k hkl).1 (fun f2 hf2 => ?_)
          obtain ⟨hg2, hW2⟩ := narrow_ok hn hg hp (f3 := f2) (gate := okS (sets k)) hf2
          have hp2 := narrow_paths hn hp hf2
          rw [filter_tog hn hLP (hk k hkl).1] at hp2 hW2
          have hl2 := sub_len hn (p := tog (sets k)) hLl
          refine p_reckon h1 hn hg2 (fun w2 hw2 => ?_)
          rw [hW2, nI_eq (by omega) (by omega)]
          refine ⟨fun z => ih2 _ _ hkl ⟨_, hg2, hp2, fun r hr => hLP r (List.mem_filter.mp hr).1, hl2, ?_⟩, fun z => ?_⟩
          · rw [if_neg z] at hwhy; exact hwhy
          · rw [if_pos z] at hwhy
            have := h (nI n) (nI (2 ^ n - 1)) f2 w2
            rw [hwhy] at this
            exact this
    · rw [if_neg q] at h
      exact d_refuse (k := 3) (by omega) (by omega) (by decide) (h _ _ _ _)
  · rw [e] at h ⊢
    exact ⟨fun q => Bool.noConfusion q, fun _ => d_refuse (k := 1) (by omega) (by omega) (by decide) (h _ _ _ _)⟩
  · rw [e] at h ⊢
    exact ⟨fun q => Bool.noConfusion q, fun _ => d_refuse (k := 1) (by omega) (by omega) (by decide) (h _ _ _ _)⟩
