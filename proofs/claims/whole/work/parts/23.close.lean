/-! DEAD WAYS, AND WHAT RESTS ON THEIR WANT. -/
/-- a set that some step leads to -/
def Rch (n : Nat) (f : Nat → Int32) (S : Nat) : Prop := S = 0 ∨ ∃ c, c < n ∧ S.testBit c = true ∧ bt (f (rmv S c)) c = true
theorem p_isReached {n : Nat} (hn : n ≤ 8) {f : Nat → Int32} {S : Nat} (hS : S < 2 ^ n) {Q : Bool → Prop} (h : ∀ b : Bool, (b = true ↔ Rch n f S) → Q b) : q_X1_isReached (nI n) f (nI S) Q := by
  have h8 := nIs hn hS
  refine up1 (fun N x => q_X1_isReached_L2 (nI S) (nI n) f Q N x) (fun i => ∀ c, c < i → ¬ (S.testBit c = true ∧ bt (f (rmv S c)) c = true)) n ?_ 0 (Nat.zero_le _) (fun c hc => absurd hc (Nat.not_lt_zero c))
  intro m i hi hI ih
  rw [q_X1_isReached_L2]
  refine ⟨fun hx => ?_, fun hx => ?_⟩
  · rw [nI_leI (by omega) (by omega)] at hx
    have e : i = n := by omega
    subst e
    unfold q_X1_isReached_J42
    rw [← nI_0, nI_eq (by omega) (by omega)]
    refine ⟨fun h0 => h false ⟨fun q => Bool.noConfusion q, fun q => ?_⟩, fun h0 => h true ⟨fun _ => Or.inl h0, fun _ => rfl⟩⟩
    rcases q with q | ⟨c, hc, h1⟩
    · exact absurd q h0
    · exact absurd h1 (hI c hc)
  · rw [nI_leI (by omega) (by omega)] at hx
    rw [nI_1, sh1 _ (by omega), bI_eq1, bt_nI _ (by omega), and_rmv h8 (by omega)]
    refine ⟨fun hb => ih (by omega) (fun c hc => ?_), fun hb => ?_⟩
    · rcases Nat.lt_or_ge c i with q | q
      · exact hI c q
      · have e : c = i := by omega
        subst e
        exact fun h2 => hb h2.1
    · refine p_mayFollow (Nat.lt_of_lt_of_le (rmv_lt n (by omega) S hS i (by omega)) (pow_le8 hn)) (by omega) ⟨fun h2 => ih (by omega) (fun c hc => ?_), fun h2 => h true ⟨fun _ => Or.inr ⟨i, by omega, hb, h2⟩, fun _ => rfl⟩⟩
      rcases Nat.lt_or_ge c i with q | q
      · exact hI c q
      · have e : c = i := by omega
        subst e
        exact fun h3 => by rw [h2] at h3; cases h3.2
/-- the graph without dead ways -/
def Closed (n : Nat) (f f' : Nat → Int32) : Prop := ∀ S, S < 2 ^ n → ∀ c, c < 32 → (bt (f' S) c = true ↔ bt (f S) c = true ∧ Rch n f' S ∧ 0 < Wf n f (ins S c))
theorem Rch_congr {n : Nat} {f f' : Nat → Int32} {S : Nat} (hS : S < 256) (hn : n ≤ 8) (h : ∀ R, R < S → f R = f' R) : Rch n f S ↔ Rch n f' S := by
  unfold Rch
  constructor
  · rintro (q | ⟨c, h1, h2, h3⟩)
    · exact Or.inl q
    · exact Or.inr ⟨c, h1, h2, by rw [← h _ (rmv_ins S hS c (by omega) h2).2.2]; exact h3⟩
  · rintro (q | ⟨c, h1, h2, h3⟩)
    · exact Or.inl q
    · exact Or.inr ⟨c, h1, h2, by rw [h _ (rmv_ins S hS c (by omega) h2).2.2]; exact h3⟩
theorem p_closeDeadWays {n : Nat} (hn : n ≤ 8) {f w : Nat → Int32} (hf : Gr n (ob f)) (hw : ∀ S, S < 2 ^ n → w S = nI (Wf n f S)) {Q : (Nat → Int32) → Prop} (h : ∀ f' : Nat → Int32, Closed n f f' → Q f') : q_X1_closeDeadWays (nI n) (nI (2 ^ n - 1)) f w Q := by
  have h8 := pow_le8 hn
  refine up2 (fun N x a => q_X1_closeDeadWays_L2 (nI n) (nI (2 ^ n - 1)) w Q N x a) (fun i f' => (∀ S, S < i → ∀ c, c < 32 → (bt (f' S) c = true ↔ bt (f S) c = true ∧ Rch n f' S ∧ 0 < Wf n f (ins S c))) ∧ ∀ S, i ≤ S → f' S = f S) (2 ^ n) ?_ 0 f (Nat.zero_le _) ⟨fun S h => absurd h (Nat.not_lt_zero S), fun S _ => rfl⟩
  intro m i f' hi hI ih
  rw [q_X1_closeDeadWays_L2]
  refine ⟨fun hc => ?_, fun hc => ?_⟩
  · have e := (full_lt hn hi).mp hc
    subst e
    exact h f' hI.1
  · have hlt : i < 2 ^ n := by
      have := mt (full_lt hn hi).mpr hc
      omega
    refine p_isReached hn hlt (fun b hb => ?_)
    -- the columns of one set
    have cols : ∀ f1 : Nat → Int32, (∀ S, S ≠ i → f1 S = f' S) → (∀ c, c < 32 → (bt (f1 i) c = true ↔ bt (f i) c = true ∧ Rch n f' i)) → q_X1_closeDeadWays_J25 (nI i) (nI n) w (fun y0 y1 => q_X1_closeDeadWays_L2 (nI n) (nI (2 ^ n - 1)) w Q m y0 y1) f1 := by
      intro f1 ho hb1
      refine up2 (fun N x a => q_X1_closeDeadWays_L27 (nI i) (nI n) w (fun y0 y1 => q_X1_closeDeadWays_L2 (nI n) (nI (2 ^ n - 1)) w Q m y0 y1) N x a) (fun j f2 => (∀ S, S ≠ i → f2 S = f' S) ∧ ∀ c, c < 32 → (bt (f2 i) c = true ↔ bt (f i) c = true ∧ Rch n f' i ∧ (c < j → 0 < Wf n f (ins i c)))) n ?_ 0 f1 (Nat.zero_le _) ⟨ho, fun c hc => by rw [hb1 c hc]; exact ⟨fun q => ⟨q.1, q.2, fun z => absurd z (Nat.not_lt_zero c)⟩, fun q => ⟨q.1, q.2.1⟩⟩⟩
      intro m2 j f2 hj hJ ih2
      rw [q_X1_closeDeadWays_L27]
      refine ⟨fun hx => ?_, fun hx => ?_⟩
      · rw [nI_leI (by omega) (by omega)] at hx
        have e : j = n := by omega
        subst e
        rw [nI_1]
        refine ih f2 hlt ⟨fun S hS c hc2 => ?_, fun S hS => by rw [hJ.1 S (by omega)]; exact hI.2 S (by omega)⟩
        have hR : ∀ R, R ≤ i → (Rch j f2 R ↔ Rch j f' R) := fun R hR => Rch_congr (by omega) hn (fun T hT => hJ.1 T (by omega))
        rcases Nat.lt_or_ge S i with q | q
        · rw [hJ.1 S (by omega), hI.1 S q c hc2, hR S (by omega)]
        · have e : S = i := by omega
          subst e
          rw [hJ.2 c hc2, hR S (Nat.le_refl S)]
          constructor
          · rintro ⟨q1, q2, q3⟩
            exact ⟨q1, q2, q3 (hf S hlt c q1).1⟩
          · rintro ⟨q1, q2, q3⟩
            exact ⟨q1, q2, fun _ => q3⟩
      · rw [nI_leI (by omega) (by omega)] at hx
        rw [nI_1]
        refine p_mayFollow (by omega) (by omega) ⟨fun hb2 => ih2 f2 (by omega) ⟨hJ.1, fun c hc2 => ?_⟩, fun hb2 => ?_⟩
        · rw [hJ.2 c hc2]
          constructor
          · rintro ⟨q1, q2, q3⟩
            refine ⟨q1, q2, fun q => ?_⟩
            by_cases e : c = j
            · subst e
              have := (hJ.2 c hc2).mpr ⟨q1, q2, fun z => absurd z (Nat.lt_irrefl c)⟩
              rw [hb2] at this
              cases this
            · exact q3 (by omega)
          · rintro ⟨q1, q2, q3⟩
            exact ⟨q1, q2, fun q => q3 (by omega)⟩
        · have hbf := (hJ.2 j (by omega)).mp hb2
          have hil : ins i j < 2 ^ n := ins_lt hlt (by omega)
          rw [or_ins i (by omega)]
          refine ⟨vp_in_nI (by omega) (by omega), ?_⟩
          have hwl := Wf_le hn f (ins i j)
          rw [nI_clamp (by omega), hw _ hil, ← nI_0, nI_eq (by omega) (by omega)]
          refine ⟨fun hz => ih2 f2 (by omega) ⟨hJ.1, fun c hc2 => ?_⟩, fun hz => ⟨vp_in_nI (by omega) (by omega), ?_⟩⟩
          · rw [hJ.2 c hc2]
            constructor
            · rintro ⟨q1, q2, q3⟩
              refine ⟨q1, q2, fun q => ?_⟩
              by_cases e : c = j
              · subst e
                omega
              · exact q3 (by omega)
            · rintro ⟨q1, q2, q3⟩
              exact ⟨q1, q2, fun q => q3 (by omega)⟩
          · rw [nI_clamp (by omega)]
            refine ih2 _ (by omega) ⟨fun S hS => by rw [pk_un hS]; exact hJ.1 S hS, fun c hc2 => ?_⟩
            rw [pk_us, bt_notbit _ (by omega) hc2, Bool.and_eq_true, hJ.2 c hc2]
            by_cases e : c = j
            · subst e
              simp
              intro _ _
              omega
            · simp [e]
              intro _ _
              constructor
              · intro q3 q4
                exact q3 (by omega)
              · intro q3 q4
                exact q3 (by omega)
    refine ⟨fun hbt => cols f' (fun _ _ => rfl) (fun c hc2 => ?_), fun hbf => ⟨vp_in_nI (by omega) (by omega), ?_⟩⟩
    · rw [hI.2 i (Nat.le_refl i)]
      exact ⟨fun q => ⟨q, hb.mp hbt⟩, fun q => q.1⟩
    · rw [nI_clamp (by omega)]
      refine cols _ (fun S hS => pk_un hS) (fun c hc2 => ?_)
      rw [pk_us, b_0]
      refine ⟨fun q => Bool.noConfusion q, fun q => ?_⟩
      rw [hb.mpr q.2] at hbf
      cases hbf
/-! what a graph without dead ways says -/
theorem along_app (h : Nat → Nat → Bool) : ∀ (l1 l2 : List Nat) (S : Nat), along h S (l1 ++ l2) = (along h S l1 && along h (setOf S l1) l2)
  | [], l2, S => by simp [along, setOf]
  | c :: l1, l2, S => by
    rw [List.cons_append, along, along, along_app h l1 l2 (ins S c), Bool.and_assoc]
    rfl
theorem setOf_app (l1 l2 : List Nat) (S : Nat) : setOf S (l1 ++ l2) = setOf (setOf S l1) l2 := by unfold setOf; rw [List.foldl_append]
theorem paths_app {n : Nat} {g : Nat → Nat → Bool} : ∀ (l1 : List Nat) {l2 : List Nat} {k S : Nat}, (∀ c ∈ l1, c < n) → along g S l1 = true → l2 ∈ paths n g k (setOf S l1) → l1 ++ l2 ∈ paths n g (l1.length + k) S
  | [], l2, k, S, _, _, h => by simpa [setOf] using h
  | c :: l1, l2, k, S, hc, ha, h => by
    rw [along, Bool.and_eq_true] at ha
    rw [List.length_cons, show l1.length + 1 + k = (l1.length + k) + 1 by omega]
    exact mem_paths.mpr ⟨c, l1 ++ l2, rfl, hc c List.mem_cons_self, ha.1, paths_app l1 (fun d hd => hc d (List.mem_cons_of_mem _ hd)) ha.2 h⟩
theorem ob_paths_succ (n : Nat) (g : Nat → Nat → Bool) (k S : Nat) : paths n g (k + 1) S = cat (fun c => if g S c then (paths n g k (ins S c)).map (fun l => c :: l) else []) n := rfl
theorem closed_paths {n : Nat} (hn : n ≤ 8) {f f' : Nat → Int32} (hf : Gr n (ob f)) (hc : Closed n f f') : ∀ (k S : Nat), S < 2 ^ n → card S + k = n → Rch n f' S → paths n (ob f') k S = paths n (ob f) k S
  | 0, _, _, _, _ => rfl
  | k + 1, S, hS, hk, hR => by
    rw [ob_paths_succ, ob_paths_succ]
    refine cat_congr (fun c hcn => ?_)
    have hi := hc S hS c (by omega)
    by_cases h1 : ob f S c = true
    · have hb := (hf S hS c h1).2
      have hl := ins_lt hS hcn
      have hcd := card_ins S (nIs hn hS) c (by omega) hb
      by_cases h2 : 0 < Wf n f (ins S c)
      · have h3 : ob f' S c = true := hi.mpr ⟨h1, hR, h2⟩
        rw [if_pos h1, if_pos h3, closed_paths hn hf hc k (ins S c) hl (by omega) (Or.inr ⟨c, hcn, by rw [ins_bit]; simp, by rw [ins_rmv S (nIs hn hS) c (by omega) hb]; exact h3⟩)]
      · have h3 : ¬ ob f' S c = true := fun q => h2 (hi.mp q).2.2
        rw [if_pos h1, if_neg h3]
        have e : paths n (ob f) k (ins S c) = [] := by
          have : Wf n f (ins S c) = 0 := by omega
          unfold Wf at this
          rw [show n - card (ins S c) = k by omega] at this
          exact List.eq_nil_of_length_eq_zero this
        rw [e]
        rfl
    · have h3 : ¬ ob f' S c = true := fun q => h1 (hi.mp q).1
      rw [if_neg h1, if_neg h3]
/-- a collection of rows as the class holds it: G, in their order; every step is on a row -/
def Live (n : Nat) (g : Nat → Nat → Bool) (G : List (List Nat)) : Prop := ∀ S, S < 2 ^ n → ∀ c, g S c = true → ∃ l1 l2 : List Nat, l1 ++ c :: l2 ∈ G ∧ setOf 0 l1 = S
def Rw (n : Nat) (f w : Nat → Int32) (G : List (List Nat)) : Prop := Gr n (ob f) ∧ paths n (ob f) n 0 = G ∧ w 0 = nI G.length ∧ (∀ S, S < 2 ^ n → ∀ c, ob f S c = true → w (ins S c) = nI (Wf n f (ins S c))) ∧ Live n (ob f) G
theorem rch_way {n : Nat} (hn : n ≤ 8) {f : Nat → Int32} (hf : ∀ S, S < 2 ^ n → ∀ c, bt (f S) c = true → Rch n f S) : ∀ (m S : Nat), S ≤ m → S < 2 ^ n → Rch n f S → ∃ l : List Nat, (∀ c ∈ l, c < n) ∧ along (ob f) 0 l = true ∧ setOf 0 l = S
  | m, S, hm, hS, h => by
    rcases h with e | ⟨c, hc, hb, hs⟩
    · subst e
      exact ⟨[], fun c hc => (List.not_mem_nil hc).elim, rfl, rfl⟩
    · obtain ⟨e1, e2, e3⟩ := rmv_ins S (nIs hn hS) c (by omega) hb
      have hl := rmv_lt n (by omega) S hS c (by omega)
      match m, hm with
      | 0, hm => omega
      | m + 1, hm =>
        obtain ⟨l, h1, h2, h3⟩ := rch_way hn hf m (rmv S c) (by omega) hl (hf _ hl c hs)
        refine ⟨l ++ [c], fun d hd => ?_, ?_, ?_⟩
        · rcases List.mem_append.mp hd with q | q
          · exact h1 d q
          · rw [List.mem_singleton.mp q]; exact hc
        · rw [along_app, h2, h3]
          simp [along, ob, hs]
        · rw [setOf_app, h3]
          exact e1
theorem close_ok {n : Nat} (hn : n ≤ 8) {f f' w : Nat → Int32} (hf : Gr n (ob f)) (hw : ∀ S, S < 2 ^ n → w S = nI (Wf n f S)) (hc : Closed n f f') : Rw n f' w (paths n (ob f) n 0) := by
  have h0 : 0 < 2 ^ n := Nat.two_pow_pos n
  have hbt : ∀ S, S < 2 ^ n → ∀ c, bt (f' S) c = true → bt (f S) c = true ∧ Rch n f' S ∧ 0 < Wf n f (ins S c) := by
    intro S hS c hb
    rcases Nat.lt_or_ge c 32 with q | q
    · exact (hc S hS c q).mp hb
    · rw [b_big q] at hb
      cases hb
  have hf' : Gr n (ob f') := fun S hS c h => hf S hS c (hbt S hS c h).1
  have e0 : paths n (ob f') n 0 = paths n (ob f) n 0 := closed_paths hn hf hc n 0 h0 (by rw [card_0]; omega) (Or.inl rfl)
  have key : ∀ S, S < 2 ^ n → ∀ c, ob f' S c = true → ins S c < 2 ^ n ∧ S.testBit c = false ∧ Rch n f' (ins S c) ∧ paths n (ob f') (n - card (ins S c)) (ins S c) = paths n (ob f) (n - card (ins S c)) (ins S c) := by
    intro S hS c h
    obtain ⟨hcn, hb⟩ := hf' S hS c h
    have hl := ins_lt hS hcn
    have hR : Rch n f' (ins S c) := Or.inr ⟨c, hcn, by rw [ins_bit]; simp, by rw [ins_rmv S (nIs hn hS) c (by omega) hb]; exact h⟩
    exact ⟨hl, hb, hR, closed_paths hn hf hc _ _ hl (by have := card_le n (by omega) _ hl; omega) hR⟩
  refine ⟨hf', e0, ?_, fun S hS c h => ?_, fun S hS c h => ?_⟩
  · rw [hw 0 h0]
    unfold Wf
    rw [card_0, Nat.sub_zero]
  · obtain ⟨hl, hb, hR, e⟩ := key S hS c h
    rw [hw _ hl]
    unfold Wf
    rw [e]
  · obtain ⟨hl, hb, hR, e⟩ := key S hS c h
    obtain ⟨-, hRS, hpos⟩ := hbt S hS c h
    obtain ⟨l1, q1, q2, q3⟩ := rch_way hn (fun S hS c hb => (hbt S hS c hb).2.1) S S (Nat.le_refl S) hS hRS
    have hne : paths n (ob f') (n - card (ins S c)) (ins S c) ≠ [] := by
      rw [e]
      intro z
      unfold Wf at hpos
      rw [z] at hpos
      exact absurd hpos (by decide)
    obtain ⟨l2, hl2⟩ := List.exists_mem_of_ne_nil _ hne
    refine ⟨l1, l2, ?_, q3⟩
    have hcd := card_ins S (nIs hn hS) c (by have := (hf' S hS c h).1; omega) hb
    have hcl := card_le n (by omega) _ hl
    have hp : c :: l2 ∈ paths n (ob f') (n - card S) (setOf 0 l1) := by
      rw [q3, show n - card S = (n - card (ins S c)) + 1 by omega]
      exact mem_paths.mpr ⟨c, l2, rfl, (hf' S hS c h).1, h, hl2⟩
    have hp2 := paths_app l1 q1 q2 hp
    have hlen : l1.length = card S := by
      have hnd : l1.Nodup ∧ ∀ c ∈ l1, c < n ∧ (0 : Nat).testBit c = false := by
        obtain ⟨z1, z2, z3, -⟩ := paths_ok hf' _ 0 _ h0 hp2
        exact ⟨(List.nodup_append.mp z3).1, fun d hd => z2 d (List.mem_append_left _ hd)⟩
      have := setOf_card hn l1 h0 hnd.2 hnd.1
      rw [q3, card_0] at this
      omega
    rw [← e0]
    rw [hlen, show card S + (n - card S) = n by omega] at hp2
    exact hp2
/-- all rows -/
def fullg (n : Nat) : Nat → Nat → Bool := fun S c => decide (c < n) && !S.testBit c
theorem Wf_pos {n : Nat} (hn : n ≤ 8) {f : Nat → Int32} (hf : ∀ S, S < 2 ^ n → ∀ c, c < 32 → bt (f S) c = fullg n S c) : ∀ (k S : Nat), S < 2 ^ n → card S + k = n → paths n (ob f) k S ≠ []
  | 0, S, _, _ => by simp [paths]
  | k + 1, S, hS, hk => by
    have hx : ∃ c, c < n ∧ S.testBit c = false := by
      refine Classical.byContradiction (fun hno => ?_)
      have : S = 2 ^ n - 1 := by
        refine Nat.eq_of_testBit_eq (fun i => ?_)
        rw [full_bit]
        rcases Nat.lt_or_ge i n with q | q
        · cases hb : S.testBit i
          · exact absurd ⟨i, q, hb⟩ hno
          · simp [q]
        · rw [bit_lt hS q]
          simp
          omega
      rw [this, card_full n (by omega)] at hk
      omega
    obtain ⟨c, hc, hb⟩ := hx
    have hcd := card_ins S (nIs hn hS) c (by omega) hb
    obtain ⟨l, hl⟩ := List.exists_mem_of_ne_nil _ (Wf_pos hn hf k (ins S c) (ins_lt hS hc) (by omega))
    intro z
    have : c :: l ∈ paths n (ob f) (k + 1) S := mem_paths.mpr ⟨c, l, rfl, hc, by show bt (f S) c = true; rw [hf S hS c (by omega)]; simp [fullg, hc, hb], hl⟩
    rw [z] at this
    cases this
theorem full_ok {n : Nat} (hn : n ≤ 8) {f w : Nat → Int32} (hf : ∀ S, S < 2 ^ n → ∀ c, c < 32 → bt (f S) c = fullg n S c) (hg : Gr n (ob f)) (hw : ∀ S, S < 2 ^ n → w S = nI (Wf n f S)) : Rw n f w (paths n (fullg n) n 0) := by
  have h0 : 0 < 2 ^ n := Nat.two_pow_pos n
  have e : paths n (ob f) n 0 = paths n (fullg n) n 0 := paths_congr (fun S hS c hc => hf S hS c (by omega)) n 0 h0
  rw [← e]
  refine close_ok hn hg hw (fun S hS c hc => ?_)
  constructor
  · intro h
    refine ⟨h, ?_, ?_⟩
    · by_cases hS0 : S = 0
      · exact Or.inl hS0
      · obtain ⟨i, hi⟩ := Nat.exists_testBit_of_ne_zero hS0
        have hin : i < n := by
          rcases Nat.lt_or_ge i n with q | q
          · exact q
          · rw [bit_lt hS q] at hi; cases hi
        obtain ⟨e1, e2, e3⟩ := rmv_ins S (nIs hn hS) i (by omega) hi
        refine Or.inr ⟨i, hin, hi, ?_⟩
        rw [hf _ (rmv_lt n (by omega) S hS i (by omega)) i (by omega)]
        simp [fullg, hin, e2]
    · have hcn := (hg S hS c h).1
      have hl := ins_lt hS hcn
      have := card_le n (by omega) _ hl
      exact List.length_pos_iff.mpr (Wf_pos hn hf _ _ hl (by omega))
  · exact fun h => h.1
theorem Gr_full {n : Nat} {f : Nat → Int32} (hf : ∀ S, S < 2 ^ n → ∀ c, c < 32 → bt (f S) c = fullg n S c) : Gr n (ob f) := fun S hS c h => by
  unfold ob at h
  rcases Nat.lt_or_ge c 32 with q | q
  · rw [hf S hS c q] at h
    simp [fullg] at h
    exact ⟨h.1, by simp [h.2]⟩
  · rw [b_big q] at h
    cases h
