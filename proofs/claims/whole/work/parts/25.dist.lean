/-! DISTANCES, AND SETS THAT STAND TOGETHER ALWAYS. -/
def bcF (x0 : Int32) : Int32 :=
  let x1 := (x0 - (((Int32.toUInt32 x0 >>> (Int32.toUInt32 (1 : Int32) &&& Int32.toUInt32 31)).toInt32) &&& 1431655765))
  let x2 := ((x1 &&& 858993459) + (((Int32.toUInt32 x1 >>> (Int32.toUInt32 (2 : Int32) &&& Int32.toUInt32 31)).toInt32) &&& 858993459))
  let x3 := ((x2 + ((Int32.toUInt32 x2 >>> (Int32.toUInt32 (4 : Int32) &&& Int32.toUInt32 31)).toInt32)) &&& 252645135)
  let x4 := (x3 + ((Int32.toUInt32 x3 >>> (Int32.toUInt32 (8 : Int32) &&& Int32.toUInt32 31)).toInt32))
  let x5 := (x4 + ((Int32.toUInt32 x4 >>> (Int32.toUInt32 (16 : Int32) &&& Int32.toUInt32 31)).toInt32))
  x5 &&& 63
theorem bcF_card : ∀ s, s < 256 → bcF (nI s) = nI (card s) := by decide +kernel
theorem p_bitCount {s : Nat} (hs : s < 256) {Q : Int32 → Prop} (h : Q (nI (card s))) : q_J6_bitCount_0f7a4 (nI s) Q := by
  unfold q_J6_bitCount_0f7a4
  intro a ha b hb c hc d hd e he
  subst ha; subst hb; subst hc; subst hd; subst he
  rw [← bcF_card s hs] at h
  exact h
/-- v is the least, or the greatest, of the numbers L -/
def IsExt (least : Prop) (v : Nat) (L : List Nat) : Prop := v ∈ L ∧ ∀ w ∈ L, (least → v ≤ w) ∧ (¬ least → w ≤ v)
theorem IsExt.one {least : Prop} {v w : Nat} {L : List Nat} (h : IsExt least v L) (h2 : IsExt least w L) : v = w := by
  have a := h.2 w h2.1
  have b := h2.2 v h.1
  by_cases q : least
  · exact Nat.le_antisymm (a.1 q) (b.1 q)
  · exact Nat.le_antisymm (b.2 q) (a.2 q)
/-- what a way costs, a number for each set that it passes -/
def cost (h : Nat → Nat) : Nat → List Nat → Nat
  | _, [] => 0
  | S, c :: l => h S + cost h (ins S c) l
theorem cost_le {h : Nat → Nat} (hh : ∀ S, h S ≤ 1) : ∀ (l : List Nat) (S : Nat), cost h S l ≤ l.length
  | [], _ => Nat.le_refl 0
  | c :: l, S => by
    have h1 := cost_le hh l (ins S c)
    have h2 := hh S
    rw [cost, List.length_cons]
    omega
theorem p_distanceBehind {n : Nat} (hn : n ≤ 8) {f w : Nat → Int32} (hg : Gr n (ob f)) {S : Nat} (hS : S < 2 ^ n) {x2 : Int32} (d : Nat → Nat) (hd : ∀ c, ob f S c = true → w (ins S c) = nI (d c) ∧ d c ≤ 100) {Q : Int32 → Prop} (h : ∀ v c, c < n → ob f S c = true → v = d c → (∀ e, e < n → ob f S e = true → (¬ x2 = 0 → v ≤ d e) ∧ (x2 = 0 → d e ≤ v)) → Q (nI v)) (h' : (∀ c, c < n → ob f S c = false) → Q (-9)) : q_X1_distanceBehind (nI n) f w (nI S) x2 Q := by
  have h8 := pow_le8 hn
  refine up2 (fun N x a => q_X1_distanceBehind_L6 (nI S) x2 (nI n) f w Q N a x) (fun i a => (a = -9 ∧ ∀ c, c < i → ob f S c = false) ∨ ∃ v c, a = nI v ∧ c < i ∧ ob f S c = true ∧ v = d c ∧ ∀ e, e < i → ob f S e = true → (¬ x2 = 0 → v ≤ d e) ∧ (x2 = 0 → d e ≤ v)) n ?_ 0 (-9) (Nat.zero_le _) (Or.inl ⟨rfl, fun c hc => absurd hc (Nat.not_lt_zero c)⟩)
  intro m i a hi hI ih
  rw [q_X1_distanceBehind_L6]
  refine ⟨fun hx => ?_, fun hx => ?_⟩
  · rw [nI_leI (by omega) (by omega)] at hx
    have e : i = n := by omega
    subst e
    rcases hI with ⟨e, hno⟩ | ⟨v, c, e, hc, hob, hv, hall⟩
    · rw [e]; exact h' hno
    · rw [e]; exact h v c hc hob hv hall
  · rw [nI_leI (by omega) (by omega)] at hx
    have hlt : i < n := by omega
    rw [nI_1]
    refine p_mayFollow (by omega) (by omega) ⟨fun hb => ih a hlt ?_, fun hb => ?_⟩
    · have hob : ob f S i = false := hb
      rcases hI with ⟨e, hno⟩ | ⟨v, c, e, hc, hob2, hv, hall⟩
      · refine Or.inl ⟨e, fun c hc => ?_⟩
        by_cases q : c = i
        · subst q; exact hob
        · exact hno c (by omega)
      · refine Or.inr ⟨v, c, e, by omega, hob2, hv, fun e he he2 => ?_⟩
        by_cases q : e = i
        · subst q; rw [hob] at he2; cases he2
        · exact hall e (by omega) he2
    · have hob : ob f S i = true := hb
      have hil : ins S i < 2 ^ n := ins_lt hS hlt
      rw [or_ins S (by omega)]
      refine ⟨vp_in_nI (by omega) (by omega), ?_⟩
      intro z hz
      obtain ⟨hd1, hd2⟩ := hd i hob
      rw [nI_clamp (by omega), hd1] at hz
      subst hz
      -- the new one is taken
      have take : (∀ e, e < i → ob f S e = true → (¬ x2 = 0 → d i ≤ d e) ∧ (x2 = 0 → d e ≤ d i)) → q_X1_distanceBehind_L6 (nI S) x2 (nI n) f w Q m (nI (d i)) (nI (i + 1)) := fun hall => ih _ hlt (Or.inr ⟨d i, i, rfl, by omega, hob, rfl, fun e he he2 => by
        by_cases q : e = i
        · subst q; exact ⟨fun _ => Nat.le_refl _, fun _ => Nat.le_refl _⟩
        · exact hall e (by omega) he2⟩)
      rcases hI with ⟨e, hno⟩ | ⟨v, c, e, hc, hob2, hv, hall⟩
      · refine ⟨fun _ => take (fun e he he2 => by rw [hno e he] at he2; cases he2), fun q => absurd e q⟩
      · subst e
        have hvl : v ≤ 100 := by rw [hv]; exact (hd c hob2).2
        refine ⟨fun q => absurd q ?_, fun _ => ⟨fun q0 => ?_, fun q0 => ?_⟩⟩
        · intro q
          have h9 : (nI v).toInt = (v : Int) := nI_toInt (by omega)
          rw [q] at h9
          have : ((-9 : Int32)).toInt = -9 := by decide
          omega
        · rw [nI_leI (by omega) (by omega)]
          refine ⟨fun q => ih _ hlt (Or.inr ⟨v, c, rfl, by omega, hob2, hv, fun e he he2 => ?_⟩), fun q => take (fun e he he2 => ⟨fun z => absurd q0 z, fun _ => ?_⟩)⟩
          · by_cases q2 : e = i
            · subst q2; exact ⟨fun z => absurd q0 z, fun _ => q⟩
            · exact hall e (by omega) he2
          · have := (hall e he he2).2 q0
            omega
        · rw [nI_leI (by omega) (by omega)]
          refine ⟨fun q => ih _ hlt (Or.inr ⟨v, c, rfl, by omega, hob2, hv, fun e he he2 => ?_⟩), fun q => take (fun e he he2 => ⟨fun _ => ?_, fun z => absurd z q0⟩)⟩
          · by_cases q2 : e = i
            · subst q2; exact ⟨fun _ => q, fun z => absurd z q0⟩
            · exact hall e (by omega) he2
          · have := (hall e he he2).1 q0
            omega
/-- a set on a way: rows go on from it -/
theorem live_on {n : Nat} (hn : n ≤ 8) {g : Nat → Nat → Bool} (hg : Gr n g) {l1 l2 : List Nat} : ∀ {k S : Nat}, S < 2 ^ n → card S + k = n → l1 ++ l2 ∈ paths n g k S → l2 ∈ paths n g (n - card (setOf S l1)) (setOf S l1) := by
  induction l1 with
  | nil =>
    intro k S hS hk h
    show l2 ∈ paths n g (n - card S) S
    rw [show n - card S = k by omega]
    exact h
  | cons c l1 ih =>
    intro k S hS hk h
    cases k with
    | zero =>
      rw [paths] at h
      simp at h
    | succ k =>
      obtain ⟨c', l', e, hc, hgc, h'⟩ := mem_paths.mp h
      injection e with e1 e2
      subst e1; subst e2
      have hcd := card_ins S (nIs hn hS) c (by omega) (hg S hS c hgc).2
      exact ih (ins_lt hS hc) (by omega) h'
theorem live_next {n : Nat} (hn : n ≤ 8) {g : Nat → Nat → Bool} (hg : Gr n g) {G : List (List Nat)} (hp : paths n g n 0 = G) (hl : Live n g G) {S c : Nat} (hS : S < 2 ^ n) (h : g S c = true) : paths n g (n - card (ins S c)) (ins S c) ≠ [] ∧ paths n g (n - card S) S ≠ [] := by
  obtain ⟨l1, l2, hm, hs⟩ := hl S hS c h
  rw [← hp] at hm
  have h0 : 0 < 2 ^ n := Nat.two_pow_pos n
  have h1 := live_on hn hg h0 (by rw [card_0]; omega) hm
  rw [hs] at h1
  refine ⟨?_, List.ne_nil_of_mem h1⟩
  have h2 : (l1 ++ [c]) ++ l2 ∈ paths n g n 0 := by rw [List.append_assoc]; exact hm
  have h3 := live_on hn hg h0 (by rw [card_0]; omega) h2
  rw [setOf_app, hs] at h3
  exact List.ne_nil_of_mem h3
theorem p_distance {n : Nat} (h1 : 1 ≤ n) (hn : n ≤ 8) {f w : Nat → Int32} {G : List (List Nat)} (hg : Gr n (ob f)) (hp : paths n (ob f) n 0 = G) (hl : Live n (ob f) G) (hne : G ≠ []) {pair : Nat} (hpair : pair < 2 ^ n) {x2 : Int32} {Q : Int32 → (Nat → Int32) → Prop} (h : ∀ (v : Nat) (w' : Nat → Int32), IsExt (¬ x2 = 0) v (G.map (cost (fun S => if card (S &&& pair) = 1 then 1 else 0) 0)) → Q (nI v) w') : q_X1_distance (nI n) (nI (2 ^ n - 1)) f w (nI pair) x2 Q := by
  have h8 := pow_le8 hn
  have h0 : 2 ^ 1 ≤ 2 ^ n := Nat.pow_le_pow_right (by omega) h1
  let hh : Nat → Nat := fun S => if card (S &&& pair) = 1 then 1 else 0
  have hh1 : ∀ S, hh S ≤ 1 := fun S => by
    show (if card (S &&& pair) = 1 then 1 else 0) ≤ 1
    split <;> omega
  unfold q_X1_distance
  refine ⟨vp_in_nI (by omega) (by omega), ?_⟩
  intro x3 e1
  rw [nI_clamp (by omega)]
  have e2 : x3 = nI (2 ^ n - 1) + (-1) := by rw [e1]; exact Int32.sub_eq_add_neg ..
  rw [e2]
  refine down2 (fun N x a => q_X1_distance_L17 (nI pair) x2 (nI n) f Q N x a) (fun j w' => j < 2 ^ n ∧ ∀ S, j ≤ S → S < 2 ^ n → paths n (ob f) (n - card S) S ≠ [] → ∃ v, w' S = nI v ∧ v ≤ 9 ∧ IsExt (¬ x2 = 0) v ((paths n (ob f) (n - card S) S).map (cost hh S))) ?_ (2 ^ n - 1) _ ⟨by omega, fun S h2 h3 h4 => ?_⟩
  · intro m j w' hI ih
    obtain ⟨hj, hI⟩ := hI
    rw [q_X1_distance_L17]
    cases j with
    | zero =>
      refine ⟨fun _ => ?_, fun hx => absurd (by decide) hx⟩
      obtain ⟨v, e0, -, hv⟩ := hI 0 (Nat.le_refl 0) (by omega) (by rw [card_0, Nat.sub_zero, hp]; exact hne)
      rw [sb_cl0, e0]
      rw [card_0, Nat.sub_zero, hp] at hv
      exact h v w' hv
    | succ j =>
      have ih := fun b => ih j b rfl
      rw [pk_m1, fa_and]
      refine ⟨fun hx => absurd hx (nI_pos (by omega)), fun _ => ?_⟩
      have hjp : j &&& pair < 256 := Nat.lt_of_le_of_lt Nat.and_le_left (by omega)
      refine p_bitCount hjp ?_
      intro t5 e5
      have e5' : t5 = nI (hh j) := by
        rw [e5]
        have hc9 : card (j &&& pair) ≤ 8 := card_le 8 (by omega) _ hjp
        show (if nI (card (j &&& pair)) = 1 then (1 : Int32) else 0) = nI (if card (j &&& pair) = 1 then 1 else 0)
        by_cases q : card (j &&& pair) = 1
        · rw [if_pos q, if_pos (by rw [q]; rfl)]; rfl
        · have hz : ¬ nI (card (j &&& pair)) = 1 := fun z => q ((nI_eq (b := 1) (by omega) (by omega)).mp z)
          rw [if_neg q, if_neg hz]; rfl
      subst e5'
      have hnf : j ≠ 2 ^ n - 1 := by omega
      have hcl := card_lt hn (S := j) (by omega) hnf
      -- what is known of the next sets
      have hnext : ∀ c, ∃ v, ob f j c = true → w' (ins j c) = nI v ∧ v ≤ 9 ∧ IsExt (¬ x2 = 0) v ((paths n (ob f) (n - card (ins j c)) (ins j c)).map (cost hh (ins j c))) := by
        intro c
        by_cases q : ob f j c = true
        · obtain ⟨hcn, hcb⟩ := hg j (by omega) c q
          obtain ⟨v, hv⟩ := hI (ins j c) (ins_gt hcb) (ins_lt (by omega) hcn) (live_next hn hg hp hl (by omega) q).1
          exact ⟨v, fun _ => hv⟩
        · exact ⟨0, fun z => absurd z q⟩
      have hx := Classical.axiomOfChoice hnext
      obtain ⟨d, hd⟩ := hx
      refine p_distanceBehind hn hg (by omega) d (fun c hc => ⟨(hd c hc).1, by have := (hd c hc).2.1; omega⟩) (fun v c hcn hob hv hall => ?_) (fun hno => ?_)
      · refine ⟨vp_in_nI (by omega) (by omega), ?_⟩
        rw [nI_clamp (by omega), nI_add]
        refine ih _ ⟨by omega, fun S hS1 hS2 hS3 => ?_⟩
        by_cases e : S = j
        · subst e
          refine ⟨hh S + v, pk_us, ?_, ?_⟩
          · have hz := hh1 S
            have hlen : ∃ l ∈ paths n (ob f) (n - card (ins S c)) (ins S c), cost hh (ins S c) l = v := by
              have := (hd c hob).2.2.1
              rw [← hv] at this
              exact List.mem_map.mp this
            obtain ⟨l, hl1, hl2⟩ := hlen
            have hcc := cost_le hh1 l (ins S c)
            rw [(paths_ok hg _ _ l (ins_lt hS2 hcn) hl1).1] at hcc
            omega
          · have hcd : ∀ e, ob f S e = true → n - card (ins S e) = n - card S - 1 := fun e he => by
              obtain ⟨he1, he2⟩ := hg S hS2 e he
              rw [card_ins S (nIs hn hS2) e (by omega) he2]
              omega
            rw [show n - card S = (n - card S - 1) + 1 by omega]
            constructor
            · have := (hd c hob).2.2.1
              rw [← hv] at this
              obtain ⟨l, hl1, hl2⟩ := List.mem_map.mp this
              rw [hcd c hob] at hl1
              exact List.mem_map.mpr ⟨c :: l, mem_paths.mpr ⟨c, l, rfl, hcn, hob, hl1⟩, by rw [cost, hl2]⟩
            · intro u hu
              obtain ⟨l, hl1, hl2⟩ := List.mem_map.mp hu
              obtain ⟨e, l', rfl, hen, hge, hl'⟩ := mem_paths.mp hl1
              rw [cost] at hl2
              have h5 := (hd e hge).2.2.2 (cost hh (ins S e) l') (List.mem_map.mpr ⟨l', by rw [hcd e hge]; exact hl', rfl⟩)
              have h6 := hall e hen hge
              refine ⟨fun z => ?_, fun z => ?_⟩
              · have := h5.1 z
                have := h6.1 z
                omega
              · have z0 : x2 = 0 := Classical.byContradiction (fun q => z q)
                have := h5.2 z
                have := h6.2 z0
                omega
        · obtain ⟨u, hu⟩ := hI S (by omega) hS2 hS3
          exact ⟨u, by rw [pk_un e]; exact hu.1, hu.2⟩
      · refine ⟨vp_in_nI (by omega) (by omega), ?_⟩
        rw [nI_clamp (by omega)]
        refine ih _ ⟨by omega, fun S hS1 hS2 hS3 => ?_⟩
        by_cases e : S = j
        · subst e
          refine absurd ?_ hS3
          rw [show n - card S = (n - card S - 1) + 1 by omega]
          refine List.eq_nil_iff_forall_not_mem.mpr (fun l hl1 => ?_)
          obtain ⟨e, l', rfl, hen, hge, hl'⟩ := mem_paths.mp hl1
          rw [hno e hen] at hge
          cases hge
        · obtain ⟨u, hu⟩ := hI S (by omega) hS2 hS3
          exact ⟨u, by rw [pk_un e]; exact hu.1, hu.2⟩
  · have e : S = 2 ^ n - 1 := by omega
    subst e
    refine ⟨0, by rw [pk_us]; rfl, by omega, ?_⟩
    rw [card_full n (by omega), Nat.sub_self]
    exact ⟨List.mem_singleton.mpr rfl, fun u hu => by rw [List.mem_singleton.mp hu]; exact ⟨fun _ => Nat.le_refl _, fun _ => Nat.le_refl _⟩⟩
theorem p_alwaysTogether {n : Nat} (hn : n ≤ 8) {f : Nat → Int32} {G : List (List Nat)} (hg : Gr n (ob f)) (hp : paths n (ob f) n 0 = G) (hl : Live n (ob f) G) {s : Nat} (hs : s < 2 ^ n) {Q : Bool → Prop} (h : ∀ b : Bool, (b = true ↔ ∀ l ∈ G, along (okS s) 0 l = true) → Q b) : q_X1_alwaysTogether (nI (2 ^ n - 1)) f (nI s) Q := by
  have h8 := pow_le8 hn
  have h0 : 0 < 2 ^ n := Nat.two_pow_pos n
  have key : (∀ S, S < 2 ^ n → ∀ c, ob f S c = true → okS s S c = true) ↔ ∀ l ∈ G, along (okS s) 0 l = true := by
    constructor
    · intro hall l hl
      rw [← hp] at hl
      have h1 := (paths_ok hg n 0 l h0 hl).2
      have gen : ∀ (l : List Nat) (S : Nat), S < 2 ^ n → (∀ c ∈ l, c < n) → along (ob f) S l = true → along (okS s) S l = true := by
        intro l
        induction l with
        | nil => intro S _ _ _; rfl
        | cons c l ih =>
          intro S hS hc ha
          rw [along, Bool.and_eq_true] at ha ⊢
          exact ⟨hall S hS c ha.1, ih (ins S c) (ins_lt hS (hc c List.mem_cons_self)) (fun d hd => hc d (List.mem_cons_of_mem _ hd)) ha.2⟩
      exact gen l 0 h0 (fun c hc => (h1.1 c hc).1) h1.2.2
    · intro hall S hS c hob
      obtain ⟨l1, l2, hm, hset⟩ := hl S hS c hob
      have := hall _ hm
      rw [along_app, hset, along, Bool.and_eq_true, Bool.and_eq_true] at this
      exact this.2.1
  refine up1 (fun N x => q_X1_alwaysTogether_L2 (nI s) (nI (2 ^ n - 1)) f Q N x) (fun i => ∀ S, S < i → ∀ c, ob f S c = true → okS s S c = true) (2 ^ n) ?_ 0 (Nat.zero_le _) (fun S h => absurd h (Nat.not_lt_zero S))
  intro m i hi hI ih
  rw [q_X1_alwaysTogether_L2]
  refine ⟨fun hc => ?_, fun hc => ?_⟩
  · have e := (full_lt hn hi).mp hc
    subst e
    exact h true ⟨fun _ => key.mp hI, fun _ => rfl⟩
  · have hlt : i < 2 ^ n := by
      have := mt (full_lt hn hi).mpr hc
      omega
    refine ⟨vp_in_nI (by omega) (by omega), ?_⟩
    rw [nI_clamp (by omega), nI_1]
    intro t5 e5
    have go : (∀ c, ob f i c = true → okS s i c = true) → q_X1_alwaysTogether_L2 (nI s) (nI (2 ^ n - 1)) f Q m (nI (i + 1)) := fun hq => ih hlt (fun S hS c hob => by
      by_cases e : S = i
      · subst e; exact hq c hob
      · exact hI S (by omega) c hob)
    refine ⟨fun q => go (fun c hob => ?_), fun q => ⟨fun q2 => go (fun c hob => ?_), fun q2 => ⟨fun q3 => go (fun c hob => ?_), fun q3 => h false ⟨fun z => Bool.noConfusion z, fun z => ?_⟩⟩⟩⟩
    · have hz : f i &&& (nI s ^^^ (-1)) = 0 := by
        by_cases hx : f i &&& (nI s ^^^ (-1)) = 0
        · exact hx
        · rw [e5, if_neg hx] at q; exact absurd q (by decide)
      have hcn := (hg i hlt c hob).1
      have hz2 := congrArg (fun x => bt x c) hz
      rw [b_and, b_xor, b_m1 c (by omega), b_0, bt_nI s (by omega)] at hz2
      have hob2 : bt (f i) c = true := hob
      rw [hob2] at hz2
      unfold okS
      cases hsc : s.testBit c
      · rw [hsc] at hz2; simp at hz2
      · simp
    · rw [and0 (by omega)] at q2
      simp [okS, q2]
    · rw [andn0 (by omega)] at q3
      simp [okS, q3]
    · have hnz : ¬ f i &&& (nI s ^^^ (-1)) = 0 := fun hx => q (by rw [e5, if_pos hx])
      have hex : ∃ c, ob f i c = true ∧ s.testBit c = false := by
        refine Classical.byContradiction (fun hno => hnz ?_)
        refine b_ext (fun c hc2 => ?_)
        rw [b_and, b_xor, b_m1 c hc2, b_0, bt_nI s hc2]
        cases hbc : bt (f i) c
        · rfl
        · cases hsc : s.testBit c
          · exact absurd ⟨c, hbc, hsc⟩ hno
          · rfl
      obtain ⟨c, hc1, hc2⟩ := hex
      have := key.mpr z i hlt c hc1
      have n2 : ¬ s &&& i = 0 := fun hx => q2 ((and0 (by omega)).mpr hx)
      have n3 : ¬ s &&& i = s := fun hx => q3 ((andn0 (by omega)).mpr hx)
      simp [okS, n2, n3, hc2] at this
