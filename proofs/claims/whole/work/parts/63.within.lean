/-! BEST: the greedy way is the first of the best rows. -/
theorem cat_pre {α : Type} (f : Nat → List α) {c j : Nat} (hj : j < (cat f c).length) : ∀ {n : Nat}, c ≤ n → (cat f n)[j]? = (cat f c)[j]?
  | 0, h => by have e : c = 0 := by omega
               subst e; rfl
  | n + 1, h => by
    by_cases e : c = n + 1
    · subst e; rfl
    · have hc : c ≤ n := by omega
      rw [cat, List.getElem?_append_left (Nat.lt_of_lt_of_le hj (len_cat_le f hc))]
      exact cat_pre f hj hc
theorem ahead_lt {n : Nat} (hn : n ≤ 8) {f : Nat → Int32} (hg : Gr n (ob f)) {k S c j : Nat} (hS : S < 2 ^ n) (hk : card S + (k + 1) = n) (hc : c ≤ n) (hj : j < ahead n f S c) : ∃ c' l', c' < c ∧ ob f S c' = true ∧ l' ∈ paths n (ob f) k (ins S c') ∧ (paths n (ob f) (k + 1) S)[j]? = some (c' :: l') := by
  have hlen := len_pieces n f hn hg hS hk hc
  rw [← hlen] at hj
  have e := cat_pre (fun c => if ob f S c then (paths n (ob f) k (ins S c)).map (fun l => c :: l) else []) hj hc
  have hm := List.getElem_mem hj
  obtain ⟨c', hc', hx⟩ := mem_cat.mp hm
  by_cases q : ob f S c' = true
  · rw [if_pos q] at hx
    obtain ⟨l', hl', el⟩ := List.mem_map.mp hx
    refine ⟨c', l', hc', q, hl', ?_⟩
    rw [ob_paths_succ, e, List.getElem?_eq_getElem hj, ← el]
  · rw [if_neg q] at hx; cases hx
theorem p_bestColumn {n : Nat} (hn : n ≤ 8) {f sa mo le : Nat → Int32} {v : Nat → Nat → Nat} (hv : ∀ a b, v a b ≤ 4000) (hsa : SavA v sa) (hg : Gr n (ob f)) {G : List (List Nat)} (hp : paths n (ob f) n 0 = G) (hl : Live n (ob f) G) {S a k : Nat} (hS : S < 2 ^ n) (ha : a < 9) (hk : card S + (k + 1) = n) (hne : paths n (ob f) (k + 1) S ≠ []) (hm : Mo v n f mo le S a) (hd : ∀ c, c < n → ob f S c = true → Mo v n f mo le (ins S c) c) {Q : Int32 → Prop} (h : ∀ c l, c < n → ob f S c = true → l ∈ paths n (ob f) k (ins S c) → (∀ t ∈ paths n (ob f) (k + 1) S, sav v a t ≤ v a c + sav v c l) → (∀ c' l', c' < c → ob f S c' = true → l' ∈ paths n (ob f) k (ins S c') → v a c' + sav v c' l' < v a c + sav v c l) → Q (nI c)) : q_X2_bestColumn sa mo (nI n) f (nI S) (nI a) Q := by
  have h8 := pow_le8 hn
  have e0 : n - card S = k + 1 := by omega
  have hcd : ∀ c, c < n → ob f S c = true → n - card (ins S c) = k := fun c hc hob => by
    rw [card_ins S (nIs hn hS) c (by omega) (hg S hS c hob).2]
    omega
  unfold Mo at hm
  rw [e0] at hm
  obtain ⟨hi, -, m1, -, m2, m3, -⟩ := hm hne
  have hnext : ∀ c, ∃ u : Nat, c < n → ob f S c = true → mo (ins S c * 9 + c) = nI u ∧ u ≤ 4000 * k ∧ IsExt False u ((paths n (ob f) k (ins S c)).map (sav v c)) := by
    intro c
    by_cases q : c < n ∧ ob f S c = true
    · have hx := hd c q.1 q.2
      unfold Mo at hx
      have hy := (live_next hn hg hp hl hS q.2).1
      rw [hcd c q.1 q.2] at hx hy
      obtain ⟨u, -, a1, -, a2, a3, -⟩ := hx hy
      exact ⟨u, fun _ _ => ⟨a1, a2, a3⟩⟩
    · exact ⟨0, fun q1 q2 => absurd ⟨q1, q2⟩ q⟩
  obtain ⟨d, hd⟩ := Classical.axiomOfChoice hnext
  have hle : ∀ c, c < n → ob f S c = true → v a c + d c ≤ hi := fun c hc hob => by
    obtain ⟨-, -, ⟨b1, -⟩⟩ := hd c hc hob
    obtain ⟨l, hl1, hl2⟩ := List.mem_map.mp b1
    have := (m3.2 (sav v a (c :: l)) (List.mem_map.mpr ⟨c :: l, mem_paths.mpr ⟨c, l, rfl, hc, hob, hl1⟩, rfl⟩)).2 id
    rw [sav, hl2] at this
    exact this
  unfold q_X2_bestColumn
  refine up1 (fun N x => q_X2_bestColumn_L3 (nI S) (nI a) sa mo (nI n) f Q N x) (fun i => ∀ c, c < i → ob f S c = true → v a c + d c < hi) n ?_ 0 (Nat.zero_le _) (fun c hc => absurd hc (Nat.not_lt_zero c))
  intro m i hi' hI ih
  rw [q_X2_bestColumn_L3]
  refine ⟨fun hx => ?_, fun hx => ?_⟩
  · rw [nI_leI (by omega) (by omega)] at hx
    exfalso
    obtain ⟨t, ht1, ht2⟩ := List.mem_map.mp m3.1
    obtain ⟨c, l, rfl, hc, hob, hl1⟩ := mem_paths.mp ht1
    have q1 := hI c (by omega) hob
    have q2 := ((hd c hc hob).2.2.2 _ (List.mem_map.mpr ⟨l, hl1, rfl⟩)).2 id
    rw [sav] at ht2
    omega
  · rw [nI_leI (by omega) (by omega)] at hx
    have hlt : i < n := by omega
    have hins := ins_lt hS hlt
    rw [nI_1]
    refine p_mayFollow (by omega) (by omega) ⟨fun hb => ih hlt (fun c hc hob => ?_), fun hb => ?_⟩
    · by_cases e : c = i
      · subst e
        have : ob f S c = false := hb
        rw [this] at hob; cases hob
      · exact hI c (by omega) hob
    · have hob : ob f S i = true := hb
      obtain ⟨d1, d2, d3⟩ := hd i hlt hob
      have hvi := hv a i
      have hli := hle i hlt hob
      rw [or_ins S (by omega), ix9, ix8, ix9, nI_clamp (by omega), nI_clamp (by omega), nI_clamp (by omega), d1, m1, hsa a i ha (by omega)]
      refine ⟨vp_in_nI (by omega) (by omega), ?_⟩
      intro x5 e5
      rw [e5, nI_add, nI_eq (by omega) (by omega)]
      refine ⟨vp_in_nI (by omega) (by omega), vp_in_nI (by omega) (by omega), fun q => ih hlt (fun c hc hob => ?_), fun q => ?_⟩
      · by_cases e : c = i
        · subst e; omega
        · exact hI c (by omega) hob
      · obtain ⟨l, hl1, hl2⟩ := List.mem_map.mp d3.1
        refine h i l hlt hob hl1 (fun t ht => ?_) (fun c' l' hc' hob' hl' => ?_)
        · rw [hl2, q]
          exact (m3.2 _ (List.mem_map.mpr ⟨t, ht, rfl⟩)).2 id
        · have q1 := hI c' hc' hob'
          have q2 := ((hd c' (by omega) hob').2.2.2 _ (List.mem_map.mpr ⟨l', hl', rfl⟩)).2 id
          rw [hl2, q]
          omega
theorem ext_ex (L : List Nat) (h : L ≠ []) : ∃ v, IsExt False v L := by
  have := extL_ok false L h
  refine ⟨_, this.1, fun w hw => ⟨fun z => z.elim, fun _ => (this.2 w hw).2 (by decide)⟩⟩
theorem d_best {n nl : Nat} {sets sts wts : Nat → Nat} (hW : WF n nl sets sts wts) {se st we f w : Nat → Int32} (hL : LA nl sets sts wts se st we) (hR : Rw n f w (GG n nl sets sts)) {old un : Int32} {sa mo le : Nat → Int32} (hI : SavI n nl sets sts wts f old un sa mo le) {Q : Int32 → Int32 → Int32 → (Nat → Int32) → (Nat → Int32) → (Nat → Int32) → Prop} (h : ∀ i old un sa mo le, IsBest (gpN nl sets sts wts) (GG n nl sets sts) i → SavI n nl sets sts wts f old un sa mo le → Q (nI i) old un sa mo le) : q_X4_best old (nI nl) se st we (nI n) (nI (2 ^ n - 1)) f w un sa mo le Q := by
  have hG := hW.ok
  have hlen := hG.2.2.1
  have hn := hW.2.1
  have h1 := hW.1
  have h8 := pow_le8 hn
  have h0 : 0 < 2 ^ n := Nat.two_pow_pos n
  unfold q_X4_best
  refine d_makeSavings hW hL hR hI (fun un sa mo le hok => ?_)
  have hfin := fun i hb => h i 0 un sa mo le hb (Or.inr ⟨rfl, hok⟩)
  obtain ⟨-, hsa, hmo, hmo0⟩ := hok
  obtain ⟨hg, hp, hw0, hw, hl⟩ := hR
  have hv := sv_le hW
  have hgs := fun l hl => gp_sav hW (hG.1 l hl)
  revert hfin hmo hmo0 hsa hv hgs
  generalize GG n nl sets sts = G at *
  generalize sv nl sets sts wts = v
  intro hfin hsa hmo hmo0 hv hgs
  obtain ⟨M, hM⟩ := ext_ex (G.map (sav v 8)) (fun e => hG.2.1 (List.map_eq_nil_iff.mp e))
  unfold q_X2_numberOfBest
  refine up4 (fun N x a b c => q_X2_numberOfBest_L11 sa mo (nI n) f w _ N a b c x) (fun k a b c => ∃ (S num : Nat) (l1 : List Nat), a = nI S ∧ b = nI (lastF 8 l1) ∧ c = nI num ∧ S < 2 ^ n ∧ lastF 8 l1 < 9 ∧ card S = k ∧ Mo v n f mo le S (lastF 8 l1) ∧ (∀ (j : Nat) (t : List Nat), (paths n (ob f) (n - k) S)[j]? = some t → G[num + j]? = some (l1 ++ t)) ∧ (∃ t, t ∈ paths n (ob f) (n - k) S ∧ sav v 8 (l1 ++ t) = M) ∧ ∀ (j : Nat) (l : List Nat), j < num → G[j]? = some l → sav v 8 l < M) n ?_ 0 (nI 0) (nI 8) (nI 0) (Nat.zero_le _) ⟨0, 0, [], rfl, rfl, rfl, h0, by decide, card_0, hmo0, fun j t ht => ?_, ?_, fun j l hj => absurd hj (Nat.not_lt_zero j)⟩
  · intro m k a b c hk hI ih
    obtain ⟨S, num, l1, rfl, rfl, rfl, hS, hla, hcard, hmS, hGt, ⟨t, ht1, ht2⟩, hless⟩ := hI
    rw [q_X2_numberOfBest_L11]
    refine ⟨fun hx => ?_, fun hx => ?_⟩
    · rw [nI_leI (by omega) (by omega)] at hx
      have e : k = n := by omega
      rw [e, Nat.sub_self] at ht1 hGt
      have ht0 : t = [] := by simpa [paths] using ht1
      have hG0 := hGt 0 [] rfl
      rw [ht0, List.append_nil] at ht2
      rw [Nat.add_zero, List.append_nil] at hG0
      refine hfin num ⟨l1, hG0, fun j l' hl' => ?_, fun j l' hj hl' => ?_⟩
      · have g1 := hgs l1 (List.mem_of_getElem? hG0)
        have g2 := hgs l' (List.mem_of_getElem? hl')
        have := (hM.2 _ (List.mem_map.mpr ⟨l', List.mem_of_getElem? hl', rfl⟩)).2 id
        omega
      · have g1 := hgs l1 (List.mem_of_getElem? hG0)
        have g2 := hgs l' (List.mem_of_getElem? hl')
        have := hless j l' hj hl'
        omega
    · rw [nI_leI (by omega) (by omega)] at hx
      have hlt : k < n := by omega
      obtain ⟨k', hk'⟩ : ∃ k', n - k = k' + 1 := ⟨n - k - 1, by omega⟩
      have hk2 : n - (k + 1) = k' := by omega
      rw [hk'] at ht1 hGt
      have hcS : card S + (k' + 1) = n := by omega
      refine p_bestColumn hn hv hsa hg hp hl hS hla hcS (List.ne_nil_of_mem ht1) hmS (fun c hc hob => hmo _ (ins_lt hS hc) c hc (by rw [ins_bit]; simp)) (fun c l hc hob hl1 hbest hfirst => ?_)
      refine p_rowsAhead hn hg hS (Nat.le_of_lt hc) (fun d hd => hw S hS d hd) ?_
      intro x4 e4 x2 e2
      rw [nI_add] at e4
      rw [or_ins S (by omega)] at e2
      rw [nI_1]
      have hcl : c :: l ∈ paths n (ob f) (k' + 1) S := mem_paths.mpr ⟨c, l, rfl, hc, hob, hl1⟩
      have hsum : sav v 8 (l1 ++ c :: l) = M := by
        obtain ⟨j, hj⟩ := List.getElem?_of_mem hcl
        have hz := (hM.2 _ (List.mem_map.mpr ⟨_, List.mem_of_getElem? (hGt j _ hj), rfl⟩)).2 id
        have hy := hbest t ht1
        rw [sav_app] at ht2 hz ⊢
        rw [sav] at hz ⊢
        omega
      refine ih x2 _ x4 hlt ⟨ins S c, num + ahead n f S c, l1 ++ [c], e2, ?_, e4, ins_lt hS hc, ?_, ?_, ?_, fun j t' ht' => ?_, ⟨l, by rw [hk2]; exact hl1, ?_⟩, fun j l' hj hl' => ?_⟩
      · rw [lastF_snoc]
      · rw [lastF_snoc]; omega
      · rw [card_ins S (nIs hn hS) c (by omega) (hg S hS c hob).2]; omega
      · rw [lastF_snoc]; exact hmo _ (ins_lt hS hc) c hc (by rw [ins_bit]; simp)
      · rw [hk2] at ht'
        have hjl : j < Wf n f (ins S c) := by
          unfold Wf
          rw [card_ins S (nIs hn hS) c (by omega) (hg S hS c hob).2, show n - (card S + 1) = k' by omega]
          exact (List.getElem?_eq_some_iff.mp ht').1
        have hx2 := path_get hn hg hS hcS hc hob hjl
        rw [ht'] at hx2
        have := hGt _ _ hx2
        rw [← Nat.add_assoc] at this
        rw [this, List.append_assoc]
        rfl
      · rw [List.append_assoc]; exact hsum
      · rcases Nat.lt_or_ge j num with q | q
        · exact hless j l' q hl'
        · obtain ⟨c', l2, b1, b2, b3, b4⟩ := ahead_lt hn hg hS hcS (Nat.le_of_lt hc) (j := j - num) (by omega)
          have hz := hGt _ _ b4
          rw [show num + (j - num) = j by omega, hl'] at hz
          injection hz with hz
          have hy := hfirst c' l2 b1 b2 b3
          rw [hz, ← hsum, sav_app, sav_app, sav, sav]
          omega
  · rw [Nat.sub_zero, hp] at ht
    rw [Nat.zero_add, ht]
    rfl
  · obtain ⟨t, ht1, ht2⟩ := List.mem_map.mp hM.1
    exact ⟨t, by rw [Nat.sub_zero, hp]; exact ht1, ht2⟩
/-! WITHIN: the rows that save so much -/
theorem p_rowsThatSave {n : Nat} (hn : n ≤ 8) {f w sa mo le : Nat → Int32} {v : Nat → Nat → Nat} (hv : ∀ a b, v a b ≤ 4000) (hsa : SavA v sa) {G : List (List Nat)} (hg : Gr n (ob f)) (hp : paths n (ob f) n 0 = G) (hl : Live n (ob f) G) (hw : ∀ S, S < 2 ^ n → ∀ c, ob f S c = true → w (ins S c) = nI (Wf n f (ins S c))) (hmo : ∀ S, S < 2 ^ n → ∀ c, c < n → S.testBit c = true → Mo v n f mo le S c) : ∀ (k d : Nat), k < d → ∀ (S a : Nat) (x : Int32) (z : Int) (Q : Int32 → Prop), S < 2 ^ n → a < 9 → card S + k = n → x.toInt = z → -(4000 * (card S : Int)) ≤ z → z ≤ 100000 → Mo v n f mo le S a → paths n (ob f) k S ≠ [] → w S = nI (Wf n f S) → Q (nI ((paths n (ob f) k S).filter (fun l => decide (z ≤ (sav v a l : Int)))).length) → q_X2_rowsThatSave d sa mo le (nI n) f w (nI S) (nI a) x (nI (card S)) Q := by
  intro k
  induction k with
  | zero =>
    intro d hd S a x z Q hS ha hk hx hz1 hz2 hm hne hws h
    obtain ⟨d, rfl⟩ : ∃ d', d = d' + 1 := ⟨d - 1, by omega⟩
    have h8 := pow_le8 hn
    unfold Mo at hm
    rw [show n - card S = 0 by omega] at hm
    obtain ⟨hi, lo, m1, m2, -, m3, m4⟩ := hm hne
    have hh : hi = 0 := by
      have := m3.1
      simpa [paths, sav] using this
    have hlo : lo = 0 := by
      have := m4.1
      simpa [paths, sav] using this
    subst hh; subst hlo
    rw [q_X2_rowsThatSave]
    intro x6 e6
    rw [ix9] at e6
    rw [e6, nI_clamp (by omega), nI_clamp (by omega), m1, m2]
    have hx0 : (nI 0 < x ↔ 0 < z) := by rw [fa_lt, hx]; exact Iff.rfl
    refine ⟨vp_in_nI (by omega) (by omega), fun q => ?_, fun q => ⟨fun _ => ⟨fun q2 => absurd q2 q, fun _ => ⟨vp_in_nI (by omega) (by omega), ?_⟩⟩, fun q2 => absurd (show nI (card S) ≤ nI 8 from nI_le (by omega) (by omega)) q2⟩⟩
    · rw [hx0] at q
      have : ((paths n (ob f) 0 S).filter (fun l => decide (z ≤ (sav v a l : Int)))) = [] := by
        rw [paths]
        have : ¬ z ≤ ((sav v a [] : Nat) : Int) := by rw [sav]; omega
        simp [this]
      rw [this] at h
      exact h
    · rw [hx0] at q
      have : ((paths n (ob f) 0 S).filter (fun l => decide (z ≤ (sav v a l : Int)))) = [[]] := by
        rw [paths]
        have : z ≤ ((sav v a [] : Nat) : Int) := by rw [sav]; omega
        simp [this]
      rw [this] at h
      rw [hws]
      have : Wf n f S = 1 := by unfold Wf; rw [show n - card S = 0 by omega]; rfl
      rw [this]
      exact h
  | succ k ihk =>
    intro d hd S a x z Q hS ha hk hx hz1 hz2 hm hne hws h
    obtain ⟨d, rfl⟩ : ∃ d', d = d' + 1 := ⟨d - 1, by omega⟩
    have h8 := pow_le8 hn
    unfold Mo at hm
    rw [show n - card S = k + 1 by omega] at hm
    obtain ⟨hi, lo, m1, m2, m0, m3, m4⟩ := hm hne
    have hlh := Mo_lo m3 m4
    rw [q_X2_rowsThatSave]
    intro x6 e6
    rw [ix9] at e6
    rw [e6, nI_clamp (by omega), nI_clamp (by omega), m1, m2]
    have hxi : ∀ u, u ≤ 200000 → (nI u < x ↔ (u : Int) < z) := fun u hu => by rw [fa_lt, hx, nI_toInt (by omega)]
    refine ⟨vp_in_nI (by omega) (by omega), fun q => ?_, fun q => ⟨fun _ => ⟨fun q2 => ?_, fun q2 => ⟨vp_in_nI (by omega) (by omega), ?_⟩⟩, fun q2 => absurd (show nI (card S) ≤ nI 8 from nI_le (by omega) (by omega)) q2⟩⟩
    · rw [hxi hi (by omega)] at q
      have : ((paths n (ob f) (k + 1) S).filter (fun l => decide (z ≤ (sav v a l : Int)))) = [] := by
        rw [List.filter_eq_nil_iff]
        intro l hl1
        have := (m3.2 _ (List.mem_map.mpr ⟨l, hl1, rfl⟩)).2 id
        have hno : ¬ z ≤ (sav v a l : Int) := by omega
        simp [hno]
      rw [this] at h
      exact h
    · -- the loop
      have hfin : nI (fb_sm (fun c => if ob f S c then ((paths n (ob f) k (ins S c)).filter (fun l => decide (z - (v a c : Int) ≤ (sav v c l : Int)))).length else 0) n) = nI ((paths n (ob f) (k + 1) S).filter (fun l => decide (z ≤ (sav v a l : Int)))).length := by
        congr 1
        rw [ob_paths_succ, cat_filter, len_cat]
        refine fb_sm_cong (fun c hc => ?_)
        by_cases q : ob f S c = true
        · rw [if_pos q, if_pos q, List.filter_map, List.length_map]
          congr 1
          refine List.filter_congr (fun l _ => ?_)
          show decide (z - (v a c : Int) ≤ (sav v c l : Int)) = decide (z ≤ ((sav v a (c :: l) : Nat) : Int))
          rw [sav, decide_eq_decide]
          omega
        · rw [if_neg q, if_neg q]; rfl
      refine up2 (fun N y u => q_X2_rowsThatSave_L54 (q_X2_rowsThatSave d) (nI S) (nI a) x (nI (card S)) sa mo le (nI n) f w Q N u y) (fun i u => u = nI (fb_sm (fun c => if ob f S c then ((paths n (ob f) k (ins S c)).filter (fun l => decide (z - (v a c : Int) ≤ (sav v c l : Int)))).length else 0) i)) n ?_ 0 0 (Nat.zero_le _) rfl
      intro m i u hi' hI ih
      rw [q_X2_rowsThatSave_L54]
      refine ⟨fun hxx => ?_, fun hxx => ?_⟩
      · rw [nI_leI (by omega) (by omega)] at hxx
        have e : i = n := by omega
        rw [hI, e, hfin]
        exact h
      · rw [nI_leI (by omega) (by omega)] at hxx
        have hlt : i < n := by omega
        have hins := ins_lt hS hlt
        rw [nI_1 i]
        refine p_mayFollow (by omega) (by omega) ⟨fun hb => ih u hlt ?_, fun hb => ?_⟩
        · have hob : ob f S i = false := hb
          rw [hI, fb_sm_succ, hob]; rfl
        · have hob : ob f S i = true := hb
          obtain ⟨-, hbit⟩ := hg S hS i hob
          have hcd := card_ins S (nIs hn hS) i (by omega) hbit
          have hvi := hv a i
          rw [ix8, nI_clamp (by omega), hsa a i ha (by omega), or_ins S (by omega), nI_1, ← hcd]
          refine ⟨vp_in_nI (by omega) (by omega), ?_⟩
          intro x9 e9
          have hx9 : x9.toInt = z - (v a i : Int) := by
            rw [e9, fb_subI (by rw [hx, nI_toInt (by omega)]; omega) (by rw [hx, nI_toInt (by omega)]; omega), hx, nI_toInt (by omega)]
          have hlv := (live_next hn hg hp hl hS hob).1
          rw [show n - card (ins S i) = k by omega] at hlv
          refine ihk d (by omega) (ins S i) i x9 _ _ hins (by omega) (by omega) hx9 (by rw [hcd]; omega) (by omega) (hmo _ hins i hlt (by rw [ins_bit]; simp)) hlv (hw S hS i hob) ?_
          intro u' eu
          refine ih u' hlt ?_
          rw [eu, hI, nI_add, fb_sm_succ, if_pos hob]
    · rw [hxi lo (by omega)] at q2
      have : ((paths n (ob f) (k + 1) S).filter (fun l => decide (z ≤ (sav v a l : Int)))) = paths n (ob f) (k + 1) S := by
        rw [List.filter_eq_self]
        intro l hl1
        have := (m4.2 _ (List.mem_map.mpr ⟨l, hl1, rfl⟩)).1 trivial
        have hyes : z ≤ (sav v a l : Int) := by omega
        simp [hyes]
      rw [this] at h
      rw [hws]
      have : Wf n f S = (paths n (ob f) (k + 1) S).length := by unfold Wf; rw [show n - card S = k + 1 by omega]
      rw [this]
      exact h
theorem d_within {n nl : Nat} {sets sts wts : Nat → Nat} (hW : WF n nl sets sts wts) {se st we f w : Nat → Int32} (hL : LA nl sets sts wts se st we) (hR : Rw n f w (GG n nl sets sts)) {old un : Int32} {sa mo le : Nat → Int32} (hI : SavI n nl sets sts wts f old un sa mo le) {x : Int32} {Q : Int32 → Int32 → Int32 → (Nat → Int32) → (Nat → Int32) → (Nat → Int32) → Prop} (h : ∀ old un sa mo le, SavI n nl sets sts wts f old un sa mo le → Q (nI (cP (wtP nl sets sts wts x) (GG n nl sets sts))) old un sa mo le) : q_X4_within old (nI nl) se st we (nI n) (nI (2 ^ n - 1)) f w un sa mo le x Q := by
  have hG := hW.ok
  have hlen := hG.2.2.1
  have hn := hW.2.1
  have h0 : 0 < 2 ^ n := Nat.two_pow_pos n
  have hus := us_le hW
  unfold q_X4_within
  refine d_makeSavings hW hL hR hI (fun un sa mo le hok => ?_)
  have hfin := h 0 un sa mo le (Or.inr ⟨rfl, hok⟩)
  obtain ⟨rfl, hsa, hmo, hmo0⟩ := hok
  obtain ⟨hg, hp, hw0, hw, hl⟩ := hR
  have hgs := fun l hl => gp_sav hW (hG.1 l hl)
  unfold q_X2_rowsUpTo
  refine ⟨fun hx0 => ⟨fun hx1 => ?_, fun hx1 => p_howMany hw0 ?_⟩, fun hx0 => ?_⟩
  · rw [fa_le] at hx0
    rw [fa_lt, nI_toInt (by omega)] at hx1
    have hx0' : 0 ≤ x.toInt := hx0
    have hz : (nI (us nl sets sts wts) - x).toInt = (us nl sets sts wts : Int) - x.toInt := by
      rw [fb_subI (by rw [nI_toInt (by omega)]; omega) (by rw [nI_toInt (by omega)]; omega), nI_toInt (by omega)]
    have := p_rowsThatSave hn (sv_le hW) hsa hg hp hl hw hmo n 10 (by omega) 0 8 _ _ (fun r => Q r 0 (nI (us nl sets sts wts)) sa mo le) h0 (by omega) (by rw [card_0]; omega) hz (by rw [card_0]; omega) (by omega) hmo0 (by rw [hp]; exact hG.2.1) (by unfold Wf; rw [card_0, Nat.sub_zero, hp]; exact hw0) ?_
    · rw [card_0] at this
      exact this
    · rw [hp]
      have : (GG n nl sets sts).filter (fun l => decide ((us nl sets sts wts : Int) - x.toInt ≤ (sav (sv nl sets sts wts) 8 l : Int))) = (GG n nl sets sts).filter (wtP nl sets sts wts x) := by
        refine List.filter_congr (fun l hl => ?_)
        unfold wtP
        have := hgs l hl
        rw [decide_eq_decide]
        omega
      rw [this]
      exact hfin
  · rw [fa_lt, nI_toInt (by omega)] at hx1
    have : cP (wtP nl sets sts wts x) (GG n nl sets sts) = (GG n nl sets sts).length := by
      unfold cP
      congr 1
      rw [List.filter_eq_self]
      intro l hl
      have := hgs l hl
      have hyes : (gpN nl sets sts wts l : Int) ≤ x.toInt := by omega
      simp [wtP, hyes]
    rw [this] at hfin
    exact hfin
  · rw [fa_le] at hx0
    have hx0' : ¬ 0 ≤ x.toInt := hx0
    have : cP (wtP nl sets sts wts x) (GG n nl sets sts) = 0 := by
      unfold cP
      rw [List.length_eq_zero_iff, List.filter_eq_nil_iff]
      intro l hl
      have hno : ¬ (gpN nl sets sts wts l : Int) ≤ x.toInt := by omega
      simp [wtP, hno]
    rw [this] at hfin
    exact hfin
