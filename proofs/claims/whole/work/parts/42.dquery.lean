/-! THE CLASS'S QUESTIONS OVER THE GOOD ROWS. -/
theorem int_nat (x : Int32) : ∃ r, r < 2 ^ 32 ∧ x = nI r := by
  refine ⟨x.toBitVec.toNat, x.toBitVec.isLt, ?_⟩
  refine Int32.toBitVec_inj.mp ?_
  show x.toBitVec = BitVec.ofNat 32 x.toBitVec.toNat
  simp
theorem nI_inj32 {a b : Nat} (ha : a < 2 ^ 32) (hb : b < 2 ^ 32) (h : nI a = nI b) : a = b := by
  have := congrArg (fun x : Int32 => x.toBitVec.toNat) h
  simp only [pk_tn ha, pk_tn hb] at this
  exact this
theorem digs_succ (n r : Nat) : digs (n + 1) r = digs n (r / 16) ++ [r % 16] := by
  unfold digs
  rw [List.range_succ, List.map_append]
  congr 1
  · refine List.map_congr_left (fun p hp => ?_)
    have hp := List.mem_range.mp hp
    unfold dig
    rw [show n + 1 - 1 - p = (n - 1 - p) + 1 by omega, show 4 * (n - 1 - p + 1) = 4 + 4 * (n - 1 - p) by omega, Nat.pow_add, ← Nat.div_div_eq_div_mul]
  · simp [dig]
theorem enc_digs : ∀ (n r : Nat), r < 2 ^ (4 * n) → enc (digs n r) = r
  | 0, r, h => by
    have : r = 0 := by simpa using h
    subst this
    rfl
  | n + 1, r, h => by
    rw [digs_succ]
    unfold enc
    rw [encF_app]
    have ih := enc_digs n (r / 16) (by rw [show 4 * (n + 1) = 4 * n + 4 by omega, Nat.pow_add] at h; omega)
    unfold enc at ih
    rw [ih]
    show r / 16 * 16 + r % 16 = r
    omega
theorem digs_enc {n : Nat} (hn : n ≤ 8) {l : List Nat} (h : Row n l) : digs n (enc l) = l ∧ enc l / 2 ^ (4 * n) = 0 := by
  constructor
  · refine List.ext_getElem (by simp [digs, h.1]) (fun p h1 h2 => ?_)
    have hp : p < n := by rw [h.1] at h2; exact h2
    have := enc_dig hn h hp
    have e1 : (digs n (enc l))[p]'h1 = dig n (enc l) p := by simp [digs]
    rw [e1]
    unfold dig
    rw [this, List.getD_eq_getElem?_getD, List.getElem?_eq_getElem h2]
    rfl
  · have h3 := encF_lt l 0 (fun c hc => by have := h.small hn c hc; omega)
    rw [h.1] at h3
    exact Nat.div_eq_of_lt (by unfold enc; omega)
theorem rkF_at {x : Int32} : ∀ (L : List (List Nat)) (i num : Nat) (l : List Nat), L[num]? = some l → nI (enc l) = x → (∀ j l', j < num → L[j]? = some l' → ¬ nI (enc l') = x) → rkF x L i = nI (i + num)
  | [], _, _, _, h, _, _ => by simp at h
  | k :: L, i, 0, l, h, hx, _ => by
    have e : k = l := by simpa using h
    subst e
    rw [rkF, if_pos hx]
    rfl
  | k :: L, i, num + 1, l, h, hx, hno => by
    rw [rkF, if_neg (hno 0 k (by omega) rfl), rkF_at L (i + 1) num l (by simpa using h) hx (fun j l' hj hl => hno (j + 1) l' (by omega) (by simpa using hl))]
    congr 1
    omega
theorem rkF_no {x : Int32} : ∀ (L : List (List Nat)) (i : Nat), (∀ l ∈ L, ¬ nI (enc l) = x) → rkF x L i = -9
  | [], _, _ => rfl
  | k :: L, i, h => by rw [rkF, if_neg (h k List.mem_cons_self), rkF_no L (i + 1) (fun l hl => h l (List.mem_cons_of_mem _ hl))]
theorem d_rank {n : Nat} (h1 : 1 ≤ n) (hn : n ≤ 8) {f w : Nat → Int32} {G : List (List Nat)} (hR : Rw n f w G) (hG : GOk n G) {x : Int32} {Q : Int32 → Prop} (h : Q (rkF x G 0)) : q_X4_rank (nI n) f w x Q := by
  obtain ⟨r, hr, rfl⟩ := int_nat x
  have hlt : ∀ l ∈ G, enc l < 2 ^ 32 := fun l hl => by have := enc_lt hn (hG.row l hl); omega
  refine p_numberOf h1 hn hR hr (fun num hnum hz => ?_) (fun hno => ?_)
  · have hm : digs n r ∈ G := List.mem_of_getElem? hnum
    have hrl : r < 2 ^ (4 * n) := by
      have := Nat.two_pow_pos (4 * n)
      rcases Nat.lt_or_ge r (2 ^ (4 * n)) with q | q
      · exact q
      · have := Nat.div_pos q this
        omega
    rw [rkF_at G 0 num (digs n r) hnum (by rw [enc_digs n r hrl]) (fun j l' hj hl hx => ?_)] at h
    · rw [Nat.zero_add] at h
      exact h
    · have hl' := List.mem_of_getElem? hl
      have e := nI_inj32 (hlt l' hl') hr hx
      have e2 := (digs_enc hn (hG.row l' hl')).1
      rw [e] at e2
      have hnd := hG.2.2.2
      have hj2 := (List.getElem?_eq_some_iff.mp hl)
      have := (List.getElem?_inj (j := num) hj2.1 hnd).mp (by rw [hl, hnum, e2])
      omega
  · rw [rkF_no G 0 (fun l hl hx => ?_)] at h
    · exact h
    · have e := nI_inj32 (hlt l hl) hr hx
      obtain ⟨e2, e3⟩ := digs_enc hn (hG.row l hl)
      rw [e] at e2 e3
      rcases hno with q | q
      · exact q (by rw [e2]; exact hl)
      · exact q e3
theorem d_row {n : Nat} (hn : n ≤ 8) {f w p rf : Nat → Int32} {G : List (List Nat)} (hR : Rw n f w G) (hG : GOk n G) {x1 x2 : Int32} {Q : Int32 → (Nat → Int32) → (Nat → Int32) → Prop} (h : ∀ p' : Nat → Int32, Q (ansR (sp_row n G x1 x2)) p' (rfA rf (sp_row n G x1 x2))) : q_X4_row (nI n) (nI n) f w p rf x1 x2 Q := by
  have hlen := hG.2.2.1
  unfold q_X4_row q_X4_isRow
  unfold sp_row at h
  rcases ix_cases x1 (m := G.length) (by omega) with ⟨i, hi, rfl, e⟩ | ⟨hx, e⟩ | ⟨hx, hx2, e⟩
  · rw [e] at h
    simp only at h
    refine ⟨fun q => absurd q (nI_pos (by omega)), fun _ => p_howMany hR.2.2.1 ⟨fun q => absurd q (nI_ge hi (by omega)), fun _ => ⟨fun _ => ?_, fun q => Bool.noConfusion q⟩⟩⟩
    by_cases hneg : x2 < 0
    · rw [if_pos hneg] at h
      refine ⟨fun q => ?_, fun _ => d_refuse (k := 4) (by omega) (by omega) (by decide) (h p)⟩
      rw [fa_le] at q; rw [fa_lt] at hneg; omega
    · rw [if_neg hneg] at h
      refine ⟨fun _ => ?_, fun q => absurd (fa_of_nlt hneg) q⟩
      rcases ix_cases x2 (m := n) (by omega) with ⟨k, hk, rfl, e2⟩ | ⟨hy, e2⟩ | ⟨hy, hy2, e2⟩
      · rw [e2] at h
        refine ⟨fun _ => p_write hn hR hi (fun p' l hl hp => ⟨vp_in_nI (by omega) (by omega), ?_⟩), fun q => absurd (nI_lt hk (by omega)) q⟩
        rw [nI_clamp (by omega), hp k hk]
        have := h p'
        rw [getD_eq hl] at this
        exact this
      · exact absurd hy hneg
      · rw [e2] at h
        refine ⟨fun q => ?_, fun _ => d_refuse (k := 6) (by omega) (by omega) (by decide) (h p)⟩
        rw [fa_le] at hy2; rw [fa_lt] at q; omega
  · rw [e] at h
    exact ⟨fun _ => ⟨fun q => Bool.noConfusion q, fun _ => d_refuse (k := 1) (by omega) (by omega) (by decide) (h p)⟩, fun q => absurd hx q⟩
  · rw [e] at h
    exact ⟨fun q => absurd q hx, fun _ => p_howMany hR.2.2.1 ⟨fun _ => ⟨fun q => Bool.noConfusion q, fun _ => d_refuse (k := 1) (by omega) (by omega) (by decide) (h p)⟩, fun q => absurd hx2 q⟩⟩
/-! a narrower collection, and how many rows it has -/
theorem narrow_ok {n : Nat} (hn : n ≤ 8) {f f3 : Nat → Int32} {G : List (List Nat)} (hg : Gr n (ob f)) (hp : paths n (ob f) n 0 = G) {gate : Nat → Nat → Bool} (h : ∀ S, S < 2 ^ n → ∀ c, c < 32 → bt (f3 S) c = (bt (f S) c && gate S c)) : Gr n (ob f3) ∧ Wf n f3 0 = (G.filter (along gate 0)).length := by
  have h0 : 0 < 2 ^ n := Nat.two_pow_pos n
  constructor
  · intro S hS c hb
    unfold ob at hb
    rcases Nat.lt_or_ge c 32 with q | q
    · rw [h S hS c q, Bool.and_eq_true] at hb
      exact hg S hS c hb.1
    · rw [b_big q] at hb; cases hb
  · unfold Wf
    rw [card_0, Nat.sub_zero, ← hp, paths_filter]
    congr 1
    exact paths_congr (fun S hS c hc => h S hS c (by omega)) n 0 h0
theorem filter_tog {n : Nat} (hn : n ≤ 8) {G : List (List Nat)} (hG : ∀ l ∈ G, l ∈ P n) {s : Nat} (hs : s < 2 ^ n) : G.filter (along (okS s) 0) = G.filter (tog s) := List.filter_congr (fun l hl => (tog_along hn hs (hG l hl)).symm)
theorem d_rowsWithBoth {n : Nat} (h1 : 1 ≤ n) (hn : n ≤ 8) {f w : Nat → Int32} {G : List (List Nat)} (hR : Rw n f w G) (hG : GOk n G) {s1 s2 : Nat} (hs1 : s1 < 2 ^ n) (hs2 : s2 < 2 ^ n) {tc tf : Int32} {to tw : Nat → Int32} {Q : Int32 → Int32 → Int32 → (Nat → Int32) → (Nat → Int32) → Prop} (h : ∀ co fu f' w', Q (nI (cP (fun l => tog s1 l && tog s2 l) G)) co fu f' w') : q_X4_rowsWithBoth (nI n) (nI (2 ^ n - 1)) f w tc tf to tw (nI s1) (nI s2) Q := by
  unfold q_X4_rowsWithBoth
  refine p_copy hn (fun f1 w1 hf1 hw1 => p_keep hn hs1 (fun f2 hf2 => p_keep hn hs2 (fun f3 hf3 => ?_)))
  obtain ⟨hg3, hW⟩ := narrow_ok hn hR.1 hR.2.1 (f3 := f3) (gate := fun S c => okS s1 S c && okS s2 S c) (fun S hS c hc => by rw [hf3 S hS c hc, hf2 S hS c hc, hf1 S hS, Bool.and_assoc])
  refine p_reckon h1 hn hg3 (fun w4 _ => ?_)
  rw [hW]
  have e : (G.filter (along (fun S c => okS s1 S c && okS s2 S c) 0)).length = cP (fun l => tog s1 l && tog s2 l) G := by
    unfold cP
    congr 1
    refine List.filter_congr (fun l hl => ?_)
    rw [tog_along hn hs1 (hG.1 l hl), tog_along hn hs2 (hG.1 l hl)]
    have gen : ∀ (l : List Nat) (S : Nat), along (fun S c => okS s1 S c && okS s2 S c) S l = (along (okS s1) S l && along (okS s2) S l) := by
      intro l
      induction l with
      | nil => intro S; rfl
      | cons c l ih =>
        intro S
        rw [along, along, along, ih]
        cases okS s1 S c <;> cases okS s2 S c <;> cases along (okS s1) (ins S c) l <;> cases along (okS s2) (ins S c) l <;> rfl
    exact gen l 0
  rw [e]
  exact h _ _ _ _
theorem tog_0 (l : List Nat) : tog 0 l = true := by
  unfold tog
  rw [runs_none l false (fun c _ => by simp)]
  rfl
theorem d_rowsWith {n : Nat} (h1 : 1 ≤ n) (hn : n ≤ 8) {f w : Nat → Int32} {G : List (List Nat)} (hR : Rw n f w G) (hG : GOk n G) {s : Nat} (hs : s < 2 ^ n) {tc tf : Int32} {to tw : Nat → Int32} {Q : Int32 → Int32 → Int32 → (Nat → Int32) → (Nat → Int32) → Prop} (h : ∀ co fu f' w', Q (nI (cP (tog s) G)) co fu f' w') : q_X4_rowsWith (nI n) (nI (2 ^ n - 1)) f w tc tf to tw (nI s) Q := by
  refine d_rowsWithBoth h1 hn hR hG hs (Nat.two_pow_pos n) (fun co fu f' w' => ?_)
  have e : cP (fun l => tog s l && tog 0 l) G = cP (tog s) G := by
    unfold cP
    congr 1
    exact List.filter_congr (fun l _ => by rw [tog_0, Bool.and_true])
  rw [e]
  exact h co fu f' w'
theorem d_together {n : Nat} (h1 : 1 ≤ n) (hn : n ≤ 8) {f w rf : Nat → Int32} {G : List (List Nat)} (hR : Rw n f w G) (hG : GOk n G) {tc tf : Int32} {to tw : Nat → Int32} {x1 : Int32} {Q : Int32 → Int32 → Int32 → (Nat → Int32) → (Nat → Int32) → (Nat → Int32) → Prop} (h : ∀ co fu f' w', Q (ansR (sp_together n G x1)) co fu f' w' (rfA rf (sp_together n G x1))) : q_X4_together (nI n) (nI n) (nI (2 ^ n - 1)) f w tc tf to tw rf x1 Q := by
  have hlen := hG.2.2.1
  have h8 := pow_le8 hn
  unfold q_X4_together
  refine d_isSet hn ?_
  unfold sp_together at h
  rcases ix_cases x1 (m := 2 ^ n) (by omega) with ⟨s, hs, rfl, e⟩ | ⟨hx, e⟩ | ⟨hx, hx2, e⟩
  · rw [e] at h ⊢
    have := cP_le (tog s) G
    exact ⟨fun _ => d_rowsWith h1 hn hR hG hs (fun co fu f' w' => d_verdict (by omega) (by omega) hR.2.2.1 (h co fu f' w')), fun q => Bool.noConfusion q⟩
  · rw [e] at h ⊢
    exact ⟨fun q => Bool.noConfusion q, fun _ => d_refuse (k := 2) (by omega) (by omega) (by decide) (h _ _ _ _)⟩
  · rw [e] at h ⊢
    exact ⟨fun q => Bool.noConfusion q, fun _ => d_refuse (k := 2) (by omega) (by omega) (by decide) (h _ _ _ _)⟩
theorem cP_or (p q : List Nat → Bool) : ∀ (G : List (List Nat)), cP (fun l => p l || q l) G + cP (fun l => p l && q l) G = cP p G + cP q G
  | [] => rfl
  | l :: G => by
    have ih := cP_or p q G
    unfold cP at ih ⊢
    cases hp : p l <;> cases hq : q l <;> simp [List.filter_cons, hp, hq] <;> omega
theorem d_round {n : Nat} (h1 : 1 ≤ n) (hn : n ≤ 8) {f w rf : Nat → Int32} {G : List (List Nat)} (hR : Rw n f w G) (hG : GOk n G) {tc tf : Int32} {to tw : Nat → Int32} {x1 : Int32} {Q : Int32 → Int32 → Int32 → (Nat → Int32) → (Nat → Int32) → (Nat → Int32) → Prop} (h : ∀ co fu f' w', Q (ansR (sp_round n G x1)) co fu f' w' (rfA rf (sp_round n G x1))) : q_X4_round (nI n) (nI n) (nI (2 ^ n - 1)) f w tc tf to tw rf x1 Q := by
  have hlen := hG.2.2.1
  have h8 := pow_le8 hn
  unfold q_X4_round
  refine d_isSet hn ?_
  unfold sp_round at h
  rcases ix_cases x1 (m := 2 ^ n) (by omega) with ⟨s, hs, rfl, e⟩ | ⟨hx, e⟩ | ⟨hx, hx2, e⟩
  · rw [e] at h ⊢
    refine ⟨fun _ => ?_, fun q => Bool.noConfusion q⟩
    unfold q_X4_allColumns
    rw [one_shl n (by omega), show nI (2 ^ n) - 1 = nI (2 ^ n - 1) from pk_sub (b := 1) (Nat.two_pow_pos n)]
    dsimp only
    rw [cpl_eq hn hs]
    intro x2 e2
    subst e2
    have hcl := cpl_lt hs
    refine d_rowsWith h1 hn hR hG hs (fun c1 c2 c3 c4 => d_rowsWith h1 hn hR hG hcl (fun c5 c6 c7 c8 => ?_))
    intro x3 e3
    refine d_rowsWithBoth h1 hn hR hG hs hcl (fun co fu f' w' => ?_)
    have hor := cP_or (tog s) (tog (cpl n s)) G
    have l1 := cP_le (fun l => tog s l || tog (cpl n s) l) G
    rw [e3, nI_add, pk_sub (by omega), show cP (tog s) G + cP (tog (cpl n s)) G - cP (fun l => tog s l && tog (cpl n s) l) G = cP (fun l => tog s l || tog (cpl n s) l) G by omega]
    exact d_verdict (by omega) (by omega) hR.2.2.1 (h co fu f' w')
  · rw [e] at h ⊢
    exact ⟨fun q => Bool.noConfusion q, fun _ => d_refuse (k := 2) (by omega) (by omega) (by decide) (h _ _ _ _)⟩
  · rw [e] at h ⊢
    exact ⟨fun q => Bool.noConfusion q, fun _ => d_refuse (k := 2) (by omega) (by omega) (by decide) (h _ _ _ _)⟩
theorem d_areTwo {n : Nat} (hn : n ≤ 8) {x1 x2 : Int32} {Q : Bool → Prop} (h : Q (two n x1 x2).isSome) : q_X4_areTwo (nI n) x1 x2 Q := by
  have no : two n x1 x2 = none → Q false := fun e => by rw [e] at h; exact h
  refine d_isColumn hn ⟨fun q => no ?_, fun q1 => d_isColumn hn ⟨fun q => no ?_, fun q2 => ?_⟩⟩
  · unfold two
    cases hx : ix x1 n
    · rfl
    · rw [hx] at q; cases q
  · unfold two
    cases hx : ix x2 n
    · cases ix x1 n <;> rfl
    · rw [hx] at q; cases q
  · rcases ix_cases x1 (m := n) (by omega) with ⟨a, ha1, rfl, ea⟩ | ⟨_, e⟩ | ⟨_, _, e⟩
    · rcases ix_cases x2 (m := n) (by omega) with ⟨b, hb1, rfl, eb⟩ | ⟨_, e⟩ | ⟨_, _, e⟩
      · have es : two n (nI a) (nI b) = if a = b then none else some (a, b) := by
          unfold two
          rw [ea, eb]
        rw [nI_eq (by omega) (by omega)]
        refine ⟨fun q => no (by rw [es, if_pos q]), fun q => ?_⟩
        rw [es, if_neg q] at h
        exact h
      · rw [e] at q2; cases q2
      · rw [e] at q2; cases q2
    · rw [e] at q1; cases q1
    · rw [e] at q1; cases q1
theorem d_next {n : Nat} (h1 : 1 ≤ n) (hn : n ≤ 8) {f w rf : Nat → Int32} {G : List (List Nat)} (hR : Rw n f w G) (hG : GOk n G) {tc tf : Int32} {to tw : Nat → Int32} {x1 x2 : Int32} {Q : Int32 → Int32 → Int32 → (Nat → Int32) → (Nat → Int32) → (Nat → Int32) → Prop} (h : ∀ co fu f' w', Q (ansR (sp_next n G x1 x2)) co fu f' w' (rfA rf (sp_next n G x1 x2))) : q_X4_next (nI n) (nI n) (nI (2 ^ n - 1)) f w tc tf to tw rf x1 x2 Q := by
  have hlen := hG.2.2.1
  unfold q_X4_next
  refine d_areTwo hn ?_
  unfold sp_next at h
  cases e : two n x1 x2 with
  | none =>
    rw [e] at h
    exact ⟨fun q => Bool.noConfusion q, fun _ => d_refuse (k := 1) (by omega) (by omega) (by decide) (h _ _ _ _)⟩
  | some ab =>
    obtain ⟨a, b⟩ := ab
    obtain ⟨ha1, hb1, hne, rfl, rfl⟩ := two_some hn e
    rw [e] at h
    refine ⟨fun _ => ?_, fun q => Bool.noConfusion q⟩
    rw [pair_int hn ha1 hb1]
    have := cP_le (tog (2 ^ a ||| 2 ^ b)) G
    exact d_rowsWith h1 hn hR hG (pair_lt ha1 hb1) (fun co fu f' w' => d_verdict (by omega) (by omega) hR.2.2.1 (h co fu f' w'))
/-! between, at the ends, apart: step by step -/
theorem along_iff (h : Nat → Nat → Bool) : ∀ (l : List Nat) (S : Nat), along h S l = true ↔ ∀ l1 c l2, l = l1 ++ c :: l2 → h (setOf S l1) c = true
  | [], S => by
    refine ⟨fun _ l1 c l2 e => ?_, fun _ => rfl⟩
    cases l1 <;> cases e
  | d :: l, S => by
    rw [along, Bool.and_eq_true, along_iff h l (ins S d)]
    constructor
    · rintro ⟨h1, h2⟩ l1 c l2 e
      cases l1 with
      | nil =>
        injection e with e1 e2
        subst e1
        exact h1
      | cons k l1 =>
        injection e with e1 e2
        subst e1
        exact h2 l1 c l2 e2
    · intro hall
      exact ⟨hall [] d l rfl, fun l1 c l2 e => hall (d :: l1) c l2 (by rw [e]; rfl)⟩
theorem idx_split {l1 l2 : List Nat} {c a : Nat} (hnd : (l1 ++ c :: l2).Nodup) : (l1 ++ c :: l2).idxOf c = l1.length ∧ (a ∈ l1 ↔ (l1 ++ c :: l2).idxOf a < l1.length) := by
  have hc : c ∉ l1 := fun hm => (List.nodup_append.mp hnd).2.2 c hm c List.mem_cons_self rfl
  constructor
  · rw [List.idxOf_append, if_neg hc, List.idxOf_cons_self]
    omega
  · rw [List.idxOf_append]
    by_cases q : a ∈ l1
    · rw [if_pos q]
      exact ⟨fun _ => List.idxOf_lt_length_iff.mpr q, fun _ => q⟩
    · rw [if_neg q]
      exact ⟨fun z => absurd z q, fun z => by omega⟩
theorem bit_setOf0 (l : List Nat) (i : Nat) : (setOf 0 l).testBit i = decide (i ∈ l) := by rw [setOf_bit]; simp
theorem along_bw {n : Nat} (hn : n ≤ 8) {l : List Nat} (hl : l ∈ P n) {a b d : Nat} (ha : a < n) (hb : b < n) (hd : d < n) (hab : a ≠ b) (hbd : b ≠ d) : along (fun S c => !(decide (S.testBit a = S.testBit d) && decide (c = b))) 0 l = bw a b d l := by
  have hrow := P_row hl
  obtain ⟨l1, l2, e⟩ := List.append_of_mem (P_mem hn hl hb)
  have hnd : (l1 ++ b :: l2).Nodup := by rw [← e]; exact hrow.2.2
  obtain ⟨ib, ia⟩ := idx_split (a := a) hnd
  obtain ⟨-, id⟩ := idx_split (a := d) hnd
  rw [← e] at ib ia id
  have hna : l.idxOf a ≠ l.idxOf b := fun q => hab (by
    have h1 := List.getElem_idxOf (List.idxOf_lt_length_iff.mpr (P_mem hn hl ha))
    have h2 := List.getElem_idxOf (List.idxOf_lt_length_iff.mpr (P_mem hn hl hb))
    simp only [q] at h1
    exact h1.symm.trans h2)
  have hnd2 : l.idxOf d ≠ l.idxOf b := fun q => hbd (by
    have h1 := List.getElem_idxOf (List.idxOf_lt_length_iff.mpr (P_mem hn hl hd))
    have h2 := List.getElem_idxOf (List.idxOf_lt_length_iff.mpr (P_mem hn hl hb))
    simp only [q] at h1
    exact (h1.symm.trans h2).symm)
  have key : along (fun S c => !(decide (S.testBit a = S.testBit d) && decide (c = b))) 0 l = true ↔ bw a b d l = true := by
    rw [along_iff]
    unfold bw
    rw [decide_eq_true_iff]
    constructor
    · intro hall
      have h1 := hall l1 b l2 e
      rw [bit_setOf0, bit_setOf0] at h1
      simp only [decide_true, Bool.and_true, Bool.not_eq_true', decide_eq_false_iff_not] at h1
      by_cases q1 : a ∈ l1 <;> by_cases q2 : d ∈ l1
      · exact absurd (by rw [decide_eq_true q1, decide_eq_true q2]) h1
      · have := ia.mp q1
        have := mt id.mpr q2
        omega
      · have := id.mp q2
        have := mt ia.mpr q1
        omega
      · exact absurd (by rw [decide_eq_false q1, decide_eq_false q2]) h1
    · intro hor k1 c k2 e2
      by_cases hcb : c = b
      · subst hcb
        have hnd3 : (k1 ++ c :: k2).Nodup := by rw [← e2]; exact hrow.2.2
        obtain ⟨jb, ja⟩ := idx_split (a := a) hnd3
        obtain ⟨-, jd⟩ := idx_split (a := d) hnd3
        rw [← e2] at jb ja jd
        rw [bit_setOf0, bit_setOf0]
        simp only [decide_true, Bool.and_true, Bool.not_eq_true', decide_eq_false_iff_not]
        intro q
        by_cases q1 : a ∈ k1 <;> by_cases q2 : d ∈ k1
        · have := ja.mp q1
          have := jd.mp q2
          omega
        · rw [decide_eq_true q1, decide_eq_false q2] at q; cases q
        · rw [decide_eq_false q1, decide_eq_true q2] at q; cases q
        · have := mt ja.mpr q1
          have := mt jd.mpr q2
          omega
      · simp [hcb]
  cases h1 : along (fun S c => !(decide (S.testBit a = S.testBit d) && decide (c = b))) 0 l <;> cases h2 : bw a b d l
  · rfl
  · rw [key.mpr h2] at h1; cases h1
  · rw [key.mp h1] at h2; cases h2
  · rfl
theorem d_between {n : Nat} (h1 : 1 ≤ n) (hn : n ≤ 8) {f w rf : Nat → Int32} {G : List (List Nat)} (hR : Rw n f w G) (hG : GOk n G) {tc tf : Int32} {to tw : Nat → Int32} {x1 x2 x3 : Int32} {Q : Int32 → Int32 → Int32 → (Nat → Int32) → (Nat → Int32) → (Nat → Int32) → Prop} (h : ∀ co fu f' w', Q (ansR (sp_between n G x1 x2 x3)) co fu f' w' (rfA rf (sp_between n G x1 x2 x3))) : q_X4_between (nI n) (nI n) (nI (2 ^ n - 1)) f w tc tf to tw rf x1 x2 x3 Q := by
  have hlen := hG.2.2.1
  have no : sp_between n G x1 x2 x3 = .inl 1 → q_X4_refuse rf ((-1) : Int32) (fun r5 g4 => Q r5 tc tf to tw g4) := fun e => by
    rw [e] at h
    exact d_refuse (k := 1) (by omega) (by omega) (by decide) (h _ _ _ _)
  have none1 : ∀ y1 y2, two n y1 y2 = none → (ix y1 n = none ∨ ix y2 n = none ∨ ∃ a, ix y1 n = some a ∧ ix y2 n = some a) := by
    intro y1 y2 e
    unfold two at e
    cases h1 : ix y1 n with
    | none => exact Or.inl rfl
    | some a =>
      cases h2 : ix y2 n with
      | none => exact Or.inr (Or.inl rfl)
      | some b =>
        rw [h1, h2] at e
        simp only at e
        by_cases q : a = b
        · subst q; exact Or.inr (Or.inr ⟨a, rfl, rfl⟩)
        · rw [if_neg q] at e; cases e
  unfold q_X4_between
  refine d_areTwo hn ⟨fun q => no ?_, fun q1 => d_areTwo hn ⟨fun q => no ?_, fun q2 => d_areTwo hn ⟨fun q3 => ?_, fun q => no ?_⟩⟩⟩
  · have e : two n x1 x2 = none := by cases hx : two n x1 x2 with | none => rfl | some _ => rw [hx] at q; cases q
    unfold sp_between
    rcases none1 _ _ e with e | e | ⟨a, e1, e2⟩
    · rw [e]
    · rw [e]; cases ix x1 n <;> rfl
    · rw [e1, e2]; cases ix x3 n with | none => rfl | some c => simp
  · have e : two n x2 x3 = none := by cases hx : two n x2 x3 with | none => rfl | some _ => rw [hx] at q; cases q
    unfold sp_between
    rcases none1 _ _ e with e | e | ⟨a, e1, e2⟩
    · rw [e]; cases ix x1 n <;> rfl
    · rw [e]; cases ix x1 n <;> cases ix x2 n <;> rfl
    · rw [e1, e2]; cases ix x1 n with | none => rfl | some c => simp
  · obtain ⟨ab, e1⟩ := Option.isSome_iff_exists.mp q1
    obtain ⟨bc, e2⟩ := Option.isSome_iff_exists.mp q2
    obtain ⟨ac, e3⟩ := Option.isSome_iff_exists.mp q3
    obtain ⟨a, b⟩ := ab
    obtain ⟨b', c⟩ := bc
    obtain ⟨a', c'⟩ := ac
    obtain ⟨ha, hb, hab, rfl, rfl⟩ := two_some hn e1
    obtain ⟨hb', hc, hbc, ebb, rfl⟩ := two_some hn e2
    obtain ⟨ha', hc', hac, eaa, ecc⟩ := two_some hn e3
    have : b = b' := (nI_eq (by omega) (by omega)).mp ebb
    subst this
    have : a = a' := (nI_eq (by omega) (by omega)).mp eaa
    subst this
    have : c = c' := (nI_eq (by omega) (by omega)).mp ecc
    subst this
    have es : sp_between n G (nI a) (nI b) (nI c) = .inr (told (cP (bw a b c) G) G.length) := by
      unfold sp_between
      rw [ix_nI ha (by omega), ix_nI hb (by omega), ix_nI hc (by omega)]
      simp only
      rw [if_neg (by rintro (q | q | q) <;> contradiction)]
    rw [es] at h
    refine p_copy hn (fun f1 w1 hf1 hw1 => p_putBetween hn ha hb hc (fun f2 hf2 => ?_))
    obtain ⟨hg3, hW⟩ := narrow_ok hn hR.1 hR.2.1 (f3 := f2) (gate := fun S k => !(decide (S.testBit a = S.testBit c) && decide (k = b))) (fun S hS k hk => by rw [hf2 S hS k hk, hf1 S hS])
    refine p_reckon h1 hn hg3 (fun w4 _ => ?_)
    have e : (G.filter (along (fun S k => !(decide (S.testBit a = S.testBit c) && decide (k = b))) 0)).length = cP (bw a b c) G := by
      unfold cP
      congr 1
      exact List.filter_congr (fun l hl => along_bw hn (hG.1 l hl) ha hb hc hab hbc)
    rw [hW, e]
    have := cP_le (bw a b c) G
    exact d_verdict (by omega) (by omega) hR.2.2.1 (h _ _ _ _)
  · have e : two n x1 x3 = none := by cases hx : two n x1 x3 with | none => rfl | some _ => rw [hx] at q; cases q
    unfold sp_between
    rcases none1 _ _ e with e | e | ⟨a, e1, e2⟩
    · rw [e]
    · rw [e]; cases ix x1 n <;> cases ix x2 n <;> rfl
    · rw [e1, e2]; cases ix x2 n with | none => rfl | some c => simp
theorem along_end {n : Nat} (h1 : 1 ≤ n) (hn : n ≤ 8) {l : List Nat} (hl : l ∈ P n) {a : Nat} (ha : a < n) : along (fun S c => decide (S = 0) || decide (S = rmv (2 ^ n - 1) a) || !decide (c = a)) 0 l = atEnd n a l := by
  have hrow := P_row hl
  have hf : 2 ^ n - 1 < 256 := by have := pow_le8 hn; have := Nat.two_pow_pos n; omega
  obtain ⟨l1, l2, e⟩ := List.append_of_mem (P_mem hn hl ha)
  have hnd : (l1 ++ a :: l2).Nodup := by rw [← e]; exact hrow.2.2
  obtain ⟨hnd1, hnd2, hnd3⟩ := List.nodup_append.mp hnd
  have hlen : l1.length + (l2.length + 1) = n := by
    have := hrow.1
    rw [e, List.length_append, List.length_cons] at this
    exact this
  have c1 : setOf 0 l1 = 0 ↔ l1 = [] := by
    constructor
    · intro q
      refine List.eq_nil_iff_forall_not_mem.mpr (fun d hd => ?_)
      have := bit_setOf0 l1 d
      rw [q, decide_eq_true hd] at this
      simp at this
    · intro q
      rw [q]; rfl
  have c2 : setOf 0 l1 = rmv (2 ^ n - 1) a ↔ l2 = [] := by
    constructor
    · intro q
      refine List.eq_nil_iff_forall_not_mem.mpr (fun d hd => ?_)
      have hdn : d < n := hrow.2.1 d (by rw [e]; exact List.mem_append_right _ (List.mem_cons_of_mem _ hd))
      have hda : d ≠ a := fun z => (List.nodup_cons.mp hnd2).1 (z ▸ hd)
      have hd1 : d ∉ l1 := fun z => hnd3 d z d (List.mem_cons_of_mem _ hd) rfl
      have := bit_setOf0 l1 d
      rw [q, rmv_bit _ hf a (by omega) d (by omega), full_bit, decide_eq_false hd1] at this
      simp [hdn, hda] at this
    · intro q
      refine Nat.eq_of_testBit_eq (fun i => ?_)
      have hr : rmv (2 ^ n - 1) a < 2 ^ n := rmv_lt n (by omega) _ (by have := Nat.two_pow_pos n; omega) a (by omega)
      rw [bit_setOf0]
      rcases Nat.lt_or_ge i n with hi | hi
      · rw [rmv_bit _ hf a (by omega) i (by omega), full_bit]
        by_cases hia : i = a
        · subst hia
          have : i ∉ l1 := fun z => hnd3 i z i List.mem_cons_self rfl
          simp [this]
        · have : i ∈ l1 := by
            have hm := P_mem hn hl hi
            rw [e, q] at hm
            rcases List.mem_append.mp hm with z | z
            · exact z
            · exact absurd (List.mem_singleton.mp z) hia
          simp [this, hia, hi]
      · rw [bit_lt hr hi]
        refine decide_eq_false (fun z => ?_)
        have := hrow.2.1 i (by rw [e]; exact List.mem_append_left _ z)
        omega
  have g0 : l.getD 0 0 = a ↔ l1 = [] := by
    rw [e]
    cases l1 with
    | nil => simp
    | cons d l1 =>
      simp
      intro z
      exact hnd3 d List.mem_cons_self a List.mem_cons_self z
  have g1 : l.getD (n - 1) 0 = a ↔ l2 = [] := by
    have h2 : l.getD (n - 1) 0 = (a :: l2).getD l2.length 0 := by
      rw [e, List.getD_eq_getElem?_getD, List.getD_eq_getElem?_getD, List.getElem?_append_right (by omega)]
      congr 2
      omega
    rw [h2]
    cases l2 with
    | nil => simp
    | cons d l2 =>
      refine ⟨fun z => ?_, fun z => by cases z⟩
      have hm : (a :: d :: l2).getD (d :: l2).length 0 ∈ d :: l2 := by
        rw [List.getD_eq_getElem?_getD, List.length_cons, List.getElem?_cons_succ, List.getElem?_eq_getElem (by simp)]
        exact List.getElem_mem _
      rw [z] at hm
      exact absurd hm (List.nodup_cons.mp hnd2).1
  have key : along (fun S c => decide (S = 0) || decide (S = rmv (2 ^ n - 1) a) || !decide (c = a)) 0 l = true ↔ (l1 = [] ∨ l2 = []) := by
    rw [along_iff]
    constructor
    · intro hall
      have h2 := hall l1 a l2 e
      simp only [Bool.or_eq_true, decide_eq_true_iff, decide_true, Bool.not_true] at h2
      rcases h2 with (q | q) | q
      · exact Or.inl (c1.mp q)
      · exact Or.inr (c2.mp q)
      · cases q
    · intro hor k1 c k2 e2
      by_cases hca : c = a
      · subst hca
        have hi1 := (idx_split (a := c) hnd).1
        have hnd4 : (k1 ++ c :: k2).Nodup := by rw [← e2]; exact hrow.2.2
        have hi2 := (idx_split (a := c) hnd4).1
        rw [← e] at hi1
        rw [← e2] at hi2
        have hk : k1 = l1 := by
          have : l1 ++ c :: l2 = k1 ++ c :: k2 := by rw [← e, ← e2]
          exact (List.append_inj this (by omega)).1.symm
        subst hk
        rcases hor with q | q
        · simp [c1.mpr q]
        · simp [c2.mpr q]
      · simp [hca]
  have key2 : atEnd n a l = true ↔ (l1 = [] ∨ l2 = []) := by
    unfold atEnd
    rw [Bool.or_eq_true, decide_eq_true_iff, decide_eq_true_iff, g0, g1]
  cases h3 : along (fun S c => decide (S = 0) || decide (S = rmv (2 ^ n - 1) a) || !decide (c = a)) 0 l <;> cases h4 : atEnd n a l
  · rfl
  · rw [key.mpr (key2.mp h4)] at h3; cases h3
  · rw [key2.mpr (key.mp h3)] at h4; cases h4
  · rfl
theorem d_ends {n : Nat} (h1 : 1 ≤ n) (hn : n ≤ 8) {f w rf : Nat → Int32} {G : List (List Nat)} (hR : Rw n f w G) (hG : GOk n G) {tc tf : Int32} {to tw : Nat → Int32} {x1 : Int32} {Q : Int32 → Int32 → Int32 → (Nat → Int32) → (Nat → Int32) → (Nat → Int32) → Prop} (h : ∀ co fu f' w', Q (ansR (sp_ends n G x1)) co fu f' w' (rfA rf (sp_ends n G x1))) : q_X4_ends (nI n) (nI n) (nI (2 ^ n - 1)) f w tc tf to tw rf x1 Q := by
  have hlen := hG.2.2.1
  unfold q_X4_ends
  refine d_isColumn hn ?_
  unfold sp_ends at h
  rcases ix_cases x1 (m := n) (by omega) with ⟨a, ha, rfl, e⟩ | ⟨hx, e⟩ | ⟨hx, hx2, e⟩
  · rw [e] at h ⊢
    refine ⟨fun _ => ?_, fun q => Bool.noConfusion q⟩
    refine p_copy hn (fun f1 w1 hf1 hw1 => p_putAtEnds h1 hn ha (fun f2 hf2 => ?_))
    obtain ⟨hg3, hW⟩ := narrow_ok hn hR.1 hR.2.1 (f3 := f2) (gate := fun S c => decide (S = 0) || decide (S = rmv (2 ^ n - 1) a) || !decide (c = a)) (fun S hS k hk => by rw [hf2 S hS k hk, hf1 S hS])
    refine p_reckon h1 hn hg3 (fun w4 _ => ?_)
    have e2 : (G.filter (along (fun S c => decide (S = 0) || decide (S = rmv (2 ^ n - 1) a) || !decide (c = a)) 0)).length = cP (atEnd n a) G := by
      unfold cP
      congr 1
      exact List.filter_congr (fun l hl => along_end h1 hn (hG.1 l hl) ha)
    rw [hW, e2]
    have := cP_le (atEnd n a) G
    exact d_verdict (by omega) (by omega) hR.2.2.1 (h _ _ _ _)
  · rw [e] at h ⊢
    exact ⟨fun q => Bool.noConfusion q, fun _ => d_refuse (k := 1) (by omega) (by omega) (by decide) (h _ _ _ _)⟩
  · rw [e] at h ⊢
    exact ⟨fun q => Bool.noConfusion q, fun _ => d_refuse (k := 1) (by omega) (by omega) (by decide) (h _ _ _ _)⟩
theorem idx_ne {c b : Nat} {l : List Nat} (h : c ≠ b) : (c :: l).idxOf b = l.idxOf b + 1 := by
  rw [List.idxOf_cons, beq_false_of_ne h]
  rfl
theorem cost_both {n a b : Nat} (hn : n ≤ 8) (ha : a < n) (hb : b < n) (hab : a ≠ b) : ∀ (l : List Nat) (S : Nat), S < 2 ^ n → (∀ c ∈ l, c < n) → S.testBit a = true → S.testBit b = true → cost (fun S => if card (S &&& (2 ^ a ||| 2 ^ b)) = 1 then 1 else 0) S l = 0
  | [], _, _, _, _, _ => rfl
  | c :: l, S, hS, hc, q1, q2 => by
    rw [cost, cost_both hn ha hb hab l (ins S c) (ins_lt hS (hc c List.mem_cons_self)) (fun d hd => hc d (List.mem_cons_of_mem _ hd)) (by rw [ins_bit, q1]; rfl) (by rw [ins_bit, q2]; rfl), if_neg]
    rw [one_of S (nIs hn hS) a (by omega) b (by omega) hab, q1, q2]
    simp
theorem cost_one {n a b : Nat} (hn : n ≤ 8) (ha : a < n) (hb : b < n) (hab : a ≠ b) : ∀ (l : List Nat) (S : Nat), S < 2 ^ n → (∀ c ∈ l, c < n) → S.testBit a = true → S.testBit b = false → b ∈ l → cost (fun S => if card (S &&& (2 ^ a ||| 2 ^ b)) = 1 then 1 else 0) S l = l.idxOf b + 1
  | [], _, _, _, _, _, h => by cases h
  | c :: l, S, hS, hc, q1, q2, hm => by
    have hl := ins_lt hS (hc c List.mem_cons_self)
    have hc2 : ∀ d ∈ l, d < n := fun d hd => hc d (List.mem_cons_of_mem _ hd)
    have hone : card (S &&& (2 ^ a ||| 2 ^ b)) = 1 := by
      rw [one_of S (nIs hn hS) a (by omega) b (by omega) hab, q1, q2]
      simp
    have q1' : (ins S c).testBit a = true := by rw [ins_bit, q1]; rfl
    rw [cost, if_pos hone]
    by_cases hcb : c = b
    · subst hcb
      rw [cost_both hn ha hb hab l (ins S c) hl hc2 q1' (by rw [ins_bit]; simp), List.idxOf_cons_self]
    · have hbl : b ∈ l := by
        rcases List.mem_cons.mp hm with z | z
        · exact absurd z.symm hcb
        · exact z
      rw [cost_one hn ha hb hab l (ins S c) hl hc2 q1' (by rw [ins_bit, q2]; simp [Ne.symm hcb]) hbl, idx_ne hcb]
      omega
theorem pair_comm (a b : Nat) : 2 ^ a ||| 2 ^ b = 2 ^ b ||| 2 ^ a := Nat.or_comm _ _
theorem cost_none {n a b : Nat} (hn : n ≤ 8) (ha : a < n) (hb : b < n) (hab : a ≠ b) : ∀ (l : List Nat) (S : Nat), S < 2 ^ n → (∀ c ∈ l, c < n) → S.testBit a = false → S.testBit b = false → a ∈ l → b ∈ l → cost (fun S => if card (S &&& (2 ^ a ||| 2 ^ b)) = 1 then 1 else 0) S l = dst a b l
  | [], _, _, _, _, _, h, _ => by cases h
  | c :: l, S, hS, hc, q1, q2, hma, hmb => by
    have hl := ins_lt hS (hc c List.mem_cons_self)
    have hc2 : ∀ d ∈ l, d < n := fun d hd => hc d (List.mem_cons_of_mem _ hd)
    have hzero : ¬ card (S &&& (2 ^ a ||| 2 ^ b)) = 1 := by
      rw [one_of S (nIs hn hS) a (by omega) b (by omega) hab, q1, q2]
      simp
    rw [cost, if_neg hzero, Nat.zero_add]
    unfold dst
    by_cases hca : c = a
    · subst hca
      have hbl : b ∈ l := by
        rcases List.mem_cons.mp hmb with z | z
        · exact absurd z.symm hab
        · exact z
      rw [cost_one hn ha hb hab l (ins S c) hl hc2 (by rw [ins_bit]; simp) (by rw [ins_bit, q2]; simp [Ne.symm hab]) hbl, List.idxOf_cons_self, idx_ne hab]
      simp
    · have hal : a ∈ l := by
        rcases List.mem_cons.mp hma with z | z
        · exact absurd z.symm hca
        · exact z
      by_cases hcb : c = b
      · subst hcb
        have := cost_one hn hb ha (Ne.symm hab) l (ins S c) hl hc2 (by rw [ins_bit]; simp) (by rw [ins_bit, q1]; simp [hab]) hal
        rw [pair_comm] at this
        rw [this, List.idxOf_cons_self, idx_ne hca]
        simp
      · have hbl : b ∈ l := by
          rcases List.mem_cons.mp hmb with z | z
          · exact absurd z.symm hcb
          · exact z
        rw [cost_none hn ha hb hab l (ins S c) hl hc2 (by rw [ins_bit, q1]; simp [Ne.symm hca]) (by rw [ins_bit, q2]; simp [Ne.symm hcb]) hal hbl, idx_ne hca, idx_ne hcb]
        unfold dst
        simp only [Nat.add_le_add_iff_right]
        split <;> omega
theorem d_apart {n : Nat} (h1 : 1 ≤ n) (hn : n ≤ 8) {f w rf : Nat → Int32} {G : List (List Nat)} (hR : Rw n f w G) (hG : GOk n G) {tc tf : Int32} {to tw : Nat → Int32} {x1 x2 x3 : Int32} {Q : Int32 → Int32 → Int32 → (Nat → Int32) → (Nat → Int32) → (Nat → Int32) → Prop} (h : ∀ co fu f' w', Q (ansR (sp_apart n G x1 x2 x3)) co fu f' w' (rfA rf (sp_apart n G x1 x2 x3))) : q_X4_apart (nI n) (nI n) (nI (2 ^ n - 1)) f w tc tf to tw rf x1 x2 x3 Q := by
  have hlen := hG.2.2.1
  have h0 : 0 < 2 ^ n := Nat.two_pow_pos n
  unfold q_X4_apart
  refine d_areTwo hn ?_
  unfold sp_apart at h
  cases e : two n x1 x2 with
  | none =>
    rw [e] at h
    exact ⟨fun q => Bool.noConfusion q, fun _ => d_refuse (k := 1) (by omega) (by omega) (by decide) (h _ _ _ _)⟩
  | some ab =>
    obtain ⟨a, b⟩ := ab
    obtain ⟨ha1, hb1, hne, rfl, rfl⟩ := two_some hn e
    rw [e] at h
    refine ⟨fun _ => ?_, fun q => Bool.noConfusion q⟩
    refine p_copy hn (fun f1 w1 hf1 hw1 => ?_)
    rw [pair_int hn ha1 hb1]
    have hob : ∀ S, S < 2 ^ n → ∀ c, ob f1 S c = ob f S c := fun S hS c => by unfold ob; rw [hf1 S hS]
    have hg1 : Gr n (ob f1) := fun S hS c hc => hR.1 S hS c (by rw [← hob S hS c]; exact hc)
    have hp1 : paths n (ob f1) n 0 = G := by rw [← hR.2.1]; exact paths_congr (fun S hS c _ => hob S hS c) n 0 h0
    have hl1 : Live n (ob f1) G := fun S hS c hc => hR.2.2.2.2 S hS c (by rw [← hob S hS c]; exact hc)
    refine p_distance h1 hn hg1 hp1 hl1 hG.2.1 (pair_lt ha1 hb1) (fun v w' hv => ?_)
    have em : G.map (cost (fun S => if card (S &&& (2 ^ a ||| 2 ^ b)) = 1 then 1 else 0) 0) = G.map (dst a b) := by
      refine List.map_congr_left (fun l hl => ?_)
      have hm := hG.1 l hl
      exact cost_none hn ha1 hb1 hne l 0 h0 (P_row hm).2.1 (by simp) (by simp) (P_mem hn hm ha1) (P_mem hn hm hb1)
    rw [em] at hv
    rw [ext_val hv]
    exact h _ _ _ _
