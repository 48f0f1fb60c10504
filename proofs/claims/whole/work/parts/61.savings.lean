/-! SAVINGS: what lines save, and what lies ahead. -/
theorem ix8 (a b : Nat) : nI a * 8 + nI b = nI (a * 8 + b) := by
  rw [show (8 : Int32) = nI 8 from rfl, pk_mul, nI_add]
theorem ix9 (a b : Nat) : nI a * 9 + nI b = nI (a * 9 + b) := by
  rw [show (9 : Int32) = nI 9 from rfl, pk_mul, nI_add]
theorem card_pos {s : Nat} (hs : s < 256) (h : s ≠ 0) : 1 ≤ card s := by
  obtain ⟨i, hi⟩ := Nat.exists_testBit_of_ne_zero h
  refine fb_ct_pos.mpr ⟨i, ?_, hi⟩
  rcases Nat.lt_or_ge i 8 with z | z
  · exact z
  · rw [bit_lt (n := 8) hs z] at hi; cases hi
/-- what one line adds -/
def ad1 (s w a b : Nat) : Nat := if a < 8 ∧ a ≠ b ∧ s.testBit a = true ∧ s.testBit b = true then w else 0
theorem p_addLine {s w u : Nat} (hs : s < 256) (h0 : s ≠ 0) {sa : Nat → Int32} {Q : Int32 → (Nat → Int32) → Prop} (h : ∀ sa' : Nat → Int32, (∀ a b, a < 9 → b < 8 → sa' (a * 8 + b) = sa (a * 8 + b) + nI (ad1 s w a b)) → Q (nI (u + w * (card s - 1))) sa') : q_X2_addLine (nI u) sa (nI s) (nI w) Q := by
  unfold q_X2_addLine
  have hc := card_pos hs h0
  refine p_bitCount hs ?_
  rw [show (1 : Int32) = nI 1 from rfl, pk_sub hc, pk_mul, nI_add]
  refine up2 (fun N x c => q_X2_addLine_L19 (nI s) (nI w) (nI (u + w * (card s - 1))) Q N x c) (fun a c => ∀ a' b', a' < 9 → b' < 8 → c (a' * 8 + b') = if a' < a then sa (a' * 8 + b') + nI (ad1 s w a' b') else sa (a' * 8 + b')) 8 ?_ 0 sa (Nat.zero_le _) (fun a' b' _ _ => by rw [if_neg (Nat.not_lt_zero _)])
  intro m a c ha hI ih
  rw [q_X2_addLine_L19]
  refine ⟨fun hx => ?_, fun hx => ?_⟩
  · rw [show (8 : Int32) = nI 8 from rfl, nI_leI (by omega) (by omega)] at hx
    refine h c (fun a' b' h1 h2 => ?_)
    rw [hI a' b' h1 h2]
    by_cases q : a' < a
    · rw [if_pos q]
    · rw [if_neg q]
      have : ad1 s w a' b' = 0 := if_neg (by omega)
      rw [this]; exact (Int32.add_zero _).symm
  · rw [show (8 : Int32) = nI 8 from rfl, nI_leI (by omega) (by omega)] at hx
    have hlt : a < 8 := by omega
    refine up2 (fun N x c => q_X2_addLine_L28 (nI s) (nI w) (nI a) (fun y0 y1 => q_X2_addLine_L19 (nI s) (nI w) (nI (u + w * (card s - 1))) Q m y0 y1) N x c) (fun b c => ∀ a' b', a' < 9 → b' < 8 → c (a' * 8 + b') = if a' < a ∨ (a' = a ∧ b' < b) then sa (a' * 8 + b') + nI (ad1 s w a' b') else sa (a' * 8 + b')) 8 ?_ 0 c (Nat.zero_le _) (fun a' b' h1 h2 => ?_)
    · intro m2 b c hb hI ih2
      rw [q_X2_addLine_L28]
      refine ⟨fun hx => ?_, fun hx => ?_⟩
      · rw [show (8 : Int32) = nI 8 from rfl, nI_leI (by omega) (by omega)] at hx
        show q_X2_addLine_L19 _ _ _ Q m (nI a + 1) c
        rw [nI_1]
        refine ih c hlt (fun a' b' h1 h2 => ?_)
        rw [hI a' b' h1 h2]
        by_cases q : a' < a + 1
        · rw [if_pos q, if_pos (by omega)]
        · rw [if_neg q, if_neg (by omega)]
      · rw [show (8 : Int32) = nI 8 from rfl, nI_leI (by omega) (by omega)] at hx
        have hbl : b < 8 := by omega
        rw [nI_1, nI_eq (by omega) (by omega), sh1 _ (by omega), sh1 _ (by omega), bI_eq1, bI_eq1, bt_nI s (by omega), bt_nI s (by omega), ix8, nI_clamp (by omega)]
        -- nothing is added
        have skip : ad1 s w a b = 0 → q_X2_addLine_L28 (nI s) (nI w) (nI a) (fun y0 y1 => q_X2_addLine_L19 (nI s) (nI w) (nI (u + w * (card s - 1))) Q m y0 y1) m2 (nI (b + 1)) c := fun hz => ih2 c hbl (fun a' b' h1 h2 => by
          rw [hI a' b' h1 h2]
          by_cases q : a' = a ∧ b' = b
          · obtain ⟨rfl, rfl⟩ := q
            rw [if_neg (by omega), if_pos (by omega), hz]
            exact (Int32.add_zero _).symm
          · by_cases q2 : a' < a ∨ (a' = a ∧ b' < b)
            · rw [if_pos q2, if_pos (by omega)]
            · rw [if_neg q2, if_neg (by omega)])
        refine ⟨fun q => skip (if_neg (fun z => z.2.1 q)), fun q => ⟨fun q2 => skip (if_neg (fun z => q2 z.2.2.1)), fun q2 => ⟨fun q3 => skip (if_neg (fun z => q3 z.2.2.2)), fun q3 => ⟨vp_in_nI (by omega) (by omega), ih2 _ hbl (fun a' b' h1 h2 => ?_)⟩⟩⟩⟩
        by_cases e : a' * 8 + b' = a * 8 + b
        · have e1 : a' = a := by omega
          have e2 : b' = b := by omega
          subst e1; subst e2
          rw [pk_us, hI a' b' h1 h2, if_neg (by omega), if_pos (by omega)]
          congr 1
          rw [show ad1 s w a' b' = w from if_pos ⟨hlt, q, q2, q3⟩]
        · rw [pk_un e, hI a' b' h1 h2]
          by_cases q2 : a' < a ∨ (a' = a ∧ b' < b)
          · rw [if_pos q2, if_pos (by omega)]
          · rw [if_neg q2, if_neg (by omega)]
    · rw [hI a' b' h1 h2]
      by_cases q : a' < a
      · rw [if_pos q, if_pos (Or.inl q)]
      · rw [if_neg q, if_neg (by omega)]
theorem sv_succ (i : Nat) (sets sts wts : Nat → Nat) (a b : Nat) : sv (i + 1) sets sts wts a b = sv i sets sts wts a b + (if sts i = 1 then ad1 (sets i) (wts i) a b else 0) := by
  unfold sv ad1
  by_cases q : a < 8 ∧ a ≠ b
  · rw [if_pos q, if_pos q, fb_sm_succ]
    congr 1
    by_cases q2 : sts i = 1
    · simp [q2, q.1, q.2]
    · simp [q2]
  · rw [if_neg q, if_neg q]
    have : ¬ (a < 8 ∧ a ≠ b ∧ (sets i).testBit a = true ∧ (sets i).testBit b = true) := fun z => q ⟨z.1, z.2.1⟩
    rw [if_neg this]
    simp
/-- saved holds what neighbours save -/
def SavA (v : Nat → Nat → Nat) (sa : Nat → Int32) : Prop := ∀ a b, a < 9 → b < 8 → sa (a * 8 + b) = nI (v a b)
theorem p_weigh {n nl : Nat} {sets sts wts : Nat → Nat} (hW : WF n nl sets sts wts) {se st we : Nat → Int32} (hL : LA nl sets sts wts se st we) {u0 : Int32} {sa : Nat → Int32} {Q : Int32 → (Nat → Int32) → Prop} (h : ∀ sa', SavA (sv nl sets sts wts) sa' → Q (nI (us nl sets sts wts)) sa') : q_X2_weigh u0 sa (nI nl) se st we Q := by
  obtain ⟨h1, hn, hnl, hk, -⟩ := hW
  unfold q_X2_weigh
  refine up2 (fun N x c => q_X2_weigh_L7 0 (nI nl) se st we Q N x c) (fun i c => ∀ j, j < i → c j = 0) 72 ?_ 0 sa (Nat.zero_le _) (fun j hj => absurd hj (Nat.not_lt_zero j))
  intro m i c hi hI ih
  rw [q_X2_weigh_L7]
  refine ⟨fun hx => ?_, fun hx => ?_⟩
  · rw [show (72 : Int32) = nI 72 from rfl, nI_leI (by omega) (by omega)] at hx
    have e : i = 72 := by omega
    subst e
    unfold q_X2_weigh_J26
    refine up3 (fun N x u c => q_X2_weigh_L28 (nI nl) se st we Q N x u c) (fun i u c => u = nI (us i sets sts wts) ∧ SavA (sv i sets sts wts) c) nl ?_ 0 0 c (Nat.zero_le _) ⟨rfl, fun a b h1 h2 => ?_⟩
    · intro m2 i u c hi hI ih
      obtain ⟨rfl, hI⟩ := hI
      rw [q_X2_weigh_L28]
      refine ⟨fun hx => ?_, fun hx => ⟨?_, ?_⟩⟩
      · rw [nI_leI (by omega) (by omega)] at hx
        have e : i = nl := by omega
        subst e
        exact h c hI
      · rw [nI_leI (by omega) (by omega)] at hx
        exact vp_in_nI (by omega) (by omega)
      · rw [nI_leI (by omega) (by omega)] at hx
        have hlt : i < nl := by omega
        obtain ⟨e1, e2, e3⟩ := hL i hlt
        rw [nI_clamp (by omega), e1, e2, e3, show (1 : Int32) = nI 1 from rfl, st_eq (hk i hlt).2.1 (by omega), nI_add]
        refine ⟨fun q => ih _ _ hlt ⟨?_, fun a b h1 h2 => ?_⟩, fun q => p_addLine (nIs hn (hk i hlt).1) ((hk i hlt).2.2.2 q) (fun sa' hsa => ih _ _ hlt ⟨?_, fun a b h1 h2 => ?_⟩)⟩
        · unfold us; rw [fb_sm_succ, if_neg q]; rfl
        · rw [hI a b h1 h2, sv_succ, if_neg q]; rfl
        · unfold us; rw [fb_sm_succ, if_pos q]
        · rw [hsa a b h1 h2, hI a b h1 h2, sv_succ, if_pos q, nI_add]
    · rw [hI _ (by omega)]
      unfold sv
      split <;> rfl
  · rw [show (72 : Int32) = nI 72 from rfl, nI_leI (by omega) (by omega)] at hx
    rw [nI_1]
    refine ⟨vp_in_nI (by omega) (by omega), ih _ (by omega) (fun j hj => ?_)⟩
    rw [nI_clamp (by omega)]
    by_cases e : j = i
    · subst e; rw [pk_us]
    · rw [pk_un e]; exact hI j (by omega)
/-! what lies ahead -/
theorem maxI {a b : Nat} (ha : a < 2 ^ 31) (hb : b < 2 ^ 31) : (if nI a < nI b then nI b else nI a) = nI (max a b) := by
  by_cases q : a < b
  · rw [if_pos ((nI_ltI ha hb).mpr q), Nat.max_eq_right (by omega)]
  · rw [if_neg (fun z => q ((nI_ltI ha hb).mp z)), Nat.max_eq_left (by omega)]
theorem minI {a b : Nat} (ha : a < 2 ^ 31) (hb : b < 2 ^ 31) : (if nI b < nI a then nI b else nI a) = nI (min a b) := by
  by_cases q : b < a
  · rw [if_pos ((nI_ltI hb ha).mpr q), Nat.min_eq_right (by omega)]
  · rw [if_neg (fun z => q ((nI_ltI hb ha).mp z)), Nat.min_eq_left (by omega)]
theorem nI_m9 {a : Nat} (ha : a < 2 ^ 31) : ¬ nI a = -9 := fun q => by
  have h9 : (nI a).toInt = (a : Int) := nI_toInt ha
  rw [q] at h9
  have : ((-9 : Int32)).toInt = -9 := by decide
  omega
/-- the most and the least of the next columns -/
def Two (n : Nat) (g : Nat → Bool) (d e : Nat → Nat) (hi lo : Nat) : Prop := ((∀ c, c < n → g c = false) ∧ hi = 0 ∧ lo = 0) ∨ ((∃ c, c < n ∧ g c = true ∧ hi = d c) ∧ (∀ c, c < n → g c = true → d c ≤ hi) ∧ (∃ c, c < n ∧ g c = true ∧ lo = e c) ∧ ∀ c, c < n → g c = true → lo ≤ e c)
theorem p_lookAheadFrom {n : Nat} (hn : n ≤ 8) {f sa mo le : Nat → Int32} {v : Nat → Nat → Nat} (hv : ∀ a b, v a b ≤ 4000) (hsa : SavA v sa) {S a : Nat} (hS : S < 2 ^ n) (ha : a < 9) (dh dl : Nat → Nat) (hd : ∀ c, c < n → ob f S c = true → mo (ins S c * 9 + c) = nI (dh c) ∧ le (ins S c * 9 + c) = nI (dl c) ∧ dh c ≤ 100000 ∧ dl c ≤ 100000) {Q : (Nat → Int32) → (Nat → Int32) → Prop} (h : ∀ hi lo, Two n (ob f S) (fun c => v a c + dh c) (fun c => v a c + dl c) hi lo → Q (upd mo (S * 9 + a) (nI hi)) (upd le (S * 9 + a) (nI lo))) : q_X2_lookAheadFrom sa mo le (nI n) f (nI S) (nI a) Q := by
  have h8 := pow_le8 hn
  unfold q_X2_lookAheadFrom
  refine up3 (fun N x y z => q_X2_lookAheadFrom_L10 (nI S) (nI a) sa mo le (nI n) f Q N y z x) (fun i y z => ((∀ c, c < i → ob f S c = false) ∧ y = nI 0 ∧ z = -9) ∨ ∃ hi lo, hi ≤ 200000 ∧ lo ≤ 200000 ∧ y = nI hi ∧ z = nI lo ∧ (∃ c, c < i ∧ ob f S c = true ∧ hi = v a c + dh c) ∧ (∀ c, c < i → ob f S c = true → v a c + dh c ≤ hi) ∧ (∃ c, c < i ∧ ob f S c = true ∧ lo = v a c + dl c) ∧ ∀ c, c < i → ob f S c = true → lo ≤ v a c + dl c) n ?_ 0 0 (-9) (Nat.zero_le _) (Or.inl ⟨fun c hc => absurd hc (Nat.not_lt_zero c), rfl, rfl⟩)
  intro m i y z hi hI ih
  rw [q_X2_lookAheadFrom_L10]
  refine ⟨fun hx => ?_, fun hx => ?_⟩
  · rw [nI_leI (by omega) (by omega)] at hx
    have e : i = n := by omega
    subst e
    unfold q_X2_lookAheadFrom_J117
    rw [ix9, nI_clamp (by omega)]
    refine ⟨vp_in_nI (by omega) (by omega), ?_⟩
    rcases hI with ⟨hno, rfl, rfl⟩ | ⟨hi', lo, hh, hl, rfl, rfl, q1, q2, q3, q4⟩
    · rw [show (if (-9 : Int32) < 0 then (0 : Int32) else -9) = nI 0 from by decide]
      exact h 0 0 (Or.inl ⟨hno, rfl, rfl⟩)
    · rw [if_neg (nI_pos (by omega))]
      exact h hi' lo (Or.inr ⟨q1, q2, q3, q4⟩)
  · rw [nI_leI (by omega) (by omega)] at hx
    have hlt : i < n := by omega
    have hins := ins_lt hS hlt
    rw [nI_1]
    refine p_mayFollow (by omega) (by omega) ⟨fun hb => ih y z hlt ?_, fun hb => ?_⟩
    · have hob : ob f S i = false := hb
      rcases hI with ⟨hno, e1, e2⟩ | ⟨hi', lo, hh, hl, e1, e2, ⟨c1, b1, b2, b3⟩, q2, ⟨c2, b4, b5, b6⟩, q4⟩
      · refine Or.inl ⟨fun c hc => ?_, e1, e2⟩
        by_cases q : c = i
        · subst q; exact hob
        · exact hno c (by omega)
      · refine Or.inr ⟨hi', lo, hh, hl, e1, e2, ⟨c1, by omega, b2, b3⟩, fun c hc hc2 => ?_, ⟨c2, by omega, b5, b6⟩, fun c hc hc2 => ?_⟩
        · by_cases q : c = i
          · subst q; rw [hob] at hc2; cases hc2
          · exact q2 c (by omega) hc2
        · by_cases q : c = i
          · subst q; rw [hob] at hc2; cases hc2
          · exact q4 c (by omega) hc2
    · have hob : ob f S i = true := hb
      obtain ⟨d1, d2, d3, d4⟩ := hd i hlt hob
      have hvi := hv a i
      rw [ix8, nI_clamp (by omega), or_ins S (by omega), ix9]
      refine ⟨vp_in_nI (by omega) (by omega), ?_⟩
      intro x7 e7 x8 e8
      rw [e8, nI_clamp (by omega), d1, d2, e7, hsa a i ha (by omega), nI_add, nI_add]
      refine ⟨vp_in_nI (by omega) (by omega), ?_⟩
      intro y' ey
      rcases hI with ⟨hno, rfl, rfl⟩ | ⟨hi', lo, hh, hl, rfl, rfl, ⟨c1, b1, b2, b3⟩, q2, ⟨c2, b4, b5, b6⟩, q4⟩
      · rw [maxI (by omega) (by omega)] at ey
        refine ⟨fun q => absurd rfl q, fun _ z' ez => ih _ _ hlt (Or.inr ⟨v a i + dh i, v a i + dl i, by omega, by omega, ?_, ez, ⟨i, by omega, hob, rfl⟩, fun c hc hc2 => ?_, ⟨i, by omega, hob, rfl⟩, fun c hc hc2 => ?_⟩)⟩
        · rw [ey, Nat.zero_max]
        · by_cases q : c = i
          · subst q; exact Nat.le_refl _
          · rw [hno c (by omega)] at hc2; cases hc2
        · by_cases q : c = i
          · subst q; exact Nat.le_refl _
          · rw [hno c (by omega)] at hc2; cases hc2
      · rw [maxI (by omega) (by omega)] at ey
        refine ⟨fun q z' ez => ?_, fun q => absurd q (nI_m9 (by omega))⟩
        rw [minI (by omega) (by omega)] at ez
        refine ih _ _ hlt (Or.inr ⟨max hi' (v a i + dh i), min lo (v a i + dl i), by omega, by omega, ey, ez, ?_, fun c hc hc2 => ?_, ?_, fun c hc hc2 => ?_⟩)
        · rcases Nat.lt_or_ge hi' (v a i + dh i) with q | q
          · exact ⟨i, by omega, hob, by omega⟩
          · exact ⟨c1, by omega, b2, by omega⟩
        · by_cases q : c = i
          · subst q; omega
          · have := q2 c (by omega) hc2; omega
        · rcases Nat.lt_or_ge (v a i + dl i) lo with q | q
          · exact ⟨i, by omega, hob, by omega⟩
          · exact ⟨c2, by omega, b5, by omega⟩
        · by_cases q : c = i
          · subst q; omega
          · have := q4 c (by omega) hc2; omega
/-- what most and least hold at a set and its last column -/
def Mo (v : Nat → Nat → Nat) (n : Nat) (f mo le : Nat → Int32) (S a : Nat) : Prop := paths n (ob f) (n - card S) S ≠ [] → ∃ hi lo, mo (S * 9 + a) = nI hi ∧ le (S * 9 + a) = nI lo ∧ hi ≤ 4000 * (n - card S) ∧ IsExt False hi ((paths n (ob f) (n - card S) S).map (sav v a)) ∧ IsExt True lo ((paths n (ob f) (n - card S) S).map (sav v a))
theorem Mo_lo {v : Nat → Nat → Nat} {L : List (List Nat)} {a hi lo : Nat} (h1 : IsExt False hi (L.map (sav v a))) (h2 : IsExt True lo (L.map (sav v a))) : lo ≤ hi := (h1.2 lo h2.1).2 id
theorem p_look1 {n : Nat} (hn : n ≤ 8) {f sa mo le : Nat → Int32} {v : Nat → Nat → Nat} (hv : ∀ a b, v a b ≤ 4000) (hsa : SavA v sa) (hg : Gr n (ob f)) {G : List (List Nat)} (hp : paths n (ob f) n 0 = G) (hl : Live n (ob f) G) {S a : Nat} (hS : S < 2 ^ n) (ha : a < 9) (hd : ∀ c, c < n → ob f S c = true → Mo v n f mo le (ins S c) c) {Q : (Nat → Int32) → (Nat → Int32) → Prop} (h : ∀ mo' le', (∀ j, j ≠ S * 9 + a → mo' j = mo j ∧ le' j = le j) → Mo v n f mo' le' S a → Q mo' le') : q_X2_lookAheadFrom sa mo le (nI n) f (nI S) (nI a) Q := by
  have hnext : ∀ c, ∃ u : Nat × Nat, c < n → ob f S c = true → mo (ins S c * 9 + c) = nI u.1 ∧ le (ins S c * 9 + c) = nI u.2 ∧ u.1 ≤ 4000 * (n - card (ins S c)) ∧ IsExt False u.1 ((paths n (ob f) (n - card (ins S c)) (ins S c)).map (sav v c)) ∧ IsExt True u.2 ((paths n (ob f) (n - card (ins S c)) (ins S c)).map (sav v c)) := by
    intro c
    by_cases q : c < n ∧ ob f S c = true
    · obtain ⟨hi, lo, hh⟩ := hd c q.1 q.2 (live_next hn hg hp hl hS q.2).1
      exact ⟨(hi, lo), fun _ _ => hh⟩
    · exact ⟨(0, 0), fun q1 q2 => absurd ⟨q1, q2⟩ q⟩
  obtain ⟨d, hd⟩ := Classical.axiomOfChoice hnext
  refine p_lookAheadFrom hn hv hsa hS ha (fun c => (d c).1) (fun c => (d c).2) (fun c hc hob => ?_) (fun hi lo ht => ?_)
  · obtain ⟨e1, e2, e3, e4, e5⟩ := hd c hc hob
    have := Mo_lo e4 e5
    exact ⟨e1, e2, by omega, by omega⟩
  · refine h _ _ (fun j hj => ⟨pk_un hj, pk_un hj⟩) (fun hne => ?_)
    rcases ht with ⟨hno, rfl, rfl⟩ | ⟨⟨c1, b1, b2, b3⟩, q2, ⟨c2, b4, b5, b6⟩, q4⟩
    · refine ⟨0, 0, pk_us, pk_us, Nat.zero_le _, ?_⟩
      have hz : n - card S = 0 := by
        rcases hk : n - card S with _ | k
        · rfl
        · exfalso
          rw [hk] at hne
          obtain ⟨l, hl1⟩ := List.exists_mem_of_ne_nil _ hne
          obtain ⟨c, l', rfl, hc, hob, -⟩ := mem_paths.mp hl1
          rw [hno c hc] at hob
          cases hob
      rw [hz]
      refine ⟨⟨List.mem_cons_self, fun w hw => ?_⟩, ⟨List.mem_cons_self, fun w hw => ?_⟩⟩
      · have : w = 0 := by simpa [paths, sav] using hw
        subst this; exact ⟨fun z => z.elim, fun _ => Nat.le_refl _⟩
      · have : w = 0 := by simpa [paths, sav] using hw
        subst this; exact ⟨fun _ => Nat.le_refl _, fun z => absurd trivial z⟩
    · have hcl : card S < n := by
        rcases Nat.lt_or_ge (card S) n with z | z
        · exact z
        · exfalso
          have hle := card_le n (by omega) S hS
          have := full_of_card n (by omega) S hS (by omega)
          obtain ⟨-, hb⟩ := hg S hS c1 b2
          rw [this, full_bit] at hb
          simp [b1] at hb
      have hcd : ∀ e, ob f S e = true → n - card (ins S e) = n - card S - 1 := fun e he => by
        obtain ⟨he1, he2⟩ := hg S hS e he
        rw [card_ins S (nIs hn hS) e (by omega) he2]
        omega
      obtain ⟨-, -, t1, ⟨m1, -⟩, -⟩ := hd c1 b1 b2
      obtain ⟨-, -, -, -, ⟨m2, -⟩⟩ := hd c2 b4 b5
      rw [hcd c1 b2] at m1 t1
      rw [hcd c2 b5] at m2
      refine ⟨hi, lo, pk_us, pk_us, ?_, ?_⟩
      · have := hv a c1
        simp only at b3
        omega
      · rw [show n - card S = (n - card S - 1) + 1 by omega]
        refine ⟨⟨?_, fun w hw => ⟨fun z => z.elim, fun _ => ?_⟩⟩, ⟨?_, fun w hw => ⟨fun _ => ?_, fun z => absurd trivial z⟩⟩⟩
        · obtain ⟨l, hl1, hl2⟩ := List.mem_map.mp m1
          exact List.mem_map.mpr ⟨c1 :: l, mem_paths.mpr ⟨c1, l, rfl, b1, b2, hl1⟩, by rw [sav, hl2, b3]⟩
        · obtain ⟨l, hl1, rfl⟩ := List.mem_map.mp hw
          obtain ⟨c, l', rfl, hc, hob, hl'⟩ := mem_paths.mp hl1
          obtain ⟨-, -, -, ⟨-, hx⟩, -⟩ := hd c hc hob
          rw [hcd c hob] at hx
          have h5 := (hx _ (List.mem_map.mpr ⟨l', hl', rfl⟩)).2 id
          have h6 := q2 c hc hob
          simp only at h6
          rw [sav]
          omega
        · obtain ⟨l, hl1, hl2⟩ := List.mem_map.mp m2
          exact List.mem_map.mpr ⟨c2 :: l, mem_paths.mpr ⟨c2, l, rfl, b4, b5, hl1⟩, by rw [sav, hl2, b6]⟩
        · obtain ⟨l, hl1, rfl⟩ := List.mem_map.mp hw
          obtain ⟨c, l', rfl, hc, hob, hl'⟩ := mem_paths.mp hl1
          obtain ⟨-, -, -, -, ⟨-, hx⟩⟩ := hd c hc hob
          rw [hcd c hob] at hx
          have h5 := (hx _ (List.mem_map.mpr ⟨l', hl', rfl⟩)).1 trivial
          have h6 := q4 c hc hob
          simp only at h6
          rw [sav]
          omega
theorem Mo.keep {v : Nat → Nat → Nat} {n : Nat} {f mo le mo' le' : Nat → Int32} {S a : Nat} (h : Mo v n f mo le S a) (e : mo' (S * 9 + a) = mo (S * 9 + a) ∧ le' (S * 9 + a) = le (S * 9 + a)) : Mo v n f mo' le' S a := fun hne => by
  obtain ⟨hi, lo, e1, e2, hh⟩ := h hne
  exact ⟨hi, lo, by rw [e.1, e1], by rw [e.2, e2], hh⟩
theorem p_lookAhead {n : Nat} (h1 : 1 ≤ n) (hn : n ≤ 8) {f sa mo le : Nat → Int32} {v : Nat → Nat → Nat} (hv : ∀ a b, v a b ≤ 4000) (hsa : SavA v sa) (hg : Gr n (ob f)) {G : List (List Nat)} (hp : paths n (ob f) n 0 = G) (hl : Live n (ob f) G) {Q : (Nat → Int32) → (Nat → Int32) → Prop} (h : ∀ mo' le', (∀ S, S < 2 ^ n → ∀ c, c < n → S.testBit c = true → Mo v n f mo' le' S c) → Mo v n f mo' le' 0 8 → Q mo' le') : q_X2_lookAhead sa mo le (nI n) (nI (2 ^ n - 1)) f Q := by
  have h8 := pow_le8 hn
  have h0 : 2 ^ 1 ≤ 2 ^ n := Nat.pow_le_pow_right (by omega) h1
  unfold q_X2_lookAhead
  have e2 : nI (2 ^ n - 1) = nI (2 ^ n) + (-1) := by
    rw [show 2 ^ n = (2 ^ n - 1) + 1 by omega, pk_m1]
    rfl
  rw [e2]
  refine down2 (fun N x (a : (Nat → Int32) × (Nat → Int32)) => q_X2_lookAhead_L5 sa (nI n) f Q N x a.1 a.2) (fun j a => 1 ≤ j ∧ j ≤ 2 ^ n ∧ ∀ S, j ≤ S → S < 2 ^ n → ∀ c, c < n → S.testBit c = true → Mo v n f a.1 a.2 S c) ?_ (2 ^ n) (mo, le) ⟨by omega, Nat.le_refl _, fun S z1 z2 => absurd z2 (by omega)⟩
  intro m j a hI ih
  obtain ⟨j1, j2, hI⟩ := hI
  obtain ⟨j, rfl⟩ : ∃ j', j = j' + 1 := ⟨j - 1, by omega⟩
  have ih := fun b => ih j b rfl
  rw [q_X2_lookAhead_L5, pk_m1]
  refine ⟨fun hx => ?_, fun hx => ?_⟩
  · have ej : j = 0 := by
      rcases Nat.eq_zero_or_pos j with z | z
      · exact z
      · exact absurd hx (nI_nle z (by omega))
    subst ej
    unfold q_X2_lookAhead_J47
    refine p_look1 (S := 0) (a := 8) hn hv hsa hg hp hl (by omega) (by omega) (fun c hc hob => ?_) (fun mo' le' hk hm => ?_)
    · have hb := (hg 0 (by omega) c hob).2
      exact hI (ins 0 c) (ins_gt hb) (ins_lt (by omega) hc) c hc (by rw [ins_bit]; simp)
    · refine h mo' le' (fun S hS c hc hcS => ?_) hm
      have hS0 : S ≠ 0 := fun e => by rw [e] at hcS; simp at hcS
      exact (hI S (by omega) hS c hc hcS).keep (hk _ (by omega))
  · have hj0 : j ≠ 0 := fun e => hx (by rw [e]; decide)
    refine up3 (fun N x y z => q_X2_lookAhead_L11 (nI j) sa (nI n) f (fun y0 y1 y2 => q_X2_lookAhead_L5 sa (nI n) f Q m y0 y1 y2) N x y z) (fun i y z => (∀ S, j + 1 ≤ S → S < 2 ^ n → ∀ c, c < n → S.testBit c = true → Mo v n f y z S c) ∧ ∀ c, c < i → j.testBit c = true → Mo v n f y z j c) n ?_ 0 a.1 a.2 (Nat.zero_le _) ⟨hI, fun c hc => absurd hc (Nat.not_lt_zero c)⟩
    intro m2 i y z hi hI ih2
    obtain ⟨hI, hI2⟩ := hI
    rw [q_X2_lookAhead_L11]
    refine ⟨fun hx => ?_, fun hx => ?_⟩
    · rw [nI_leI (by omega) (by omega)] at hx
      have e : i = n := by omega
      subst e
      refine ih (y, z) ⟨by omega, by omega, fun S hS1 hS2 c hc hcS => ?_⟩
      by_cases e : S = j
      · subst e; exact hI2 c hc hcS
      · exact hI S (by omega) hS2 c hc hcS
    · rw [nI_leI (by omega) (by omega)] at hx
      have hlt : i < n := by omega
      rw [nI_1, sh1 _ (by omega), bI_eq1, bt_nI j (by omega)]
      refine ⟨fun q => ih2 _ _ hlt ⟨hI, fun c hc hcj => ?_⟩, fun q => ?_⟩
      · by_cases e : c = i
        · subst e; exact absurd hcj q
        · exact hI2 c (by omega) hcj
      · refine p_look1 hn hv hsa hg hp hl (by omega) (by omega) (fun c hc hob => ?_) (fun mo' le' hk hm => ?_)
        · have hb := (hg j (by omega) c hob).2
          exact hI (ins j c) (ins_gt hb) (ins_lt (by omega) hc) c hc (by rw [ins_bit]; simp)
        · refine ih2 _ _ hlt ⟨fun S hS1 hS2 c hc hcS => (hI S hS1 hS2 c hc hcS).keep (hk _ (by omega)), fun c hc hcj => ?_⟩
          by_cases e : c = i
          · subst e; exact hm
          · exact (hI2 c (by omega) hcj).keep (hk _ (by omega))
