/-! THE ROWS OF THE CLASS: what its methods do, over bits and ways. -/
theorem bt_nI (a : Nat) {i : Nat} (hi : i < 32) : bt (nI a) i = a.testBit i := by
  show (BitVec.ofNat 32 a).getLsbD i = _
  rw [BitVec.getLsbD_ofNat]
  simp [hi]
theorem one_shl : ∀ c, c < 31 → (1 : Int32) <<< (nI c &&& 31) = nI (2 ^ c) := by decide +kernel
theorem bt_1 : ∀ i, i < 32 → bt 1 i = decide (i = 0) := by decide +kernel
theorem bt_bI (b : Bool) : ∀ i, i < 32 → bt (bI b) i = (b && decide (i = 0)) := by cases b <;> decide +kernel
theorem sh1 (x : Int32) {c : Nat} (hc : c < 32) : (x >>> (nI c &&& 31)) &&& 1 = bI (bt x c) := by
  refine b_ext (fun i hi => ?_)
  rw [b_and, bt_1 i hi, bt_bI _ i hi, b_sshr c hc x hi]
  by_cases h : i = 0
  · subst h
    simp [hc]
  · simp [h]
theorem bI_eq1 {b : Bool} : bI b = 1 ↔ b = true := by cases b <;> decide
theorem bI_inj {a b : Bool} : bI a = bI b ↔ a = b := by cases a <;> cases b <;> decide
theorem or_ins (S : Nat) {c : Nat} (hc : c < 31) : nI S ||| ((1 : Int32) <<< (nI c &&& 31)) = nI (ins S c) := by rw [one_shl c hc, fa_or]; rfl
theorem and0 {a b : Nat} (ha : a < 2 ^ 31) : nI a &&& nI b = 0 ↔ a &&& b = 0 := by
  rw [fa_and, ← nI_0, nI_eq (Nat.lt_of_le_of_lt Nat.and_le_left ha) (by decide)]
theorem andn0 {a b : Nat} (ha : a < 2 ^ 31) : nI a &&& (nI b ^^^ (-1)) = 0 ↔ a &&& b = a := by
  constructor
  · intro h
    refine Nat.eq_of_testBit_eq (fun i => ?_)
    rw [Nat.testBit_and]
    rcases Nat.lt_or_ge i 32 with hi | hi
    · have h1 := congrArg (fun x => bt x i) h
      rw [b_and, b_xor, b_m1 i hi, b_0, bt_nI a hi, bt_nI b hi] at h1
      cases h2 : a.testBit i <;> cases h3 : b.testBit i <;> simp_all
    · rw [bit_lt ha (by omega)]
      simp
  · intro h
    refine b_ext (fun i hi => ?_)
    rw [b_and, b_xor, b_m1 i hi, b_0, bt_nI a hi, bt_nI b hi]
    have h1 := congrArg (fun x => Nat.testBit x i) h
    simp only [Nat.testBit_and] at h1
    cases h2 : a.testBit i <;> cases h3 : b.testBit i <;> simp_all
theorem bt_notbit (x : Int32) {c i : Nat} (hc : c < 31) (hi : i < 32) : bt (x &&& (((1 : Int32) <<< (nI c &&& 31)) ^^^ (-1))) i = (bt x i && !decide (i = c)) := by
  rw [one_shl c hc, b_and, b_xor, b_m1 i hi, bt_nI _ hi, Nat.testBit_two_pow]
  by_cases h : c = i
  · subst h; simp
  · simp [h, Ne.symm h]
theorem lt31 {S : Nat} (h : S < 256) : S < 2 ^ 31 := by omega
theorem nIs {n S : Nat} (hn : n ≤ 8) (hS : S < 2 ^ n) : S < 256 := Nat.lt_of_lt_of_le hS (pow_le8 hn)
/-! loops -/
theorem up1 (W : Nat → Int32 → Prop) (I : Nat → Prop) (e : Nat) (hs : ∀ m i, i ≤ e → I i → (i < e → I (i + 1) → W m (nI (i + 1))) → W (m + 1) (nI i)) : ∀ i, i ≤ e → I i → ∃ N, W N (nI i) := by
  have key : ∀ k i, i + k = e → I i → W (k + 1) (nI i) := by
    intro k
    induction k with
    | zero => intro i h hI; exact hs 0 i (by omega) hI (fun h2 => by omega)
    | succ k ih => intro i h hI; exact hs (k + 1) i (by omega) hI (fun _ h2 => ih (i + 1) (by omega) h2)
  exact fun i hi hI => ⟨_, key (e - i) i (by omega) hI⟩
theorem up2 {A : Type} (W : Nat → Int32 → A → Prop) (I : Nat → A → Prop) (e : Nat) (hs : ∀ m i a, i ≤ e → I i a → (∀ b, i < e → I (i + 1) b → W m (nI (i + 1)) b) → W (m + 1) (nI i) a) : ∀ i a, i ≤ e → I i a → ∃ N, W N (nI i) a := by
  have key : ∀ k i a, i + k = e → I i a → W (k + 1) (nI i) a := by
    intro k
    induction k with
    | zero => intro i a h hI; exact hs 0 i a (by omega) hI (fun _ h2 => by omega)
    | succ k ih => intro i a h hI; exact hs (k + 1) i a (by omega) hI (fun b _ h2 => ih (i + 1) b (by omega) h2)
  exact fun i a hi hI => ⟨_, key (e - i) i a (by omega) hI⟩
theorem up3 {A B : Type} (W : Nat → Int32 → A → B → Prop) (I : Nat → A → B → Prop) (e : Nat) (hs : ∀ m i a b, i ≤ e → I i a b → (∀ a' b', i < e → I (i + 1) a' b' → W m (nI (i + 1)) a' b') → W (m + 1) (nI i) a b) : ∀ i a b, i ≤ e → I i a b → ∃ N, W N (nI i) a b := by
  have key : ∀ k i a b, i + k = e → I i a b → W (k + 1) (nI i) a b := by
    intro k
    induction k with
    | zero => intro i a b h hI; exact hs 0 i a b (by omega) hI (fun _ _ h2 => by omega)
    | succ k ih => intro i a b h hI; exact hs (k + 1) i a b (by omega) hI (fun a' b' _ h2 => ih (i + 1) a' b' (by omega) h2)
  exact fun i a b hi hI => ⟨_, key (e - i) i a b (by omega) hI⟩
theorem up4 {A B C : Type} (W : Nat → Int32 → A → B → C → Prop) (I : Nat → A → B → C → Prop) (e : Nat) (hs : ∀ m i a b c, i ≤ e → I i a b c → (∀ a' b' c', i < e → I (i + 1) a' b' c' → W m (nI (i + 1)) a' b' c') → W (m + 1) (nI i) a b c) : ∀ i a b c, i ≤ e → I i a b c → ∃ N, W N (nI i) a b c := by
  have key : ∀ k i a b c, i + k = e → I i a b c → W (k + 1) (nI i) a b c := by
    intro k
    induction k with
    | zero => intro i a b c h hI; exact hs 0 i a b c (by omega) hI (fun _ _ _ h2 => by omega)
    | succ k ih => intro i a b c h hI; exact hs (k + 1) i a b c (by omega) hI (fun a' b' c' _ h2 => ih (i + 1) a' b' c' (by omega) h2)
  exact fun i a b c hi hI => ⟨_, key (e - i) i a b c (by omega) hI⟩
theorem down2 {A : Type} (W : Nat → Int32 → A → Prop) (I : Nat → A → Prop) (hs : ∀ m j a, I j a → (∀ j' b, j = j' + 1 → I j' b → W m (nI j' + (-1)) b) → W (m + 1) (nI j + (-1)) a) : ∀ j a, I j a → ∃ N, W N (nI j + (-1)) a := by
  have key : ∀ j a, I j a → W (j + 1) (nI j + (-1)) a := by
    intro j
    induction j with
    | zero => intro a hI; exact hs 0 0 a hI (fun j' b h _ => by omega)
    | succ j ih => intro a hI; exact hs (j + 1) (j + 1) a hI (fun j' b h h2 => by
        have e : j' = j := by omega
        subst e
        exact ih b h2)
  exact fun j a hI => ⟨_, key j a hI⟩
/-- the graph that an array of masks holds -/
def ob (f : Nat → Int32) : Nat → Nat → Bool := fun S c => bt (f S) c
/-- the condition of one line on one step -/
def okS (s S c : Nat) : Bool := decide (s &&& S = 0) || decide (s &&& S = s) || s.testBit c
theorem p_mayFollow {f : Nat → Int32} {S c : Nat} {Q : Bool → Prop} (hS : S < 256) (hc : c < 32) (h : Q (bt (f S) c)) : q_X1_mayFollow f (nI S) (nI c) Q := by
  unfold q_X1_mayFollow
  rw [nI_clamp (lt31 hS), sh1 _ hc]
  refine ⟨vp_in_nI hS (by omega), fun hb => ?_, fun hb => ?_⟩
  · rw [bI_eq1] at hb
    cases hx : bt (f S) c
    · rw [hx] at h; exact h
    · exact absurd hx hb
  · rw [bI_eq1] at hb
    rw [hb] at h; exact h
theorem full_lt {n i : Nat} (hn : n ≤ 8) (hi : i ≤ 2 ^ n) : nI (2 ^ n - 1) < nI i ↔ i = 2 ^ n := by
  have := pow_le8 hn
  have h0 : 0 < 2 ^ n := Nat.two_pow_pos n
  rw [nI_ltI (by omega) (by omega)]
  omega
theorem p_keep {n s : Nat} (hn : n ≤ 8) (hs : s < 2 ^ n) {f : Nat → Int32} {Q : (Nat → Int32) → Prop} (h : ∀ f' : Nat → Int32, (∀ S, S < 2 ^ n → ∀ c, c < 32 → bt (f' S) c = (bt (f S) c && okS s S c)) → Q f') : q_X1_keep (nI (2 ^ n - 1)) f (nI s) Q := by
  have h8 := pow_le8 hn
  refine up2 (fun N x a => q_X1_keep_L2 (nI s) (nI (2 ^ n - 1)) Q N x a) (fun i f' => (∀ S, S < i → ∀ c, c < 32 → bt (f' S) c = (bt (f S) c && okS s S c)) ∧ ∀ S, i ≤ S → f' S = f S) (2 ^ n) ?_ 0 f (Nat.zero_le _) ⟨fun S h => absurd h (Nat.not_lt_zero S), fun S _ => rfl⟩
  intro m i f' hi hI ih
  rw [q_X1_keep_L2]
  refine ⟨fun hc => ?_, fun hc => ?_⟩
  · have e := (full_lt hn hi).mp hc
    subst e
    exact h f' hI.1
  · have hlt : i < 2 ^ n := by
      have := mt (full_lt hn hi).mpr hc
      omega
    have hi31 : i < 2 ^ 31 := by omega
    intro t4 e4 t7 e7
    rw [nI_1]
    have same : (okS s i = fun _ => true) → q_X1_keep_L2 (nI s) (nI (2 ^ n - 1)) Q m (nI (i + 1)) f' := by
      intro hk
      refine ih f' hlt ⟨fun S hS c hc => ?_, fun S hS => hI.2 S (by omega)⟩
      rcases Nat.lt_or_ge S i with q | q
      · exact hI.1 S q c hc
      · have e : S = i := by omega
        subst e
        rw [hI.2 S (Nat.le_refl S), hk]
        simp
    refine ⟨fun h4 => ?_, fun h4 => ⟨fun h7 => ?_, fun h7 => ?_⟩⟩
    · refine same (funext fun c => ?_)
      rw [e4] at h4
      have h5 : nI s &&& nI i = 0 := by
        by_cases hx : nI s &&& nI i = 0
        · exact hx
        · rw [if_neg hx] at h4; exact absurd h4 (by decide)
      rw [and0 (by omega)] at h5
      simp [okS, h5]
    · refine same (funext fun c => ?_)
      rw [e7] at h7
      have h5 : nI s &&& (nI i ^^^ (-1)) = 0 := by
        by_cases hx : nI s &&& (nI i ^^^ (-1)) = 0
        · exact hx
        · rw [if_neg hx] at h7; exact absurd h7 (by decide)
      rw [andn0 (by omega)] at h5
      simp [okS, h5]
    · have h5 : ¬ s &&& i = 0 := fun hx => h4 (by rw [e4, if_pos ((and0 (by omega)).mpr hx)])
      have h6 : ¬ s &&& i = s := fun hx => h7 (by rw [e7, if_pos ((andn0 (by omega)).mpr hx)])
      refine ⟨vp_in_nI (by omega) (by omega), ?_⟩
      rw [nI_clamp hi31]
      refine ih _ hlt ⟨fun S hS c hc2 => ?_, fun S hS => ?_⟩
      · rcases Nat.lt_or_ge S i with q | q
        · rw [pk_un (by omega)]
          exact hI.1 S q c hc2
        · have e : S = i := by omega
          subst e
          rw [pk_us, hI.2 S (Nat.le_refl S), b_and, bt_nI s hc2]
          simp [okS, h5, h6]
      · rw [pk_un (by omega)]
        exact hI.2 S (by omega)
theorem p_letAll {n : Nat} (h1 : 1 ≤ n) (hn : n ≤ 8) {co fu : Int32} {f : Nat → Int32} {Q : Int32 → Int32 → (Nat → Int32) → Prop} (h : ∀ f' : Nat → Int32, (∀ S, S < 2 ^ n → ∀ c, c < 32 → bt (f' S) c = (decide (c < n) && !S.testBit c)) → Q (nI n) (nI (2 ^ n - 1)) f') : q_X1_letAll co fu f (nI n) Q := by
  have h8 := pow_le8 hn
  have h0 : 0 < 2 ^ n := Nat.two_pow_pos n
  unfold q_X1_letAll
  rw [one_shl n (by omega), show nI (2 ^ n) - 1 = nI (2 ^ n - 1) from pk_sub (b := 1) h0]
  refine up2 (fun N x a => q_X1_letAll_L16 (nI n) (nI (2 ^ n - 1)) Q N x a) (fun i f' => ∀ S, S < i → ∀ c, c < 32 → bt (f' S) c = (decide (c < n) && !S.testBit c)) (2 ^ n) ?_ 0 f (Nat.zero_le _) (fun S h => absurd h (Nat.not_lt_zero S))
  intro m i f' hi hI ih
  rw [q_X1_letAll_L16]
  refine ⟨fun hc => ?_, fun hc => ?_⟩
  · have e := (full_lt hn hi).mp hc
    subst e
    exact h f' hI
  · have hlt : i < 2 ^ n := by
      have := mt (full_lt hn hi).mpr hc
      omega
    refine ⟨vp_in_nI (by omega) (by omega), ?_⟩
    rw [nI_clamp (by omega), nI_1]
    refine ih _ hlt (fun S hS c hc2 => ?_)
    rcases Nat.lt_or_ge S i with q | q
    · rw [pk_un (by omega)]
      exact hI S q c hc2
    · have e : S = i := by omega
      subst e
      rw [pk_us, b_and, b_xor, b_m1 c hc2, bt_nI _ hc2, bt_nI _ hc2, full_bit]
      simp
theorem p_copy {n : Nat} (hn : n ≤ 8) {co fu co2 : Int32} {f w f2 w2 : Nat → Int32} {Q : Int32 → Int32 → (Nat → Int32) → (Nat → Int32) → Prop} (h : ∀ f' w' : Nat → Int32, (∀ S, S < 2 ^ n → f' S = f2 S) → (∀ S, S < 2 ^ n → w' S = w2 S) → Q co2 (nI (2 ^ n - 1)) f' w') : q_X1_copy co fu f w co2 (nI (2 ^ n - 1)) f2 w2 Q := by
  have h8 := pow_le8 hn
  refine up3 (fun N x a b => q_X1_copy_L18 co2 (nI (2 ^ n - 1)) f2 w2 Q N x a b) (fun i f' w' => (∀ S, S < i → f' S = f2 S) ∧ ∀ S, S < i → w' S = w2 S) (2 ^ n) ?_ 0 f w (Nat.zero_le _) ⟨fun S h => absurd h (Nat.not_lt_zero S), fun S h => absurd h (Nat.not_lt_zero S)⟩
  intro m i f' w' hi hI ih
  rw [q_X1_copy_L18]
  refine ⟨fun hc => ?_, fun hc => ?_⟩
  · have e := (full_lt hn hi).mp hc
    subst e
    exact h f' w' hI.1 hI.2
  · have hlt : i < 2 ^ n := by
      have := mt (full_lt hn hi).mpr hc
      omega
    refine ⟨vp_in_nI (by omega) (by omega), ?_⟩
    rw [nI_clamp (by omega), nI_1]
    refine ih _ _ hlt ⟨fun S hS => ?_, fun S hS => ?_⟩
    · rcases Nat.lt_or_ge S i with q | q
      · rw [pk_un (by omega)]; exact hI.1 S q
      · have e : S = i := by omega
        subst e
        rw [pk_us]
    · rcases Nat.lt_or_ge S i with q | q
      · rw [pk_un (by omega)]; exact hI.2 S q
      · have e : S = i := by omega
        subst e
        rw [pk_us]
theorem p_putBetween {n a b d : Nat} (hn : n ≤ 8) (ha : a < n) (hb : b < n) (hd : d < n) {f : Nat → Int32} {Q : (Nat → Int32) → Prop} (h : ∀ f' : Nat → Int32, (∀ S, S < 2 ^ n → ∀ c, c < 32 → bt (f' S) c = (bt (f S) c && !(decide (S.testBit a = S.testBit d) && decide (c = b)))) → Q f') : q_X1_putBetween (nI (2 ^ n - 1)) f (nI a) (nI b) (nI d) Q := by
  have h8 := pow_le8 hn
  refine up2 (fun N x f' => q_X1_putBetween_L3 (nI a) (nI b) (nI d) (nI (2 ^ n - 1)) Q N x f') (fun i f' => (∀ S, S < i → ∀ c, c < 32 → bt (f' S) c = (bt (f S) c && !(decide (S.testBit a = S.testBit d) && decide (c = b)))) ∧ ∀ S, i ≤ S → f' S = f S) (2 ^ n) ?_ 0 f (Nat.zero_le _) ⟨fun S h => absurd h (Nat.not_lt_zero S), fun S _ => rfl⟩
  intro m i f' hi hI ih
  rw [q_X1_putBetween_L3]
  refine ⟨fun hc => ?_, fun hc => ?_⟩
  · have e := (full_lt hn hi).mp hc
    subst e
    exact h f' hI.1
  · have hlt : i < 2 ^ n := by
      have := mt (full_lt hn hi).mpr hc
      omega
    rw [nI_1, sh1 _ (by omega), sh1 _ (by omega), bt_nI _ (by omega), bt_nI _ (by omega), bI_inj]
    refine ⟨fun h4 => ?_, fun h4 => ?_⟩
    · refine ih f' hlt ⟨fun S hS c hc2 => ?_, fun S hS => hI.2 S (by omega)⟩
      rcases Nat.lt_or_ge S i with q | q
      · exact hI.1 S q c hc2
      · have e : S = i := by omega
        subst e
        rw [hI.2 S (Nat.le_refl S)]
        simp [h4]
    · refine ⟨vp_in_nI (by omega) (by omega), ?_⟩
      rw [nI_clamp (by omega)]
      refine ih _ hlt ⟨fun S hS c hc2 => ?_, fun S hS => ?_⟩
      · rcases Nat.lt_or_ge S i with q | q
        · rw [pk_un (by omega)]
          exact hI.1 S q c hc2
        · have e : S = i := by omega
          subst e
          rw [pk_us, hI.2 S (Nat.le_refl S), bt_notbit _ (by omega) hc2]
          simp [h4]
      · rw [pk_un (by omega)]
        exact hI.2 S (by omega)
/-- the set without a column -/
def rmv (S c : Nat) : Nat := S &&& (255 ^^^ 2 ^ c)
theorem rmv_bit : ∀ S, S < 256 → ∀ c, c < 8 → ∀ i, i < 9 → (rmv S c).testBit i = (S.testBit i && !decide (i = c)) := by decide +kernel
theorem rmv_lt : ∀ n, n < 9 → ∀ S, S < 2 ^ n → ∀ c, c < 8 → rmv S c < 2 ^ n := by decide +kernel
theorem rmv_ins : ∀ S, S < 256 → ∀ c, c < 8 → S.testBit c = true → ins (rmv S c) c = S ∧ (rmv S c).testBit c = false ∧ rmv S c < S := by decide +kernel
theorem ins_rmv : ∀ S, S < 256 → ∀ c, c < 8 → S.testBit c = false → rmv (ins S c) c = S := by decide +kernel
theorem and_rmv {S c : Nat} (hS : S < 256) (hc : c < 8) : nI S &&& (((1 : Int32) <<< (nI c &&& 31)) ^^^ (-1)) = nI (rmv S c) := by
  refine b_ext (fun i hi => ?_)
  rw [bt_notbit _ (by omega) hi, bt_nI _ hi, bt_nI _ hi]
  rcases Nat.lt_or_ge i 9 with q | q
  · rw [rmv_bit S hS c hc i q]
  · have hr : rmv S c < 2 ^ 8 := rmv_lt 8 (by omega) S hS c hc
    rw [bit_lt (n := 8) hS (by omega), bit_lt hr (by omega)]
    simp
theorem p_putAtEnds {n a : Nat} (h1 : 1 ≤ n) (hn : n ≤ 8) (ha : a < n) {f : Nat → Int32} {Q : (Nat → Int32) → Prop} (h : ∀ f' : Nat → Int32, (∀ S, S < 2 ^ n → ∀ c, c < 32 → bt (f' S) c = (bt (f S) c && (decide (S = 0) || decide (S = rmv (2 ^ n - 1) a) || !decide (c = a)))) → Q f') : q_X1_putAtEnds (nI (2 ^ n - 1)) f (nI a) Q := by
  have h8 := pow_le8 hn
  have h0 : 2 ^ 1 ≤ 2 ^ n := Nat.pow_le_pow_right (by omega) h1
  unfold q_X1_putAtEnds
  rw [and_rmv (by omega) (by omega)]
  intro x2 e2
  subst e2
  have hr : rmv (2 ^ n - 1) a < 2 ^ n := rmv_lt n (by omega) _ (by omega) a (by omega)
  refine up2 (fun N x f' => q_X1_putAtEnds_L13 (nI a) (nI (rmv (2 ^ n - 1) a)) (nI (2 ^ n - 1)) Q N x f') (fun i f' => (∀ S, S < i → ∀ c, c < 32 → bt (f' S) c = (bt (f S) c && (decide (S = 0) || decide (S = rmv (2 ^ n - 1) a) || !decide (c = a)))) ∧ (∀ S, i ≤ S → f' S = f S) ∧ 1 ≤ i) (2 ^ n) ?_ 1 f (by omega) ⟨fun S h c _ => ?_, fun S _ => rfl, Nat.le_refl 1⟩
  · intro m i f' hi hI ih
    rw [q_X1_putAtEnds_L13]
    refine ⟨fun hc => ?_, fun hc => ?_⟩
    · have e := (full_lt hn hi).mp hc
      subst e
      exact h f' hI.1
    · have hlt : i < 2 ^ n := by
        have := mt (full_lt hn hi).mpr hc
        omega
      rw [nI_1, nI_eq (by omega) (by omega)]
      refine ⟨fun h4 => ?_, fun h4 => ?_⟩
      · refine ih f' hlt ⟨fun S hS c hc2 => ?_, fun S hS => hI.2.1 S (by omega), by omega⟩
        rcases Nat.lt_or_ge S i with q | q
        · exact hI.1 S q c hc2
        · have e : S = i := by omega
          subst e
          rw [hI.2.1 S (Nat.le_refl S)]
          simp [← h4]
      · refine ⟨vp_in_nI (by omega) (by omega), ?_⟩
        rw [nI_clamp (by omega)]
        refine ih _ hlt ⟨fun S hS c hc2 => ?_, fun S hS => ?_, by omega⟩
        · rcases Nat.lt_or_ge S i with q | q
          · rw [pk_un (by omega)]
            exact hI.1 S q c hc2
          · have e : S = i := by omega
            subst e
            rw [pk_us, hI.2.1 S (Nat.le_refl S), bt_notbit _ (by omega) hc2]
            have hS0 : S ≠ 0 := by have := hI.2.2; omega
            simp [h4, hS0]
        · rw [pk_un (by omega)]
          exact hI.2.1 S (by omega)
  · have e : S = 0 := by omega
    subst e
    simp
/-- how many ways lead on from a set -/
def Wf (n : Nat) (f : Nat → Int32) (S : Nat) : Nat := (paths n (ob f) (n - card S) S).length
theorem Wf_full {n : Nat} (hn : n ≤ 8) (f : Nat → Int32) : Wf n f (2 ^ n - 1) = 1 := by
  unfold Wf
  rw [card_full n (by omega), Nat.sub_self]
  rfl
theorem card_lt {n S : Nat} (hn : n ≤ 8) (hS : S < 2 ^ n) (h : S ≠ 2 ^ n - 1) : card S < n := by
  have h1 := card_le n (by omega) S hS
  have h2 : card S ≠ n := fun e => h (full_of_card n (by omega) S hS e)
  omega
theorem Wf_step {n : Nat} (hn : n ≤ 8) {f : Nat → Int32} (hf : Gr n (ob f)) {S : Nat} (hS : S < 2 ^ n) (h : S ≠ 2 ^ n - 1) : Wf n f S = fb_sm (fun c => if ob f S c then Wf n f (ins S c) else 0) n := by
  have hc := card_lt hn hS h
  unfold Wf
  rw [show n - card S = (n - card S - 1) + 1 by omega, len_paths]
  refine fb_sm_cong (fun c hcn => ?_)
  by_cases hg : ob f S c = true
  · rw [if_pos hg, if_pos hg, card_ins S (nIs hn hS) c (by omega) (hf S hS c hg).2]
    congr 2
  · rw [if_neg hg, if_neg hg]
theorem Wf_le {n : Nat} (hn : n ≤ 8) (f : Nat → Int32) (S : Nat) : Wf n f S ≤ 16777216 := len_small hn _ (by omega) S
theorem p_reckon {n : Nat} (h1 : 1 ≤ n) (hn : n ≤ 8) {f w : Nat → Int32} (hf : Gr n (ob f)) {Q : Int32 → (Nat → Int32) → Prop} (h : ∀ w' : Nat → Int32, (∀ S, S < 2 ^ n → w' S = nI (Wf n f S)) → Q (nI (Wf n f 0)) w') : q_X1_reckon (nI n) (nI (2 ^ n - 1)) f w Q := by
  have h8 := pow_le8 hn
  have h0 : 2 ^ 1 ≤ 2 ^ n := Nat.pow_le_pow_right (by omega) h1
  unfold q_X1_reckon
  refine ⟨vp_in_nI (by omega) (by omega), ?_⟩
  intro x1 e1
  rw [nI_clamp (by omega)]
  have e2 : x1 = nI (2 ^ n - 1) + (-1) := by rw [e1]; exact Int32.sub_eq_add_neg ..
  rw [e2]
  refine down2 (fun N x a => q_X1_reckon_L17 (nI n) f Q N x a) (fun j w' => j < 2 ^ n ∧ ∀ S, j ≤ S → S < 2 ^ n → w' S = nI (Wf n f S)) ?_ (2 ^ n - 1) _ ⟨by omega, fun S h2 h3 => ?_⟩
  · intro m j w' hI ih
    obtain ⟨hj, hI⟩ := hI
    rw [q_X1_reckon_L17]
    cases j with
    | zero =>
      refine ⟨fun _ => ?_, fun hx => absurd (by decide) hx⟩
      have e0 : w' (Int32.toNatClampNeg 0) = nI (Wf n f 0) := by rw [sb_cl0]; exact hI 0 (Nat.le_refl 0) (by omega)
      rw [e0]
      exact h w' (fun S hS => hI S (Nat.zero_le S) hS)
    | succ j =>
      have ih := fun b => ih j b rfl
      rw [pk_m1]
      refine ⟨fun hx => absurd hx (nI_pos (by omega)), fun _ => ⟨vp_in_nI (by omega) (by omega), ?_⟩⟩
      rw [nI_clamp (by omega)]
      have hstep := Wf_step hn hf (S := j) (by omega) (by omega)
      have fin : ∀ z : Int32, z = nI (Wf n f j) → q_X1_reckon_L17 (nI n) f Q m (nI j + (-1)) (upd w' j z) := by
        intro z hz
        refine ih _ ⟨by omega, fun S hS1 hS2 => ?_⟩
        by_cases e : S = j
        · subst e
          rw [pk_us, hz]
        · rw [pk_un e]
          exact hI S (by omega) hS2
      refine ⟨fun hz => fin 0 ?_, fun _ => ?_⟩
      · rw [hstep, ← nI_0]
        congr 1
        symm
        have hz2 : ∀ c, c < n → (if ob f j c then Wf n f (ins j c) else 0) = 0 := fun c hc => by
          have : ob f j c = false := by unfold ob; rw [hz, b_0]
          rw [this]; rfl
        rw [fb_sm_cong hz2, fb_sm_const]
        omega
      · refine up2 (fun N x a => q_X1_reckon_L34 (nI j) (nI n) f w' _ N a x) (fun i a => a = nI (fb_sm (fun c => if ob f j c then Wf n f (ins j c) else 0) i)) n ?_ 0 0 (Nat.zero_le _) rfl
        intro m2 i a hi hIa ih2
        rw [q_X1_reckon_L34]
        refine ⟨fun hx => ?_, fun hx => ?_⟩
        · have e : i = n := by
            rw [nI_leI (by omega) (by omega)] at hx
            omega
          subst e
          refine ⟨vp_in_nI (by omega) (by omega), ?_⟩
          rw [nI_clamp (by omega)]
          exact fin a (by rw [hIa, hstep])
        · have hlt : i < n := by
            rw [nI_leI (by omega) (by omega)] at hx
            omega
          rw [nI_1]
          refine p_mayFollow (by omega) (by omega) ⟨fun hb => ?_, fun hb => ?_⟩
          · refine ih2 a hlt ?_
            rw [hIa, fb_sm_succ]
            have : ob f j i = false := hb
            rw [this]
            rfl
          · have hob : ob f j i = true := hb
            rw [or_ins j (by omega)]
            have hil : ins j i < 2 ^ n := ins_lt (by omega) hlt
            refine ⟨vp_in_nI (by omega) (by omega), ?_⟩
            intro z hz
            rw [nI_clamp (by omega), hI _ (ins_gt (hf j (by omega) i hob).2) hil] at hz
            refine ih2 z hlt ?_
            rw [hz, hIa, fb_sm_succ, nI_add, hob]
            rfl
  · have e : S = 2 ^ n - 1 := by omega
    subst e
    rw [pk_us, Wf_full hn]
    rfl
