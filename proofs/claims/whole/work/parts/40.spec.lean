/-! WHAT THE CALLS ANSWER: one text for the class and for the reference. -/
/-- a number that tells a place below m -/
def ix (x : Int32) (m : Nat) : Option Nat := if 0 ≤ x.toInt ∧ x.toInt < m then some x.toInt.toNat else none
theorem ix_nI {k m : Nat} (h : k < m) (hm : m < 2 ^ 31) : ix (nI k) m = some k := by
  unfold ix
  rw [nI_toInt (by omega), if_pos ⟨by omega, by omega⟩]
  simp
theorem ix_cases (x : Int32) {m : Nat} (hm : m < 2 ^ 31) : (∃ k, k < m ∧ x = nI k ∧ ix x m = some k) ∨ (x < 0 ∧ ix x m = none) ∨ (¬ x < 0 ∧ nI m ≤ x ∧ ix x m = none) := by
  rcases pk_ix x hm with h | h | ⟨j, hj, rfl⟩
  · right; left
    refine ⟨h, ?_⟩
    unfold ix
    rw [fa_lt] at h
    rw [if_neg]
    have : (0 : Int32).toInt = 0 := by decide
    omega
  · right; right
    rw [fa_le, nI_toInt hm] at h
    refine ⟨?_, ?_, ?_⟩
    · rw [fa_lt]
      have : (0 : Int32).toInt = 0 := by decide
      omega
    · rw [fa_le, nI_toInt hm]; exact h
    · unfold ix
      rw [if_neg]
      omega
  · left
    exact ⟨j, hj, rfl, ix_nI hj hm⟩
/-- an answer: a refusal by its number, or a number -/
abbrev Ans : Type := Nat ⊕ Int32
def ansR : Ans → Int32
  | .inl k => -nI k
  | .inr v => v
def bump (rf : Nat → Int32) (k : Nat) : Nat → Int32 := upd rf k (rf k + 1)
def rfA (rf : Nat → Int32) : Ans → Nat → Int32
  | .inl k => bump rf k
  | .inr _ => rf
theorem d_refuse {rf : Nat → Int32} {k : Nat} (hk : 1 ≤ k) (hk6 : k ≤ 6) {x : Int32} (hx : x = -nI k) {Q : Int32 → (Nat → Int32) → Prop} (h : Q (-nI k) (bump rf k)) : q_X4_refuse rf x Q := by
  subst hx
  have key : ∀ k, k < 7 → 1 ≤ k → ¬ (0 : Int32) ≤ -nI k ∧ ¬ -nI k < -6 ∧ - -nI k = nI k := by decide +kernel
  obtain ⟨h1, h2, h3⟩ := key k (by omega) hk
  unfold q_X4_refuse
  refine ⟨fun q => absurd q h1, fun _ => ⟨fun q => absurd q h2, fun _ => ?_⟩⟩
  rw [h3, nI_clamp (by omega)]
  exact ⟨vp_in_nI (by omega) (by omega), h⟩
theorem m_refuse {rf : Nat → Int32} {k : Nat} (hk : 1 ≤ k) (hk6 : k ≤ 6) {x : Int32} (hx : x = -nI k) {Q : Int32 → (Nat → Int32) → Prop} (h : Q (-nI k) (bump rf k)) : q_X5_refuse rf x Q := by
  subst hx
  have key : ∀ k, k < 7 → 1 ≤ k → - -nI k = nI k := by decide +kernel
  unfold q_X5_refuse
  rw [key k (by omega) hk, nI_clamp (by omega)]
  exact ⟨vp_in_nI (by omega) (by omega), h⟩
/-! small questions -/
theorem d_has {nl : Nat} (hnl : nl ≤ 40) {x : Int32} {Q : Bool → Prop} (h : Q (ix x nl).isSome) : q_X0_has (nI nl) x Q := by
  unfold q_X0_has
  rcases ix_cases x (m := nl) (by omega) with ⟨k, hk, rfl, e⟩ | ⟨hx, e⟩ | ⟨hx, hx2, e⟩
  · rw [e] at h
    refine ⟨fun q => absurd q (nI_pos (by omega)), fun _ => ⟨fun q => absurd q (nI_ge hk (by omega)), fun _ => ⟨fun q => ?_, fun _ => h⟩⟩⟩
    rw [show (40 : Int32) = nI 40 from rfl, nI_leI (by omega) (by omega)] at q
    omega
  · rw [e] at h
    exact ⟨fun _ => h, fun q => absurd hx q⟩
  · rw [e] at h
    exact ⟨fun q => absurd q hx, fun _ => ⟨fun _ => h, fun q => absurd hx2 q⟩⟩
theorem m_isIn {m : Nat} (hm : m < 2 ^ 31) {x : Int32} {Q : Bool → Prop} (h : Q (ix x m).isSome) : q_X5_isIn x (nI m) Q := by
  unfold q_X5_isIn
  rcases ix_cases x hm with ⟨k, hk, rfl, e⟩ | ⟨hx, e⟩ | ⟨hx, hx2, e⟩
  · rw [e] at h
    exact ⟨fun q => absurd q (nI_pos (by omega)), fun _ => ⟨fun q => absurd q (nI_ge hk (by omega)), fun _ => h⟩⟩
  · rw [e] at h
    exact ⟨fun _ => h, fun q => absurd hx q⟩
  · rw [e] at h
    exact ⟨fun q => absurd q hx, fun _ => ⟨fun _ => h, fun q => absurd hx2 q⟩⟩
theorem m_isLine {nl : Nat} (hnl : nl ≤ 40) {x : Int32} {Q : Bool → Prop} (h : Q (ix x nl).isSome) : q_X5_isLine (nI nl) x Q := m_isIn (by omega) h
theorem m_isColumn {n : Nat} (hn : n ≤ 8) {x : Int32} {Q : Bool → Prop} (h : Q (ix x n).isSome) : q_X5_isColumn (nI n) x Q := m_isIn (by omega) h
theorem d_isColumn {n : Nat} (hn : n ≤ 8) {x : Int32} {Q : Bool → Prop} (h : Q (ix x n).isSome) : q_X4_isColumn (nI n) x Q := m_isIn (by omega) h
theorem m_isSet {n : Nat} (hn : n ≤ 8) {x : Int32} {Q : Bool → Prop} (h : Q (ix x (2 ^ n)).isSome) : q_X5_isSet (nI n) x Q := by
  have h8 := pow_le8 hn
  unfold q_X5_isSet
  rw [one_shl n (by omega)]
  exact m_isIn (m := 2 ^ n) (by omega) h
theorem d_isSet {n : Nat} (hn : n ≤ 8) {x : Int32} {Q : Bool → Prop} (h : Q (ix x (2 ^ n)).isSome) : q_X4_isSet (nI n) x Q := by
  have h8 := pow_le8 hn
  have h0 : 0 < 2 ^ n := Nat.two_pow_pos n
  have key : x &&& (nI (2 ^ n - 1) ^^^ (-1)) = 0 ↔ ∃ k, k < 2 ^ n ∧ x = nI k := by
    constructor
    · intro hz
      refine ⟨x.toBitVec.toNat % 2 ^ n, Nat.mod_lt _ h0, ?_⟩
      rw [← pk_and x (m := nI (2 ^ n - 1)) n (pk_tn (by omega))]
      refine b_ext (fun i hi => ?_)
      have hz2 := congrArg (fun y => bt y i) hz
      rw [b_and, b_xor, b_m1 i hi, b_0] at hz2
      rw [b_and]
      cases h1 : bt x i <;> cases h2 : bt (nI (2 ^ n - 1)) i <;> rw [h1, h2] at hz2 <;> first | rfl | exact absurd hz2 (by decide)
    · rintro ⟨k, hk, rfl⟩
      rw [andn0 (by omega)]
      rw [Nat.and_two_pow_sub_one_eq_mod]
      exact Nat.mod_eq_of_lt hk
  unfold q_X4_isSet q_X4_allColumns
  rw [one_shl n (by omega), show nI (2 ^ n) - 1 = nI (2 ^ n - 1) from pk_sub (b := 1) h0]
  refine ⟨fun q => ?_, fun q => ?_⟩
  · have e : ix x (2 ^ n) = none := by
      rcases ix_cases x (m := 2 ^ n) (by omega) with ⟨k, hk, e1, e⟩ | ⟨-, e⟩ | ⟨-, -, e⟩
      · exact absurd (key.mpr ⟨k, hk, e1⟩) q
      · exact e
      · exact e
    rw [e] at h
    exact h
  · obtain ⟨k, hk, rfl⟩ := key.mp q
    rw [ix_nI hk (by omega)] at h
    exact h
/-- 2 in each, 1 in some, 0 in none -/
def told (c m : Nat) : Int32 := if c = m then 2 else if c = 0 then 0 else 1
theorem d_verdict {w : Nat → Int32} {m c : Nat} (hm : m < 2 ^ 31) (hc : c < 2 ^ 31) (h0 : w 0 = nI m) {Q : Int32 → Prop} (h : Q (told c m)) : q_X4_verdict w (nI c) Q := by
  unfold q_X4_verdict
  refine p_howMany h0 ?_
  unfold told at h
  rw [nI_eq hc hm]
  refine ⟨fun q => ?_, fun q => ?_⟩
  · rw [if_neg q] at h
    rw [← nI_0, nI_leI hc (by omega)]
    refine ⟨fun q2 => ?_, fun q2 => ?_⟩
    · rw [if_pos (by omega)] at h; exact h
    · rw [if_neg (by omega)] at h; exact h
  · rw [if_pos q] at h; exact h
theorem m_told {m c : Nat} (hm : m < 2 ^ 31) (hc : c < 2 ^ 31) {Q : Int32 → Prop} (h : Q (told c m)) : q_X5_told (nI m) (nI c) Q := by
  unfold q_X5_told
  unfold told at h
  rw [nI_eq hc hm]
  refine ⟨fun q => ?_, fun q => ?_⟩
  · rw [if_neg q] at h
    rw [← nI_0, nI_leI hc (by omega)]
    refine ⟨fun q2 => ?_, fun q2 => ?_⟩
    · rw [if_pos (by omega)] at h; exact h
    · rw [if_neg (by omega)] at h; exact h
  · rw [if_pos q] at h; exact h
