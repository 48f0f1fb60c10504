/-! GAPS, BEST, WITHIN on the desk's side. -/
def SavOk (n nl : Nat) (sets sts wts : Nat → Nat) (f : Nat → Int32) (un : Int32) (sa mo le : Nat → Int32) : Prop := un = nI (us nl sets sts wts) ∧ SavA (sv nl sets sts wts) sa ∧ (∀ S, S < 2 ^ n → ∀ c, c < n → S.testBit c = true → Mo (sv nl sets sts wts) n f mo le S c) ∧ Mo (sv nl sets sts wts) n f mo le 0 8
def SavI (n nl : Nat) (sets sts wts : Nat → Nat) (f : Nat → Int32) (old un : Int32) (sa mo le : Nat → Int32) : Prop := old = 1 ∨ (old = 0 ∧ SavOk n nl sets sts wts f un sa mo le)
theorem d_makeSavings {n nl : Nat} {sets sts wts : Nat → Nat} (hW : WF n nl sets sts wts) {se st we f w : Nat → Int32} (hL : LA nl sets sts wts se st we) (hR : Rw n f w (GG n nl sets sts)) {old un : Int32} {sa mo le : Nat → Int32} (hI : SavI n nl sets sts wts f old un sa mo le) {Q : Int32 → Int32 → (Nat → Int32) → (Nat → Int32) → (Nat → Int32) → Prop} (h : ∀ un sa mo le, SavOk n nl sets sts wts f un sa mo le → Q 0 un sa mo le) : q_X4_makeSavings old (nI nl) se st we (nI n) (nI (2 ^ n - 1)) f un sa mo le Q := by
  unfold q_X4_makeSavings
  obtain ⟨hg, hp, -, -, hl⟩ := hR
  refine ⟨fun e => ?_, fun e => ?_⟩
  · rcases hI with q | ⟨q, hok⟩
    · rw [q] at e; exact absurd e (by decide)
    · rw [q]; exact h _ _ _ _ hok
  · refine p_weigh hW hL (fun sa' hsa => p_lookAhead hW.1 hW.2.1 (sv_le hW) hsa hg hp hl (fun mo' le' hm h0 => h _ _ _ _ ⟨rfl, hsa, hm, h0⟩))
/-! the gaps of a row -/
def lastF : Nat → List Nat → Nat
  | a, [] => a
  | _, c :: l => lastF c l
theorem lastF_snoc : ∀ (l : List Nat) (a c : Nat), lastF a (l ++ [c]) = c
  | [], _, _ => rfl
  | d :: l, _, c => lastF_snoc l d c
theorem sav_snoc (v : Nat → Nat → Nat) : ∀ (l : List Nat) (a c : Nat), sav v a (l ++ [c]) = sav v a l + v (lastF a l) c
  | [], a, c => by rw [List.nil_append, sav, sav, sav, lastF]; omega
  | d :: l, a, c => by
    rw [List.cons_append, sav, sav, lastF, sav_snoc v l d c]
    omega
theorem sav_app (v : Nat → Nat → Nat) : ∀ (l1 l2 : List Nat) (a : Nat), sav v a (l1 ++ l2) = sav v a l1 + sav v (lastF a l1) l2
  | [], l2, a => by rw [List.nil_append, sav, lastF]; omega
  | d :: l, l2, a => by
    rw [List.cons_append, sav, sav, lastF, sav_app v l l2 d]
    omega
theorem take_snoc {l : List Nat} {i : Nat} (h : i < l.length) : l.take (i + 1) = l.take i ++ [l.getD i 0] := by
  rw [take_last (List.getElem?_eq_getElem h), List.getD_eq_getElem?_getD, List.getElem?_eq_getElem h]
  rfl
theorem sub_add (a b c : Int32) : a - b - c = a - (b + c) := by
  rw [Int32.sub_eq_add_neg, Int32.sub_eq_add_neg, Int32.sub_eq_add_neg, Int32.neg_add, Int32.add_assoc, Int32.sub_eq_add_neg]
theorem p_gapsOf {n nl : Nat} {sets sts wts : Nat → Nat} (hW : WF n nl sets sts wts) {sa p : Nat → Int32} (hsa : SavA (sv nl sets sts wts) sa) {l : List Nat} (hl : l ∈ P n) (hp : ∀ j, j < n → p j = nI (l.getD j 0)) {Q : Int32 → Prop} (h : Q (nI (gpN nl sets sts wts l))) : q_X2_gapsOf (nI (us nl sets sts wts)) sa p (nI n) Q := by
  have hgs := gp_sav hW hl
  have hn := hW.2.1
  have h1 := hW.1
  have hrow := P_row hl
  have hs := hrow.small hn
  have hln : l.length = n := hrow.1
  have hv8 : ∀ c, sv nl sets sts wts 8 c = 0 := fun c => if_neg (by omega)
  unfold q_X2_gapsOf
  refine up2 (fun N x y => q_X2_gapsOf_L8 (nI n) sa p Q N y x) (fun i y => 1 ≤ i ∧ y = nI (us nl sets sts wts) - nI (sav (sv nl sets sts wts) 8 (l.take i))) n ?_ 1 _ h1 ⟨Nat.le_refl 1, ?_⟩
  · intro m i y hi hI ih
    obtain ⟨hi1, rfl⟩ := hI
    rw [q_X2_gapsOf_L8]
    refine ⟨fun hx => ?_, fun hx => ?_⟩
    · rw [nI_leI (by omega) (by omega)] at hx
      rw [List.take_of_length_le (by omega), pk_sub (by omega)]
      rw [show us nl sets sts wts - sav (sv nl sets sts wts) 8 l = gpN nl sets sts wts l by omega]
      exact h
    · rw [nI_leI (by omega) (by omega)] at hx
      have hlt : i < n := by omega
      obtain ⟨i, rfl⟩ : ∃ i', i = i' + 1 := ⟨i - 1, by omega⟩
      rw [nI_pred, nI_clamp (by omega), nI_clamp (by omega), hp i (by omega), hp (i + 1) hlt, ix8, nI_1]
      have b1 := hs _ (getD_mem (l := l) (p := i) (by omega))
      have b2 := hs _ (getD_mem (l := l) (p := i + 1) (by omega))
      rw [nI_clamp (by omega), hsa _ _ (by omega) b2]
      refine ⟨vp_in_nI (by omega) (by omega), vp_in_nI (by omega) (by omega), vp_in_nI (by omega) (by omega), ?_⟩
      intro z ez
      refine ih z hlt ⟨by omega, ?_⟩
      rw [ez, sub_add, nI_add, take_snoc (i := i + 1) (by omega), sav_snoc]
      congr 2
      rw [take_snoc (i := i) (by omega), lastF_snoc]
  · have : sav (sv nl sets sts wts) 8 (l.take 1) = 0 := by
      rw [take_snoc (i := 0) (by omega), List.take_zero, List.nil_append, sav, sav, hv8]
    rw [this]
    exact (Int32.sub_zero _).symm
theorem d_isRow {w : Nat → Int32} {G : List (List Nat)} (hlen : G.length ≤ 40320) (h0 : w 0 = nI G.length) {x : Int32} {Q : Bool → Prop} (h : Q (ix x G.length).isSome) : q_X4_isRow w x Q := by
  unfold q_X4_isRow
  rcases ix_cases x (m := G.length) (by omega) with ⟨i, hi, rfl, e⟩ | ⟨hx, e⟩ | ⟨hx, hx2, e⟩
  · rw [e] at h
    first
    | refine ⟨fun q => absurd q (nI_pos (by omega)), fun _ => p_howMany h0 ⟨fun q => absurd q (nI_ge hi (by omega)), fun _ => h⟩⟩
    | refine ⟨fun _ => p_howMany h0 ⟨fun q => absurd q (nI_ge hi (by omega)), fun _ => h⟩, fun q => absurd (nI_pos' (by omega)) q⟩
    | refine ⟨fun _ => p_howMany h0 ⟨fun _ => h, fun q => absurd (nI_lt hi (by omega)) q⟩, fun q => absurd (nI_pos' (by omega)) q⟩
    | refine ⟨fun q => absurd q (nI_pos (by omega)), fun _ => p_howMany h0 ⟨fun _ => h, fun q => absurd (nI_lt hi (by omega)) q⟩⟩
  · rw [e] at h
    first
    | refine ⟨fun _ => h, fun q => absurd hx q⟩
    | refine ⟨fun q => absurd hx (fa_of_nlt' q), fun _ => h⟩
    | refine ⟨fun q => absurd q (fa_of_lt hx).2.1, fun _ => h⟩
  · rw [e] at h
    have hx0 : (0 : Int32) ≤ x := fa_of_nlt hx
    first
    | refine ⟨fun q => absurd q hx, fun _ => p_howMany h0 ⟨fun _ => h, fun q => absurd hx2 q⟩⟩
    | refine ⟨fun _ => p_howMany h0 ⟨fun _ => h, fun q => absurd hx2 q⟩, fun q => absurd hx0 q⟩
    | refine ⟨fun _ => p_howMany h0 ⟨fun q => absurd hx2 (fa_of_lt q).2.1, fun _ => h⟩, fun q => absurd hx0 q⟩
    | refine ⟨fun q => absurd q hx, fun _ => p_howMany h0 ⟨fun q => absurd hx2 (fa_of_lt q).2.1, fun _ => h⟩⟩
theorem d_gaps {n nl : Nat} {sets sts wts : Nat → Nat} (hW : WF n nl sets sts wts) {se st we f w wr rf : Nat → Int32} (hL : LA nl sets sts wts se st we) (hR : Rw n f w (GG n nl sets sts)) {old un : Int32} {sa mo le : Nat → Int32} (hI : SavI n nl sets sts wts f old un sa mo le) {x : Int32} {Q : Int32 → Int32 → Int32 → (Nat → Int32) → (Nat → Int32) → (Nat → Int32) → (Nat → Int32) → (Nat → Int32) → Prop} (h : ∀ old un sa mo le wr, SavI n nl sets sts wts f old un sa mo le → Q (ansR (sp_gaps nl sets sts wts (GG n nl sets sts) x)) old un sa mo le wr (rfA rf (sp_gaps nl sets sts wts (GG n nl sets sts) x))) : q_X4_gaps (nI n) old (nI nl) se st we (nI n) (nI (2 ^ n - 1)) f w un sa mo le wr rf x Q := by
  have hG := hW.ok
  have hlen := hG.2.2.1
  unfold q_X4_gaps
  refine d_isRow hlen hR.2.2.1 ?_
  unfold sp_gaps at h
  rcases ix_cases x (m := (GG n nl sets sts).length) (by omega) with ⟨i, hi, rfl, e⟩ | ⟨hx, e⟩ | ⟨hx, hx2, e⟩
  · rw [e] at h ⊢
    refine ⟨fun _ => ?_, fun q => Bool.noConfusion q⟩
    refine d_makeSavings hW hL hR hI (fun un sa mo le hok => ?_)
    refine p_write hW.2.1 hR hi (fun p' l hl hp => ?_)
    rw [hok.1]
    refine p_gapsOf hW hok.2.1 (hG.1 _ (List.mem_of_getElem? hl)) hp ?_
    have hq := h 0 un sa mo le p' (Or.inr ⟨rfl, hok⟩)
    rw [hok.1] at hq
    simp only at hq
    rw [getD_eq hl] at hq
    exact hq
  · rw [e] at h ⊢
    exact ⟨fun q => Bool.noConfusion q, fun _ => d_refuse (k := 1) (by omega) (by omega) (by decide) (h _ _ _ _ _ _ hI)⟩
  · rw [e] at h ⊢
    exact ⟨fun q => Bool.noConfusion q, fun _ => d_refuse (k := 1) (by omega) (by omega) (by decide) (h _ _ _ _ _ _ hI)⟩
