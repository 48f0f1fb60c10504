theorem st_table {x_columns : Int32} {x_treeIsOld : Int32} {x_savingsAreOld : Int32} {x_lines_told : Int32} {x_lines_sets : Nat → Int32} {x_lines_states : Nat → Int32} {x_lines_weights : Nat → Int32} {x_good_columns : Int32} {x_good_full : Int32} {x_good_open : Nat → Int32} {x_good_ways : Nat → Int32} {x_trial_columns : Int32} {x_trial_full : Int32} {x_trial_open : Nat → Int32} {x_trial_ways : Nat → Int32} {x_tree_size : Int32} {x_tree_columns : Int32} {x_tree_sets : Nat → Int32} {x_tree_above : Nat → Int32} {x_tree_firm : Nat → Int32} {x_tree_firstRow : Nat → Int32} {x_savings_unsaved : Int32} {x_savings_saved : Nat → Int32} {x_savings_most : Nat → Int32} {x_savings_least : Nat → Int32} {x_written : Nat → Int32} {x_refusals : Nat → Int32} {w_n : Int32} {w_lines : Int32} {w_many : Int32} {w_goods : Int32} {w_isKnown : Int32} {w_knots : Int32} {w_parts : Int32} {w_refusals : Nat → Int32} {w_set : Nat → Int32} {w_state : Nat → Int32} {w_weight : Nat → Int32} {w_all : Nat → Int32} {w_good : Nat → Int32} {w_trial : Nat → Int32} {w_always : Nat → Int32} {w_knot : Nat → Int32} {w_part : Nat → Int32} (hI : Inv x_columns x_treeIsOld x_savingsAreOld x_lines_told x_lines_sets x_lines_states x_lines_weights x_good_columns x_good_full x_good_open x_good_ways x_trial_columns x_trial_full x_trial_open x_trial_ways x_tree_size x_tree_columns x_tree_sets x_tree_above x_tree_firm x_tree_firstRow x_savings_unsaved x_savings_saved x_savings_most x_savings_least x_written x_refusals w_n w_lines w_many w_goods w_isKnown w_knots w_parts w_refusals w_set w_state w_weight w_all w_good w_trial w_always w_knot w_part) (y1 : Int32) : q_X4_table x_columns x_treeIsOld x_savingsAreOld x_lines_told x_good_columns x_good_full x_good_open x_good_ways x_refusals y1 (fun r1 x_columns' x_treeIsOld' x_savingsAreOld' x_lines_told' x_good_columns' x_good_full' x_good_open' x_good_ways' x_refusals' => q_X5_table w_n w_lines w_many w_goods w_isKnown w_refusals w_all w_good y1 (fun r2 w_n' w_lines' w_many' w_goods' w_isKnown' w_refusals' w_all' w_good' => r1 = r2 ∧ Inv x_columns' x_treeIsOld' x_savingsAreOld' x_lines_told' x_lines_sets x_lines_states x_lines_weights x_good_columns' x_good_full' x_good_open' x_good_ways' x_trial_columns x_trial_full x_trial_open x_trial_ways x_tree_size x_tree_columns x_tree_sets x_tree_above x_tree_firm x_tree_firstRow x_savings_unsaved x_savings_saved x_savings_most x_savings_least x_written x_refusals' w_n' w_lines' w_many' w_goods' w_isKnown' w_knots w_parts w_refusals' w_set w_state w_weight w_all' w_good' w_trial w_always w_knot w_part)) := by
  obtain ⟨n, nl, sets, sts, wts, rf, hW, ⟨rfl, rfl, hL, rfl, rfl, hR, hT, hV, rfl⟩, ⟨rfl, rfl, hM, rfl, rfl, hA, hB, hK, rfl⟩⟩ := hI
  have h1 := hW.1
  have hn := hW.2.1
  have hnl := hW.2.2.1
  have hG := hW.ok
  unfold q_X4_table q_X5_table
  refine ⟨fun h1' => ⟨fun h8' => ?_, fun h8' => ?_⟩, fun h1' => ?_⟩
  · obtain ⟨v, hv, rfl⟩ := nI_of2 (x := y1) (M := 8) (n := 8) (by decide) (fun z => by rw [fa_lt] at z; rw [fa_le] at h1'; have z' : y1.toInt < 0 := z; have h1'' : 1 ≤ y1.toInt := h1'; omega) h8'
    have hv1 : 1 ≤ v := (nI_leI (a := 1) (by omega) (by omega)).mp h1'
    obtain ⟨hW', hGP⟩ := WF.table hv1 hv sets sts wts
    unfold q_X4_layTable
    refine p_letAll hv1 hv (fun f' hf' => p_reckon hv1 hv (Gr_full hf') (fun w' hw' => ?_))
    have hR' : Rw v f' w' (P v) := full_ok hv hf' (Gr_full hf') hw'
    unfold q_X4_forgetDerived
    refine ⟨fun _ => ⟨fun _ => p_lay hv1 hv (fun all' good' hA' hB' => ⟨rfl, v, 0, sets, sts, wts, _, hW', ⟨rfl, rfl, fun k hk => absurd hk (Nat.not_lt_zero k), rfl, rfl, by rw [hGP]; exact hR', Or.inl rfl, Or.inl rfl, rfl⟩, ⟨rfl, rfl, fun k hk => absurd hk (Nat.not_lt_zero k), rfl, by rw [hGP], hA', by rw [hGP]; exact hB', Or.inl rfl, rfl⟩⟩), fun z => absurd h8' z⟩, fun z => absurd h1' z⟩
  · refine d_refuse (k := 6) (by omega) (by omega) (by decide) ⟨fun _ => ⟨fun z => absurd z h8', fun _ => m_refuse (k := 6) (by omega) (by omega) (by decide) ⟨rfl, ⟨n, nl, sets, sts, wts, _, hW, ⟨rfl, rfl, hL, rfl, rfl, hR, hT, hV, rfl⟩, ⟨rfl, rfl, hM, rfl, rfl, hA, hB, hK, rfl⟩⟩⟩⟩, fun z => absurd h1' z⟩
  · refine d_refuse (k := 4) (by omega) (by omega) (by decide) ⟨fun z => absurd z h1', fun _ => m_refuse (k := 4) (by omega) (by omega) (by decide) ⟨rfl, ⟨n, nl, sets, sts, wts, _, hW, ⟨rfl, rfl, hL, rfl, rfl, hR, hT, hV, rfl⟩, ⟨rfl, rfl, hM, rfl, rfl, hA, hB, hK, rfl⟩⟩⟩⟩
theorem st_line {x_columns : Int32} {x_treeIsOld : Int32} {x_savingsAreOld : Int32} {x_lines_told : Int32} {x_lines_sets : Nat → Int32} {x_lines_states : Nat → Int32} {x_lines_weights : Nat → Int32} {x_good_columns : Int32} {x_good_full : Int32} {x_good_open : Nat → Int32} {x_good_ways : Nat → Int32} {x_trial_columns : Int32} {x_trial_full : Int32} {x_trial_open : Nat → Int32} {x_trial_ways : Nat → Int32} {x_tree_size : Int32} {x_tree_columns : Int32} {x_tree_sets : Nat → Int32} {x_tree_above : Nat → Int32} {x_tree_firm : Nat → Int32} {x_tree_firstRow : Nat → Int32} {x_savings_unsaved : Int32} {x_savings_saved : Nat → Int32} {x_savings_most : Nat → Int32} {x_savings_least : Nat → Int32} {x_written : Nat → Int32} {x_refusals : Nat → Int32} {w_n : Int32} {w_lines : Int32} {w_many : Int32} {w_goods : Int32} {w_isKnown : Int32} {w_knots : Int32} {w_parts : Int32} {w_refusals : Nat → Int32} {w_set : Nat → Int32} {w_state : Nat → Int32} {w_weight : Nat → Int32} {w_all : Nat → Int32} {w_good : Nat → Int32} {w_trial : Nat → Int32} {w_always : Nat → Int32} {w_knot : Nat → Int32} {w_part : Nat → Int32} (hI : Inv x_columns x_treeIsOld x_savingsAreOld x_lines_told x_lines_sets x_lines_states x_lines_weights x_good_columns x_good_full x_good_open x_good_ways x_trial_columns x_trial_full x_trial_open x_trial_ways x_tree_size x_tree_columns x_tree_sets x_tree_above x_tree_firm x_tree_firstRow x_savings_unsaved x_savings_saved x_savings_most x_savings_least x_written x_refusals w_n w_lines w_many w_goods w_isKnown w_knots w_parts w_refusals w_set w_state w_weight w_all w_good w_trial w_always w_knot w_part) (y1 : Int32) : q_X4_line x_columns x_treeIsOld x_savingsAreOld x_lines_told x_lines_sets x_lines_states x_lines_weights x_good_columns x_good_full x_good_open x_good_ways x_trial_columns x_trial_full x_trial_open x_trial_ways x_refusals y1 (fun r1 x_treeIsOld' x_savingsAreOld' x_lines_told' x_lines_sets' x_lines_states' x_lines_weights' x_good_open' x_good_ways' x_trial_columns' x_trial_full' x_trial_open' x_trial_ways' x_refusals' => q_X5_line w_n w_lines w_goods w_isKnown w_refusals w_set w_state w_weight w_good y1 (fun r2 w_lines' w_goods' w_isKnown' w_refusals' w_set' w_state' w_weight' w_good' => r1 = r2 ∧ Inv x_columns x_treeIsOld' x_savingsAreOld' x_lines_told' x_lines_sets' x_lines_states' x_lines_weights' x_good_columns x_good_full x_good_open' x_good_ways' x_trial_columns' x_trial_full' x_trial_open' x_trial_ways' x_tree_size x_tree_columns x_tree_sets x_tree_above x_tree_firm x_tree_firstRow x_savings_unsaved x_savings_saved x_savings_most x_savings_least x_written x_refusals' w_n w_lines' w_many w_goods' w_isKnown' w_knots w_parts w_refusals' w_set' w_state' w_weight' w_all w_good' w_trial w_always w_knot w_part)) := by
  obtain ⟨n, nl, sets, sts, wts, rf, hW, ⟨rfl, rfl, hL, rfl, rfl, hR, hT, hV, rfl⟩, ⟨rfl, rfl, hM, rfl, rfl, hA, hB, hK, rfl⟩⟩ := hI
  have h1 := hW.1
  have hn := hW.2.1
  have hnl := hW.2.2.1
  have hG := hW.ok
  unfold q_X4_line q_X5_line
  have h8 := pow_le8 hn
  refine d_isSet hn ?_
  rcases ix_cases y1 (m := 2 ^ n) (by omega) with ⟨s, hs, rfl, e⟩ | ⟨hx, e⟩ | ⟨hx, hx2, e⟩
  · rw [e]
    refine ⟨fun _ => ⟨fun h40 => ?_, fun h40 => ?_⟩, fun q => Bool.noConfusion q⟩
    · rw [show (40 : Int32) = nI 40 from rfl, nI_ltI (by omega) (by omega)] at h40
      unfold q_X0_add
      refine ⟨fun z => absurd (show nI 40 ≤ nI nl from z) (nI_ge h40 (by omega)), fun _ => ⟨vp_in_nI h40 (by omega), ?_⟩⟩
      rw [nI_clamp (by omega), nI_1]
      refine d_takeOrLeave h1 hn hR hG h40 hs (by rw [pk_us]) (fun f' w' c1 c2 c3 c4 hR' => ?_)
      refine m_isSet hn ?_
      rw [e]
      refine ⟨fun _ => ⟨fun _ => ⟨vp_in_nI h40 (by omega), ?_⟩, fun z => absurd ((nI_eq (b := 40) (by omega) (by omega)).mp z) (by omega)⟩, fun q => Bool.noConfusion q⟩
      rw [nI_pred]
      refine m_takes hn hG hB h40 (by rw [pk_us]) (fun good' kn' hB' hk0 hk1 => ⟨rfl, ?_⟩)
      have hGa := GG_add (n := n) (nl := nl) (s := s) (sets := sets) (sts := sts)
      rw [← hGa] at hR' hB' ⊢
      refine ⟨n, nl + 1, updN sets nl s, updN sts nl (tkV (GG n nl sets sts) s), updN wts nl 1, _, hW.line hs h40, ⟨rfl, rfl, hL.add (fun j hj => by rw [pk_un (by omega), pk_un (by omega)]) (by rw [pk_us]; rfl), rfl, rfl, hR', Or.inl rfl, Or.inl rfl, rfl⟩, ⟨rfl, rfl, hM.add (fun j hj => pk_un (by omega)) (by rw [pk_us]; rfl), rfl, rfl, hA, hB', ?_, rfl⟩⟩
      cases hq : (GG n nl sets sts).any (tog s)
      · rw [hk0 hq, hGa, hq, if_neg Bool.false_ne_true]
        exact hK
      · exact Or.inl (hk1 hq)
    · rw [show (40 : Int32) = nI 40 from rfl, nI_ltI (by omega) (by omega)] at h40
      have e40 : nl = 40 := by omega
      refine d_refuse (k := 6) (by omega) (by omega) (by decide) (m_isSet hn ?_)
      rw [e]
      refine ⟨fun _ => ⟨fun z => absurd (by rw [e40]; rfl) z, fun _ => m_refuse (k := 6) (by omega) (by omega) (by decide) ⟨rfl, ⟨n, nl, sets, sts, wts, _, hW, ⟨rfl, rfl, hL, rfl, rfl, hR, hT, hV, rfl⟩, ⟨rfl, rfl, hM, rfl, rfl, hA, hB, hK, rfl⟩⟩⟩⟩, fun q => Bool.noConfusion q⟩
  · rw [e]
    refine ⟨fun q => Bool.noConfusion q, fun _ => d_refuse (k := 2) (by omega) (by omega) (by decide) (m_isSet hn ?_)⟩
    rw [e]
    exact ⟨fun q => Bool.noConfusion q, fun _ => m_refuse (k := 2) (by omega) (by omega) (by decide) ⟨rfl, ⟨n, nl, sets, sts, wts, _, hW, ⟨rfl, rfl, hL, rfl, rfl, hR, hT, hV, rfl⟩, ⟨rfl, rfl, hM, rfl, rfl, hA, hB, hK, rfl⟩⟩⟩⟩
  · rw [e]
    refine ⟨fun q => Bool.noConfusion q, fun _ => d_refuse (k := 2) (by omega) (by omega) (by decide) (m_isSet hn ?_)⟩
    rw [e]
    exact ⟨fun q => Bool.noConfusion q, fun _ => m_refuse (k := 2) (by omega) (by omega) (by decide) ⟨rfl, ⟨n, nl, sets, sts, wts, _, hW, ⟨rfl, rfl, hL, rfl, rfl, hR, hT, hV, rfl⟩, ⟨rfl, rfl, hM, rfl, rfl, hA, hB, hK, rfl⟩⟩⟩⟩
theorem st_drop {x_columns : Int32} {x_treeIsOld : Int32} {x_savingsAreOld : Int32} {x_lines_told : Int32} {x_lines_sets : Nat → Int32} {x_lines_states : Nat → Int32} {x_lines_weights : Nat → Int32} {x_good_columns : Int32} {x_good_full : Int32} {x_good_open : Nat → Int32} {x_good_ways : Nat → Int32} {x_trial_columns : Int32} {x_trial_full : Int32} {x_trial_open : Nat → Int32} {x_trial_ways : Nat → Int32} {x_tree_size : Int32} {x_tree_columns : Int32} {x_tree_sets : Nat → Int32} {x_tree_above : Nat → Int32} {x_tree_firm : Nat → Int32} {x_tree_firstRow : Nat → Int32} {x_savings_unsaved : Int32} {x_savings_saved : Nat → Int32} {x_savings_most : Nat → Int32} {x_savings_least : Nat → Int32} {x_written : Nat → Int32} {x_refusals : Nat → Int32} {w_n : Int32} {w_lines : Int32} {w_many : Int32} {w_goods : Int32} {w_isKnown : Int32} {w_knots : Int32} {w_parts : Int32} {w_refusals : Nat → Int32} {w_set : Nat → Int32} {w_state : Nat → Int32} {w_weight : Nat → Int32} {w_all : Nat → Int32} {w_good : Nat → Int32} {w_trial : Nat → Int32} {w_always : Nat → Int32} {w_knot : Nat → Int32} {w_part : Nat → Int32} (hI : Inv x_columns x_treeIsOld x_savingsAreOld x_lines_told x_lines_sets x_lines_states x_lines_weights x_good_columns x_good_full x_good_open x_good_ways x_trial_columns x_trial_full x_trial_open x_trial_ways x_tree_size x_tree_columns x_tree_sets x_tree_above x_tree_firm x_tree_firstRow x_savings_unsaved x_savings_saved x_savings_most x_savings_least x_written x_refusals w_n w_lines w_many w_goods w_isKnown w_knots w_parts w_refusals w_set w_state w_weight w_all w_good w_trial w_always w_knot w_part) (y1 : Int32) : q_X4_drop x_columns x_treeIsOld x_savingsAreOld x_lines_told x_lines_sets x_lines_states x_good_columns x_good_full x_good_open x_good_ways x_refusals y1 (fun r1 x_treeIsOld' x_savingsAreOld' x_lines_states' x_good_columns' x_good_full' x_good_open' x_good_ways' x_refusals' => q_X5_drop w_n w_lines w_many w_goods w_isKnown w_refusals w_set w_state w_all w_good y1 (fun r2 w_goods' w_isKnown' w_refusals' w_state' w_good' => r1 = r2 ∧ Inv x_columns x_treeIsOld' x_savingsAreOld' x_lines_told x_lines_sets x_lines_states' x_lines_weights x_good_columns' x_good_full' x_good_open' x_good_ways' x_trial_columns x_trial_full x_trial_open x_trial_ways x_tree_size x_tree_columns x_tree_sets x_tree_above x_tree_firm x_tree_firstRow x_savings_unsaved x_savings_saved x_savings_most x_savings_least x_written x_refusals' w_n w_lines w_many w_goods' w_isKnown' w_knots w_parts w_refusals' w_set w_state' w_weight w_all w_good' w_trial w_always w_knot w_part)) := by
  obtain ⟨n, nl, sets, sts, wts, rf, hW, ⟨rfl, rfl, hL, rfl, rfl, hR, hT, hV, rfl⟩, ⟨rfl, rfl, hM, rfl, rfl, hA, hB, hK, rfl⟩⟩ := hI
  have h1 := hW.1
  have hn := hW.2.1
  have hnl := hW.2.2.1
  have hG := hW.ok
  unfold q_X4_drop q_X5_drop
  refine d_has hnl ?_
  rcases ix_cases y1 (m := nl) (by omega) with ⟨k, hk, rfl, e⟩ | ⟨hx, e⟩ | ⟨hx, hx2, e⟩
  · rw [e]
    refine ⟨fun _ => ⟨vp_in_nI (by omega) (by omega), ?_⟩, fun q => Bool.noConfusion q⟩
    intro x2 e2
    rw [nI_clamp (by omega), (hL k hk).2.1] at e2
    subst e2
    have hsk := (hW.2.2.2.1 k hk).2.1
    have hm2 : w_state (nI k).toNatClampNeg = nI (sts k) := by rw [nI_clamp (by omega), (hM k hk).2.1]
    refine ⟨fun h2 => ⟨fun h0 => ?_, fun h0 => ?_⟩, fun h2 => ?_⟩
    · have hs0 : sts k ≠ 0 := fun z => h0 (by rw [z]; rfl)
      have hGa := GG_same (n := n) (nl := nl) (sets := sets) (v := 2) hs0 (by omega)
      unfold q_X4_forgetDerived
      refine m_isLine hnl ?_
      rw [e]
      refine ⟨fun _ => ⟨vp_in_nI (by omega) (by omega), fun _ => ?_, fun z => absurd (by rw [hm2] at z; exact z) h2⟩, fun q => Bool.noConfusion q⟩
      intro t8 e8
      rw [hm2, if_neg h0] at e8
      rw [nI_clamp (by omega)]
      refine ⟨fun _ => ⟨rfl, n, nl, sets, updN sts k 2, wts, _, hW.drop, ⟨rfl, rfl, hL.set_st, rfl, rfl, by rw [hGa]; exact hR, Or.inl rfl, Or.inl rfl, rfl⟩, ⟨rfl, rfl, hM.set_st, rfl, by rw [hGa], hA, by rw [hGa]; exact hB, by rw [hGa]; exact hK, rfl⟩⟩, fun z => absurd e8 z⟩
    · rw [nI_clamp (by omega)]
      have hL' : LA nl sets (updN sts k 2) wts x_lines_sets (upd x_lines_states k 2) x_lines_weights := hL.set_st
      have hM' : LA nl sets (updN sts k 2) wts w_set (upd w_state k 2) w_weight := hM.set_st
      have htk : ∀ (st : Nat → Int32) (z : Int32), (∀ j, j < nl → st j = nI (updN sts k 2 j)) → (∀ j, j < nl → ¬ nI j = z) → ∀ j, j < nl → (tkn (updN sts k 2) j = true ↔ (¬ nI j = z ∧ st j = 0)) := fun st z hst hz j hj => by
        have h3 := (hW.drop (k := k)).2.2.2.1 j hj
        rw [hst j hj, show (0 : Int32) = nI 0 from rfl, st_eq h3.2.1 (by omega)]
        unfold tkn
        rw [decide_eq_true_iff]
        exact ⟨fun q => ⟨hz j hj, q⟩, fun q => q.2⟩
      refine d_keepTaken h1 hn hnl (tk := tkn (updN sts k 2)) (fun j hj => ⟨(hL j hj).1, (hW.2.2.2.1 j hj).1⟩) (htk _ _ (fun j hj => (hL' j hj).2.1) (fun j hj => nI_m9 (by omega))) (fun f' w' hg' hw' hp' => p_closeDeadWays hn hg' hw' (fun f'' hc => ?_))
      have hR' := close_ok hn hg' hw' hc
      rw [hp'] at hR'
      unfold q_X4_forgetDerived
      refine m_isLine hnl ?_
      rw [e]
      refine ⟨fun _ => ⟨vp_in_nI (by omega) (by omega), fun _ => ?_, fun z => absurd (by rw [(hM k hk).2.1] at z; exact z) h2⟩, fun q => Bool.noConfusion q⟩
      intro t8 e8
      rw [(hM k hk).2.1, if_pos h0] at e8
      refine ⟨fun z => absurd (e8.symm.trans z) (by decide), fun _ => ?_⟩
      refine p_goodWithout hn hnl (tk := tkn (updN sts k 2)) (fun j hj => (hM j hj).1) (htk _ _ (fun j hj => (hM' j hj).2.1) (fun j hj => nI_mm1 (by omega))) hA (fun to' hB' => ⟨rfl, n, nl, sets, updN sts k 2, wts, _, hW.drop, ⟨rfl, rfl, hL', rfl, rfl, hR', Or.inl rfl, Or.inl rfl, rfl⟩, ⟨rfl, rfl, hM', rfl, rfl, hA, hB', Or.inl rfl, rfl⟩⟩)
    · refine d_refuse (k := 3) (by omega) (by omega) (by decide) (m_isLine hnl ?_)
      rw [e]
      refine ⟨fun _ => ⟨vp_in_nI (by omega) (by omega), fun z => absurd (by rw [hm2]; exact h2) z, fun _ => m_refuse (k := 3) (by omega) (by omega) (by decide) ⟨rfl, ⟨n, nl, sets, sts, wts, _, hW, ⟨rfl, rfl, hL, rfl, rfl, hR, hT, hV, rfl⟩, ⟨rfl, rfl, hM, rfl, rfl, hA, hB, hK, rfl⟩⟩⟩⟩, fun q => Bool.noConfusion q⟩
  · rw [e]
    refine ⟨fun q => Bool.noConfusion q, fun _ => d_refuse (k := 1) (by omega) (by omega) (by decide) (m_isLine hnl ?_)⟩
    rw [e]
    exact ⟨fun q => Bool.noConfusion q, fun _ => m_refuse (k := 1) (by omega) (by omega) (by decide) ⟨rfl, ⟨n, nl, sets, sts, wts, _, hW, ⟨rfl, rfl, hL, rfl, rfl, hR, hT, hV, rfl⟩, ⟨rfl, rfl, hM, rfl, rfl, hA, hB, hK, rfl⟩⟩⟩⟩
  · rw [e]
    refine ⟨fun q => Bool.noConfusion q, fun _ => d_refuse (k := 1) (by omega) (by omega) (by decide) (m_isLine hnl ?_)⟩
    rw [e]
    exact ⟨fun q => Bool.noConfusion q, fun _ => m_refuse (k := 1) (by omega) (by omega) (by decide) ⟨rfl, ⟨n, nl, sets, sts, wts, _, hW, ⟨rfl, rfl, hL, rfl, rfl, hR, hT, hV, rfl⟩, ⟨rfl, rfl, hM, rfl, rfl, hA, hB, hK, rfl⟩⟩⟩⟩
theorem st_again {x_columns : Int32} {x_treeIsOld : Int32} {x_savingsAreOld : Int32} {x_lines_told : Int32} {x_lines_sets : Nat → Int32} {x_lines_states : Nat → Int32} {x_lines_weights : Nat → Int32} {x_good_columns : Int32} {x_good_full : Int32} {x_good_open : Nat → Int32} {x_good_ways : Nat → Int32} {x_trial_columns : Int32} {x_trial_full : Int32} {x_trial_open : Nat → Int32} {x_trial_ways : Nat → Int32} {x_tree_size : Int32} {x_tree_columns : Int32} {x_tree_sets : Nat → Int32} {x_tree_above : Nat → Int32} {x_tree_firm : Nat → Int32} {x_tree_firstRow : Nat → Int32} {x_savings_unsaved : Int32} {x_savings_saved : Nat → Int32} {x_savings_most : Nat → Int32} {x_savings_least : Nat → Int32} {x_written : Nat → Int32} {x_refusals : Nat → Int32} {w_n : Int32} {w_lines : Int32} {w_many : Int32} {w_goods : Int32} {w_isKnown : Int32} {w_knots : Int32} {w_parts : Int32} {w_refusals : Nat → Int32} {w_set : Nat → Int32} {w_state : Nat → Int32} {w_weight : Nat → Int32} {w_all : Nat → Int32} {w_good : Nat → Int32} {w_trial : Nat → Int32} {w_always : Nat → Int32} {w_knot : Nat → Int32} {w_part : Nat → Int32} (hI : Inv x_columns x_treeIsOld x_savingsAreOld x_lines_told x_lines_sets x_lines_states x_lines_weights x_good_columns x_good_full x_good_open x_good_ways x_trial_columns x_trial_full x_trial_open x_trial_ways x_tree_size x_tree_columns x_tree_sets x_tree_above x_tree_firm x_tree_firstRow x_savings_unsaved x_savings_saved x_savings_most x_savings_least x_written x_refusals w_n w_lines w_many w_goods w_isKnown w_knots w_parts w_refusals w_set w_state w_weight w_all w_good w_trial w_always w_knot w_part) (y1 : Int32) : q_X4_again x_treeIsOld x_savingsAreOld x_lines_told x_lines_sets x_lines_states x_good_columns x_good_full x_good_open x_good_ways x_trial_columns x_trial_full x_trial_open x_trial_ways x_refusals y1 (fun r1 x_treeIsOld' x_savingsAreOld' x_lines_states' x_good_open' x_good_ways' x_trial_columns' x_trial_full' x_trial_open' x_trial_ways' x_refusals' => q_X5_again w_n w_lines w_goods w_isKnown w_refusals w_set w_state w_good y1 (fun r2 w_goods' w_isKnown' w_refusals' w_state' w_good' => r1 = r2 ∧ Inv x_columns x_treeIsOld' x_savingsAreOld' x_lines_told x_lines_sets x_lines_states' x_lines_weights x_good_columns x_good_full x_good_open' x_good_ways' x_trial_columns' x_trial_full' x_trial_open' x_trial_ways' x_tree_size x_tree_columns x_tree_sets x_tree_above x_tree_firm x_tree_firstRow x_savings_unsaved x_savings_saved x_savings_most x_savings_least x_written x_refusals' w_n w_lines w_many w_goods' w_isKnown' w_knots w_parts w_refusals' w_set w_state' w_weight w_all w_good' w_trial w_always w_knot w_part)) := by
  obtain ⟨n, nl, sets, sts, wts, rf, hW, ⟨rfl, rfl, hL, rfl, rfl, hR, hT, hV, rfl⟩, ⟨rfl, rfl, hM, rfl, rfl, hA, hB, hK, rfl⟩⟩ := hI
  have h1 := hW.1
  have hn := hW.2.1
  have hnl := hW.2.2.1
  have hG := hW.ok
  unfold q_X4_again q_X5_again
  refine d_has hnl ?_
  rcases ix_cases y1 (m := nl) (by omega) with ⟨k, hk, rfl, e⟩ | ⟨hx, e⟩ | ⟨hx, hx2, e⟩
  · rw [e]
    refine ⟨fun _ => ⟨vp_in_nI (by omega) (by omega), fun h0 => ?_, fun h0 => ?_⟩, fun q => Bool.noConfusion q⟩
    · rw [nI_clamp (by omega), (hL k hk).2.1] at h0
      have hs0 : sts k ≠ 0 := fun z => h0 (by rw [z]; rfl)
      have hWa := hW.again hk hs0
      have hGa := tkV_G (n := n) (sets := sets) hk hs0
      refine d_takeOrLeave h1 hn hR hG (by omega) (hW.2.2.2.1 k hk).1 (hL k hk).1 (fun f' w' c1 c2 c3 c4 hR' => ?_)
      rw [nI_clamp (by omega), pk_us, tkV_if]
      cases hq : (GG n nl sets sts).any (tog (sets k))
      · have hv : tkV (GG n nl sets sts) (sets k) = 1 := by unfold tkV; rw [hq]; rfl
        rw [hv] at hWa hGa ⊢
        rw [hq, if_neg Bool.false_ne_true] at hR' hGa
        refine ⟨fun _ => m_isLine hnl ?_, fun z => absurd z (by decide)⟩
        rw [e]
        refine ⟨fun _ => ⟨vp_in_nI (by omega) (by omega), fun _ => ?_, fun z => absurd (by rw [(hM k hk).2.1] at z; exact z) h0⟩, fun q => Bool.noConfusion q⟩
        refine m_takes hn hG hB (by omega) (hM k hk).1 (fun good' kn' hB' hk0 hk1 => ?_)
        rw [pk_us, tkV_if, hv, hk0 hq]
        rw [hq, if_neg Bool.false_ne_true] at hB' ⊢
        refine ⟨fun _ => ⟨rfl, n, nl, sets, updN sts k 1, wts, _, hWa, ⟨rfl, rfl, hL.set_st, rfl, rfl, by rw [hGa]; exact hR', Or.inl rfl, Or.inl rfl, rfl⟩, ⟨rfl, rfl, hM.set_st, rfl, by rw [hGa], hA, by rw [hGa]; exact hB', by rw [hGa]; exact hK, rfl⟩⟩, fun z => absurd z (by decide)⟩
      · have hv : tkV (GG n nl sets sts) (sets k) = 0 := by unfold tkV; rw [hq]; rfl
        rw [hv] at hWa hGa ⊢
        rw [hq, if_pos rfl] at hR' hGa
        refine ⟨fun z => absurd rfl z, fun _ => m_isLine hnl ?_⟩
        rw [e]
        refine ⟨fun _ => ⟨vp_in_nI (by omega) (by omega), fun _ => ?_, fun z => absurd (by rw [(hM k hk).2.1] at z; exact z) h0⟩, fun q => Bool.noConfusion q⟩
        refine m_takes hn hG hB (by omega) (hM k hk).1 (fun good' kn' hB' hk0 hk1 => ?_)
        rw [pk_us, tkV_if, hv, hk1 hq]
        rw [hq, if_pos rfl] at hB' ⊢
        refine ⟨fun z => absurd rfl z, fun _ => ⟨rfl, n, nl, sets, updN sts k 0, wts, _, hWa, ⟨rfl, rfl, hL.set_st, rfl, rfl, by rw [hGa]; exact hR', Or.inl rfl, Or.inl rfl, rfl⟩, ⟨rfl, rfl, hM.set_st, rfl, by rw [hGa], hA, by rw [hGa]; exact hB', Or.inl rfl, rfl⟩⟩⟩
    · rw [nI_clamp (by omega), (hL k hk).2.1] at h0
      refine d_refuse (k := 3) (by omega) (by omega) (by decide) (m_isLine hnl ?_)
      rw [e]
      refine ⟨fun _ => ⟨vp_in_nI (by omega) (by omega), fun h0' => absurd (by rw [nI_clamp (by omega), (hM k hk).2.1]; exact h0) h0', fun _ => m_refuse (k := 3) (by omega) (by omega) (by decide) ⟨rfl, ⟨n, nl, sets, sts, wts, _, hW, ⟨rfl, rfl, hL, rfl, rfl, hR, hT, hV, rfl⟩, ⟨rfl, rfl, hM, rfl, rfl, hA, hB, hK, rfl⟩⟩⟩⟩, fun q => Bool.noConfusion q⟩
  · rw [e]
    refine ⟨fun q => Bool.noConfusion q, fun _ => d_refuse (k := 1) (by omega) (by omega) (by decide) (m_isLine hnl ?_)⟩
    rw [e]
    exact ⟨fun q => Bool.noConfusion q, fun _ => m_refuse (k := 1) (by omega) (by omega) (by decide) ⟨rfl, ⟨n, nl, sets, sts, wts, _, hW, ⟨rfl, rfl, hL, rfl, rfl, hR, hT, hV, rfl⟩, ⟨rfl, rfl, hM, rfl, rfl, hA, hB, hK, rfl⟩⟩⟩⟩
  · rw [e]
    refine ⟨fun q => Bool.noConfusion q, fun _ => d_refuse (k := 1) (by omega) (by omega) (by decide) (m_isLine hnl ?_)⟩
    rw [e]
    exact ⟨fun q => Bool.noConfusion q, fun _ => m_refuse (k := 1) (by omega) (by omega) (by decide) ⟨rfl, ⟨n, nl, sets, sts, wts, _, hW, ⟨rfl, rfl, hL, rfl, rfl, hR, hT, hV, rfl⟩, ⟨rfl, rfl, hM, rfl, rfl, hA, hB, hK, rfl⟩⟩⟩⟩
theorem st_weight {x_columns : Int32} {x_treeIsOld : Int32} {x_savingsAreOld : Int32} {x_lines_told : Int32} {x_lines_sets : Nat → Int32} {x_lines_states : Nat → Int32} {x_lines_weights : Nat → Int32} {x_good_columns : Int32} {x_good_full : Int32} {x_good_open : Nat → Int32} {x_good_ways : Nat → Int32} {x_trial_columns : Int32} {x_trial_full : Int32} {x_trial_open : Nat → Int32} {x_trial_ways : Nat → Int32} {x_tree_size : Int32} {x_tree_columns : Int32} {x_tree_sets : Nat → Int32} {x_tree_above : Nat → Int32} {x_tree_firm : Nat → Int32} {x_tree_firstRow : Nat → Int32} {x_savings_unsaved : Int32} {x_savings_saved : Nat → Int32} {x_savings_most : Nat → Int32} {x_savings_least : Nat → Int32} {x_written : Nat → Int32} {x_refusals : Nat → Int32} {w_n : Int32} {w_lines : Int32} {w_many : Int32} {w_goods : Int32} {w_isKnown : Int32} {w_knots : Int32} {w_parts : Int32} {w_refusals : Nat → Int32} {w_set : Nat → Int32} {w_state : Nat → Int32} {w_weight : Nat → Int32} {w_all : Nat → Int32} {w_good : Nat → Int32} {w_trial : Nat → Int32} {w_always : Nat → Int32} {w_knot : Nat → Int32} {w_part : Nat → Int32} (hI : Inv x_columns x_treeIsOld x_savingsAreOld x_lines_told x_lines_sets x_lines_states x_lines_weights x_good_columns x_good_full x_good_open x_good_ways x_trial_columns x_trial_full x_trial_open x_trial_ways x_tree_size x_tree_columns x_tree_sets x_tree_above x_tree_firm x_tree_firstRow x_savings_unsaved x_savings_saved x_savings_most x_savings_least x_written x_refusals w_n w_lines w_many w_goods w_isKnown w_knots w_parts w_refusals w_set w_state w_weight w_all w_good w_trial w_always w_knot w_part) (y1 y2 : Int32) : q_X4_weight x_savingsAreOld x_lines_told x_lines_weights x_refusals y1 y2 (fun r1 x_savingsAreOld' x_lines_weights' x_refusals' => q_X5_weight w_lines w_refusals w_weight y1 y2 (fun r2 w_refusals' w_weight' => r1 = r2 ∧ Inv x_columns x_treeIsOld x_savingsAreOld' x_lines_told x_lines_sets x_lines_states x_lines_weights' x_good_columns x_good_full x_good_open x_good_ways x_trial_columns x_trial_full x_trial_open x_trial_ways x_tree_size x_tree_columns x_tree_sets x_tree_above x_tree_firm x_tree_firstRow x_savings_unsaved x_savings_saved x_savings_most x_savings_least x_written x_refusals' w_n w_lines w_many w_goods w_isKnown w_knots w_parts w_refusals' w_set w_state w_weight' w_all w_good w_trial w_always w_knot w_part)) := by
  obtain ⟨n, nl, sets, sts, wts, rf, hW, ⟨rfl, rfl, hL, rfl, rfl, hR, hT, hV, rfl⟩, ⟨rfl, rfl, hM, rfl, rfl, hA, hB, hK, rfl⟩⟩ := hI
  have h1 := hW.1
  have hn := hW.2.1
  have hnl := hW.2.2.1
  have hG := hW.ok
  unfold q_X4_weight q_X5_weight
  refine d_has hnl ?_
  rcases ix_cases y1 (m := nl) (by omega) with ⟨k, hk, rfl, e⟩ | ⟨hx, e⟩ | ⟨hx, hx2, e⟩
  · rw [e]
    refine ⟨fun _ => ⟨fun h0 => ⟨fun h100 => ?_, fun h100 => ?_⟩, fun h0 => ?_⟩, fun q => Bool.noConfusion q⟩
    · obtain ⟨v, hv, rfl⟩ := nI_of2 (M := 100) (n := 100) (by decide) (fun z => (fa_of_lt z).2.1 h0) h100
      refine ⟨vp_in_nI (by omega) (by omega), ?_⟩
      intro x3 e3
      refine m_isLine hnl ?_
      rw [e]
      refine ⟨fun _ => ⟨fun _ => ⟨fun _ => ⟨vp_in_nI (by omega) (by omega), ?_⟩, fun z => absurd h100 z⟩, fun z => absurd h0 z⟩, fun q => Bool.noConfusion q⟩
      intro x3' e3'
      rw [nI_clamp (by omega)] at e3 e3' ⊢
      refine ⟨by rw [e3, e3', (hL k hk).2.2, (hM k hk).2.2], n, nl, sets, sts, updN wts k v, _, hW.wt hv, ⟨rfl, rfl, hL.set_wt, rfl, rfl, hR, hT, Or.inl rfl, rfl⟩, ⟨rfl, rfl, hM.set_wt, rfl, rfl, hA, hB, hK, rfl⟩⟩
    · refine d_refuse (k := 6) (by omega) (by omega) (by decide) ?_
      refine m_isLine hnl ?_
      rw [e]
      refine ⟨fun _ => ⟨fun _ => ⟨fun z => absurd z h100, fun _ => m_refuse (k := 6) (by omega) (by omega) (by decide) ⟨rfl, ⟨n, nl, sets, sts, wts, _, hW, ⟨rfl, rfl, hL, rfl, rfl, hR, hT, hV, rfl⟩, ⟨rfl, rfl, hM, rfl, rfl, hA, hB, hK, rfl⟩⟩⟩⟩, fun z => absurd h0 z⟩, fun q => Bool.noConfusion q⟩
    · refine d_refuse (k := 4) (by omega) (by omega) (by decide) ?_
      refine m_isLine hnl ?_
      rw [e]
      refine ⟨fun _ => ⟨fun z => absurd z h0, fun _ => m_refuse (k := 4) (by omega) (by omega) (by decide) ⟨rfl, ⟨n, nl, sets, sts, wts, _, hW, ⟨rfl, rfl, hL, rfl, rfl, hR, hT, hV, rfl⟩, ⟨rfl, rfl, hM, rfl, rfl, hA, hB, hK, rfl⟩⟩⟩⟩, fun q => Bool.noConfusion q⟩
  · rw [e]
    refine ⟨fun q => Bool.noConfusion q, fun _ => d_refuse (k := 1) (by omega) (by omega) (by decide) (m_isLine hnl ?_)⟩
    rw [e]
    exact ⟨fun q => Bool.noConfusion q, fun _ => m_refuse (k := 1) (by omega) (by omega) (by decide) ⟨rfl, ⟨n, nl, sets, sts, wts, _, hW, ⟨rfl, rfl, hL, rfl, rfl, hR, hT, hV, rfl⟩, ⟨rfl, rfl, hM, rfl, rfl, hA, hB, hK, rfl⟩⟩⟩⟩
  · rw [e]
    refine ⟨fun q => Bool.noConfusion q, fun _ => d_refuse (k := 1) (by omega) (by omega) (by decide) (m_isLine hnl ?_)⟩
    rw [e]
    exact ⟨fun q => Bool.noConfusion q, fun _ => m_refuse (k := 1) (by omega) (by omega) (by decide) ⟨rfl, ⟨n, nl, sets, sts, wts, _, hW, ⟨rfl, rfl, hL, rfl, rfl, hR, hT, hV, rfl⟩, ⟨rfl, rfl, hM, rfl, rfl, hA, hB, hK, rfl⟩⟩⟩⟩
theorem st_spare {x_columns : Int32} {x_treeIsOld : Int32} {x_savingsAreOld : Int32} {x_lines_told : Int32} {x_lines_sets : Nat → Int32} {x_lines_states : Nat → Int32} {x_lines_weights : Nat → Int32} {x_good_columns : Int32} {x_good_full : Int32} {x_good_open : Nat → Int32} {x_good_ways : Nat → Int32} {x_trial_columns : Int32} {x_trial_full : Int32} {x_trial_open : Nat → Int32} {x_trial_ways : Nat → Int32} {x_tree_size : Int32} {x_tree_columns : Int32} {x_tree_sets : Nat → Int32} {x_tree_above : Nat → Int32} {x_tree_firm : Nat → Int32} {x_tree_firstRow : Nat → Int32} {x_savings_unsaved : Int32} {x_savings_saved : Nat → Int32} {x_savings_most : Nat → Int32} {x_savings_least : Nat → Int32} {x_written : Nat → Int32} {x_refusals : Nat → Int32} {w_n : Int32} {w_lines : Int32} {w_many : Int32} {w_goods : Int32} {w_isKnown : Int32} {w_knots : Int32} {w_parts : Int32} {w_refusals : Nat → Int32} {w_set : Nat → Int32} {w_state : Nat → Int32} {w_weight : Nat → Int32} {w_all : Nat → Int32} {w_good : Nat → Int32} {w_trial : Nat → Int32} {w_always : Nat → Int32} {w_knot : Nat → Int32} {w_part : Nat → Int32} (hI : Inv x_columns x_treeIsOld x_savingsAreOld x_lines_told x_lines_sets x_lines_states x_lines_weights x_good_columns x_good_full x_good_open x_good_ways x_trial_columns x_trial_full x_trial_open x_trial_ways x_tree_size x_tree_columns x_tree_sets x_tree_above x_tree_firm x_tree_firstRow x_savings_unsaved x_savings_saved x_savings_most x_savings_least x_written x_refusals w_n w_lines w_many w_goods w_isKnown w_knots w_parts w_refusals w_set w_state w_weight w_all w_good w_trial w_always w_knot w_part) (y1 : Int32) : q_X4_spare x_columns x_lines_told x_lines_sets x_lines_states x_good_ways x_trial_columns x_trial_full x_trial_open x_trial_ways x_refusals y1 (fun r1 x_trial_columns' x_trial_full' x_trial_open' x_trial_ways' x_refusals' => q_X5_spare w_n w_lines w_many w_goods w_refusals w_set w_state w_all w_trial y1 (fun r2 w_refusals' w_trial' => r1 = r2 ∧ Inv x_columns x_treeIsOld x_savingsAreOld x_lines_told x_lines_sets x_lines_states x_lines_weights x_good_columns x_good_full x_good_open x_good_ways x_trial_columns' x_trial_full' x_trial_open' x_trial_ways' x_tree_size x_tree_columns x_tree_sets x_tree_above x_tree_firm x_tree_firstRow x_savings_unsaved x_savings_saved x_savings_most x_savings_least x_written x_refusals' w_n w_lines w_many w_goods w_isKnown w_knots w_parts w_refusals' w_set w_state w_weight w_all w_good w_trial' w_always w_knot w_part)) := by
  obtain ⟨n, nl, sets, sts, wts, rf, hW, ⟨rfl, rfl, hL, rfl, rfl, hR, hT, hV, rfl⟩, ⟨rfl, rfl, hM, rfl, rfl, hA, hB, hK, rfl⟩⟩ := hI
  have h1 := hW.1
  have hn := hW.2.1
  have hnl := hW.2.2.1
  have hG := hW.ok
  unfold q_X4_spare q_X5_spare
  refine d_has hnl ?_
  rcases ix_cases y1 (m := nl) (by omega) with ⟨k, hk, rfl, e⟩ | ⟨hx, e⟩ | ⟨hx, hx2, e⟩
  · rw [e]
    refine ⟨fun _ => ⟨vp_in_nI (by omega) (by omega), fun h0 => ?_, fun h0 => ?_⟩, fun q => Bool.noConfusion q⟩
    · rw [nI_clamp (by omega), (hL k hk).2.1] at h0
      have htk : ∀ (st : Nat → Int32), (∀ j, j < nl → st j = nI (sts j)) → ∀ j, j < nl → ((decide (j ≠ k) && tkn sts j) = true ↔ (¬ nI j = nI k ∧ st j = 0)) := fun st hst j hj => by
        rw [hst j hj, nI_eq (by omega) (by omega), show (0 : Int32) = nI 0 from rfl, st_eq (hW.2.2.2.1 j hj).2.1 (by omega)]
        simp [tkn]
      refine d_keepTaken h1 hn hnl (tk := fun j => decide (j ≠ k) && tkn sts j) (fun j hj => ⟨(hL j hj).1, (hW.2.2.2.1 j hj).1⟩) (htk _ (fun j hj => (hL j hj).2.1)) (fun f' w' _ _ _ => p_howMany hR.2.2.1 ?_)
      refine ⟨fun q => m_isLine hnl ?_, fun q => m_isLine hnl ?_⟩
      · rw [e]
        refine ⟨fun _ => ⟨vp_in_nI (by omega) (by omega), fun h0' => ?_, fun h0' => absurd (by rw [nI_clamp (by omega), (hM k hk).2.1]; exact h0) h0'⟩, fun q => Bool.noConfusion q⟩
        refine p_goodWithout hn hnl (tk := fun j => decide (j ≠ k) && tkn sts j) (fun j hj => (hM j hj).1) (htk _ (fun j hj => (hM j hj).2.1)) hA (fun to' _ => ⟨fun _ => ⟨rfl, ⟨n, nl, sets, sts, wts, _, hW, ⟨rfl, rfl, hL, rfl, rfl, hR, hT, hV, rfl⟩, ⟨rfl, rfl, hM, rfl, rfl, hA, hB, hK, rfl⟩⟩⟩, fun z => absurd z q⟩)
      · rw [e]
        refine ⟨fun _ => ⟨vp_in_nI (by omega) (by omega), fun h0' => ?_, fun h0' => absurd (by rw [nI_clamp (by omega), (hM k hk).2.1]; exact h0) h0'⟩, fun q => Bool.noConfusion q⟩
        refine p_goodWithout hn hnl (tk := fun j => decide (j ≠ k) && tkn sts j) (fun j hj => (hM j hj).1) (htk _ (fun j hj => (hM j hj).2.1)) hA (fun to' _ => ⟨fun z => absurd q z, fun _ => ⟨rfl, ⟨n, nl, sets, sts, wts, _, hW, ⟨rfl, rfl, hL, rfl, rfl, hR, hT, hV, rfl⟩, ⟨rfl, rfl, hM, rfl, rfl, hA, hB, hK, rfl⟩⟩⟩⟩)
    · rw [nI_clamp (by omega), (hL k hk).2.1] at h0
      refine d_refuse (k := 3) (by omega) (by omega) (by decide) (m_isLine hnl ?_)
      rw [e]
      refine ⟨fun _ => ⟨vp_in_nI (by omega) (by omega), fun h0' => absurd (by rw [nI_clamp (by omega), (hM k hk).2.1] at h0'; exact h0') h0, fun _ => m_refuse (k := 3) (by omega) (by omega) (by decide) ⟨rfl, ⟨n, nl, sets, sts, wts, _, hW, ⟨rfl, rfl, hL, rfl, rfl, hR, hT, hV, rfl⟩, ⟨rfl, rfl, hM, rfl, rfl, hA, hB, hK, rfl⟩⟩⟩⟩, fun q => Bool.noConfusion q⟩
  · rw [e]
    refine ⟨fun q => Bool.noConfusion q, fun _ => d_refuse (k := 1) (by omega) (by omega) (by decide) (m_isLine hnl ?_)⟩
    rw [e]
    exact ⟨fun q => Bool.noConfusion q, fun _ => m_refuse (k := 1) (by omega) (by omega) (by decide) ⟨rfl, ⟨n, nl, sets, sts, wts, _, hW, ⟨rfl, rfl, hL, rfl, rfl, hR, hT, hV, rfl⟩, ⟨rfl, rfl, hM, rfl, rfl, hA, hB, hK, rfl⟩⟩⟩⟩
  · rw [e]
    refine ⟨fun q => Bool.noConfusion q, fun _ => d_refuse (k := 1) (by omega) (by omega) (by decide) (m_isLine hnl ?_)⟩
    rw [e]
    exact ⟨fun q => Bool.noConfusion q, fun _ => m_refuse (k := 1) (by omega) (by omega) (by decide) ⟨rfl, ⟨n, nl, sets, sts, wts, _, hW, ⟨rfl, rfl, hL, rfl, rfl, hR, hT, hV, rfl⟩, ⟨rfl, rfl, hM, rfl, rfl, hA, hB, hK, rfl⟩⟩⟩⟩
