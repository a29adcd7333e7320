set_option maxHeartbeats 4000000 in
set_option maxRecDepth 20000 in
theorem C_lk_value {l : Launch} {G : Gt} {M : Me} {i0 : Nat} {s0 : Nat} {r0 : Nat} {a1 : Int32} (hi0 : i0 < 9) (hs0 : s0 < 4) (hr0 : r0 < 8) {o : Int32} (h : f_lk_value M i0 s0 r0 a1 = some o) : Ct l G (WC G) (rC G) y_lk_value b_lk_value 3 (some .int) rm_lk_value [.ref (G.1 + oLNK i0 s0 r0), .int a1] M (some (.int o)) M := by
  refine Ct.mk (own := "RetryChains$Link") rfl (by decide) (Nat.le_of_ble_eq_true rfl) ⟨_, rfl⟩ (fun X hXl hXR hXn ok hG fin => ?_)
  subst hXl
  unfold f_lk_value at h
  show Wt X M 0 [(0, .ref (G.1 + oLNK i0 s0 r0)), (1, .int a1)] []
  refine r_aload_n (n := 1) rfl ok d_lk_value_0 rfl 0 rfl ?_
  refine g_LNK_estimate (n := 4) rfl ok hG hi0 hs0 hr0 k_91 d_lk_value_1 ?_
  refine r_sipush (v := 6554) (n := 7) rfl ok d_lk_value_4 (by decide) ?_
  refine r_icmp_lt (tgt := 15) (n := 10) rfl ok d_lk_value_7 (by decide) (fun c1 => ?_) (fun c1 => ?_)
  · replace h := if_p c1 h
    refine r_iconst (v := 0) (n := 16) rfl ok d_lk_value_15 (by decide) ?_
    obtain rfl := Option.some.inj h
    exact fin _ _ ⟨.int, rfl, rfl⟩ d_lk_value_16
  · replace h := if_n c1 h
    refine r_iload_n (n := 11) rfl ok d_lk_value_10 rfl 1 rfl ?_
    refine r_iconst (v := 1) (n := 12) rfl ok d_lk_value_11 (by decide) ?_
    refine r_icmp_ge (tgt := 17) (n := 15) rfl ok d_lk_value_12 (by decide) (fun c2 => ?_) (fun c2 => ?_)
    · replace h := if_p c2 h
      refine r_aload_n (n := 18) rfl ok d_lk_value_17 rfl 0 rfl ?_
      refine g_LNK_estimate (n := 21) rfl ok hG hi0 hs0 hr0 k_91 d_lk_value_18 ?_
      refine r_ldc (n := 23) rfl ok d_lk_value_21 k_446 ?_
      refine r_icmp_le (tgt := 31) (n := 26) rfl ok d_lk_value_23 (by decide) (fun c3 => ?_) (fun c3 => ?_)
      · replace h := if_p c3 h
        refine r_aload_n (n := 32) rfl ok d_lk_value_31 rfl 0 rfl ?_
        refine g_LNK_estimate (n := 35) rfl ok hG hi0 hs0 hr0 k_91 d_lk_value_32 ?_
        refine r_istore_n (lv' := [(2, .int (M.1 21 i0 s0 r0)), (0, .ref (G.1 + oLNK i0 s0 r0)), (1, .int a1)]) (n := 36) rfl ok d_lk_value_35 rfl (lt_n hXn (Nat.le_of_ble_eq_true rfl)) rfl ?_
        refine r_iload_n (n := 37) rfl ok d_lk_value_36 rfl 0 rfl ?_
        refine r_sipush (v := 9600) (n := 40) rfl ok d_lk_value_37 (by decide) ?_
        refine r_imul (n := 41) rfl ok d_lk_value_40 ?_
        refine r_iload_n (n := 42) rfl ok d_lk_value_41 rfl 2 rfl ?_
        obtain ⟨g4, h⟩ := gd_ok h
        refine r_idiv (n := 43) rfl ok d_lk_value_42 g4 ?_
        obtain rfl := Option.some.inj h
        exact fin _ _ ⟨.int, rfl, rfl⟩ d_lk_value_43
      · replace h := if_n c3 h
        refine r_ldc (n := 28) rfl ok d_lk_value_26 k_446 ?_
        refine r_goto (tgt := 35) ok d_lk_value_28 (by decide) ?_
        refine r_istore_n (lv' := [(2, .int 58982), (0, .ref (G.1 + oLNK i0 s0 r0)), (1, .int a1)]) (n := 36) rfl ok d_lk_value_35 rfl (lt_n hXn (Nat.le_of_ble_eq_true rfl)) rfl ?_
        refine r_iload_n (n := 37) rfl ok d_lk_value_36 rfl 0 rfl ?_
        refine r_sipush (v := 9600) (n := 40) rfl ok d_lk_value_37 (by decide) ?_
        refine r_imul (n := 41) rfl ok d_lk_value_40 ?_
        refine r_iload_n (n := 42) rfl ok d_lk_value_41 rfl 2 rfl ?_
        obtain ⟨g5, h⟩ := gd_ok h
        refine r_idiv (n := 43) rfl ok d_lk_value_42 g5 ?_
        obtain rfl := Option.some.inj h
        exact fin _ _ ⟨.int, rfl, rfl⟩ d_lk_value_43
    · replace h := if_n c2 h
      refine r_iconst (v := 0) (n := 16) rfl ok d_lk_value_15 (by decide) ?_
      obtain rfl := Option.some.inj h
      exact fin _ _ ⟨.int, rfl, rfl⟩ d_lk_value_16
set_option maxHeartbeats 4000000 in
set_option maxRecDepth 20000 in
theorem C_lk_sample {l : Launch} {G : Gt} {M : Me} {i0 : Nat} {s0 : Nat} {r0 : Nat} (hi0 : i0 < 9) (hs0 : s0 < 4) (hr0 : r0 < 8) {o : Int32} (h : f_lk_sample M i0 s0 r0 = some o) : Ct l G (WC G) (rC G) y_lk_sample b_lk_sample 1 (some .int) rm_lk_sample [.ref (G.1 + oLNK i0 s0 r0)] M (some (.int o)) M := by
  refine Ct.mk (own := "RetryChains$Link") rfl (by decide) (Nat.le_of_ble_eq_true rfl) ⟨_, rfl⟩ (fun X hXl hXR hXn ok hG fin => ?_)
  subst hXl
  unfold f_lk_sample at h
  show Wt X M 0 [(0, .ref (G.1 + oLNK i0 s0 r0))] []
  refine r_aload_n (n := 1) rfl ok d_lk_sample_0 rfl 0 rfl ?_
  refine g_LNK_tries (n := 4) rfl ok hG hi0 hs0 hr0 k_96 d_lk_sample_1 ?_
  refine r_iconst (v := 1) (n := 5) rfl ok d_lk_sample_4 (by decide) ?_
  refine r_icmp_ge (tgt := 12) (n := 8) rfl ok d_lk_sample_5 (by decide) (fun c1 => ?_) (fun c1 => ?_)
  · replace h := if_p c1 h
    refine r_aload_n (n := 13) rfl ok d_lk_sample_12 rfl 0 rfl ?_
    refine g_LNK_successes (n := 16) rfl ok hG hi0 hs0 hr0 k_99 d_lk_sample_13 ?_
    refine r_i2l (n := 17) rfl ok d_lk_sample_16 ?_
    refine r_ldc2 (n := 20) rfl ok d_lk_sample_17 k_657 ?_
    refine r_lmul (n := 21) rfl ok d_lk_sample_20 ?_
    refine r_aload_n (n := 22) rfl ok d_lk_sample_21 rfl 0 rfl ?_
    refine g_LNK_tries (n := 25) rfl ok hG hi0 hs0 hr0 k_96 d_lk_sample_22 ?_
    refine r_i2l (n := 26) rfl ok d_lk_sample_25 ?_
    obtain ⟨g2, h⟩ := gd_ok h
    refine r_ldiv (n := 27) rfl ok d_lk_sample_26 g2 ?_
    refine r_l2i (n := 28) rfl ok d_lk_sample_27 ?_
    obtain rfl := Option.some.inj h
    exact fin _ _ ⟨.int, rfl, rfl⟩ d_lk_sample_28
  · replace h := if_n c1 h
    refine r_iconst (v := 0) (n := 9) rfl ok d_lk_sample_8 (by decide) ?_
    refine r_goto (tgt := 28) ok d_lk_sample_9 (by decide) ?_
    obtain rfl := Option.some.inj h
    exact fin _ _ ⟨.int, rfl, rfl⟩ d_lk_sample_28
set_option maxHeartbeats 4000000 in
set_option maxRecDepth 20000 in
theorem C_lk_swing {l : Launch} {G : Gt} {M : Me} {i0 : Nat} {s0 : Nat} {r0 : Nat} {a1 : Int32} (hi0 : i0 < 9) (hs0 : s0 < 4) (hr0 : r0 < 8) {o : Int32} (h : f_lk_swing M i0 s0 r0 a1 = some o) : Ct l G (WC G) (rC G) y_lk_swing b_lk_swing 2 (some .int) rm_lk_swing [.ref (G.1 + oLNK i0 s0 r0), .int a1] M (some (.int o)) M := by
  refine Ct.mk (own := "RetryChains$Link") rfl (by decide) (Nat.le_of_ble_eq_true rfl) ⟨_, rfl⟩ (fun X hXl hXR hXn ok hG fin => ?_)
  subst hXl
  unfold f_lk_swing at h
  show Wt X M 0 [(0, .ref (G.1 + oLNK i0 s0 r0)), (1, .int a1)] []
  refine r_iload_n (n := 1) rfl ok d_lk_swing_0 rfl 1 rfl ?_
  refine r_aload_n (n := 2) rfl ok d_lk_swing_1 rfl 0 rfl ?_
  refine g_LNK_estimate (n := 5) rfl ok hG hi0 hs0 hr0 k_91 d_lk_swing_2 ?_
  refine r_isub (n := 6) rfl ok d_lk_swing_5 ?_
  refine r_sipush (v := 19661) (n := 9) rfl ok d_lk_swing_6 (by decide) ?_
  refine r_icmp_lt (tgt := 14) (n := 12) rfl ok d_lk_swing_9 (by decide) (fun c1 => ?_) (fun c1 => ?_)
  · replace h := if_p c1 h
    refine r_iload_n (n := 15) rfl ok d_lk_swing_14 rfl 1 rfl ?_
    refine r_aload_n (n := 16) rfl ok d_lk_swing_15 rfl 0 rfl ?_
    refine g_LNK_estimate (n := 19) rfl ok hG hi0 hs0 hr0 k_91 d_lk_swing_16 ?_
    refine r_isub (n := 20) rfl ok d_lk_swing_19 ?_
    refine r_sipush (v := (-19661)) (n := 23) rfl ok d_lk_swing_20 (by decide) ?_
    refine r_icmp_gt (tgt := 30) (n := 26) rfl ok d_lk_swing_23 (by decide) (fun c2 => ?_) (fun c2 => ?_)
    · replace h := if_p c2 h
      refine r_iconst (v := 0) (n := 31) rfl ok d_lk_swing_30 (by decide) ?_
      obtain rfl := Option.some.inj h
      exact fin _ _ ⟨.int, rfl, rfl⟩ d_lk_swing_31
    · replace h := if_n c2 h
      refine r_iconst (v := (-1)) (n := 27) rfl ok d_lk_swing_26 (by decide) ?_
      refine r_goto (tgt := 31) ok d_lk_swing_27 (by decide) ?_
      obtain rfl := Option.some.inj h
      exact fin _ _ ⟨.int, rfl, rfl⟩ d_lk_swing_31
  · replace h := if_n c1 h
    refine r_iconst (v := 1) (n := 13) rfl ok d_lk_swing_12 (by decide) ?_
    obtain rfl := Option.some.inj h
    exact fin _ _ ⟨.int, rfl, rfl⟩ d_lk_swing_13
set_option maxHeartbeats 4000000 in
set_option maxRecDepth 20000 in
theorem C_lk_count {l : Launch} {G : Gt} {M : Me} {i0 : Nat} {s0 : Nat} {r0 : Nat} {a1 : Int32} {a2 : Int32} (hi0 : i0 < 9) (hs0 : s0 < 4) (hr0 : r0 < 8) {o : Me} (h : f_lk_count M i0 s0 r0 a1 a2 = some o) : Ct l G (WC G) (rC G) y_lk_count b_lk_count 3 none rm_lk_count [.ref (G.1 + oLNK i0 s0 r0), .int a1, .int a2] M (none) o := by
  refine Ct.mk (own := "RetryChains$Link") rfl (by decide) (Nat.le_of_ble_eq_true rfl) rfl (fun X hXl hXR hXn ok hG fin => ?_)
  subst hXl
  unfold f_lk_count at h
  show Wt X M 0 [(0, .ref (G.1 + oLNK i0 s0 r0)), (1, .int a1), (2, .int a2)] []
  refine r_aload_n (n := 1) rfl ok d_lk_count_0 rfl 0 rfl ?_
  refine r_dup (n := 2) rfl ok d_lk_count_1 rfl ?_
  refine g_LNK_tries (n := 5) rfl ok hG hi0 hs0 hr0 k_96 d_lk_count_2 ?_
  refine r_iload_n (n := 6) rfl ok d_lk_count_5 rfl 1 rfl ?_
  refine r_iadd (n := 7) rfl ok d_lk_count_6 ?_
  obtain ⟨M1, eM1, h⟩ := bd_ok h
  refine p_LNK_tries (n := 10) rfl ok hG hi0 hs0 hr0 k_96 d_lk_count_7 ?_
  refine r_mem (Option.some.inj eM1) ?_
  refine r_aload_n (n := 11) rfl ok d_lk_count_10 rfl 0 rfl ?_
  refine r_dup (n := 12) rfl ok d_lk_count_11 rfl ?_
  refine g_LNK_allTries (n := 15) rfl ok hG hi0 hs0 hr0 k_101 d_lk_count_12 ?_
  refine r_iload_n (n := 16) rfl ok d_lk_count_15 rfl 1 rfl ?_
  refine r_iadd (n := 17) rfl ok d_lk_count_16 ?_
  obtain ⟨M2, eM2, h⟩ := bd_ok h
  refine p_LNK_allTries (n := 20) rfl ok hG hi0 hs0 hr0 k_101 d_lk_count_17 ?_
  refine r_mem (Option.some.inj eM2) ?_
  refine r_iload_n (n := 21) rfl ok d_lk_count_20 rfl 2 rfl ?_
  refine r_if_eq (tgt := 44) (n := 24) rfl ok d_lk_count_21 (by decide) (fun c3 => ?_) (fun c3 => ?_)
  · replace h := if_p c3 h
    obtain rfl := Option.some.inj h
    exact fin _ _ d_lk_count_44
  · replace h := if_n c3 h
    refine r_aload_n (n := 25) rfl ok d_lk_count_24 rfl 0 rfl ?_
    refine r_dup (n := 26) rfl ok d_lk_count_25 rfl ?_
    refine g_LNK_successes (n := 29) rfl ok hG hi0 hs0 hr0 k_99 d_lk_count_26 ?_
    refine r_iconst (v := 1) (n := 30) rfl ok d_lk_count_29 (by decide) ?_
    refine r_iadd (n := 31) rfl ok d_lk_count_30 ?_
    obtain ⟨M4, eM4, h⟩ := bd_ok h
    refine p_LNK_successes (n := 34) rfl ok hG hi0 hs0 hr0 k_99 d_lk_count_31 ?_
    refine r_mem (Option.some.inj eM4) ?_
    refine r_aload_n (n := 35) rfl ok d_lk_count_34 rfl 0 rfl ?_
    refine r_dup (n := 36) rfl ok d_lk_count_35 rfl ?_
    refine g_LNK_allSuccesses (n := 39) rfl ok hG hi0 hs0 hr0 k_104 d_lk_count_36 ?_
    refine r_iconst (v := 1) (n := 40) rfl ok d_lk_count_39 (by decide) ?_
    refine r_iadd (n := 41) rfl ok d_lk_count_40 ?_
    obtain ⟨M5, eM5, h⟩ := bd_ok h
    refine p_LNK_allSuccesses (n := 44) rfl ok hG hi0 hs0 hr0 k_104 d_lk_count_41 ?_
    refine r_mem (Option.some.inj eM5) ?_
    obtain rfl := Option.some.inj h
    exact fin _ _ d_lk_count_44
set_option maxHeartbeats 4000000 in
set_option maxRecDepth 20000 in
theorem C_lk_startFrom {l : Launch} {G : Gt} {M : Me} {i0 : Nat} {s0 : Nat} {r0 : Nat} {a1 : Int32} (hi0 : i0 < 9) (hs0 : s0 < 4) (hr0 : r0 < 8) {o : Me} (h : f_lk_startFrom M i0 s0 r0 a1 = some o) : Ct l G (WC G) (rC G) y_lk_startFrom b_lk_startFrom 2 none rm_lk_startFrom [.ref (G.1 + oLNK i0 s0 r0), .int a1] M (none) o := by
  refine Ct.mk (own := "RetryChains$Link") rfl (by decide) (Nat.le_of_ble_eq_true rfl) rfl (fun X hXl hXR hXn ok hG fin => ?_)
  subst hXl
  unfold f_lk_startFrom at h
  show Wt X M 0 [(0, .ref (G.1 + oLNK i0 s0 r0)), (1, .int a1)] []
  refine r_aload_n (n := 1) rfl ok d_lk_startFrom_0 rfl 0 rfl ?_
  refine r_iload_n (n := 2) rfl ok d_lk_startFrom_1 rfl 1 rfl ?_
  obtain ⟨M1, eM1, h⟩ := bd_ok h
  refine p_LNK_estimate (n := 5) rfl ok hG hi0 hs0 hr0 k_91 d_lk_startFrom_2 ?_
  refine r_mem (Option.some.inj eM1) ?_
  refine r_aload_n (n := 6) rfl ok d_lk_startFrom_5 rfl 0 rfl ?_
  refine r_iconst (v := 0) (n := 7) rfl ok d_lk_startFrom_6 (by decide) ?_
  obtain ⟨M2, eM2, h⟩ := bd_ok h
  refine p_LNK_tendency (n := 10) rfl ok hG hi0 hs0 hr0 k_95 d_lk_startFrom_7 ?_
  refine r_mem (Option.some.inj eM2) ?_
  obtain rfl := Option.some.inj h
  exact fin _ _ d_lk_startFrom_10
set_option maxHeartbeats 4000000 in
set_option maxRecDepth 20000 in
theorem C_lk_learn {l : Launch} {G : Gt} {M : Me} {i0 : Nat} {s0 : Nat} {r0 : Nat} {a1 : Int32} (hi0 : i0 < 9) (hs0 : s0 < 4) (hr0 : r0 < 8) {o : Int32 × Me} (h : f_lk_learn M i0 s0 r0 a1 = some o) : Ct l G (WC G) (rC G) y_lk_learn b_lk_learn 4 (some .boolean) rm_lk_learn [.ref (G.1 + oLNK i0 s0 r0), .int a1] M (some (.int o.1)) o.2 := by
  refine Ct.mk (own := "RetryChains$Link") rfl (by decide) (Nat.le_of_ble_eq_true rfl) ⟨_, rfl⟩ (fun X hXl hXR hXn ok hG fin => ?_)
  subst hXl
  unfold f_lk_learn at h
  show Wt X M 0 [(0, .ref (G.1 + oLNK i0 s0 r0)), (1, .int a1)] []
  refine r_aload_n (n := 1) rfl ok d_lk_learn_0 rfl 0 rfl ?_
  obtain ⟨r1, hr1, h⟩ := bd_ok h
  refine r_callV (n := 4) rfl ok hG mf_lk_sample k_654 k_655 k_678 (C_lk_sample hi0 hs0 hr0 hr1) ⟨rfl, rfl⟩ (rR hXR ⟨Nat.le_of_ble_eq_true rfl, Nat.le_of_ble_eq_true rfl⟩) rfl rfl (rv_LNK hi0 hs0 hr0) rfl (Nat.le_of_ble_eq_true rfl) d_lk_learn_1 ?_
  refine r_istore_n (lv' := [(2, .int r1), (0, .ref (G.1 + oLNK i0 s0 r0)), (1, .int a1)]) (n := 5) rfl ok d_lk_learn_4 rfl (lt_n hXn (Nat.le_of_ble_eq_true rfl)) rfl ?_
  refine r_aload_n (n := 6) rfl ok d_lk_learn_5 rfl 1 rfl ?_
  obtain ⟨r2, hr2, h⟩ := bd_ok h
  refine r_callV (n := 9) rfl ok hG mf_lk_isEstimated k_650 k_651 k_679 (C_lk_isEstimated hi0 hs0 hr0 hr2) ⟨rfl, rfl⟩ (rR hXR ⟨Nat.le_of_ble_eq_true rfl, Nat.le_of_ble_eq_true rfl⟩) rfl rfl (rv_LNK hi0 hs0 hr0) rfl (Nat.le_of_ble_eq_true rfl) d_lk_learn_6 ?_
  refine r_if_ne (tgt := 19) (n := 12) rfl ok d_lk_learn_9 (by decide) (fun c3 => ?_) (fun c3 => ?_)
  · replace h := if_n c3 h
    refine r_aload_n (n := 20) rfl ok d_lk_learn_19 rfl 1 rfl ?_
    refine r_iload_n (n := 21) rfl ok d_lk_learn_20 rfl 0 rfl ?_
    obtain ⟨r4, hr4, h⟩ := bd_ok h
    refine r_callV (n := 24) rfl ok hG mf_lk_swing k_659 k_660 k_681 (C_lk_swing hi0 hs0 hr0 hr4) ⟨rfl, rfl⟩ (rR hXR ⟨Nat.le_of_ble_eq_true rfl, Nat.le_of_ble_eq_true rfl⟩) rfl rfl (rv_LNK hi0 hs0 hr0) rfl (Nat.le_of_ble_eq_true rfl) d_lk_learn_21 ?_
    refine r_istore_n (lv' := [(3, .int r4), (2, .int r1), (0, .ref (G.1 + oLNK i0 s0 r0)), (1, .int a1)]) (n := 25) rfl ok d_lk_learn_24 rfl (lt_n hXn (Nat.le_of_ble_eq_true rfl)) rfl ?_
    refine r_iload_n (n := 26) rfl ok d_lk_learn_25 rfl 0 rfl ?_
    refine r_if_eq (tgt := 44) (n := 29) rfl ok d_lk_learn_26 (by decide) (fun c5 => ?_) (fun c5 => ?_)
    · replace h := if_p c5 h
      refine r_aload_n (n := 45) rfl ok d_lk_learn_44 rfl 2 rfl ?_
      refine r_aload_n (n := 46) rfl ok d_lk_learn_45 rfl 2 rfl ?_
      refine g_LNK_estimate (n := 49) rfl ok hG hi0 hs0 hr0 k_91 d_lk_learn_46 ?_
      refine r_bipush (v := 100) (n := 51) rfl ok d_lk_learn_49 (by decide) ?_
      refine r_iload_n (n := 52) rfl ok d_lk_learn_51 rfl 3 rfl ?_
      refine r_isub (n := 53) rfl ok d_lk_learn_52 ?_
      refine r_imul (n := 54) rfl ok d_lk_learn_53 ?_
      refine r_iload_n (n := 55) rfl ok d_lk_learn_54 rfl 1 rfl ?_
      refine r_iload_n (n := 56) rfl ok d_lk_learn_55 rfl 3 rfl ?_
      refine r_imul (n := 57) rfl ok d_lk_learn_56 ?_
      refine r_iadd (n := 58) rfl ok d_lk_learn_57 ?_
      refine r_bipush (v := 100) (n := 60) rfl ok d_lk_learn_58 (by decide) ?_
      refine r_idiv (n := 61) rfl ok d_lk_learn_60 (by decide) ?_
      obtain ⟨M6, eM6, h⟩ := bd_ok h
      refine p_LNK_estimate (n := 64) rfl ok hG hi0 hs0 hr0 k_91 d_lk_learn_61 ?_
      refine r_mem (Option.some.inj eM6) ?_
      refine r_aload_n (n := 65) rfl ok d_lk_learn_64 rfl 2 rfl ?_
      refine r_iload_n (n := 66) rfl ok d_lk_learn_65 rfl 0 rfl ?_
      obtain ⟨M7, eM7, h⟩ := bd_ok h
      refine p_LNK_tendency (n := 69) rfl ok hG hi0 hs0 hr0 k_95 d_lk_learn_66 ?_
      refine r_mem (Option.some.inj eM7) ?_
      refine r_iconst (v := 0) (n := 70) rfl ok d_lk_learn_69 (by decide) ?_
      obtain rfl := Option.some.inj h
      exact fin _ _ ⟨.boolean, rfl, nz0⟩ d_lk_learn_70
    · replace h := if_n c5 h
      refine r_iload_n (n := 30) rfl ok d_lk_learn_29 rfl 0 rfl ?_
      refine r_aload_n (n := 31) rfl ok d_lk_learn_30 rfl 2 rfl ?_
      refine g_LNK_tendency (n := 34) rfl ok hG hi0 hs0 hr0 k_95 d_lk_learn_31 ?_
      refine r_icmp_ne (tgt := 44) (n := 37) rfl ok d_lk_learn_34 (by decide) (fun c8 => ?_) (fun c8 => ?_)
      · replace h := if_n c8 h
        refine r_aload_n (n := 45) rfl ok d_lk_learn_44 rfl 2 rfl ?_
        refine r_aload_n (n := 46) rfl ok d_lk_learn_45 rfl 2 rfl ?_
        refine g_LNK_estimate (n := 49) rfl ok hG hi0 hs0 hr0 k_91 d_lk_learn_46 ?_
        refine r_bipush (v := 100) (n := 51) rfl ok d_lk_learn_49 (by decide) ?_
        refine r_iload_n (n := 52) rfl ok d_lk_learn_51 rfl 3 rfl ?_
        refine r_isub (n := 53) rfl ok d_lk_learn_52 ?_
        refine r_imul (n := 54) rfl ok d_lk_learn_53 ?_
        refine r_iload_n (n := 55) rfl ok d_lk_learn_54 rfl 1 rfl ?_
        refine r_iload_n (n := 56) rfl ok d_lk_learn_55 rfl 3 rfl ?_
        refine r_imul (n := 57) rfl ok d_lk_learn_56 ?_
        refine r_iadd (n := 58) rfl ok d_lk_learn_57 ?_
        refine r_bipush (v := 100) (n := 60) rfl ok d_lk_learn_58 (by decide) ?_
        refine r_idiv (n := 61) rfl ok d_lk_learn_60 (by decide) ?_
        obtain ⟨M9, eM9, h⟩ := bd_ok h
        refine p_LNK_estimate (n := 64) rfl ok hG hi0 hs0 hr0 k_91 d_lk_learn_61 ?_
        refine r_mem (Option.some.inj eM9) ?_
        refine r_aload_n (n := 65) rfl ok d_lk_learn_64 rfl 2 rfl ?_
        refine r_iload_n (n := 66) rfl ok d_lk_learn_65 rfl 0 rfl ?_
        obtain ⟨M10, eM10, h⟩ := bd_ok h
        refine p_LNK_tendency (n := 69) rfl ok hG hi0 hs0 hr0 k_95 d_lk_learn_66 ?_
        refine r_mem (Option.some.inj eM10) ?_
        refine r_iconst (v := 0) (n := 70) rfl ok d_lk_learn_69 (by decide) ?_
        obtain rfl := Option.some.inj h
        exact fin _ _ ⟨.boolean, rfl, nz0⟩ d_lk_learn_70
      · replace h := if_p c8 h
        refine r_aload_n (n := 38) rfl ok d_lk_learn_37 rfl 2 rfl ?_
        refine r_iload_n (n := 39) rfl ok d_lk_learn_38 rfl 1 rfl ?_
        obtain ⟨r11, hr11, h⟩ := bd_ok h
        refine r_callV (n := 42) rfl ok hG mf_lk_startFrom k_667 k_668 k_680 (C_lk_startFrom hi0 hs0 hr0 hr11) ⟨rfl, rfl⟩ (rR hXR ⟨Nat.le_of_ble_eq_true rfl, Nat.le_of_ble_eq_true rfl⟩) rfl rfl (rv_LNK hi0 hs0 hr0) rfl (Nat.le_of_ble_eq_true rfl) d_lk_learn_39 ?_
        refine r_iconst (v := 1) (n := 43) rfl ok d_lk_learn_42 (by decide) ?_
        obtain rfl := Option.some.inj h
        exact fin _ _ ⟨.boolean, rfl, nz1⟩ d_lk_learn_43
  · replace h := if_p c3 h
    refine r_aload_n (n := 13) rfl ok d_lk_learn_12 rfl 1 rfl ?_
    refine r_iload_n (n := 14) rfl ok d_lk_learn_13 rfl 0 rfl ?_
    obtain ⟨r12, hr12, h⟩ := bd_ok h
    refine r_callV (n := 17) rfl ok hG mf_lk_startFrom k_667 k_668 k_680 (C_lk_startFrom hi0 hs0 hr0 hr12) ⟨rfl, rfl⟩ (rR hXR ⟨Nat.le_of_ble_eq_true rfl, Nat.le_of_ble_eq_true rfl⟩) rfl rfl (rv_LNK hi0 hs0 hr0) rfl (Nat.le_of_ble_eq_true rfl) d_lk_learn_14 ?_
    refine r_iconst (v := 0) (n := 18) rfl ok d_lk_learn_17 (by decide) ?_
    obtain rfl := Option.some.inj h
    exact fin _ _ ⟨.boolean, rfl, nz0⟩ d_lk_learn_18
set_option maxHeartbeats 4000000 in
set_option maxRecDepth 20000 in
theorem C_nt_stationAt {l : Launch} {G : Gt} {M : Me} {i0 : Nat} {a1 : Int32} (hi0 : i0 < 9) {o : Option (Nat × Nat)} (h : f_nt_stationAt M i0 a1 = some o) : Ct l G (WC G) (rC G) y_nt_stationAt b_nt_stationAt 3 (some (.object "RetryChains$Station")) rm_nt_stationAt [.ref (G.1 + oNET i0), .int a1] M (some (va_rf (Option.map (fun p => G.1 + oSTA p.1 p.2) o))) M := by
  refine Ct.mk (own := "RetryChains$Network") rfl (by decide) (Nat.le_of_ble_eq_true rfl) (okRet_ref ⟨_, rfl, Or.inl ⟨_, rfl⟩⟩) (fun X hXl hXR hXn ok hG fin => ?_)
  subst hXl
  unfold f_nt_stationAt at h
  show Wt X M 0 [(0, .ref (G.1 + oNET i0)), (1, .int a1)] []
  refine r_iload_n (n := 1) rfl ok d_nt_stationAt_0 rfl 1 rfl ?_
  refine r_if_lt (tgt := 21) (n := 4) rfl ok d_nt_stationAt_1 (by decide) (fun c1 => ?_) (fun c1 => ?_)
  · replace h := if_p c1 h
    refine r_iconst (v := 0) (n := 22) rfl ok d_nt_stationAt_21 (by decide) ?_
    refine r_istore_n (lv' := [(2, .int 0), (0, .ref (G.1 + oNET i0)), (1, .int a1)]) (n := 23) rfl ok d_nt_stationAt_22 rfl (lt_n hXn (Nat.le_of_ble_eq_true rfl)) rfl ?_
    refine r_iload_n (n := 24) rfl ok d_nt_stationAt_23 rfl 0 rfl ?_
    refine r_if_eq (tgt := 36) (n := 27) rfl ok d_nt_stationAt_24 (by decide) (fun _ => ?_) (fun hc => absurd hc (by decide))
    refine r_null (n := 37) rfl ok d_nt_stationAt_36 ?_
    obtain rfl := Option.some.inj h
    exact fin_ref fin _ _ (Or.inl rfl) d_nt_stationAt_37
  · replace h := if_n c1 h
    refine r_iload_n (n := 5) rfl ok d_nt_stationAt_4 rfl 1 rfl ?_
    refine r_aload_n (n := 6) rfl ok d_nt_stationAt_5 rfl 0 rfl ?_
    refine g_NET_stationCount (n := 9) rfl ok hG hi0 k_248 d_nt_stationAt_6 ?_
    refine r_icmp_ge (tgt := 21) (n := 12) rfl ok d_nt_stationAt_9 (by decide) (fun c2 => ?_) (fun c2 => ?_)
    · replace h := if_p c2 h
      refine r_iconst (v := 0) (n := 22) rfl ok d_nt_stationAt_21 (by decide) ?_
      refine r_istore_n (lv' := [(2, .int 0), (0, .ref (G.1 + oNET i0)), (1, .int a1)]) (n := 23) rfl ok d_nt_stationAt_22 rfl (lt_n hXn (Nat.le_of_ble_eq_true rfl)) rfl ?_
      refine r_iload_n (n := 24) rfl ok d_nt_stationAt_23 rfl 0 rfl ?_
      refine r_if_eq (tgt := 36) (n := 27) rfl ok d_nt_stationAt_24 (by decide) (fun _ => ?_) (fun hc => absurd hc (by decide))
      refine r_null (n := 37) rfl ok d_nt_stationAt_36 ?_
      obtain rfl := Option.some.inj h
      exact fin_ref fin _ _ (Or.inl rfl) d_nt_stationAt_37
    · replace h := if_n c2 h
      refine r_iload_n (n := 13) rfl ok d_nt_stationAt_12 rfl 1 rfl ?_
      refine r_iconst (v := 4) (n := 14) rfl ok d_nt_stationAt_13 (by decide) ?_
      refine r_icmp_ge (tgt := 21) (n := 17) rfl ok d_nt_stationAt_14 (by decide) (fun c3 => ?_) (fun c3 => ?_)
      · replace h := if_p c3 h
        refine r_iconst (v := 0) (n := 22) rfl ok d_nt_stationAt_21 (by decide) ?_
        refine r_istore_n (lv' := [(2, .int 0), (0, .ref (G.1 + oNET i0)), (1, .int a1)]) (n := 23) rfl ok d_nt_stationAt_22 rfl (lt_n hXn (Nat.le_of_ble_eq_true rfl)) rfl ?_
        refine r_iload_n (n := 24) rfl ok d_nt_stationAt_23 rfl 0 rfl ?_
        refine r_if_eq (tgt := 36) (n := 27) rfl ok d_nt_stationAt_24 (by decide) (fun _ => ?_) (fun hc => absurd hc (by decide))
        refine r_null (n := 37) rfl ok d_nt_stationAt_36 ?_
        obtain rfl := Option.some.inj h
        exact fin_ref fin _ _ (Or.inl rfl) d_nt_stationAt_37
      · replace h := if_n c3 h
        refine r_iconst (v := 1) (n := 18) rfl ok d_nt_stationAt_17 (by decide) ?_
        refine r_goto (tgt := 22) ok d_nt_stationAt_18 (by decide) ?_
        refine r_istore_n (lv' := [(2, .int 1), (0, .ref (G.1 + oNET i0)), (1, .int a1)]) (n := 23) rfl ok d_nt_stationAt_22 rfl (lt_n hXn (Nat.le_of_ble_eq_true rfl)) rfl ?_
        refine r_iload_n (n := 24) rfl ok d_nt_stationAt_23 rfl 0 rfl ?_
        refine r_if_eq (tgt := 36) (n := 27) rfl ok d_nt_stationAt_24 (by decide) (fun hc => absurd hc (by decide)) (fun _ => ?_)
        refine r_aload_n (n := 28) rfl ok d_nt_stationAt_27 rfl 1 rfl ?_
        refine g_NET_stations (n := 31) rfl ok hG hi0 k_242 d_nt_stationAt_28 ?_
        refine r_iload_n (n := 32) rfl ok d_nt_stationAt_31 rfl 2 rfl ?_
        obtain ⟨g4, h⟩ := gd_ok h
        refine al_STAS (n := 33) rfl ok hG hi0 g4 d_nt_stationAt_32 ?_
        refine r_goto (tgt := 37) ok d_nt_stationAt_33 (by decide) ?_
        obtain rfl := Option.some.inj h
        exact fin_ref fin _ _ (Or.inr ⟨_, rfl⟩) d_nt_stationAt_37
theorem v_nt_stationAt {M : Me} {i : Nat} {n : Int32} {p : Nat × Nat} (hi : i < 9) (h : f_nt_stationAt M i n = some (some p)) : p.1 < 9 ∧ p.2 < 4 := by
  unfold f_nt_stationAt at h
  by_cases c1 : n < 0
  · have h := if_p c1 h
    cases h
  · replace h := if_n c1 h
    by_cases c2 : M.1 0 i 0 0 ≤ n
    · have h := if_p c2 h
      cases h
    · replace h := if_n c2 h
      by_cases c3 : 4 ≤ n
      · have h := if_p c3 h
        cases h
      · replace h := if_n c3 h
        obtain ⟨g, h⟩ := gd_ok h
        cases h
        exact ⟨hi, gin_lt g⟩
set_option maxHeartbeats 4000000 in
set_option maxRecDepth 20000 in
theorem C_nt_linkAt {l : Launch} {G : Gt} {M : Me} {i0 : Nat} {a1 : Int32} {a2 : Int32} (hi0 : i0 < 9) {o : Option (Nat × Nat × Nat)} (h : f_nt_linkAt M i0 a1 a2 = some o) : Ct l G (WC G) (rC G) y_nt_linkAt b_nt_linkAt 4 (some (.object "RetryChains$Link")) rm_nt_linkAt [.ref (G.1 + oNET i0), .int a1, .int a2] M (some (va_rf (Option.map (fun p => G.1 + oLNK p.1 p.2.1 p.2.2) o))) M := by
  refine Ct.mk (own := "RetryChains$Network") rfl (by decide) (Nat.le_of_ble_eq_true rfl) (okRet_ref ⟨_, rfl, Or.inl ⟨_, rfl⟩⟩) (fun X hXl hXR hXn ok hG fin => ?_)
  subst hXl
  unfold f_nt_linkAt at h
  show Wt X M 0 [(0, .ref (G.1 + oNET i0)), (1, .int a1), (2, .int a2)] []
  refine r_aload_n (n := 1) rfl ok d_nt_linkAt_0 rfl 0 rfl ?_
  refine r_iload_n (n := 2) rfl ok d_nt_linkAt_1 rfl 1 rfl ?_
  obtain ⟨r1, hr1, h⟩ := bd_ok h
  refine r_callV (n := 5) rfl ok hG mf_nt_stationAt k_465 k_466 k_472 (C_nt_stationAt hi0 hr1) ⟨rfl, rfl⟩ (rR hXR ⟨Nat.le_of_ble_eq_true rfl, Nat.le_of_ble_eq_true rfl⟩) rfl rfl (rv_NET hi0) rfl (Nat.le_of_ble_eq_true rfl) d_nt_linkAt_2 ?_
  rcases er1 : r1 with _ | p2
  · replace h := el_n er1 h
    try rw [er1]
    refine r_astore_nN (lv' := [(3, .null), (0, .ref (G.1 + oNET i0)), (1, .int a1), (2, .int a2)]) (n := 6) rfl ok d_nt_linkAt_5 rfl (lt_n hXn (Nat.le_of_ble_eq_true rfl)) rfl ?_
    refine r_aload_nN (n := 7) rfl ok d_nt_linkAt_6 rfl 0 rfl ?_
    refine r_ifnullN (tgt := 21) ok d_nt_linkAt_7 (by decide) ?_
    refine r_null (n := 22) rfl ok d_nt_linkAt_21 ?_
    refine r_goto (tgt := 31) ok d_nt_linkAt_22 (by decide) ?_
    obtain rfl := Option.some.inj h
    exact fin_ref fin _ _ (Or.inl rfl) d_nt_linkAt_31
  · replace h := el_s er1 h
    try rw [er1]
    have vp2 := v_nt_stationAt hi0 (hr1.trans (congrArg some er1))
    refine r_astore_n (lv' := [(3, .ref (G.1 + oSTA p2.1 p2.2)), (0, .ref (G.1 + oNET i0)), (1, .int a1), (2, .int a2)]) (n := 6) rfl ok d_nt_linkAt_5 rfl (lt_n hXn (Nat.le_of_ble_eq_true rfl)) rfl ?_
    refine r_aload_n (n := 7) rfl ok d_nt_linkAt_6 rfl 0 rfl ?_
    refine r_ifnull (n := 10) rfl ok d_nt_linkAt_7 ?_
    refine r_aload_n (n := 11) rfl ok d_nt_linkAt_10 rfl 1 rfl ?_
    refine g_NET_rates (n := 14) rfl ok hG hi0 k_239 d_nt_linkAt_11 ?_
    refine r_iload_n (n := 15) rfl ok d_nt_linkAt_14 rfl 3 rfl ?_
    obtain ⟨r3, hr3, h⟩ := bd_ok h
    refine r_callV (n := 18) rfl ok hG mf_tb_has k_421 k_422 k_473 (C_tb_has hi0 hr3) ⟨rfl, rfl⟩ (rR hXR ⟨Nat.le_of_ble_eq_true rfl, Nat.le_of_ble_eq_true rfl⟩) rfl rfl (rv_TAB hi0) rfl (Nat.le_of_ble_eq_true rfl) d_nt_linkAt_15 ?_
    refine r_if_ne (tgt := 25) (n := 21) rfl ok d_nt_linkAt_18 (by decide) (fun c4 => ?_) (fun c4 => ?_)
    · replace h := if_n c4 h
      refine r_aload_n (n := 26) rfl ok d_nt_linkAt_25 rfl 0 rfl ?_
      refine g_STA_links (n := 29) rfl ok hG vp2.1 vp2.2 k_134 d_nt_linkAt_26 ?_
      refine r_iload_n (n := 30) rfl ok d_nt_linkAt_29 rfl 3 rfl ?_
      obtain ⟨g5, h⟩ := gd_ok h
      refine al_LINKS (n := 31) rfl ok hG vp2.1 vp2.2 g5 d_nt_linkAt_30 ?_
      obtain rfl := Option.some.inj h
      exact fin_ref fin _ _ (Or.inr ⟨_, rfl⟩) d_nt_linkAt_31
    · replace h := if_p c4 h
      refine r_null (n := 22) rfl ok d_nt_linkAt_21 ?_
      refine r_goto (tgt := 31) ok d_nt_linkAt_22 (by decide) ?_
      obtain rfl := Option.some.inj h
      exact fin_ref fin _ _ (Or.inl rfl) d_nt_linkAt_31
theorem v_nt_linkAt {M : Me} {i : Nat} {n k : Int32} {p : Nat × Nat × Nat} (hi : i < 9) (h : f_nt_linkAt M i n k = some (some p)) : p.1 < 9 ∧ p.2.1 < 4 ∧ p.2.2 < 8 := by
  unfold f_nt_linkAt at h
  obtain ⟨r, hr, h⟩ := bd_ok h
  rcases er : r with _ | q
  · replace h := el_n er h
    cases h
  · replace h := el_s er h
    have v := v_nt_stationAt hi (hr.trans (congrArg some er))
    obtain ⟨b, _, h⟩ := bd_ok h
    by_cases c1 : b = 0
    · have h := if_p c1 h
      cases h
    · replace h := if_n c1 h
      obtain ⟨g, h⟩ := gd_ok h
      cases h
      exact ⟨v.1, v.2, gin_lt g⟩
set_option maxHeartbeats 4000000 in
set_option maxRecDepth 20000 in
theorem C_nt_chainAt {l : Launch} {G : Gt} {M : Me} {i0 : Nat} {a1 : Int32} (hi0 : i0 < 9) {o : Option (Nat × Nat)} (h : f_nt_chainAt M i0 a1 = some o) : Ct l G (WC G) (rC G) y_nt_chainAt b_nt_chainAt 3 (some (.object "RetryChains$Chain")) rm_nt_chainAt [.ref (G.1 + oNET i0), .int a1] M (some (va_rf (Option.map (fun p => G.1 + oCHN p.1 p.2) o))) M := by
  refine Ct.mk (own := "RetryChains$Network") rfl (by decide) (Nat.le_of_ble_eq_true rfl) (okRet_ref ⟨_, rfl, Or.inl ⟨_, rfl⟩⟩) (fun X hXl hXR hXn ok hG fin => ?_)
  subst hXl
  unfold f_nt_chainAt at h
  show Wt X M 0 [(0, .ref (G.1 + oNET i0)), (1, .int a1)] []
  refine r_iload_n (n := 1) rfl ok d_nt_chainAt_0 rfl 1 rfl ?_
  refine r_if_lt (tgt := 14) (n := 4) rfl ok d_nt_chainAt_1 (by decide) (fun c1 => ?_) (fun c1 => ?_)
  · replace h := if_p c1 h
    refine r_iconst (v := 0) (n := 15) rfl ok d_nt_chainAt_14 (by decide) ?_
    refine r_istore_n (lv' := [(2, .int 0), (0, .ref (G.1 + oNET i0)), (1, .int a1)]) (n := 16) rfl ok d_nt_chainAt_15 rfl (lt_n hXn (Nat.le_of_ble_eq_true rfl)) rfl ?_
    refine r_iload_n (n := 17) rfl ok d_nt_chainAt_16 rfl 0 rfl ?_
    refine r_if_eq (tgt := 41) (n := 20) rfl ok d_nt_chainAt_17 (by decide) (fun _ => ?_) (fun hc => absurd hc (by decide))
    refine r_null (n := 42) rfl ok d_nt_chainAt_41 ?_
    obtain rfl := Option.some.inj h
    exact fin_ref fin _ _ (Or.inl rfl) d_nt_chainAt_42
  · replace h := if_n c1 h
    refine r_iload_n (n := 5) rfl ok d_nt_chainAt_4 rfl 1 rfl ?_
    refine r_bipush (v := 6) (n := 7) rfl ok d_nt_chainAt_5 (by decide) ?_
    refine r_icmp_ge (tgt := 14) (n := 10) rfl ok d_nt_chainAt_7 (by decide) (fun c2 => ?_) (fun c2 => ?_)
    · replace h := if_p c2 h
      refine r_iconst (v := 0) (n := 15) rfl ok d_nt_chainAt_14 (by decide) ?_
      refine r_istore_n (lv' := [(2, .int 0), (0, .ref (G.1 + oNET i0)), (1, .int a1)]) (n := 16) rfl ok d_nt_chainAt_15 rfl (lt_n hXn (Nat.le_of_ble_eq_true rfl)) rfl ?_
      refine r_iload_n (n := 17) rfl ok d_nt_chainAt_16 rfl 0 rfl ?_
      refine r_if_eq (tgt := 41) (n := 20) rfl ok d_nt_chainAt_17 (by decide) (fun _ => ?_) (fun hc => absurd hc (by decide))
      refine r_null (n := 42) rfl ok d_nt_chainAt_41 ?_
      obtain rfl := Option.some.inj h
      exact fin_ref fin _ _ (Or.inl rfl) d_nt_chainAt_42
    · replace h := if_n c2 h
      refine r_iconst (v := 1) (n := 11) rfl ok d_nt_chainAt_10 (by decide) ?_
      refine r_goto (tgt := 15) ok d_nt_chainAt_11 (by decide) ?_
      refine r_istore_n (lv' := [(2, .int 1), (0, .ref (G.1 + oNET i0)), (1, .int a1)]) (n := 16) rfl ok d_nt_chainAt_15 rfl (lt_n hXn (Nat.le_of_ble_eq_true rfl)) rfl ?_
      refine r_iload_n (n := 17) rfl ok d_nt_chainAt_16 rfl 0 rfl ?_
      refine r_if_eq (tgt := 41) (n := 20) rfl ok d_nt_chainAt_17 (by decide) (fun hc => absurd hc (by decide)) (fun _ => ?_)
      refine r_aload_n (n := 21) rfl ok d_nt_chainAt_20 rfl 1 rfl ?_
      refine g_NET_open (n := 24) rfl ok hG hi0 k_244 d_nt_chainAt_21 ?_
      refine r_iload_n (n := 25) rfl ok d_nt_chainAt_24 rfl 2 rfl ?_
      obtain ⟨g3, h⟩ := gd_ok h
      refine al_OPENS (n := 26) rfl ok hG hi0 g3 d_nt_chainAt_25 ?_
      refine g_CHN_isOpen (n := 29) rfl ok hG hi0 (gin_lt g3) k_205 d_nt_chainAt_26 ?_
      refine r_if_eq (tgt := 41) (n := 32) rfl ok d_nt_chainAt_29 (by decide) (fun c4 => ?_) (fun c4 => ?_)
      · replace h := if_p c4 h
        refine r_null (n := 42) rfl ok d_nt_chainAt_41 ?_
        obtain rfl := Option.some.inj h
        exact fin_ref fin _ _ (Or.inl rfl) d_nt_chainAt_42
      · replace h := if_n c4 h
        refine r_aload_n (n := 33) rfl ok d_nt_chainAt_32 rfl 1 rfl ?_
        refine g_NET_open (n := 36) rfl ok hG hi0 k_244 d_nt_chainAt_33 ?_
        refine r_iload_n (n := 37) rfl ok d_nt_chainAt_36 rfl 2 rfl ?_
        obtain ⟨g5, h⟩ := gd_ok h
        refine al_OPENS (n := 38) rfl ok hG hi0 g5 d_nt_chainAt_37 ?_
        refine r_goto (tgt := 42) ok d_nt_chainAt_38 (by decide) ?_
        obtain rfl := Option.some.inj h
        exact fin_ref fin _ _ (Or.inr ⟨_, rfl⟩) d_nt_chainAt_42
theorem v_nt_chainAt {M : Me} {i : Nat} {n : Int32} {p : Nat × Nat} (hi : i < 9) (h : f_nt_chainAt M i n = some (some p)) : p.1 < 9 ∧ p.2 < 6 := by
  unfold f_nt_chainAt at h
  by_cases c1 : n < 0
  · have h := if_p c1 h
    cases h
  · replace h := if_n c1 h
    by_cases c2 : 6 ≤ n
    · have h := if_p c2 h
      cases h
    · replace h := if_n c2 h
      obtain ⟨g, h⟩ := gd_ok h
      by_cases c3 : M.1 50 i (tN n) 0 = 0
      · have h := if_p c3 h
        cases h
      · replace h := if_n c3 h
        obtain ⟨g, h⟩ := gd_ok h
        cases h
        exact ⟨hi, gin_lt g⟩
set_option maxHeartbeats 4000000 in
set_option maxRecDepth 20000 in
theorem w_nt_freeChain_2 {X : Cx Me} {G : Gt} (ok : Ok X b_nt_freeChain "RetryChains$Network") (hG : GC X G) (hXR : X.R = rm_nt_freeChain) (hXn : X.nL = 2) {M : Me} {j0a : Nat} (hj0a : j0a < 9) {t : (Unit) ⊕ (Int32)} (kx : ∀ e : Unit, (Sum.inl e : (Unit) ⊕ (Int32)) = t → Wt X M 28 [] []) (kr : ∀ o : Int32, (Sum.inr o : (Unit) ⊕ (Int32)) = t → Fin X b_nt_freeChain (some .int) (some (.int o)) M) : ∀ (n : Nat) (x : Int32), lp n (b_nt_freeChain_2 M j0a) x = some t → Wt X M 2 [(0, .ref (G.1 + oNET j0a)), (1, .int x)] [] := by
  intro n x h
  refine lp_W (P := fun x => Wt X M 2 [(0, .ref (G.1 + oNET j0a)), (1, .int x)] []) (Z := fun t' => t' = t) (fun x r h hk hz => ?_) n x t h rfl
  unfold b_nt_freeChain_2 at h
  refine r_iload_n (n := 3) rfl ok d_nt_freeChain_2 rfl 1 rfl ?_
  refine r_bipush (v := 6) (n := 5) rfl ok d_nt_freeChain_3 (by decide) ?_
  refine r_icmp_ge (tgt := 28) (n := 8) rfl ok d_nt_freeChain_5 (by decide) (fun c1 => ?_) (fun c1 => ?_)
  · replace h := if_p c1 h
    obtain rfl := Option.some.inj h
    exact r_sub [] rfl (show Wt X M 28 [] [] from kx _ (hz _ rfl))
  · replace h := if_n c1 h
    refine r_aload_n (n := 9) rfl ok d_nt_freeChain_8 rfl 0 rfl ?_
    refine g_NET_open (n := 12) rfl ok hG hj0a k_244 d_nt_freeChain_9 ?_
    refine r_iload_n (n := 13) rfl ok d_nt_freeChain_12 rfl 1 rfl ?_
    obtain ⟨g2, h⟩ := gd_ok h
    refine al_OPENS (n := 14) rfl ok hG hj0a g2 d_nt_freeChain_13 ?_
    refine g_CHN_isOpen (n := 17) rfl ok hG hj0a (gin_lt g2) k_205 d_nt_freeChain_14 ?_
    refine r_if_ne (tgt := 22) (n := 20) rfl ok d_nt_freeChain_17 (by decide) (fun c3 => ?_) (fun c3 => ?_)
    · replace h := if_n c3 h
      obtain ⟨x4, ex4, h⟩ := bd_ok h
      refine r_iinc (lv' := [(1, .int x4), (0, .ref (G.1 + oNET j0a))]) (n := 25) rfl ok d_nt_freeChain_22 1 rfl (Option.some.inj ex4) (lt_n hXn (Nat.le_of_ble_eq_true rfl)) rfl ?_
      refine r_goto (tgt := 2) ok d_nt_freeChain_25 (by decide) ?_
      obtain rfl := Option.some.inj h
      exact r_sub [1, 0] rfl (show Wt X M 2 [(0, .ref (G.1 + oNET j0a)), (1, .int x4)] [] from hk _ rfl)
    · replace h := if_p c3 h
      refine r_iload_n (n := 21) rfl ok d_nt_freeChain_20 rfl 1 rfl ?_
      obtain rfl := Option.some.inj h
      exact kr _ (hz _ rfl) _ _ ⟨.int, rfl, rfl⟩ d_nt_freeChain_21
set_option maxHeartbeats 4000000 in
set_option maxRecDepth 20000 in
theorem C_nt_freeChain {l : Launch} {G : Gt} {M : Me} {i0 : Nat} (hi0 : i0 < 9) {o : Int32} (h : f_nt_freeChain M i0 = some o) : Ct l G (WC G) (rC G) y_nt_freeChain b_nt_freeChain 2 (some .int) rm_nt_freeChain [.ref (G.1 + oNET i0)] M (some (.int o)) M := by
  refine Ct.mk (own := "RetryChains$Network") rfl (by decide) (Nat.le_of_ble_eq_true rfl) ⟨_, rfl⟩ (fun X hXl hXR hXn ok hG fin => ?_)
  subst hXl
  unfold f_nt_freeChain at h
  show Wt X M 0 [(0, .ref (G.1 + oNET i0))] []
  refine r_iconst (v := 0) (n := 1) rfl ok d_nt_freeChain_0 (by decide) ?_
  refine r_istore_n (lv' := [(1, .int 0), (0, .ref (G.1 + oNET i0))]) (n := 2) rfl ok d_nt_freeChain_1 rfl (lt_n hXn (Nat.le_of_ble_eq_true rfl)) rfl ?_
  obtain ⟨t5, ht5, h⟩ := bd_ok h
  refine r_sub [1, 0] rfl (show Wt X M 2 [(0, .ref (G.1 + oNET i0)), (1, .int 0)] [] from w_nt_freeChain_2 ok hG hXR hXn hi0 ?_ ?_ _ _ ht5)
  · intro e6 he
    subst he
    replace h := su_l h
    refine r_bipush (v := (-9)) (n := 30) rfl ok d_nt_freeChain_28 (by decide) ?_
    obtain rfl := Option.some.inj h
    exact fin _ _ ⟨.int, rfl, rfl⟩ d_nt_freeChain_30
  · intro o he
    subst he
    replace h := su_r h
    obtain rfl := Option.some.inj h
    exact fin
set_option maxHeartbeats 4000000 in
set_option maxRecDepth 20000 in
theorem C_nt_endOfNewInterval {l : Launch} {G : Gt} {M : Me} {i0 : Nat} (hi0 : i0 < 9) {o : Int64} (h : f_nt_endOfNewInterval M i0 = some o) : Ct l G (WC G) (rC G) y_nt_endOfNewInterval b_nt_endOfNewInterval 1 (some .long) rm_nt_endOfNewInterval [.ref (G.1 + oNET i0)] M (some (.long o)) M := by
  refine Ct.mk (own := "RetryChains$Network") rfl (by decide) (Nat.le_of_ble_eq_true rfl) rfl (fun X hXl hXR hXn ok hG fin => ?_)
  subst hXl
  unfold f_nt_endOfNewInterval at h
  show Wt X M 0 [(0, .ref (G.1 + oNET i0))] []
  refine r_aload_n (n := 1) rfl ok d_nt_endOfNewInterval_0 rfl 0 rfl ?_
  refine g_NET_time (n := 4) rfl ok hG hi0 k_249 d_nt_endOfNewInterval_1 ?_
  refine r_i2l (n := 5) rfl ok d_nt_endOfNewInterval_4 ?_
  refine r_aload_n (n := 6) rfl ok d_nt_endOfNewInterval_5 rfl 0 rfl ?_
  refine g_NET_interval (n := 9) rfl ok hG hi0 k_255 d_nt_endOfNewInterval_6 ?_
  refine r_i2l (n := 10) rfl ok d_nt_endOfNewInterval_9 ?_
  refine r_ladd (n := 11) rfl ok d_nt_endOfNewInterval_10 ?_
  obtain rfl := Option.some.inj h
  exact fin _ _ d_nt_endOfNewInterval_11
set_option maxHeartbeats 4000000 in
set_option maxRecDepth 20000 in
theorem C_tb_nominalOf {l : Launch} {G : Gt} {M : Me} {i0 : Nat} {a1 : Int32} (hi0 : i0 < 9) {o : Int32} (h : f_tb_nominalOf M i0 a1 = some o) : Ct l G (WC G) (rC G) y_tb_nominalOf b_tb_nominalOf 2 (some .int) rm_tb_nominalOf [.ref (G.1 + oTAB i0), .int a1] M (some (.int o)) M := by
  refine Ct.mk (own := "RetryChains$RateTable") rfl (by decide) (Nat.le_of_ble_eq_true rfl) ⟨_, rfl⟩ (fun X hXl hXR hXn ok hG fin => ?_)
  subst hXl
  unfold f_tb_nominalOf at h
  show Wt X M 0 [(0, .ref (G.1 + oTAB i0)), (1, .int a1)] []
  refine r_aload_n (n := 1) rfl ok d_tb_nominalOf_0 rfl 0 rfl ?_
  refine r_iload_n (n := 2) rfl ok d_tb_nominalOf_1 rfl 1 rfl ?_
  obtain ⟨r1, hr1, h⟩ := bd_ok h
  refine r_callV (n := 5) rfl ok hG mf_tb_has k_421 k_422 k_420 (C_tb_has hi0 hr1) ⟨rfl, rfl⟩ (rR hXR ⟨Nat.le_of_ble_eq_true rfl, Nat.le_of_ble_eq_true rfl⟩) rfl rfl (rv_TAB hi0) rfl (Nat.le_of_ble_eq_true rfl) d_tb_nominalOf_2 ?_
  refine r_if_eq (tgt := 17) (n := 8) rfl ok d_tb_nominalOf_5 (by decide) (fun c2 => ?_) (fun c2 => ?_)
  · replace h := if_p c2 h
    refine r_iconst (v := 0) (n := 18) rfl ok d_tb_nominalOf_17 (by decide) ?_
    obtain rfl := Option.some.inj h
    exact fin _ _ ⟨.int, rfl, rfl⟩ d_tb_nominalOf_18
  · replace h := if_n c2 h
    refine r_aload_n (n := 9) rfl ok d_tb_nominalOf_8 rfl 0 rfl ?_
    refine g_TAB_nominals (n := 12) rfl ok hG hi0 k_41 d_tb_nominalOf_9 ?_
    refine r_iload_n (n := 13) rfl ok d_tb_nominalOf_12 rfl 1 rfl ?_
    obtain ⟨g3, h⟩ := gd_ok h
    refine al_NOMS (n := 14) rfl ok hG hi0 g3 d_tb_nominalOf_13 ?_
    refine r_goto (tgt := 18) ok d_tb_nominalOf_14 (by decide) ?_
    obtain rfl := Option.some.inj h
    exact fin _ _ ⟨.int, rfl, rfl⟩ d_tb_nominalOf_18
set_option maxHeartbeats 4000000 in
set_option maxRecDepth 20000 in
theorem C_nt_chooseRates {l : Launch} {G : Gt} {M : Me} {i0 : Nat} {i1 : Nat} {s1 : Nat} {i2 : Nat} {s2 : Nat} {a3 : Int32} (hi0 : i0 < 9) (hi1 : i1 < 9) (hs1 : s1 < 6) (hi2 : i2 < 9) (hs2 : s2 < 4) {o : Me} (h : f_nt_chooseRates M i0 i1 s1 i2 s2 a3 = some o) : Ct l G (WC G) (rC G) y_nt_chooseRates b_nt_chooseRates 8 none rm_nt_chooseRates [.ref (G.1 + oNET i0), .ref (G.1 + oCHN i1 s1), .ref (G.1 + oSTA i2 s2), .int a3] M (none) o := by
  refine Ct.mk (own := "RetryChains$Network") rfl (by decide) (Nat.le_of_ble_eq_true rfl) rfl (fun X hXl hXR hXn ok hG fin => ?_)
  subst hXl
  unfold f_nt_chooseRates at h
  show Wt X M 0 [(0, .ref (G.1 + oNET i0)), (1, .ref (G.1 + oCHN i1 s1)), (2, .ref (G.1 + oSTA i2 s2)), (3, .int a3)] []
  refine r_aload_n (n := 1) rfl ok d_nt_chooseRates_0 rfl 2 rfl ?_
  refine g_STA_roles (n := 4) rfl ok hG hi2 hs2 k_136 d_nt_chooseRates_1 ?_
  refine r_iconst (v := 0) (n := 5) rfl ok d_nt_chooseRates_4 (by decide) ?_
  refine al_ROLES (n := 6) rfl ok hG hi2 hs2 (show gin 0 4 by decide) d_nt_chooseRates_5 ?_
  refine r_istore (lv' := [(4, .int (M.1 41 i2 s2 (tN 0))), (0, .ref (G.1 + oNET i0)), (1, .ref (G.1 + oCHN i1 s1)), (2, .ref (G.1 + oSTA i2 s2)), (3, .int a3)]) (n := 8) rfl ok d_nt_chooseRates_6 (lt_n hXn (Nat.le_of_ble_eq_true rfl)) rfl ?_
  refine r_aload_n (n := 9) rfl ok d_nt_chooseRates_8 rfl 3 rfl ?_
  refine g_STA_roles (n := 12) rfl ok hG hi2 hs2 k_136 d_nt_chooseRates_9 ?_
  refine r_iconst (v := 1) (n := 13) rfl ok d_nt_chooseRates_12 (by decide) ?_
  refine al_ROLES (n := 14) rfl ok hG hi2 hs2 (show gin 1 4 by decide) d_nt_chooseRates_13 ?_
  refine r_istore (lv' := [(5, .int (M.1 41 i2 s2 (tN 1))), (4, .int (M.1 41 i2 s2 (tN 0))), (0, .ref (G.1 + oNET i0)), (1, .ref (G.1 + oCHN i1 s1)), (2, .ref (G.1 + oSTA i2 s2)), (3, .int a3)]) (n := 16) rfl ok d_nt_chooseRates_14 (lt_n hXn (Nat.le_of_ble_eq_true rfl)) rfl ?_
  refine r_aload_n (n := 17) rfl ok d_nt_chooseRates_16 rfl 4 rfl ?_
  refine g_STA_roles (n := 20) rfl ok hG hi2 hs2 k_136 d_nt_chooseRates_17 ?_
  refine r_iconst (v := 2) (n := 21) rfl ok d_nt_chooseRates_20 (by decide) ?_
  refine al_ROLES (n := 22) rfl ok hG hi2 hs2 (show gin 2 4 by decide) d_nt_chooseRates_21 ?_
  refine r_istore (lv' := [(6, .int (M.1 41 i2 s2 (tN 2))), (5, .int (M.1 41 i2 s2 (tN 1))), (4, .int (M.1 41 i2 s2 (tN 0))), (0, .ref (G.1 + oNET i0)), (1, .ref (G.1 + oCHN i1 s1)), (2, .ref (G.1 + oSTA i2 s2)), (3, .int a3)]) (n := 24) rfl ok d_nt_chooseRates_22 (lt_n hXn (Nat.le_of_ble_eq_true rfl)) rfl ?_
  refine r_aload_n (n := 25) rfl ok d_nt_chooseRates_24 rfl 5 rfl ?_
  refine g_STA_roles (n := 28) rfl ok hG hi2 hs2 k_136 d_nt_chooseRates_25 ?_
  refine r_iconst (v := 3) (n := 29) rfl ok d_nt_chooseRates_28 (by decide) ?_
  refine al_ROLES (n := 30) rfl ok hG hi2 hs2 (show gin 3 4 by decide) d_nt_chooseRates_29 ?_
  refine r_istore (lv' := [(7, .int (M.1 41 i2 s2 (tN 3))), (6, .int (M.1 41 i2 s2 (tN 2))), (5, .int (M.1 41 i2 s2 (tN 1))), (4, .int (M.1 41 i2 s2 (tN 0))), (0, .ref (G.1 + oNET i0)), (1, .ref (G.1 + oCHN i1 s1)), (2, .ref (G.1 + oSTA i2 s2)), (3, .int a3)]) (n := 32) rfl ok d_nt_chooseRates_30 (lt_n hXn (Nat.le_of_ble_eq_true rfl)) rfl ?_
  refine r_aload_n (n := 33) rfl ok d_nt_chooseRates_32 rfl 5 rfl ?_
  refine r_bipush (v := (-9)) (n := 35) rfl ok d_nt_chooseRates_33 (by decide) ?_
  obtain ⟨M1, eM1, h⟩ := bd_ok h
  refine p_CHN_sampleEntry (n := 38) rfl ok hG hi1 hs1 k_216 d_nt_chooseRates_35 ?_
  refine r_mem (Option.some.inj eM1) ?_
  refine r_aload_n (n := 39) rfl ok d_nt_chooseRates_38 rfl 6 rfl ?_
  refine g_STA_inFallback (n := 42) rfl ok hG hi2 hs2 k_158 d_nt_chooseRates_39 ?_
  refine r_if_eq (tgt := 63) (n := 45) rfl ok d_nt_chooseRates_42 (by decide) (fun c2 => ?_) (fun c2 => ?_)
  · replace h := if_p c2 h
    refine r_iload_n (n := 64) rfl ok d_nt_chooseRates_63 rfl 7 rfl ?_
    refine r_bipush (v := (-9)) (n := 66) rfl ok d_nt_chooseRates_64 (by decide) ?_
    refine r_icmp_ne (tgt := 87) (n := 69) rfl ok d_nt_chooseRates_66 (by decide) (fun c3 => ?_) (fun c3 => ?_)
    · replace h := if_n c3 h
      refine r_aload_n (n := 88) rfl ok d_nt_chooseRates_87 rfl 6 rfl ?_
      refine r_dup (n := 89) rfl ok d_nt_chooseRates_88 rfl ?_
      refine g_STA_sampled (n := 92) rfl ok hG hi2 hs2 k_147 d_nt_chooseRates_89 ?_
      refine r_iconst (v := 1) (n := 93) rfl ok d_nt_chooseRates_92 (by decide) ?_
      refine r_iadd (n := 94) rfl ok d_nt_chooseRates_93 ?_
      obtain ⟨M4, eM4, h⟩ := bd_ok h
      refine p_STA_sampled (n := 97) rfl ok hG hi2 hs2 k_147 d_nt_chooseRates_94 ?_
      refine r_mem (Option.some.inj eM4) ?_
      refine r_aload_n (n := 98) rfl ok d_nt_chooseRates_97 rfl 5 rfl ?_
      refine r_iconst (v := 1) (n := 99) rfl ok d_nt_chooseRates_98 (by decide) ?_
      obtain ⟨M5, eM5, h⟩ := bd_ok h
      refine p_CHN_kind (n := 102) rfl ok hG hi1 hs1 k_213 d_nt_chooseRates_99 ?_
      refine r_mem (Option.some.inj eM5) ?_
      refine r_aload_n (n := 103) rfl ok d_nt_chooseRates_102 rfl 4 rfl ?_
      refine g_NET_rates (n := 106) rfl ok hG hi0 k_239 d_nt_chooseRates_103 ?_
      refine r_iload_n (n := 107) rfl ok d_nt_chooseRates_106 rfl 7 rfl ?_
      obtain ⟨r6, hr6, h⟩ := bd_ok h
      refine r_callV (n := 110) rfl ok hG mf_tb_nominalOf k_534 k_535 k_533 (C_tb_nominalOf hi0 hr6) ⟨rfl, rfl⟩ (rR hXR ⟨Nat.le_of_ble_eq_true rfl, Nat.le_of_ble_eq_true rfl⟩) rfl rfl (rv_TAB hi0) rfl (Nat.le_of_ble_eq_true rfl) d_nt_chooseRates_107 ?_
      refine r_aload_n (n := 111) rfl ok d_nt_chooseRates_110 rfl 4 rfl ?_
      refine g_NET_rates (n := 114) rfl ok hG hi0 k_239 d_nt_chooseRates_111 ?_
      refine r_iload (n := 116) rfl ok d_nt_chooseRates_114 3 rfl ?_
      obtain ⟨r7, hr7, h⟩ := bd_ok h
      refine r_callV (n := 119) rfl ok hG mf_tb_nominalOf k_534 k_535 k_533 (C_tb_nominalOf hi0 hr7) ⟨rfl, rfl⟩ (rR hXR ⟨Nat.le_of_ble_eq_true rfl, Nat.le_of_ble_eq_true rfl⟩) rfl rfl (rv_TAB hi0) rfl (Nat.le_of_ble_eq_true rfl) d_nt_chooseRates_116 ?_
      refine r_icmp_gt (tgt := 141) (n := 122) rfl ok d_nt_chooseRates_119 (by decide) (fun c8 => ?_) (fun c8 => ?_)
      · replace h := if_p c8 h
        refine r_aload_n (n := 142) rfl ok d_nt_chooseRates_141 rfl 5 rfl ?_
        refine r_iconst (v := 1) (n := 143) rfl ok d_nt_chooseRates_142 (by decide) ?_
        obtain ⟨M9, eM9, h⟩ := bd_ok h
        refine p_CHN_sampleEntry (n := 146) rfl ok hG hi1 hs1 k_216 d_nt_chooseRates_143 ?_
        refine r_mem (Option.some.inj eM9) ?_
        refine r_aload_n (n := 147) rfl ok d_nt_chooseRates_146 rfl 5 rfl ?_
        refine r_iload (n := 149) rfl ok d_nt_chooseRates_147 3 rfl ?_
        refine r_iload_n (n := 150) rfl ok d_nt_chooseRates_149 rfl 7 rfl ?_
        refine r_iload (n := 152) rfl ok d_nt_chooseRates_150 1 rfl ?_
        refine r_iload (n := 154) rfl ok d_nt_chooseRates_152 0 rfl ?_
        obtain ⟨r10, hr10, h⟩ := bd_ok h
        refine r_callV (n := 157) rfl ok hG mf_ch_setRates k_542 k_543 k_541 (C_ch_setRates hi1 hs1 hr10) ⟨rfl, rfl⟩ (rR hXR ⟨Nat.le_of_ble_eq_true rfl, Nat.le_of_ble_eq_true rfl⟩) rfl rfl (rv_CHN hi1 hs1) rfl (Nat.le_of_ble_eq_true rfl) d_nt_chooseRates_154 ?_
        obtain rfl := Option.some.inj h
        exact fin _ _ d_nt_chooseRates_157
      · replace h := if_n c8 h
        refine r_aload_n (n := 123) rfl ok d_nt_chooseRates_122 rfl 5 rfl ?_
        refine r_iconst (v := 0) (n := 124) rfl ok d_nt_chooseRates_123 (by decide) ?_
        obtain ⟨M11, eM11, h⟩ := bd_ok h
        refine p_CHN_sampleEntry (n := 127) rfl ok hG hi1 hs1 k_216 d_nt_chooseRates_124 ?_
        refine r_mem (Option.some.inj eM11) ?_
        refine r_aload_n (n := 128) rfl ok d_nt_chooseRates_127 rfl 5 rfl ?_
        refine r_iload_n (n := 129) rfl ok d_nt_chooseRates_128 rfl 7 rfl ?_
        refine r_iload (n := 131) rfl ok d_nt_chooseRates_129 3 rfl ?_
        refine r_iload (n := 133) rfl ok d_nt_chooseRates_131 1 rfl ?_
        refine r_iload (n := 135) rfl ok d_nt_chooseRates_133 0 rfl ?_
        obtain ⟨r12, hr12, h⟩ := bd_ok h
        refine r_callV (n := 138) rfl ok hG mf_ch_setRates k_542 k_543 k_541 (C_ch_setRates hi1 hs1 hr12) ⟨rfl, rfl⟩ (rR hXR ⟨Nat.le_of_ble_eq_true rfl, Nat.le_of_ble_eq_true rfl⟩) rfl rfl (rv_CHN hi1 hs1) rfl (Nat.le_of_ble_eq_true rfl) d_nt_chooseRates_135 ?_
        refine r_goto (tgt := 157) ok d_nt_chooseRates_138 (by decide) ?_
        obtain rfl := Option.some.inj h
        exact fin _ _ d_nt_chooseRates_157
    · replace h := if_p c3 h
      refine r_aload_n (n := 70) rfl ok d_nt_chooseRates_69 rfl 5 rfl ?_
      refine r_iconst (v := 0) (n := 71) rfl ok d_nt_chooseRates_70 (by decide) ?_
      obtain ⟨M13, eM13, h⟩ := bd_ok h
      refine p_CHN_kind (n := 74) rfl ok hG hi1 hs1 k_213 d_nt_chooseRates_71 ?_
      refine r_mem (Option.some.inj eM13) ?_
      refine r_aload_n (n := 75) rfl ok d_nt_chooseRates_74 rfl 5 rfl ?_
      refine r_iload (n := 77) rfl ok d_nt_chooseRates_75 3 rfl ?_
      refine r_iload (n := 79) rfl ok d_nt_chooseRates_77 2 rfl ?_
      refine r_iload (n := 81) rfl ok d_nt_chooseRates_79 1 rfl ?_
      refine r_iload (n := 83) rfl ok d_nt_chooseRates_81 0 rfl ?_
      obtain ⟨r14, hr14, h⟩ := bd_ok h
      refine r_callV (n := 86) rfl ok hG mf_ch_setRates k_542 k_543 k_541 (C_ch_setRates hi1 hs1 hr14) ⟨rfl, rfl⟩ (rR hXR ⟨Nat.le_of_ble_eq_true rfl, Nat.le_of_ble_eq_true rfl⟩) rfl rfl (rv_CHN hi1 hs1) rfl (Nat.le_of_ble_eq_true rfl) d_nt_chooseRates_83 ?_
      obtain rfl := Option.some.inj h
      exact fin _ _ d_nt_chooseRates_86
  · replace h := if_n c2 h
    refine r_aload_n (n := 46) rfl ok d_nt_chooseRates_45 rfl 5 rfl ?_
    refine r_iconst (v := 2) (n := 47) rfl ok d_nt_chooseRates_46 (by decide) ?_
    obtain ⟨M15, eM15, h⟩ := bd_ok h
    refine p_CHN_kind (n := 50) rfl ok hG hi1 hs1 k_213 d_nt_chooseRates_47 ?_
    refine r_mem (Option.some.inj eM15) ?_
    refine r_aload_n (n := 51) rfl ok d_nt_chooseRates_50 rfl 5 rfl ?_
    refine r_iload (n := 53) rfl ok d_nt_chooseRates_51 1 rfl ?_
    refine r_iload (n := 55) rfl ok d_nt_chooseRates_53 0 rfl ?_
    refine r_iload (n := 57) rfl ok d_nt_chooseRates_55 0 rfl ?_
    refine r_iload (n := 59) rfl ok d_nt_chooseRates_57 0 rfl ?_
    obtain ⟨r16, hr16, h⟩ := bd_ok h
    refine r_callV (n := 62) rfl ok hG mf_ch_setRates k_542 k_543 k_541 (C_ch_setRates hi1 hs1 hr16) ⟨rfl, rfl⟩ (rR hXR ⟨Nat.le_of_ble_eq_true rfl, Nat.le_of_ble_eq_true rfl⟩) rfl rfl (rv_CHN hi1 hs1) rfl (Nat.le_of_ble_eq_true rfl) d_nt_chooseRates_59 ?_
    obtain rfl := Option.some.inj h
    exact fin _ _ d_nt_chooseRates_62
set_option maxHeartbeats 4000000 in
set_option maxRecDepth 20000 in
theorem w_nt_roleCause_2 {X : Cx Me} {G : Gt} (ok : Ok X b_nt_roleCause "RetryChains$Network") (hG : GC X G) (hXR : X.R = rm_nt_roleCause) (hXn : X.nL = 3) {M : Me} {j0a : Nat} {j0b : Nat} {y1 : Int32} (hj0a : j0a < 9) (hj0b : j0b < 4) {t : (Unit) ⊕ (Int32)} (kx : ∀ e : Unit, (Sum.inl e : (Unit) ⊕ (Int32)) = t → Wt X M 28 [] []) (kr : ∀ o : Int32, (Sum.inr o : (Unit) ⊕ (Int32)) = t → Fin X b_nt_roleCause (some .int) (some (.int o)) M) : ∀ (n : Nat) (x : Int32), lp n (b_nt_roleCause_2 M j0a j0b y1) x = some t → Wt X M 2 [(0, .ref (G.1 + oSTA j0a j0b)), (1, .int y1), (2, .int x)] [] := by
  intro n x h
  refine lp_W (P := fun x => Wt X M 2 [(0, .ref (G.1 + oSTA j0a j0b)), (1, .int y1), (2, .int x)] []) (Z := fun t' => t' = t) (fun x r h hk hz => ?_) n x t h rfl
  unfold b_nt_roleCause_2 at h
  refine r_iload_n (n := 3) rfl ok d_nt_roleCause_2 rfl 2 rfl ?_
  refine r_iconst (v := 2) (n := 4) rfl ok d_nt_roleCause_3 (by decide) ?_
  refine r_icmp_gt (tgt := 28) (n := 7) rfl ok d_nt_roleCause_4 (by decide) (fun c1 => ?_) (fun c1 => ?_)
  · replace h := if_p c1 h
    obtain rfl := Option.some.inj h
    exact r_sub [] rfl (show Wt X M 28 [] [] from kx _ (hz _ rfl))
  · replace h := if_n c1 h
    refine r_aload_n (n := 8) rfl ok d_nt_roleCause_7 rfl 0 rfl ?_
    refine g_STA_roles (n := 11) rfl ok hG hj0a hj0b k_136 d_nt_roleCause_8 ?_
    refine r_iload_n (n := 12) rfl ok d_nt_roleCause_11 rfl 2 rfl ?_
    obtain ⟨g2, h⟩ := gd_ok h
    refine al_ROLES (n := 13) rfl ok hG hj0a hj0b g2 d_nt_roleCause_12 ?_
    refine r_iload_n (n := 14) rfl ok d_nt_roleCause_13 rfl 1 rfl ?_
    refine r_icmp_ne (tgt := 22) (n := 17) rfl ok d_nt_roleCause_14 (by decide) (fun c3 => ?_) (fun c3 => ?_)
    · replace h := if_n c3 h
      obtain ⟨x4, ex4, h⟩ := bd_ok h
      refine r_iinc (lv' := [(2, .int x4), (0, .ref (G.1 + oSTA j0a j0b)), (1, .int y1)]) (n := 25) rfl ok d_nt_roleCause_22 2 rfl (Option.some.inj ex4) (lt_n hXn (Nat.le_of_ble_eq_true rfl)) rfl ?_
      refine r_goto (tgt := 2) ok d_nt_roleCause_25 (by decide) ?_
      obtain rfl := Option.some.inj h
      exact r_sub [1, 2, 0] rfl (show Wt X M 2 [(0, .ref (G.1 + oSTA j0a j0b)), (1, .int y1), (2, .int x4)] [] from hk _ rfl)
    · replace h := if_p c3 h
      refine r_bipush (v := 21) (n := 19) rfl ok d_nt_roleCause_17 (by decide) ?_
      refine r_iload_n (n := 20) rfl ok d_nt_roleCause_19 rfl 2 rfl ?_
      refine r_iadd (n := 21) rfl ok d_nt_roleCause_20 ?_
      obtain rfl := Option.some.inj h
      exact kr _ (hz _ rfl) _ _ ⟨.int, rfl, rfl⟩ d_nt_roleCause_21
set_option maxHeartbeats 4000000 in
set_option maxRecDepth 20000 in
theorem C_nt_roleCause {l : Launch} {G : Gt} {M : Me} {i1 : Nat} {s1 : Nat} {a2 : Int32} (hi1 : i1 < 9) (hs1 : s1 < 4) {o : Int32} (h : f_nt_roleCause M i1 s1 a2 = some o) : Ct l G (WC G) (rC G) y_nt_roleCause b_nt_roleCause 3 (some .int) rm_nt_roleCause [.ref (G.1 + oSTA i1 s1), .int a2] M (some (.int o)) M := by
  refine Ct.mk (own := "RetryChains$Network") rfl (by decide) (Nat.le_of_ble_eq_true rfl) ⟨_, rfl⟩ (fun X hXl hXR hXn ok hG fin => ?_)
  subst hXl
  unfold f_nt_roleCause at h
  show Wt X M 0 [(0, .ref (G.1 + oSTA i1 s1)), (1, .int a2)] []
  refine r_iconst (v := 0) (n := 1) rfl ok d_nt_roleCause_0 (by decide) ?_
  refine r_istore_n (lv' := [(2, .int 0), (0, .ref (G.1 + oSTA i1 s1)), (1, .int a2)]) (n := 2) rfl ok d_nt_roleCause_1 rfl (lt_n hXn (Nat.le_of_ble_eq_true rfl)) rfl ?_
  obtain ⟨t5, ht5, h⟩ := bd_ok h
  refine r_sub [1, 2, 0] rfl (show Wt X M 2 [(0, .ref (G.1 + oSTA i1 s1)), (1, .int a2), (2, .int 0)] [] from w_nt_roleCause_2 ok hG hXR hXn hi1 hs1 ?_ ?_ _ _ ht5)
  · intro e6 he
    subst he
    replace h := su_l h
    refine r_bipush (v := (-9)) (n := 30) rfl ok d_nt_roleCause_28 (by decide) ?_
    obtain rfl := Option.some.inj h
    exact fin _ _ ⟨.int, rfl, rfl⟩ d_nt_roleCause_30
  · intro o he
    subst he
    replace h := su_r h
    obtain rfl := Option.some.inj h
    exact fin
set_option maxHeartbeats 4000000 in
set_option maxRecDepth 20000 in
theorem C_nt_causeAgainst {l : Launch} {G : Gt} {M : Me} {i0 : Nat} {i1 : Nat} {s1 : Nat} {a2 : Int32} (hi0 : i0 < 9) (hi1 : i1 < 9) (hs1 : s1 < 4) {o : Int32} (h : f_nt_causeAgainst M i0 i1 s1 a2 = some o) : Ct l G (WC G) (rC G) y_nt_causeAgainst b_nt_causeAgainst 5 (some .int) rm_nt_causeAgainst [.ref (G.1 + oNET i0), .ref (G.1 + oSTA i1 s1), .int a2] M (some (.int o)) M := by
  refine Ct.mk (own := "RetryChains$Network") rfl (by decide) (Nat.le_of_ble_eq_true rfl) ⟨_, rfl⟩ (fun X hXl hXR hXn ok hG fin => ?_)
  subst hXl
  unfold f_nt_causeAgainst at h
  show Wt X M 0 [(0, .ref (G.1 + oNET i0)), (1, .ref (G.1 + oSTA i1 s1)), (2, .int a2)] []
  refine r_aload_n (n := 1) rfl ok d_nt_causeAgainst_0 rfl 0 rfl ?_
  refine g_NET_rates (n := 4) rfl ok hG hi0 k_239 d_nt_causeAgainst_1 ?_
  refine r_iload_n (n := 5) rfl ok d_nt_causeAgainst_4 rfl 2 rfl ?_
  obtain ⟨r1, hr1, h⟩ := bd_ok h
  refine r_callV (n := 8) rfl ok hG mf_tb_has k_421 k_422 k_473 (C_tb_has hi0 hr1) ⟨rfl, rfl⟩ (rR hXR ⟨Nat.le_of_ble_eq_true rfl, Nat.le_of_ble_eq_true rfl⟩) rfl rfl (rv_TAB hi0) rfl (Nat.le_of_ble_eq_true rfl) d_nt_causeAgainst_5 ?_
  refine r_if_eq (tgt := 23) (n := 11) rfl ok d_nt_causeAgainst_8 (by decide) (fun c2 => ?_) (fun c2 => ?_)
  · replace h := if_p c2 h
    refine r_bipush (v := 11) (n := 25) rfl ok d_nt_causeAgainst_23 (by decide) ?_
    obtain rfl := Option.some.inj h
    exact fin _ _ ⟨.int, rfl, rfl⟩ d_nt_causeAgainst_25
  · replace h := if_n c2 h
    refine r_aload_n (n := 12) rfl ok d_nt_causeAgainst_11 rfl 1 rfl ?_
    refine g_STA_links (n := 15) rfl ok hG hi1 hs1 k_134 d_nt_causeAgainst_12 ?_
    refine r_iload_n (n := 16) rfl ok d_nt_causeAgainst_15 rfl 2 rfl ?_
    obtain ⟨g3, h⟩ := gd_ok h
    refine al_LINKS (n := 17) rfl ok hG hi1 hs1 g3 d_nt_causeAgainst_16 ?_
    refine g_LNK_isAllowed (n := 20) rfl ok hG hi1 hs1 (gin_lt g3) k_90 d_nt_causeAgainst_17 ?_
    refine r_if_ne (tgt := 26) (n := 23) rfl ok d_nt_causeAgainst_20 (by decide) (fun c4 => ?_) (fun c4 => ?_)
    · replace h := if_n c4 h
      refine r_aload_n (n := 27) rfl ok d_nt_causeAgainst_26 rfl 1 rfl ?_
      refine g_STA_links (n := 30) rfl ok hG hi1 hs1 k_134 d_nt_causeAgainst_27 ?_
      refine r_iload_n (n := 31) rfl ok d_nt_causeAgainst_30 rfl 2 rfl ?_
      obtain ⟨g5, h⟩ := gd_ok h
      refine al_LINKS (n := 32) rfl ok hG hi1 hs1 g5 d_nt_causeAgainst_31 ?_
      refine r_astore_n (lv' := [(3, .ref (G.1 + oLNK i1 s1 (tN a2))), (0, .ref (G.1 + oNET i0)), (1, .ref (G.1 + oSTA i1 s1)), (2, .int a2)]) (n := 33) rfl ok d_nt_causeAgainst_32 rfl (lt_n hXn (Nat.le_of_ble_eq_true rfl)) rfl ?_
      refine r_aload_n (n := 34) rfl ok d_nt_causeAgainst_33 rfl 2 rfl ?_
      refine r_iload_n (n := 35) rfl ok d_nt_causeAgainst_34 rfl 3 rfl ?_
      obtain ⟨r6, hr6, h⟩ := bd_ok h
      refine r_callS (n := 38) rfl ok hG mf_nt_roleCause k_530 k_529 (C_nt_roleCause hi1 hs1 hr6) ⟨rfl, rfl⟩ (rR hXR ⟨Nat.le_of_ble_eq_true rfl, Nat.le_of_ble_eq_true rfl⟩) rfl rfl (Nat.le_of_ble_eq_true rfl) d_nt_causeAgainst_35 ?_
      refine r_bipush (v := (-9)) (n := 40) rfl ok d_nt_causeAgainst_38 (by decide) ?_
      refine r_icmp_eq (tgt := 46) (n := 43) rfl ok d_nt_causeAgainst_40 (by decide) (fun c7 => ?_) (fun c7 => ?_)
      · replace h := if_p c7 h
        refine r_aload_n (n := 47) rfl ok d_nt_causeAgainst_46 rfl 0 rfl ?_
        refine g_LNK_estimate (n := 50) rfl ok hG hi1 hs1 (gin_lt g5) k_92 d_nt_causeAgainst_47 ?_
        refine r_ldc (n := 52) rfl ok d_nt_causeAgainst_50 k_532 ?_
        refine r_icmp_lt (tgt := 58) (n := 55) rfl ok d_nt_causeAgainst_52 (by decide) (fun c8 => ?_) (fun c8 => ?_)
        · replace h := if_p c8 h
          refine r_aload_n (n := 59) rfl ok d_nt_causeAgainst_58 rfl 1 rfl ?_
          refine g_NET_rates (n := 62) rfl ok hG hi0 k_239 d_nt_causeAgainst_59 ?_
          refine r_iload_n (n := 63) rfl ok d_nt_causeAgainst_62 rfl 3 rfl ?_
          obtain ⟨r9, hr9, h⟩ := bd_ok h
          refine r_callV (n := 66) rfl ok hG mf_tb_nominalOf k_534 k_535 k_533 (C_tb_nominalOf hi0 hr9) ⟨rfl, rfl⟩ (rR hXR ⟨Nat.le_of_ble_eq_true rfl, Nat.le_of_ble_eq_true rfl⟩) rfl rfl (rv_TAB hi0) rfl (Nat.le_of_ble_eq_true rfl) d_nt_causeAgainst_63 ?_
          refine r_aload_n (n := 67) rfl ok d_nt_causeAgainst_66 rfl 1 rfl ?_
          refine g_NET_rates (n := 70) rfl ok hG hi0 k_239 d_nt_causeAgainst_67 ?_
          refine r_aload_n (n := 71) rfl ok d_nt_causeAgainst_70 rfl 2 rfl ?_
          refine g_STA_roles (n := 74) rfl ok hG hi1 hs1 k_136 d_nt_causeAgainst_71 ?_
          refine r_iconst (v := 2) (n := 75) rfl ok d_nt_causeAgainst_74 (by decide) ?_
          refine al_ROLES (n := 76) rfl ok hG hi1 hs1 (show gin 2 4 by decide) d_nt_causeAgainst_75 ?_
          obtain ⟨r10, hr10, h⟩ := bd_ok h
          refine r_callV (n := 79) rfl ok hG mf_tb_nominalOf k_534 k_535 k_533 (C_tb_nominalOf hi0 hr10) ⟨rfl, rfl⟩ (rR hXR ⟨Nat.le_of_ble_eq_true rfl, Nat.le_of_ble_eq_true rfl⟩) rfl rfl (rv_TAB hi0) rfl (Nat.le_of_ble_eq_true rfl) d_nt_causeAgainst_76 ?_
          refine r_icmp_le (tgt := 86) (n := 82) rfl ok d_nt_causeAgainst_79 (by decide) (fun c11 => ?_) (fun c11 => ?_)
          · replace h := if_p c11 h
            refine r_iconst (v := 0) (n := 87) rfl ok d_nt_causeAgainst_86 (by decide) ?_
            refine r_istore (lv' := [(4, .int 0), (3, .ref (G.1 + oLNK i1 s1 (tN a2))), (0, .ref (G.1 + oNET i0)), (1, .ref (G.1 + oSTA i1 s1)), (2, .int a2)]) (n := 89) rfl ok d_nt_causeAgainst_87 (lt_n hXn (Nat.le_of_ble_eq_true rfl)) rfl ?_
            refine r_iload (n := 91) rfl ok d_nt_causeAgainst_89 0 rfl ?_
            refine r_if_eq (tgt := 106) (n := 94) rfl ok d_nt_causeAgainst_91 (by decide) (fun _ => ?_) (fun hc => absurd hc (by decide))
            refine r_bipush (v := (-9)) (n := 108) rfl ok d_nt_causeAgainst_106 (by decide) ?_
            obtain rfl := Option.some.inj h
            exact fin _ _ ⟨.int, rfl, rfl⟩ d_nt_causeAgainst_108
          · replace h := if_n c11 h
            refine r_iconst (v := 1) (n := 83) rfl ok d_nt_causeAgainst_82 (by decide) ?_
            refine r_goto (tgt := 87) ok d_nt_causeAgainst_83 (by decide) ?_
            refine r_istore (lv' := [(4, .int 1), (3, .ref (G.1 + oLNK i1 s1 (tN a2))), (0, .ref (G.1 + oNET i0)), (1, .ref (G.1 + oSTA i1 s1)), (2, .int a2)]) (n := 89) rfl ok d_nt_causeAgainst_87 (lt_n hXn (Nat.le_of_ble_eq_true rfl)) rfl ?_
            refine r_iload (n := 91) rfl ok d_nt_causeAgainst_89 0 rfl ?_
            refine r_if_eq (tgt := 106) (n := 94) rfl ok d_nt_causeAgainst_91 (by decide) (fun hc => absurd hc (by decide)) (fun _ => ?_)
            refine r_aload_n (n := 95) rfl ok d_nt_causeAgainst_94 rfl 1 rfl ?_
            refine g_LNK_tries (n := 98) rfl ok hG hi1 hs1 (gin_lt g5) k_97 d_nt_causeAgainst_95 ?_
            refine r_if_le (tgt := 106) (n := 101) rfl ok d_nt_causeAgainst_98 (by decide) (fun c12 => ?_) (fun c12 => ?_)
            · replace h := if_p c12 h
              refine r_bipush (v := (-9)) (n := 108) rfl ok d_nt_causeAgainst_106 (by decide) ?_
              obtain rfl := Option.some.inj h
              exact fin _ _ ⟨.int, rfl, rfl⟩ d_nt_causeAgainst_108
            · replace h := if_n c12 h
              refine r_bipush (v := 14) (n := 103) rfl ok d_nt_causeAgainst_101 (by decide) ?_
              refine r_goto (tgt := 108) ok d_nt_causeAgainst_103 (by decide) ?_
              obtain rfl := Option.some.inj h
              exact fin _ _ ⟨.int, rfl, rfl⟩ d_nt_causeAgainst_108
        · replace h := if_n c8 h
          refine r_bipush (v := 13) (n := 57) rfl ok d_nt_causeAgainst_55 (by decide) ?_
          obtain rfl := Option.some.inj h
          exact fin _ _ ⟨.int, rfl, rfl⟩ d_nt_causeAgainst_57
      · replace h := if_n c7 h
        refine r_bipush (v := 12) (n := 45) rfl ok d_nt_causeAgainst_43 (by decide) ?_
        obtain rfl := Option.some.inj h
        exact fin _ _ ⟨.int, rfl, rfl⟩ d_nt_causeAgainst_45
    · replace h := if_p c4 h
      refine r_bipush (v := 11) (n := 25) rfl ok d_nt_causeAgainst_23 (by decide) ?_
      obtain rfl := Option.some.inj h
      exact fin _ _ ⟨.int, rfl, rfl⟩ d_nt_causeAgainst_25
set_option maxHeartbeats 4000000 in
set_option maxRecDepth 20000 in
theorem C_rc_nextDraw {l : Launch} {G : Gt} {W0 : Me → Heap → Prop} {A : Nat → Prop} {M : Me} {a1 : Int32}  {o : Int32} (h : f_rc_nextDraw a1 = some o) : Ct l G W0 A y_rc_nextDraw b_rc_nextDraw 1 (some .int) rm_rc_nextDraw [.int a1] M (some (.int o)) M := by
  refine Ct.mk (own := "RetryChains") rfl (by decide) (Nat.le_of_ble_eq_true rfl) ⟨_, rfl⟩ (fun X hXl hXR hXn ok hG fin => ?_)
  subst hXl
  unfold f_rc_nextDraw at h
  show Wt X M 0 [(0, .int a1)] []
  refine r_ldcw (n := 3) rfl ok d_rc_nextDraw_0 k_523 ?_
  refine r_iload_n (n := 4) rfl ok d_rc_nextDraw_3 rfl 0 rfl ?_
  refine r_imul (n := 5) rfl ok d_rc_nextDraw_4 ?_
  refine r_sipush (v := 12345) (n := 8) rfl ok d_rc_nextDraw_5 (by decide) ?_
  refine r_iadd (n := 9) rfl ok d_rc_nextDraw_8 ?_
  obtain rfl := Option.some.inj h
  exact fin _ _ ⟨.int, rfl, rfl⟩ d_rc_nextDraw_9
set_option maxHeartbeats 4000000 in
set_option maxRecDepth 20000 in
theorem C_st_noteRefusal {l : Launch} {G : Gt} {M : Me} {i0 : Nat} {s0 : Nat} {a1 : Int32} {a2 : Int32} {a3 : Int32} (hi0 : i0 < 9) (hs0 : s0 < 4) {o : Me} (h : f_st_noteRefusal M i0 s0 a1 a2 a3 = some o) : Ct l G (WC G) (rC G) y_st_noteRefusal b_st_noteRefusal 4 none rm_st_noteRefusal [.ref (G.1 + oSTA i0 s0), .int a1, .int a2, .int a3] M (none) o := by
  refine Ct.mk (own := "RetryChains$Station") rfl (by decide) (Nat.le_of_ble_eq_true rfl) rfl (fun X hXl hXR hXn ok hG fin => ?_)
  subst hXl
  unfold f_st_noteRefusal at h
  show Wt X M 0 [(0, .ref (G.1 + oSTA i0 s0)), (1, .int a1), (2, .int a2), (3, .int a3)] []
  refine r_aload_n (n := 1) rfl ok d_st_noteRefusal_0 rfl 0 rfl ?_
  refine g_STA_refusals (n := 4) rfl ok hG hi0 hs0 k_138 d_st_noteRefusal_1 ?_
  refine r_iconst (v := 0) (n := 5) rfl ok d_st_noteRefusal_4 (by decide) ?_
  refine r_iload_n (n := 6) rfl ok d_st_noteRefusal_5 rfl 1 rfl ?_
  obtain ⟨M1, eM1, h⟩ := bd_ok h
  refine as_REFS (n := 7) rfl ok hG hi0 hs0 (show gin 0 3 by decide) d_st_noteRefusal_6 ?_
  refine r_mem (Option.some.inj eM1) ?_
  refine r_aload_n (n := 8) rfl ok d_st_noteRefusal_7 rfl 0 rfl ?_
  refine g_STA_refusals (n := 11) rfl ok hG hi0 hs0 k_138 d_st_noteRefusal_8 ?_
  refine r_iconst (v := 1) (n := 12) rfl ok d_st_noteRefusal_11 (by decide) ?_
  refine r_iload_n (n := 13) rfl ok d_st_noteRefusal_12 rfl 2 rfl ?_
  obtain ⟨M2, eM2, h⟩ := bd_ok h
  refine as_REFS (n := 14) rfl ok hG hi0 hs0 (show gin 1 3 by decide) d_st_noteRefusal_13 ?_
  refine r_mem (Option.some.inj eM2) ?_
  refine r_aload_n (n := 15) rfl ok d_st_noteRefusal_14 rfl 0 rfl ?_
  refine g_STA_refusals (n := 18) rfl ok hG hi0 hs0 k_138 d_st_noteRefusal_15 ?_
  refine r_iconst (v := 2) (n := 19) rfl ok d_st_noteRefusal_18 (by decide) ?_
  refine r_iload_n (n := 20) rfl ok d_st_noteRefusal_19 rfl 3 rfl ?_
  obtain ⟨M3, eM3, h⟩ := bd_ok h
  refine as_REFS (n := 21) rfl ok hG hi0 hs0 (show gin 2 3 by decide) d_st_noteRefusal_20 ?_
  refine r_mem (Option.some.inj eM3) ?_
  obtain rfl := Option.some.inj h
  exact fin _ _ d_st_noteRefusal_21
set_option maxHeartbeats 4000000 in
set_option maxRecDepth 20000 in
theorem C_nt_drawCandidate {l : Launch} {G : Gt} {M : Me} {i0 : Nat} {i1 : Nat} {s1 : Nat} (hi0 : i0 < 9) (hi1 : i1 < 9) (hs1 : s1 < 4) {o : Int32 × Me} (h : f_nt_drawCandidate M i0 i1 s1 = some o) : Ct l G (WC G) (rC G) y_nt_drawCandidate b_nt_drawCandidate 5 (some .int) rm_nt_drawCandidate [.ref (G.1 + oNET i0), .ref (G.1 + oSTA i1 s1)] M (some (.int o.1)) o.2 := by
  refine Ct.mk (own := "RetryChains$Network") rfl (by decide) (Nat.le_of_ble_eq_true rfl) ⟨_, rfl⟩ (fun X hXl hXR hXn ok hG fin => ?_)
  subst hXl
  unfold f_nt_drawCandidate at h
  show Wt X M 0 [(0, .ref (G.1 + oNET i0)), (1, .ref (G.1 + oSTA i1 s1))] []
  refine r_aload_n (n := 1) rfl ok d_nt_drawCandidate_0 rfl 1 rfl ?_
  refine g_STA_sampled (n := 4) rfl ok hG hi1 hs1 k_147 d_nt_drawCandidate_1 ?_
  refine r_iconst (v := 1) (n := 5) rfl ok d_nt_drawCandidate_4 (by decide) ?_
  refine r_iadd (n := 6) rfl ok d_nt_drawCandidate_5 ?_
  refine r_bipush (v := 100) (n := 8) rfl ok d_nt_drawCandidate_6 (by decide) ?_
  refine r_imul (n := 9) rfl ok d_nt_drawCandidate_8 ?_
  refine r_aload_n (n := 10) rfl ok d_nt_drawCandidate_9 rfl 1 rfl ?_
  refine g_STA_chains (n := 13) rfl ok hG hi1 hs1 k_144 d_nt_drawCandidate_10 ?_
  refine r_aload_n (n := 14) rfl ok d_nt_drawCandidate_13 rfl 0 rfl ?_
  refine g_NET_share (n := 17) rfl ok hG hi0 k_251 d_nt_drawCandidate_14 ?_
  refine r_imul (n := 18) rfl ok d_nt_drawCandidate_17 ?_
  refine r_icmp_le (tgt := 33) (n := 21) rfl ok d_nt_drawCandidate_18 (by decide) (fun c1 => ?_) (fun c1 => ?_)
  · replace h := if_p c1 h
    refine r_aload_n (n := 34) rfl ok d_nt_drawCandidate_33 rfl 1 rfl ?_
    refine r_aload_n (n := 35) rfl ok d_nt_drawCandidate_34 rfl 1 rfl ?_
    refine g_STA_draw (n := 38) rfl ok hG hi1 hs1 k_167 d_nt_drawCandidate_35 ?_
    obtain ⟨r2, hr2, h⟩ := bd_ok h
    refine r_callSN (fun _ hk => hk.2) (n := 41) rfl ok hG mf_rc_nextDraw k_521 (C_rc_nextDraw  hr2) ⟨rfl, rfl⟩ (rR hXR ⟨Nat.le_of_ble_eq_true rfl, Nat.le_of_ble_eq_true rfl⟩) rfl rfl (Nat.le_of_ble_eq_true rfl) d_nt_drawCandidate_38 ?_
    obtain ⟨M3, eM3, h⟩ := bd_ok h
    refine p_STA_draw (n := 44) rfl ok hG hi1 hs1 k_167 d_nt_drawCandidate_41 ?_
    refine r_mem (Option.some.inj eM3) ?_
    refine r_aload_n (n := 45) rfl ok d_nt_drawCandidate_44 rfl 1 rfl ?_
    refine g_STA_draw (n := 48) rfl ok hG hi1 hs1 k_167 d_nt_drawCandidate_45 ?_
    refine r_bipush (v := 16) (n := 50) rfl ok d_nt_drawCandidate_48 (by decide) ?_
    refine r_iushr (n := 51) rfl ok d_nt_drawCandidate_50 ?_
    refine r_iconst (v := 1) (n := 52) rfl ok d_nt_drawCandidate_51 (by decide) ?_
    refine r_aload_n (n := 53) rfl ok d_nt_drawCandidate_52 rfl 0 rfl ?_
    refine g_NET_rates (n := 56) rfl ok hG hi0 k_239 d_nt_drawCandidate_53 ?_
    refine g_TAB_count (n := 59) rfl ok hG hi0 k_38 d_nt_drawCandidate_56 ?_
    refine r_mmax (n := 62) rfl ok hG k_524 k_425 k_12 k_426 (rR hXR ⟨Nat.le_of_ble_eq_true rfl, Nat.le_of_ble_eq_true rfl⟩) d_nt_drawCandidate_59 ?_
    obtain ⟨g4, h⟩ := gd_ok h
    refine r_irem (n := 63) rfl ok d_nt_drawCandidate_62 g4 ?_
    obtain ⟨x5, ex5, h⟩ := bd_ok h
    refine r_ti (Option.some.inj ex5).symm ?_
    refine r_istore_n (lv' := [(2, .int x5), (0, .ref (G.1 + oNET i0)), (1, .ref (G.1 + oSTA i1 s1))]) (n := 64) rfl ok d_nt_drawCandidate_63 rfl (lt_n hXn (Nat.le_of_ble_eq_true rfl)) rfl ?_
    refine r_aload_n (n := 65) rfl ok d_nt_drawCandidate_64 rfl 1 rfl ?_
    refine r_aload_n (n := 66) rfl ok d_nt_drawCandidate_65 rfl 2 rfl ?_
    refine r_iload_n (n := 67) rfl ok d_nt_drawCandidate_66 rfl 0 rfl ?_
    obtain ⟨r6, hr6, h⟩ := bd_ok h
    refine r_callV (n := 70) rfl ok hG mf_nt_causeAgainst k_527 ks_3 k_525 (C_nt_causeAgainst hi0 hi1 hs1 hr6) ⟨rfl, rfl⟩ (rR hXR ⟨Nat.le_of_ble_eq_true rfl, Nat.le_of_ble_eq_true rfl⟩) rfl rfl (rv_NET hi0) rfl (Nat.le_of_ble_eq_true rfl) d_nt_drawCandidate_67 ?_
    refine r_istore_n (lv' := [(3, .int r6), (2, .int x5), (0, .ref (G.1 + oNET i0)), (1, .ref (G.1 + oSTA i1 s1))]) (n := 71) rfl ok d_nt_drawCandidate_70 rfl (lt_n hXn (Nat.le_of_ble_eq_true rfl)) rfl ?_
    refine r_iload_n (n := 72) rfl ok d_nt_drawCandidate_71 rfl 0 rfl ?_
    refine r_bipush (v := (-9)) (n := 74) rfl ok d_nt_drawCandidate_72 (by decide) ?_
    refine r_icmp_ne (tgt := 79) (n := 77) rfl ok d_nt_drawCandidate_74 (by decide) (fun c7 => ?_) (fun c7 => ?_)
    · replace h := if_n c7 h
      refine r_iload_n (n := 80) rfl ok d_nt_drawCandidate_79 rfl 0 rfl ?_
      refine r_bipush (v := 12) (n := 82) rfl ok d_nt_drawCandidate_80 (by decide) ?_
      refine r_icmp_ne (tgt := 93) (n := 85) rfl ok d_nt_drawCandidate_82 (by decide) (fun c8 => ?_) (fun c8 => ?_)
      · replace h := if_n c8 h
        refine r_bipush (v := (-9)) (n := 95) rfl ok d_nt_drawCandidate_93 (by decide) ?_
        refine r_istore (lv' := [(4, .int (-9)), (3, .int r6), (2, .int x5), (0, .ref (G.1 + oNET i0)), (1, .ref (G.1 + oSTA i1 s1))]) (n := 97) rfl ok d_nt_drawCandidate_95 (lt_n hXn (Nat.le_of_ble_eq_true rfl)) rfl ?_
        refine r_aload_n (n := 98) rfl ok d_nt_drawCandidate_97 rfl 4 rfl ?_
        refine r_iconst (v := 2) (n := 99) rfl ok d_nt_drawCandidate_98 (by decide) ?_
        refine r_iload_n (n := 100) rfl ok d_nt_drawCandidate_99 rfl 1 rfl ?_
        refine r_iload (n := 102) rfl ok d_nt_drawCandidate_100 0 rfl ?_
        obtain ⟨r9, hr9, h⟩ := bd_ok h
        refine r_callV (n := 105) rfl ok hG mf_st_noteRefusal k_513 k_514 k_512 (C_st_noteRefusal hi1 hs1 hr9) ⟨rfl, rfl⟩ (rR hXR ⟨Nat.le_of_ble_eq_true rfl, Nat.le_of_ble_eq_true rfl⟩) rfl rfl (rv_STA hi1 hs1) rfl (Nat.le_of_ble_eq_true rfl) d_nt_drawCandidate_102 ?_
        refine r_bipush (v := (-9)) (n := 107) rfl ok d_nt_drawCandidate_105 (by decide) ?_
        obtain rfl := Option.some.inj h
        exact fin _ _ ⟨.int, rfl, rfl⟩ d_nt_drawCandidate_107
      · replace h := if_p c8 h
        refine r_aload_n (n := 86) rfl ok d_nt_drawCandidate_85 rfl 3 rfl ?_
        refine r_iload_n (n := 87) rfl ok d_nt_drawCandidate_86 rfl 1 rfl ?_
        obtain ⟨r10, hr10, h⟩ := bd_ok h
        refine r_callS (n := 90) rfl ok hG mf_nt_roleCause k_530 k_529 (C_nt_roleCause hi1 hs1 hr10) ⟨rfl, rfl⟩ (rR hXR ⟨Nat.le_of_ble_eq_true rfl, Nat.le_of_ble_eq_true rfl⟩) rfl rfl (Nat.le_of_ble_eq_true rfl) d_nt_drawCandidate_87 ?_
        refine r_goto (tgt := 95) ok d_nt_drawCandidate_90 (by decide) ?_
        refine r_istore (lv' := [(4, .int r10), (3, .int r6), (2, .int x5), (0, .ref (G.1 + oNET i0)), (1, .ref (G.1 + oSTA i1 s1))]) (n := 97) rfl ok d_nt_drawCandidate_95 (lt_n hXn (Nat.le_of_ble_eq_true rfl)) rfl ?_
        refine r_aload_n (n := 98) rfl ok d_nt_drawCandidate_97 rfl 4 rfl ?_
        refine r_iconst (v := 2) (n := 99) rfl ok d_nt_drawCandidate_98 (by decide) ?_
        refine r_iload_n (n := 100) rfl ok d_nt_drawCandidate_99 rfl 1 rfl ?_
        refine r_iload (n := 102) rfl ok d_nt_drawCandidate_100 0 rfl ?_
        obtain ⟨r11, hr11, h⟩ := bd_ok h
        refine r_callV (n := 105) rfl ok hG mf_st_noteRefusal k_513 k_514 k_512 (C_st_noteRefusal hi1 hs1 hr11) ⟨rfl, rfl⟩ (rR hXR ⟨Nat.le_of_ble_eq_true rfl, Nat.le_of_ble_eq_true rfl⟩) rfl rfl (rv_STA hi1 hs1) rfl (Nat.le_of_ble_eq_true rfl) d_nt_drawCandidate_102 ?_
        refine r_bipush (v := (-9)) (n := 107) rfl ok d_nt_drawCandidate_105 (by decide) ?_
        obtain rfl := Option.some.inj h
        exact fin _ _ ⟨.int, rfl, rfl⟩ d_nt_drawCandidate_107
    · replace h := if_p c7 h
      refine r_iload_n (n := 78) rfl ok d_nt_drawCandidate_77 rfl 1 rfl ?_
      obtain rfl := Option.some.inj h
      exact fin _ _ ⟨.int, rfl, rfl⟩ d_nt_drawCandidate_78
  · replace h := if_n c1 h
    refine r_aload_n (n := 22) rfl ok d_nt_drawCandidate_21 rfl 1 rfl ?_
    refine r_iconst (v := 1) (n := 23) rfl ok d_nt_drawCandidate_22 (by decide) ?_
    refine r_bipush (v := (-9)) (n := 25) rfl ok d_nt_drawCandidate_23 (by decide) ?_
    refine r_bipush (v := (-9)) (n := 27) rfl ok d_nt_drawCandidate_25 (by decide) ?_
    obtain ⟨r12, hr12, h⟩ := bd_ok h
    refine r_callV (n := 30) rfl ok hG mf_st_noteRefusal k_513 k_514 k_512 (C_st_noteRefusal hi1 hs1 hr12) ⟨rfl, rfl⟩ (rR hXR ⟨Nat.le_of_ble_eq_true rfl, Nat.le_of_ble_eq_true rfl⟩) rfl rfl (rv_STA hi1 hs1) rfl (Nat.le_of_ble_eq_true rfl) d_nt_drawCandidate_27 ?_
    refine r_bipush (v := (-9)) (n := 32) rfl ok d_nt_drawCandidate_30 (by decide) ?_
    obtain rfl := Option.some.inj h
    exact fin _ _ ⟨.int, rfl, rfl⟩ d_nt_drawCandidate_32
set_option maxHeartbeats 4000000 in
set_option maxRecDepth 20000 in
theorem w_nt_openChain_94 {X : Cx Me} {G : Gt} (ok : Ok X b_nt_openChain "RetryChains$Network") (hG : GC X G) (hXR : X.R = rm_nt_openChain) (hXn : X.nL = 7) {j0a : Nat} {y2 : Int32} {y3 : Int32} {j4a : Nat} {j4b : Nat} (hj0a : j0a < 9) (hj4a : j4a < 9) (hj4b : j4b < 6) {t : Me} (kx : ∀ e : Me, e = t → Wt X e 160 [(3, .int y3)] [])  : ∀ (n : Nat) (x : Int32 × Me), lp n (b_nt_openChain_94 j0a y2 y3 j4a j4b) x = some t → Wt X x.2 94 [(0, .ref (G.1 + oNET j0a)), (2, .int y2), (3, .int y3), (4, .ref (G.1 + oCHN j4a j4b)), (5, .int x.1)] [] := by
  intro n x h
  refine lp_W (P := fun x => Wt X x.2 94 [(0, .ref (G.1 + oNET j0a)), (2, .int y2), (3, .int y3), (4, .ref (G.1 + oCHN j4a j4b)), (5, .int x.1)] []) (Z := fun t' => t' = t) (fun x r h hk hz => ?_) n x t h rfl
  unfold b_nt_openChain_94 at h
  refine r_iload (n := 96) rfl ok d_nt_openChain_94 4 rfl ?_
  refine r_iconst (v := 4) (n := 97) rfl ok d_nt_openChain_96 (by decide) ?_
  refine r_icmp_ge (tgt := 160) (n := 100) rfl ok d_nt_openChain_97 (by decide) (fun c13 => ?_) (fun c13 => ?_)
  · replace h := if_p c13 h
    obtain rfl := Option.some.inj h
    exact r_sub [2] rfl (show Wt X x.2 160 [(3, .int y3)] [] from kx _ (hz _ rfl))
  · replace h := if_n c13 h
    refine r_iload (n := 102) rfl ok d_nt_openChain_100 4 rfl ?_
    refine r_aload (n := 104) rfl ok d_nt_openChain_102 3 rfl ?_
    refine g_CHN_sampleEntry (n := 107) rfl ok hG hj4a hj4b k_216 d_nt_openChain_104 ?_
    refine r_icmp_ne (tgt := 114) (n := 110) rfl ok d_nt_openChain_107 (by decide) (fun c14 => ?_) (fun c14 => ?_)
    · replace h := if_n c14 h
      refine r_iconst (v := 0) (n := 115) rfl ok d_nt_openChain_114 (by decide) ?_
      refine r_istore (lv' := [(6, .int 0), (0, .ref (G.1 + oNET j0a)), (2, .int y2), (3, .int y3), (4, .ref (G.1 + oCHN j4a j4b)), (5, .int x.1)]) (n := 117) rfl ok d_nt_openChain_115 (lt_n hXn (Nat.le_of_ble_eq_true rfl)) rfl ?_
      refine r_aload (n := 119) rfl ok d_nt_openChain_117 4 rfl ?_
      refine g_CHN_tries (n := 122) rfl ok hG hj4a hj4b k_222 d_nt_openChain_119 ?_
      refine r_iload (n := 124) rfl ok d_nt_openChain_122 5 rfl ?_
      refine r_iload (n := 126) rfl ok d_nt_openChain_124 0 rfl ?_
      refine r_if_eq (tgt := 133) (n := 129) rfl ok d_nt_openChain_126 (by decide) (fun _ => ?_) (fun hc => absurd hc (by decide))
      refine r_aload_n (n := 134) rfl ok d_nt_openChain_133 rfl 1 rfl ?_
      refine g_NET_rates (n := 137) rfl ok hG hj0a k_239 d_nt_openChain_134 ?_
      refine r_aload (n := 139) rfl ok d_nt_openChain_137 4 rfl ?_
      refine g_CHN_rates (n := 142) rfl ok hG hj4a hj4b k_219 d_nt_openChain_139 ?_
      refine r_iload (n := 144) rfl ok d_nt_openChain_142 5 rfl ?_
      obtain ⟨g15, h⟩ := gd_ok h
      refine al_CRATES (n := 145) rfl ok hG hj4a hj4b g15 d_nt_openChain_144 ?_
      refine r_iload_n (n := 146) rfl ok d_nt_openChain_145 rfl 2 rfl ?_
      refine r_aload_n (n := 147) rfl ok d_nt_openChain_146 rfl 1 rfl ?_
      refine g_NET_budget (n := 150) rfl ok hG hj0a k_257 d_nt_openChain_147 ?_
      obtain ⟨r16, hr16, h⟩ := bd_ok h
      refine r_callV (n := 153) rfl ok hG mf_tb_triesWithin k_546 k_547 k_545 (C_tb_triesWithin hj0a hr16) ⟨rfl, rfl⟩ (rR hXR ⟨Nat.le_of_ble_eq_true rfl, Nat.le_of_ble_eq_true rfl⟩) rfl rfl (rv_TAB hj0a) rfl (Nat.le_of_ble_eq_true rfl) d_nt_openChain_150 ?_
      obtain ⟨g17, h⟩ := gd_ok h
      obtain ⟨M18, eM18, h⟩ := bd_ok h
      refine as_CTRIES (n := 154) rfl ok hG hj4a hj4b g17 d_nt_openChain_153 ?_
      refine r_mem (Option.some.inj eM18) ?_
      obtain ⟨x19, ex19, h⟩ := bd_ok h
      refine r_iinc (lv' := [(5, .int x19), (6, .int 0), (0, .ref (G.1 + oNET j0a)), (2, .int y2), (3, .int y3), (4, .ref (G.1 + oCHN j4a j4b))]) (n := 157) rfl ok d_nt_openChain_154 5 rfl (Option.some.inj ex19) (lt_n hXn (Nat.le_of_ble_eq_true rfl)) rfl ?_
      refine r_goto (tgt := 94) ok d_nt_openChain_157 (by decide) ?_
      obtain rfl := Option.some.inj h
      exact r_sub [2, 3, 4, 5, 0] rfl (show Wt X M18 94 [(0, .ref (G.1 + oNET j0a)), (2, .int y2), (3, .int y3), (4, .ref (G.1 + oCHN j4a j4b)), (5, .int x19)] [] from hk _ rfl)
    · replace h := if_p c14 h
      refine r_iconst (v := 1) (n := 111) rfl ok d_nt_openChain_110 (by decide) ?_
      refine r_goto (tgt := 115) ok d_nt_openChain_111 (by decide) ?_
      refine r_istore (lv' := [(6, .int 1), (0, .ref (G.1 + oNET j0a)), (2, .int y2), (3, .int y3), (4, .ref (G.1 + oCHN j4a j4b)), (5, .int x.1)]) (n := 117) rfl ok d_nt_openChain_115 (lt_n hXn (Nat.le_of_ble_eq_true rfl)) rfl ?_
      refine r_aload (n := 119) rfl ok d_nt_openChain_117 4 rfl ?_
      refine g_CHN_tries (n := 122) rfl ok hG hj4a hj4b k_222 d_nt_openChain_119 ?_
      refine r_iload (n := 124) rfl ok d_nt_openChain_122 5 rfl ?_
      refine r_iload (n := 126) rfl ok d_nt_openChain_124 0 rfl ?_
      refine r_if_eq (tgt := 133) (n := 129) rfl ok d_nt_openChain_126 (by decide) (fun hc => absurd hc (by decide)) (fun _ => ?_)
      refine r_iconst (v := 1) (n := 130) rfl ok d_nt_openChain_129 (by decide) ?_
      refine r_goto (tgt := 153) ok d_nt_openChain_130 (by decide) ?_
      obtain ⟨g20, h⟩ := gd_ok h
      obtain ⟨M21, eM21, h⟩ := bd_ok h
      refine as_CTRIES (n := 154) rfl ok hG hj4a hj4b g20 d_nt_openChain_153 ?_
      refine r_mem (Option.some.inj eM21) ?_
      obtain ⟨x22, ex22, h⟩ := bd_ok h
      refine r_iinc (lv' := [(5, .int x22), (6, .int 1), (0, .ref (G.1 + oNET j0a)), (2, .int y2), (3, .int y3), (4, .ref (G.1 + oCHN j4a j4b))]) (n := 157) rfl ok d_nt_openChain_154 5 rfl (Option.some.inj ex22) (lt_n hXn (Nat.le_of_ble_eq_true rfl)) rfl ?_
      refine r_goto (tgt := 94) ok d_nt_openChain_157 (by decide) ?_
      obtain rfl := Option.some.inj h
      exact r_sub [2, 3, 4, 5, 0] rfl (show Wt X M21 94 [(0, .ref (G.1 + oNET j0a)), (2, .int y2), (3, .int y3), (4, .ref (G.1 + oCHN j4a j4b)), (5, .int x22)] [] from hk _ rfl)
set_option maxHeartbeats 4000000 in
set_option maxRecDepth 20000 in
theorem C_nt_openChain {l : Launch} {G : Gt} {M : Me} {i0 : Nat} {i1 : Nat} {s1 : Nat} {a2 : Int32} (hi0 : i0 < 9) (hi1 : i1 < 9) (hs1 : s1 < 4) {o : Int32 × Me} (h : f_nt_openChain M i0 i1 s1 a2 = some o) : Ct l G (WC G) (rC G) y_nt_openChain b_nt_openChain 7 (some .int) rm_nt_openChain [.ref (G.1 + oNET i0), .ref (G.1 + oSTA i1 s1), .int a2] M (some (.int o.1)) o.2 := by
  refine Ct.mk (own := "RetryChains$Network") rfl (by decide) (Nat.le_of_ble_eq_true rfl) ⟨_, rfl⟩ (fun X hXl hXR hXn ok hG fin => ?_)
  subst hXl
  unfold f_nt_openChain at h
  show Wt X M 0 [(0, .ref (G.1 + oNET i0)), (1, .ref (G.1 + oSTA i1 s1)), (2, .int a2)] []
  refine r_aload_n (n := 1) rfl ok d_nt_openChain_0 rfl 0 rfl ?_
  obtain ⟨r1, hr1, h⟩ := bd_ok h
  refine r_callV (n := 4) rfl ok hG mf_nt_freeChain k_504 k_505 k_511 (C_nt_freeChain hi0 hr1) ⟨rfl, rfl⟩ (rR hXR ⟨Nat.le_of_ble_eq_true rfl, Nat.le_of_ble_eq_true rfl⟩) rfl rfl (rv_NET hi0) rfl (Nat.le_of_ble_eq_true rfl) d_nt_openChain_1 ?_
  refine r_istore_n (lv' := [(3, .int r1), (0, .ref (G.1 + oNET i0)), (1, .ref (G.1 + oSTA i1 s1)), (2, .int a2)]) (n := 5) rfl ok d_nt_openChain_4 rfl (lt_n hXn (Nat.le_of_ble_eq_true rfl)) rfl ?_
  refine r_iload_n (n := 6) rfl ok d_nt_openChain_5 rfl 0 rfl ?_
  refine r_if_lt (tgt := 15) (n := 9) rfl ok d_nt_openChain_6 (by decide) (fun c2 => ?_) (fun c2 => ?_)
  · replace h := if_p c2 h
    refine r_bipush (v := (-3)) (n := 17) rfl ok d_nt_openChain_15 (by decide) ?_
    obtain rfl := Option.some.inj h
    exact fin _ _ ⟨.int, rfl, rfl⟩ d_nt_openChain_17
  · replace h := if_n c2 h
    refine r_iload_n (n := 10) rfl ok d_nt_openChain_9 rfl 0 rfl ?_
    refine r_bipush (v := 6) (n := 12) rfl ok d_nt_openChain_10 (by decide) ?_
    refine r_icmp_lt (tgt := 18) (n := 15) rfl ok d_nt_openChain_12 (by decide) (fun c3 => ?_) (fun c3 => ?_)
    · replace h := if_p c3 h
      refine r_aload_n (n := 19) rfl ok d_nt_openChain_18 rfl 1 rfl ?_
      refine g_NET_open (n := 22) rfl ok hG hi0 k_244 d_nt_openChain_19 ?_
      refine r_iload_n (n := 23) rfl ok d_nt_openChain_22 rfl 0 rfl ?_
      obtain ⟨g4, h⟩ := gd_ok h
      refine al_OPENS (n := 24) rfl ok hG hi0 g4 d_nt_openChain_23 ?_
      refine r_astore (lv' := [(4, .ref (G.1 + oCHN i0 (tN r1))), (3, .int r1), (0, .ref (G.1 + oNET i0)), (1, .ref (G.1 + oSTA i1 s1)), (2, .int a2)]) (n := 26) rfl ok d_nt_openChain_24 (lt_n hXn (Nat.le_of_ble_eq_true rfl)) rfl ?_
      refine r_aload (n := 28) rfl ok d_nt_openChain_26 0 rfl ?_
      refine r_iconst (v := 1) (n := 29) rfl ok d_nt_openChain_28 (by decide) ?_
      obtain ⟨M5, eM5, h⟩ := bd_ok h
      refine p_CHN_isOpen (n := 32) rfl ok hG hi0 (gin_lt g4) (by decide) k_205 d_nt_openChain_29 ?_
      refine r_mem (Option.some.inj eM5) ?_
      refine r_aload (n := 34) rfl ok d_nt_openChain_32 0 rfl ?_
      refine r_aload_n (n := 35) rfl ok d_nt_openChain_34 rfl 3 rfl ?_
      refine g_STA_number (n := 38) rfl ok hG hi1 hs1 k_131 d_nt_openChain_35 ?_
      obtain ⟨M6, eM6, h⟩ := bd_ok h
      refine p_CHN_station (n := 41) rfl ok hG hi0 (gin_lt g4) k_207 d_nt_openChain_38 ?_
      refine r_mem (Option.some.inj eM6) ?_
      refine r_aload (n := 43) rfl ok d_nt_openChain_41 0 rfl ?_
      refine r_iload_n (n := 44) rfl ok d_nt_openChain_43 rfl 4 rfl ?_
      obtain ⟨M7, eM7, h⟩ := bd_ok h
      refine p_CHN_size (n := 47) rfl ok hG hi0 (gin_lt g4) k_210 d_nt_openChain_44 ?_
      refine r_mem (Option.some.inj eM7) ?_
      refine r_aload_n (n := 48) rfl ok d_nt_openChain_47 rfl 3 rfl ?_
      refine r_dup (n := 49) rfl ok d_nt_openChain_48 rfl ?_
      refine g_STA_chains (n := 52) rfl ok hG hi1 hs1 k_144 d_nt_openChain_49 ?_
      refine r_iconst (v := 1) (n := 53) rfl ok d_nt_openChain_52 (by decide) ?_
      refine r_iadd (n := 54) rfl ok d_nt_openChain_53 ?_
      obtain ⟨M8, eM8, h⟩ := bd_ok h
      refine p_STA_chains (n := 57) rfl ok hG hi1 hs1 k_144 d_nt_openChain_54 ?_
      refine r_mem (Option.some.inj eM8) ?_
      refine r_aload_n (n := 58) rfl ok d_nt_openChain_57 rfl 3 rfl ?_
      refine r_bipush (v := (-9)) (n := 60) rfl ok d_nt_openChain_58 (by decide) ?_
      refine r_bipush (v := (-9)) (n := 62) rfl ok d_nt_openChain_60 (by decide) ?_
      refine r_bipush (v := (-9)) (n := 64) rfl ok d_nt_openChain_62 (by decide) ?_
      obtain ⟨r9, hr9, h⟩ := bd_ok h
      refine r_callV (n := 67) rfl ok hG mf_st_noteRefusal k_513 k_514 k_512 (C_st_noteRefusal hi1 hs1 hr9) ⟨rfl, rfl⟩ (rR hXR ⟨Nat.le_of_ble_eq_true rfl, Nat.le_of_ble_eq_true rfl⟩) rfl rfl (rv_STA hi1 hs1) rfl (Nat.le_of_ble_eq_true rfl) d_nt_openChain_64 ?_
      refine r_aload_n (n := 68) rfl ok d_nt_openChain_67 rfl 2 rfl ?_
      refine r_aload (n := 70) rfl ok d_nt_openChain_68 0 rfl ?_
      refine r_aload_n (n := 71) rfl ok d_nt_openChain_70 rfl 3 rfl ?_
      refine r_aload_n (n := 72) rfl ok d_nt_openChain_71 rfl 3 rfl ?_
      refine g_STA_inFallback (n := 75) rfl ok hG hi1 hs1 k_158 d_nt_openChain_72 ?_
      refine r_if_eq (tgt := 83) (n := 78) rfl ok d_nt_openChain_75 (by decide) (fun c10 => ?_) (fun c10 => ?_)
      · replace h := if_p c10 h
        refine r_aload_n (n := 84) rfl ok d_nt_openChain_83 rfl 2 rfl ?_
        refine r_aload_n (n := 85) rfl ok d_nt_openChain_84 rfl 3 rfl ?_
        obtain ⟨r11, hr11, h⟩ := bd_ok h
        refine r_callV (n := 88) rfl ok hG mf_nt_drawCandidate k_518 ks_2 k_516 (C_nt_drawCandidate hi0 hi1 hs1 hr11) ⟨rfl, rfl⟩ (rR hXR ⟨Nat.le_of_ble_eq_true rfl, Nat.le_of_ble_eq_true rfl⟩) rfl rfl (rv_NET hi0) rfl (Nat.le_of_ble_eq_true rfl) d_nt_openChain_85 ?_
        obtain ⟨r12, hr12, h⟩ := bd_ok h
        refine r_callV (n := 91) rfl ok hG mf_nt_chooseRates k_539 ks_4 k_537 (C_nt_chooseRates hi0 hi0 (gin_lt g4) hi1 hs1 hr12) ⟨rfl, rfl⟩ (rR hXR ⟨Nat.le_of_ble_eq_true rfl, Nat.le_of_ble_eq_true rfl⟩) rfl rfl (rv_NET hi0) rfl (Nat.le_of_ble_eq_true rfl) d_nt_openChain_88 ?_
        refine r_iconst (v := 0) (n := 92) rfl ok d_nt_openChain_91 (by decide) ?_
        refine r_istore (lv' := [(5, .int 0), (4, .ref (G.1 + oCHN i0 (tN r1))), (3, .int r1), (0, .ref (G.1 + oNET i0)), (1, .ref (G.1 + oSTA i1 s1)), (2, .int a2)]) (n := 94) rfl ok d_nt_openChain_92 (lt_n hXn (Nat.le_of_ble_eq_true rfl)) rfl ?_
        obtain ⟨t23, ht23, h⟩ := bd_ok h
        refine r_sub [3, 5, 2, 1, 0] rfl (show Wt X r12 94 [(0, .ref (G.1 + oNET i0)), (2, .int a2), (3, .int r1), (4, .ref (G.1 + oCHN i0 (tN r1))), (5, .int 0)] [] from w_nt_openChain_94 ok hG hXR hXn hi0 hi0 (gin_lt g4) ?_ _ _ ht23)
        · intro e24 he
          subst he
          refine r_iload_n (n := 161) rfl ok d_nt_openChain_160 rfl 0 rfl ?_
          obtain rfl := Option.some.inj h
          exact fin _ _ ⟨.int, rfl, rfl⟩ d_nt_openChain_161
      · replace h := if_n c10 h
        refine r_bipush (v := (-9)) (n := 80) rfl ok d_nt_openChain_78 (by decide) ?_
        refine r_goto (tgt := 88) ok d_nt_openChain_80 (by decide) ?_
        obtain ⟨r25, hr25, h⟩ := bd_ok h
        refine r_callV (n := 91) rfl ok hG mf_nt_chooseRates k_539 ks_4 k_537 (C_nt_chooseRates hi0 hi0 (gin_lt g4) hi1 hs1 hr25) ⟨rfl, rfl⟩ (rR hXR ⟨Nat.le_of_ble_eq_true rfl, Nat.le_of_ble_eq_true rfl⟩) rfl rfl (rv_NET hi0) rfl (Nat.le_of_ble_eq_true rfl) d_nt_openChain_88 ?_
        refine r_iconst (v := 0) (n := 92) rfl ok d_nt_openChain_91 (by decide) ?_
        refine r_istore (lv' := [(5, .int 0), (4, .ref (G.1 + oCHN i0 (tN r1))), (3, .int r1), (0, .ref (G.1 + oNET i0)), (1, .ref (G.1 + oSTA i1 s1)), (2, .int a2)]) (n := 94) rfl ok d_nt_openChain_92 (lt_n hXn (Nat.le_of_ble_eq_true rfl)) rfl ?_
        obtain ⟨t26, ht26, h⟩ := bd_ok h
        refine r_sub [3, 5, 2, 1, 0] rfl (show Wt X r25 94 [(0, .ref (G.1 + oNET i0)), (2, .int a2), (3, .int r1), (4, .ref (G.1 + oCHN i0 (tN r1))), (5, .int 0)] [] from w_nt_openChain_94 ok hG hXR hXn hi0 hi0 (gin_lt g4) ?_ _ _ ht26)
        · intro e27 he
          subst he
          refine r_iload_n (n := 161) rfl ok d_nt_openChain_160 rfl 0 rfl ?_
          obtain rfl := Option.some.inj h
          exact fin _ _ ⟨.int, rfl, rfl⟩ d_nt_openChain_161
    · replace h := if_n c3 h
      refine r_bipush (v := (-3)) (n := 17) rfl ok d_nt_openChain_15 (by decide) ?_
      obtain rfl := Option.some.inj h
      exact fin _ _ ⟨.int, rfl, rfl⟩ d_nt_openChain_17
set_option maxHeartbeats 4000000 in
set_option maxRecDepth 20000 in
theorem w_st_hasAllowedRate_2 {X : Cx Me} {G : Gt} (ok : Ok X b_st_hasAllowedRate "RetryChains$Station") (hG : GC X G) (hXR : X.R = rm_st_hasAllowedRate) (hXn : X.nL = 3) {M : Me} {j0a : Nat} {j0b : Nat} {j1a : Nat} (hj0a : j0a < 9) (hj0b : j0b < 4) (hj1a : j1a < 9) {t : (Unit) ⊕ (Int32)} (kx : ∀ e : Unit, (Sum.inl e : (Unit) ⊕ (Int32)) = t → Wt X M 30 [] []) (kr : ∀ o : Int32, (Sum.inr o : (Unit) ⊕ (Int32)) = t → Fin X b_st_hasAllowedRate (some .boolean) (some (.int o)) M) : ∀ (n : Nat) (x : Int32), lp n (b_st_hasAllowedRate_2 M j0a j0b j1a) x = some t → Wt X M 2 [(0, .ref (G.1 + oSTA j0a j0b)), (1, .ref (G.1 + oTAB j1a)), (2, .int x)] [] := by
  intro n x h
  refine lp_W (P := fun x => Wt X M 2 [(0, .ref (G.1 + oSTA j0a j0b)), (1, .ref (G.1 + oTAB j1a)), (2, .int x)] []) (Z := fun t' => t' = t) (fun x r h hk hz => ?_) n x t h rfl
  unfold b_st_hasAllowedRate_2 at h
  refine r_iload_n (n := 3) rfl ok d_st_hasAllowedRate_2 rfl 2 rfl ?_
  refine r_aload_n (n := 4) rfl ok d_st_hasAllowedRate_3 rfl 1 rfl ?_
  refine g_TAB_count (n := 7) rfl ok hG hj1a k_37 d_st_hasAllowedRate_4 ?_
  refine r_icmp_ge (tgt := 30) (n := 10) rfl ok d_st_hasAllowedRate_7 (by decide) (fun c1 => ?_) (fun c1 => ?_)
  · replace h := if_p c1 h
    obtain rfl := Option.some.inj h
    exact r_sub [] rfl (show Wt X M 30 [] [] from kx _ (hz _ rfl))
  · replace h := if_n c1 h
    refine r_aload_n (n := 11) rfl ok d_st_hasAllowedRate_10 rfl 0 rfl ?_
    refine g_STA_links (n := 14) rfl ok hG hj0a hj0b k_132 d_st_hasAllowedRate_11 ?_
    refine r_iload_n (n := 15) rfl ok d_st_hasAllowedRate_14 rfl 2 rfl ?_
    obtain ⟨g2, h⟩ := gd_ok h
    refine al_LINKS (n := 16) rfl ok hG hj0a hj0b g2 d_st_hasAllowedRate_15 ?_
    refine g_LNK_isAllowed (n := 19) rfl ok hG hj0a hj0b (gin_lt g2) k_88 d_st_hasAllowedRate_16 ?_
    refine r_if_eq (tgt := 24) (n := 22) rfl ok d_st_hasAllowedRate_19 (by decide) (fun c3 => ?_) (fun c3 => ?_)
    · replace h := if_p c3 h
      obtain ⟨x4, ex4, h⟩ := bd_ok h
      refine r_iinc (lv' := [(2, .int x4), (0, .ref (G.1 + oSTA j0a j0b)), (1, .ref (G.1 + oTAB j1a))]) (n := 27) rfl ok d_st_hasAllowedRate_24 2 rfl (Option.some.inj ex4) (lt_n hXn (Nat.le_of_ble_eq_true rfl)) rfl ?_
      refine r_goto (tgt := 2) ok d_st_hasAllowedRate_27 (by decide) ?_
      obtain rfl := Option.some.inj h
      exact r_sub [1, 2, 0] rfl (show Wt X M 2 [(0, .ref (G.1 + oSTA j0a j0b)), (1, .ref (G.1 + oTAB j1a)), (2, .int x4)] [] from hk _ rfl)
    · replace h := if_n c3 h
      refine r_iconst (v := 1) (n := 23) rfl ok d_st_hasAllowedRate_22 (by decide) ?_
      obtain rfl := Option.some.inj h
      exact kr _ (hz _ rfl) _ _ ⟨.boolean, rfl, nz1⟩ d_st_hasAllowedRate_23
set_option maxHeartbeats 4000000 in
set_option maxRecDepth 20000 in
theorem C_st_hasAllowedRate {l : Launch} {G : Gt} {M : Me} {i0 : Nat} {s0 : Nat} {i1 : Nat} (hi0 : i0 < 9) (hs0 : s0 < 4) (hi1 : i1 < 9) {o : Int32} (h : f_st_hasAllowedRate M i0 s0 i1 = some o) : Ct l G (WC G) (rC G) y_st_hasAllowedRate b_st_hasAllowedRate 3 (some .boolean) rm_st_hasAllowedRate [.ref (G.1 + oSTA i0 s0), .ref (G.1 + oTAB i1)] M (some (.int o)) M := by
  refine Ct.mk (own := "RetryChains$Station") rfl (by decide) (Nat.le_of_ble_eq_true rfl) ⟨_, rfl⟩ (fun X hXl hXR hXn ok hG fin => ?_)
  subst hXl
  unfold f_st_hasAllowedRate at h
  show Wt X M 0 [(0, .ref (G.1 + oSTA i0 s0)), (1, .ref (G.1 + oTAB i1))] []
  refine r_iconst (v := 0) (n := 1) rfl ok d_st_hasAllowedRate_0 (by decide) ?_
  refine r_istore_n (lv' := [(2, .int 0), (0, .ref (G.1 + oSTA i0 s0)), (1, .ref (G.1 + oTAB i1))]) (n := 2) rfl ok d_st_hasAllowedRate_1 rfl (lt_n hXn (Nat.le_of_ble_eq_true rfl)) rfl ?_
  obtain ⟨t5, ht5, h⟩ := bd_ok h
  refine r_sub [1, 2, 0] rfl (show Wt X M 2 [(0, .ref (G.1 + oSTA i0 s0)), (1, .ref (G.1 + oTAB i1)), (2, .int 0)] [] from w_st_hasAllowedRate_2 ok hG hXR hXn hi0 hs0 hi1 ?_ ?_ _ _ ht5)
  · intro e6 he
    subst he
    replace h := su_l h
    refine r_iconst (v := 0) (n := 31) rfl ok d_st_hasAllowedRate_30 (by decide) ?_
    obtain rfl := Option.some.inj h
    exact fin _ _ ⟨.boolean, rfl, nz0⟩ d_st_hasAllowedRate_31
  · intro o he
    subst he
    replace h := su_r h
    obtain rfl := Option.some.inj h
    exact fin
set_option maxHeartbeats 4000000 in
set_option maxRecDepth 20000 in
theorem C_st_isReady {l : Launch} {G : Gt} {M : Me} {i0 : Nat} {s0 : Nat} {i1 : Nat} (hi0 : i0 < 9) (hs0 : s0 < 4) (hi1 : i1 < 9) {o : Int32} (h : f_st_isReady M i0 s0 i1 = some o) : Ct l G (WC G) (rC G) y_st_isReady b_st_isReady 2 (some .boolean) rm_st_isReady [.ref (G.1 + oSTA i0 s0), .ref (G.1 + oTAB i1)] M (some (.int o)) M := by
  refine Ct.mk (own := "RetryChains$Station") rfl (by decide) (Nat.le_of_ble_eq_true rfl) ⟨_, rfl⟩ (fun X hXl hXR hXn ok hG fin => ?_)
  subst hXl
  unfold f_st_isReady at h
  show Wt X M 0 [(0, .ref (G.1 + oSTA i0 s0)), (1, .ref (G.1 + oTAB i1))] []
  refine r_aload_n (n := 1) rfl ok d_st_isReady_0 rfl 0 rfl ?_
  refine g_STA_queueLength (n := 4) rfl ok hG hi0 hs0 k_141 d_st_isReady_1 ?_
  refine r_if_le (tgt := 19) (n := 7) rfl ok d_st_isReady_4 (by decide) (fun c1 => ?_) (fun c1 => ?_)
  · replace h := if_p c1 h
    refine r_iconst (v := 0) (n := 20) rfl ok d_st_isReady_19 (by decide) ?_
    obtain rfl := Option.some.inj h
    exact fin _ _ ⟨.boolean, rfl, nz0⟩ d_st_isReady_20
  · replace h := if_n c1 h
    refine r_aload_n (n := 8) rfl ok d_st_isReady_7 rfl 0 rfl ?_
    refine r_aload_n (n := 9) rfl ok d_st_isReady_8 rfl 1 rfl ?_
    obtain ⟨r2, hr2, h⟩ := bd_ok h
    refine r_callV (n := 12) rfl ok hG mf_st_hasAllowedRate k_500 k_501 k_576 (C_st_hasAllowedRate hi0 hs0 hi1 hr2) ⟨rfl, rfl⟩ (rR hXR ⟨Nat.le_of_ble_eq_true rfl, Nat.le_of_ble_eq_true rfl⟩) rfl rfl (rv_STA hi0 hs0) rfl (Nat.le_of_ble_eq_true rfl) d_st_isReady_9 ?_
    refine r_if_eq (tgt := 19) (n := 15) rfl ok d_st_isReady_12 (by decide) (fun c3 => ?_) (fun c3 => ?_)
    · replace h := if_p c3 h
      refine r_iconst (v := 0) (n := 20) rfl ok d_st_isReady_19 (by decide) ?_
      obtain rfl := Option.some.inj h
      exact fin _ _ ⟨.boolean, rfl, nz0⟩ d_st_isReady_20
    · replace h := if_n c3 h
      refine r_iconst (v := 1) (n := 16) rfl ok d_st_isReady_15 (by decide) ?_
      refine r_goto (tgt := 20) ok d_st_isReady_16 (by decide) ?_
      obtain rfl := Option.some.inj h
      exact fin _ _ ⟨.boolean, rfl, nz1⟩ d_st_isReady_20
set_option maxHeartbeats 4000000 in
set_option maxRecDepth 20000 in
theorem w_nt_hasReadyStation_2 {X : Cx Me} {G : Gt} (ok : Ok X b_nt_hasReadyStation "RetryChains$Network") (hG : GC X G) (hXR : X.R = rm_nt_hasReadyStation) (hXn : X.nL = 2) {M : Me} {j0a : Nat} (hj0a : j0a < 9) {t : (Unit) ⊕ (Int32)} (kx : ∀ e : Unit, (Sum.inl e : (Unit) ⊕ (Int32)) = t → Wt X M 34 [] []) (kr : ∀ o : Int32, (Sum.inr o : (Unit) ⊕ (Int32)) = t → Fin X b_nt_hasReadyStation (some .boolean) (some (.int o)) M) : ∀ (n : Nat) (x : Int32), lp n (b_nt_hasReadyStation_2 M j0a) x = some t → Wt X M 2 [(0, .ref (G.1 + oNET j0a)), (1, .int x)] [] := by
  intro n x h
  refine lp_W (P := fun x => Wt X M 2 [(0, .ref (G.1 + oNET j0a)), (1, .int x)] []) (Z := fun t' => t' = t) (fun x r h hk hz => ?_) n x t h rfl
  unfold b_nt_hasReadyStation_2 at h
  refine r_iload_n (n := 3) rfl ok d_nt_hasReadyStation_2 rfl 1 rfl ?_
  refine r_aload_n (n := 4) rfl ok d_nt_hasReadyStation_3 rfl 0 rfl ?_
  refine g_NET_stationCount (n := 7) rfl ok hG hj0a k_248 d_nt_hasReadyStation_4 ?_
  refine r_icmp_ge (tgt := 34) (n := 10) rfl ok d_nt_hasReadyStation_7 (by decide) (fun c1 => ?_) (fun c1 => ?_)
  · replace h := if_p c1 h
    obtain rfl := Option.some.inj h
    exact r_sub [] rfl (show Wt X M 34 [] [] from kx _ (hz _ rfl))
  · replace h := if_n c1 h
    refine r_aload_n (n := 11) rfl ok d_nt_hasReadyStation_10 rfl 0 rfl ?_
    refine g_NET_stations (n := 14) rfl ok hG hj0a k_242 d_nt_hasReadyStation_11 ?_
    refine r_iload_n (n := 15) rfl ok d_nt_hasReadyStation_14 rfl 1 rfl ?_
    obtain ⟨g2, h⟩ := gd_ok h
    refine al_STAS (n := 16) rfl ok hG hj0a g2 d_nt_hasReadyStation_15 ?_
    refine r_aload_n (n := 17) rfl ok d_nt_hasReadyStation_16 rfl 0 rfl ?_
    refine g_NET_rates (n := 20) rfl ok hG hj0a k_239 d_nt_hasReadyStation_17 ?_
    obtain ⟨r3, hr3, h⟩ := bd_ok h
    refine r_callV (n := 23) rfl ok hG mf_st_isReady k_573 k_574 k_572 (C_st_isReady hj0a (gin_lt g2) hj0a hr3) ⟨rfl, rfl⟩ (rR hXR ⟨Nat.le_of_ble_eq_true rfl, Nat.le_of_ble_eq_true rfl⟩) rfl rfl (rv_STA hj0a (gin_lt g2)) rfl (Nat.le_of_ble_eq_true rfl) d_nt_hasReadyStation_20 ?_
    refine r_if_eq (tgt := 28) (n := 26) rfl ok d_nt_hasReadyStation_23 (by decide) (fun c4 => ?_) (fun c4 => ?_)
    · replace h := if_p c4 h
      obtain ⟨x5, ex5, h⟩ := bd_ok h
      refine r_iinc (lv' := [(1, .int x5), (0, .ref (G.1 + oNET j0a))]) (n := 31) rfl ok d_nt_hasReadyStation_28 1 rfl (Option.some.inj ex5) (lt_n hXn (Nat.le_of_ble_eq_true rfl)) rfl ?_
      refine r_goto (tgt := 2) ok d_nt_hasReadyStation_31 (by decide) ?_
      obtain rfl := Option.some.inj h
      exact r_sub [1, 0] rfl (show Wt X M 2 [(0, .ref (G.1 + oNET j0a)), (1, .int x5)] [] from hk _ rfl)
    · replace h := if_n c4 h
      refine r_iconst (v := 1) (n := 27) rfl ok d_nt_hasReadyStation_26 (by decide) ?_
      obtain rfl := Option.some.inj h
      exact kr _ (hz _ rfl) _ _ ⟨.boolean, rfl, nz1⟩ d_nt_hasReadyStation_27
set_option maxHeartbeats 4000000 in
set_option maxRecDepth 20000 in
theorem C_nt_hasReadyStation {l : Launch} {G : Gt} {M : Me} {i0 : Nat} (hi0 : i0 < 9) {o : Int32} (h : f_nt_hasReadyStation M i0 = some o) : Ct l G (WC G) (rC G) y_nt_hasReadyStation b_nt_hasReadyStation 2 (some .boolean) rm_nt_hasReadyStation [.ref (G.1 + oNET i0)] M (some (.int o)) M := by
  refine Ct.mk (own := "RetryChains$Network") rfl (by decide) (Nat.le_of_ble_eq_true rfl) ⟨_, rfl⟩ (fun X hXl hXR hXn ok hG fin => ?_)
  subst hXl
  unfold f_nt_hasReadyStation at h
  show Wt X M 0 [(0, .ref (G.1 + oNET i0))] []
  refine r_iconst (v := 0) (n := 1) rfl ok d_nt_hasReadyStation_0 (by decide) ?_
  refine r_istore_n (lv' := [(1, .int 0), (0, .ref (G.1 + oNET i0))]) (n := 2) rfl ok d_nt_hasReadyStation_1 rfl (lt_n hXn (Nat.le_of_ble_eq_true rfl)) rfl ?_
  obtain ⟨t6, ht6, h⟩ := bd_ok h
  refine r_sub [1, 0] rfl (show Wt X M 2 [(0, .ref (G.1 + oNET i0)), (1, .int 0)] [] from w_nt_hasReadyStation_2 ok hG hXR hXn hi0 ?_ ?_ _ _ ht6)
  · intro e7 he
    subst he
    replace h := su_l h
    refine r_iconst (v := 0) (n := 35) rfl ok d_nt_hasReadyStation_34 (by decide) ?_
    obtain rfl := Option.some.inj h
    exact fin _ _ ⟨.boolean, rfl, nz0⟩ d_nt_hasReadyStation_35
  · intro o he
    subst he
    replace h := su_r h
    obtain rfl := Option.some.inj h
    exact fin
set_option maxHeartbeats 4000000 in
set_option maxRecDepth 20000 in
theorem w_nt_chooseByDeficit_2 {X : Cx Me} {G : Gt} (ok : Ok X b_nt_chooseByDeficit "RetryChains$Network") (hG : GC X G) (hXR : X.R = rm_nt_chooseByDeficit) (hXn : X.nL = 3) {j0a : Nat} (hj0a : j0a < 9) {t : (Me) ⊕ (Option (Nat × Nat) × Me)} (kx : ∀ e : Me, (Sum.inl e : (Me) ⊕ (Option (Nat × Nat) × Me)) = t → Wt X e 86 [] []) (kr : ∀ o : Option (Nat × Nat) × Me, (Sum.inr o : (Me) ⊕ (Option (Nat × Nat) × Me)) = t → Fin X b_nt_chooseByDeficit (some (.object "RetryChains$Station")) (some (va_rf (Option.map (fun p => G.1 + oSTA p.1 p.2) o.1))) o.2) : ∀ (n : Nat) (x : Int32 × Me), lp n (b_nt_chooseByDeficit_2 j0a) x = some t → Wt X x.2 2 [(0, .ref (G.1 + oNET j0a)), (1, .int x.1)] [] := by
  intro n x h
  refine lp_W (P := fun x => Wt X x.2 2 [(0, .ref (G.1 + oNET j0a)), (1, .int x.1)] []) (Z := fun t' => t' = t) (fun x r h hk hz => ?_) n x t h rfl
  unfold b_nt_chooseByDeficit_2 at h
  refine r_iload_n (n := 3) rfl ok d_nt_chooseByDeficit_2 rfl 1 rfl ?_
  refine r_ldc (n := 5) rfl ok d_nt_chooseByDeficit_3 k_581 ?_
  refine r_icmp_ge (tgt := 86) (n := 8) rfl ok d_nt_chooseByDeficit_5 (by decide) (fun c1 => ?_) (fun c1 => ?_)
  · replace h := if_p c1 h
    obtain rfl := Option.some.inj h
    exact r_sub [] rfl (show Wt X x.2 86 [] [] from kx _ (hz _ rfl))
  · replace h := if_n c1 h
    refine r_aload_n (n := 9) rfl ok d_nt_chooseByDeficit_8 rfl 0 rfl ?_
    refine r_aload_n (n := 10) rfl ok d_nt_chooseByDeficit_9 rfl 0 rfl ?_
    refine g_NET_turn (n := 13) rfl ok hG hj0a k_260 d_nt_chooseByDeficit_10 ?_
    obtain ⟨r2, hr2, h⟩ := bd_ok h
    refine r_callV (n := 16) rfl ok hG mf_nt_stationAt k_465 k_466 k_472 (C_nt_stationAt hj0a hr2) ⟨rfl, rfl⟩ (rR hXR ⟨Nat.le_of_ble_eq_true rfl, Nat.le_of_ble_eq_true rfl⟩) rfl rfl (rv_NET hj0a) rfl (Nat.le_of_ble_eq_true rfl) d_nt_chooseByDeficit_13 ?_
    rcases er2 : r2 with _ | p3
    · replace h := el_n er2 h
      try rw [er2]
      refine r_astore_nN (lv' := [(2, .null), (0, .ref (G.1 + oNET j0a)), (1, .int x.1)]) (n := 17) rfl ok d_nt_chooseByDeficit_16 rfl (lt_n hXn (Nat.le_of_ble_eq_true rfl)) rfl ?_
      refine r_aload_nN (n := 18) rfl ok d_nt_chooseByDeficit_17 rfl 0 rfl ?_
      refine r_ifnullN (tgt := 53) ok d_nt_chooseByDeficit_18 (by decide) ?_
      refine r_aload_n (n := 54) rfl ok d_nt_chooseByDeficit_53 rfl 1 rfl ?_
      refine r_aload_n (n := 55) rfl ok d_nt_chooseByDeficit_54 rfl 1 rfl ?_
      refine g_NET_turn (n := 58) rfl ok hG hj0a k_260 d_nt_chooseByDeficit_55 ?_
      refine r_iconst (v := 1) (n := 59) rfl ok d_nt_chooseByDeficit_58 (by decide) ?_
      refine r_iadd (n := 60) rfl ok d_nt_chooseByDeficit_59 ?_
      refine r_aload_n (n := 61) rfl ok d_nt_chooseByDeficit_60 rfl 1 rfl ?_
      refine g_NET_stationCount (n := 64) rfl ok hG hj0a k_248 d_nt_chooseByDeficit_61 ?_
      refine r_icmp_ge (tgt := 76) (n := 67) rfl ok d_nt_chooseByDeficit_64 (by decide) (fun c4 => ?_) (fun c4 => ?_)
      · replace h := if_p c4 h
        refine r_iconst (v := 0) (n := 77) rfl ok d_nt_chooseByDeficit_76 (by decide) ?_
        obtain ⟨M5, eM5, h⟩ := bd_ok h
        refine p_NET_turn (n := 80) rfl ok hG hj0a k_260 d_nt_chooseByDeficit_77 ?_
        refine r_mem (Option.some.inj eM5) ?_
        obtain ⟨x6, ex6, h⟩ := bd_ok h
        refine r_iinc (lv' := [(1, .int x6), (2, .null), (0, .ref (G.1 + oNET j0a))]) (n := 83) rfl ok d_nt_chooseByDeficit_80 2 rfl (Option.some.inj ex6) (lt_n hXn (Nat.le_of_ble_eq_true rfl)) rfl ?_
        refine r_goto (tgt := 2) ok d_nt_chooseByDeficit_83 (by decide) ?_
        obtain rfl := Option.some.inj h
        exact r_sub [2, 0] rfl (show Wt X M5 2 [(0, .ref (G.1 + oNET j0a)), (1, .int x6)] [] from hk _ rfl)
      · replace h := if_n c4 h
        refine r_aload_n (n := 68) rfl ok d_nt_chooseByDeficit_67 rfl 1 rfl ?_
        refine g_NET_turn (n := 71) rfl ok hG hj0a k_260 d_nt_chooseByDeficit_68 ?_
        refine r_iconst (v := 1) (n := 72) rfl ok d_nt_chooseByDeficit_71 (by decide) ?_
        refine r_iadd (n := 73) rfl ok d_nt_chooseByDeficit_72 ?_
        refine r_goto (tgt := 77) ok d_nt_chooseByDeficit_73 (by decide) ?_
        obtain ⟨M7, eM7, h⟩ := bd_ok h
        refine p_NET_turn (n := 80) rfl ok hG hj0a k_260 d_nt_chooseByDeficit_77 ?_
        refine r_mem (Option.some.inj eM7) ?_
        obtain ⟨x8, ex8, h⟩ := bd_ok h
        refine r_iinc (lv' := [(1, .int x8), (2, .null), (0, .ref (G.1 + oNET j0a))]) (n := 83) rfl ok d_nt_chooseByDeficit_80 2 rfl (Option.some.inj ex8) (lt_n hXn (Nat.le_of_ble_eq_true rfl)) rfl ?_
        refine r_goto (tgt := 2) ok d_nt_chooseByDeficit_83 (by decide) ?_
        obtain rfl := Option.some.inj h
        exact r_sub [2, 0] rfl (show Wt X M7 2 [(0, .ref (G.1 + oNET j0a)), (1, .int x8)] [] from hk _ rfl)
    · replace h := el_s er2 h
      try rw [er2]
      have vp3 := v_nt_stationAt hj0a (hr2.trans (congrArg some er2))
      refine r_astore_n (lv' := [(2, .ref (G.1 + oSTA p3.1 p3.2)), (0, .ref (G.1 + oNET j0a)), (1, .int x.1)]) (n := 17) rfl ok d_nt_chooseByDeficit_16 rfl (lt_n hXn (Nat.le_of_ble_eq_true rfl)) rfl ?_
      refine r_aload_n (n := 18) rfl ok d_nt_chooseByDeficit_17 rfl 0 rfl ?_
      refine r_ifnull (n := 21) rfl ok d_nt_chooseByDeficit_18 ?_
      refine r_aload_n (n := 22) rfl ok d_nt_chooseByDeficit_21 rfl 0 rfl ?_
      refine r_aload_n (n := 23) rfl ok d_nt_chooseByDeficit_22 rfl 1 rfl ?_
      refine g_NET_rates (n := 26) rfl ok hG hj0a k_239 d_nt_chooseByDeficit_23 ?_
      obtain ⟨r9, hr9, h⟩ := bd_ok h
      refine r_callV (n := 29) rfl ok hG mf_st_isReady k_573 k_574 k_572 (C_st_isReady vp3.1 vp3.2 hj0a hr9) ⟨rfl, rfl⟩ (rR hXR ⟨Nat.le_of_ble_eq_true rfl, Nat.le_of_ble_eq_true rfl⟩) rfl rfl (rv_STA vp3.1 vp3.2) rfl (Nat.le_of_ble_eq_true rfl) d_nt_chooseByDeficit_26 ?_
      refine r_if_eq (tgt := 53) (n := 32) rfl ok d_nt_chooseByDeficit_29 (by decide) (fun c10 => ?_) (fun c10 => ?_)
      · replace h := if_p c10 h
        refine r_aload_n (n := 54) rfl ok d_nt_chooseByDeficit_53 rfl 1 rfl ?_
        refine r_aload_n (n := 55) rfl ok d_nt_chooseByDeficit_54 rfl 1 rfl ?_
        refine g_NET_turn (n := 58) rfl ok hG hj0a k_260 d_nt_chooseByDeficit_55 ?_
        refine r_iconst (v := 1) (n := 59) rfl ok d_nt_chooseByDeficit_58 (by decide) ?_
        refine r_iadd (n := 60) rfl ok d_nt_chooseByDeficit_59 ?_
        refine r_aload_n (n := 61) rfl ok d_nt_chooseByDeficit_60 rfl 1 rfl ?_
        refine g_NET_stationCount (n := 64) rfl ok hG hj0a k_248 d_nt_chooseByDeficit_61 ?_
        refine r_icmp_ge (tgt := 76) (n := 67) rfl ok d_nt_chooseByDeficit_64 (by decide) (fun c11 => ?_) (fun c11 => ?_)
        · replace h := if_p c11 h
          refine r_iconst (v := 0) (n := 77) rfl ok d_nt_chooseByDeficit_76 (by decide) ?_
          obtain ⟨M12, eM12, h⟩ := bd_ok h
          refine p_NET_turn (n := 80) rfl ok hG hj0a k_260 d_nt_chooseByDeficit_77 ?_
          refine r_mem (Option.some.inj eM12) ?_
          obtain ⟨x13, ex13, h⟩ := bd_ok h
          refine r_iinc (lv' := [(1, .int x13), (2, .ref (G.1 + oSTA p3.1 p3.2)), (0, .ref (G.1 + oNET j0a))]) (n := 83) rfl ok d_nt_chooseByDeficit_80 2 rfl (Option.some.inj ex13) (lt_n hXn (Nat.le_of_ble_eq_true rfl)) rfl ?_
          refine r_goto (tgt := 2) ok d_nt_chooseByDeficit_83 (by decide) ?_
          obtain rfl := Option.some.inj h
          exact r_sub [2, 0] rfl (show Wt X M12 2 [(0, .ref (G.1 + oNET j0a)), (1, .int x13)] [] from hk _ rfl)
        · replace h := if_n c11 h
          refine r_aload_n (n := 68) rfl ok d_nt_chooseByDeficit_67 rfl 1 rfl ?_
          refine g_NET_turn (n := 71) rfl ok hG hj0a k_260 d_nt_chooseByDeficit_68 ?_
          refine r_iconst (v := 1) (n := 72) rfl ok d_nt_chooseByDeficit_71 (by decide) ?_
          refine r_iadd (n := 73) rfl ok d_nt_chooseByDeficit_72 ?_
          refine r_goto (tgt := 77) ok d_nt_chooseByDeficit_73 (by decide) ?_
          obtain ⟨M14, eM14, h⟩ := bd_ok h
          refine p_NET_turn (n := 80) rfl ok hG hj0a k_260 d_nt_chooseByDeficit_77 ?_
          refine r_mem (Option.some.inj eM14) ?_
          obtain ⟨x15, ex15, h⟩ := bd_ok h
          refine r_iinc (lv' := [(1, .int x15), (2, .ref (G.1 + oSTA p3.1 p3.2)), (0, .ref (G.1 + oNET j0a))]) (n := 83) rfl ok d_nt_chooseByDeficit_80 2 rfl (Option.some.inj ex15) (lt_n hXn (Nat.le_of_ble_eq_true rfl)) rfl ?_
          refine r_goto (tgt := 2) ok d_nt_chooseByDeficit_83 (by decide) ?_
          obtain rfl := Option.some.inj h
          exact r_sub [2, 0] rfl (show Wt X M14 2 [(0, .ref (G.1 + oNET j0a)), (1, .int x15)] [] from hk _ rfl)
      · replace h := if_n c10 h
        refine r_aload_n (n := 33) rfl ok d_nt_chooseByDeficit_32 rfl 0 rfl ?_
        refine g_STA_deficit (n := 36) rfl ok hG vp3.1 vp3.2 k_161 d_nt_chooseByDeficit_33 ?_
        refine r_if_le (tgt := 41) (n := 39) rfl ok d_nt_chooseByDeficit_36 (by decide) (fun c16 => ?_) (fun c16 => ?_)
        · replace h := if_p c16 h
          refine r_aload_n (n := 42) rfl ok d_nt_chooseByDeficit_41 rfl 0 rfl ?_
          refine r_dup (n := 43) rfl ok d_nt_chooseByDeficit_42 rfl ?_
          refine g_STA_deficit (n := 46) rfl ok hG vp3.1 vp3.2 k_161 d_nt_chooseByDeficit_43 ?_
          refine r_sipush (v := 4000) (n := 49) rfl ok d_nt_chooseByDeficit_46 (by decide) ?_
          refine r_iadd (n := 50) rfl ok d_nt_chooseByDeficit_49 ?_
          obtain ⟨M17, eM17, h⟩ := bd_ok h
          refine p_STA_deficit (n := 53) rfl ok hG vp3.1 vp3.2 k_161 d_nt_chooseByDeficit_50 ?_
          refine r_mem (Option.some.inj eM17) ?_
          refine r_aload_n (n := 54) rfl ok d_nt_chooseByDeficit_53 rfl 1 rfl ?_
          refine r_aload_n (n := 55) rfl ok d_nt_chooseByDeficit_54 rfl 1 rfl ?_
          refine g_NET_turn (n := 58) rfl ok hG hj0a k_260 d_nt_chooseByDeficit_55 ?_
          refine r_iconst (v := 1) (n := 59) rfl ok d_nt_chooseByDeficit_58 (by decide) ?_
          refine r_iadd (n := 60) rfl ok d_nt_chooseByDeficit_59 ?_
          refine r_aload_n (n := 61) rfl ok d_nt_chooseByDeficit_60 rfl 1 rfl ?_
          refine g_NET_stationCount (n := 64) rfl ok hG hj0a k_248 d_nt_chooseByDeficit_61 ?_
          refine r_icmp_ge (tgt := 76) (n := 67) rfl ok d_nt_chooseByDeficit_64 (by decide) (fun c18 => ?_) (fun c18 => ?_)
          · replace h := if_p c18 h
            refine r_iconst (v := 0) (n := 77) rfl ok d_nt_chooseByDeficit_76 (by decide) ?_
            obtain ⟨M19, eM19, h⟩ := bd_ok h
            refine p_NET_turn (n := 80) rfl ok hG hj0a k_260 d_nt_chooseByDeficit_77 ?_
            refine r_mem (Option.some.inj eM19) ?_
            obtain ⟨x20, ex20, h⟩ := bd_ok h
            refine r_iinc (lv' := [(1, .int x20), (2, .ref (G.1 + oSTA p3.1 p3.2)), (0, .ref (G.1 + oNET j0a))]) (n := 83) rfl ok d_nt_chooseByDeficit_80 2 rfl (Option.some.inj ex20) (lt_n hXn (Nat.le_of_ble_eq_true rfl)) rfl ?_
            refine r_goto (tgt := 2) ok d_nt_chooseByDeficit_83 (by decide) ?_
            obtain rfl := Option.some.inj h
            exact r_sub [2, 0] rfl (show Wt X M19 2 [(0, .ref (G.1 + oNET j0a)), (1, .int x20)] [] from hk _ rfl)
          · replace h := if_n c18 h
            refine r_aload_n (n := 68) rfl ok d_nt_chooseByDeficit_67 rfl 1 rfl ?_
            refine g_NET_turn (n := 71) rfl ok hG hj0a k_260 d_nt_chooseByDeficit_68 ?_
            refine r_iconst (v := 1) (n := 72) rfl ok d_nt_chooseByDeficit_71 (by decide) ?_
            refine r_iadd (n := 73) rfl ok d_nt_chooseByDeficit_72 ?_
            refine r_goto (tgt := 77) ok d_nt_chooseByDeficit_73 (by decide) ?_
            obtain ⟨M21, eM21, h⟩ := bd_ok h
            refine p_NET_turn (n := 80) rfl ok hG hj0a k_260 d_nt_chooseByDeficit_77 ?_
            refine r_mem (Option.some.inj eM21) ?_
            obtain ⟨x22, ex22, h⟩ := bd_ok h
            refine r_iinc (lv' := [(1, .int x22), (2, .ref (G.1 + oSTA p3.1 p3.2)), (0, .ref (G.1 + oNET j0a))]) (n := 83) rfl ok d_nt_chooseByDeficit_80 2 rfl (Option.some.inj ex22) (lt_n hXn (Nat.le_of_ble_eq_true rfl)) rfl ?_
            refine r_goto (tgt := 2) ok d_nt_chooseByDeficit_83 (by decide) ?_
            obtain rfl := Option.some.inj h
            exact r_sub [2, 0] rfl (show Wt X M21 2 [(0, .ref (G.1 + oNET j0a)), (1, .int x22)] [] from hk _ rfl)
        · replace h := if_n c16 h
          refine r_aload_n (n := 40) rfl ok d_nt_chooseByDeficit_39 rfl 0 rfl ?_
          obtain rfl := Option.some.inj h
          exact fin_ref (kr _ (hz _ rfl)) _ _ (Or.inr ⟨_, rfl⟩) d_nt_chooseByDeficit_40
set_option maxHeartbeats 4000000 in
set_option maxRecDepth 20000 in
theorem C_nt_chooseByDeficit {l : Launch} {G : Gt} {M : Me} {i0 : Nat} (hi0 : i0 < 9) {o : Option (Nat × Nat) × Me} (h : f_nt_chooseByDeficit M i0 = some o) : Ct l G (WC G) (rC G) y_nt_chooseByDeficit b_nt_chooseByDeficit 3 (some (.object "RetryChains$Station")) rm_nt_chooseByDeficit [.ref (G.1 + oNET i0)] M (some (va_rf (Option.map (fun p => G.1 + oSTA p.1 p.2) o.1))) o.2 := by
  refine Ct.mk (own := "RetryChains$Network") rfl (by decide) (Nat.le_of_ble_eq_true rfl) (okRet_ref ⟨_, rfl, Or.inl ⟨_, rfl⟩⟩) (fun X hXl hXR hXn ok hG fin => ?_)
  subst hXl
  unfold f_nt_chooseByDeficit at h
  show Wt X M 0 [(0, .ref (G.1 + oNET i0))] []
  refine r_iconst (v := 0) (n := 1) rfl ok d_nt_chooseByDeficit_0 (by decide) ?_
  refine r_istore_n (lv' := [(1, .int 0), (0, .ref (G.1 + oNET i0))]) (n := 2) rfl ok d_nt_chooseByDeficit_1 rfl (lt_n hXn (Nat.le_of_ble_eq_true rfl)) rfl ?_
  obtain ⟨t23, ht23, h⟩ := bd_ok h
  refine r_sub [1, 0] rfl (show Wt X M 2 [(0, .ref (G.1 + oNET i0)), (1, .int 0)] [] from w_nt_chooseByDeficit_2 ok hG hXR hXn hi0 ?_ ?_ _ _ ht23)
  · intro e24 he
    subst he
    replace h := su_l h
    refine r_null (n := 87) rfl ok d_nt_chooseByDeficit_86 ?_
    obtain rfl := Option.some.inj h
    exact fin_ref fin _ _ (Or.inl rfl) d_nt_chooseByDeficit_87
  · intro o he
    subst he
    replace h := su_r h
    obtain rfl := Option.some.inj h
    exact fin
theorem v_nt_chooseByDeficit {M M2 : Me} {i : Nat} {p : Nat × Nat} (hi : i < 9) (h : f_nt_chooseByDeficit M i = some (some p, M2)) : p.1 < 9 ∧ p.2 < 4 := by
  unfold f_nt_chooseByDeficit at h
  obtain ⟨t, ht, h⟩ := bd_ok h
  have key := lp_inv (b := b_nt_chooseByDeficit_2 i) (Z := fun t => ∀ q, t = .inr q → ∀ p, q.1 = some p → p.1 < 9 ∧ p.2 < 4) (fun x t h => by
    unfold b_nt_chooseByDeficit_2 at h
    by_cases c1 : 1000000 ≤ x.1
    · replace h := if_p c1 h
      cases h
      intro q hq
      cases hq
    · replace h := if_n c1 h
      obtain ⟨r2, h2, h⟩ := bd_ok h
      have tail : ∀ (M' : Me), (if M'.1 0 i 0 0 ≤ M'.1 6 i 0 0 + (1 : Int32) then (some (wI M' 6 i 0 0 0)).bind fun M5 => (some (x.1 + 1)).bind fun x6 => some (.inl (x6, M5)) else (some (wI M' 6 i 0 0 (M'.1 6 i 0 0 + (1 : Int32)))).bind fun M7 => (some (x.1 + 1)).bind fun x8 => some (.inl (x8, M7))) = some (Sum.inr t : (Int32 × Me) ⊕ ((Me) ⊕ (Option (Nat × Nat) × Me))) → False := by
        intro M' hh
        by_cases c3 : M'.1 0 i 0 0 ≤ M'.1 6 i 0 0 + (1 : Int32)
        · have hh := if_p c3 hh
          cases hh
        · have hh := if_n c3 hh
          cases hh
      rcases e2 : r2 with _ | p3
      · exact (tail _ (el_n e2 h)).elim
      · replace h := el_s e2 h
        have v := v_nt_stationAt hi (h2.trans (congrArg some e2))
        obtain ⟨r9, h9, h⟩ := bd_ok h
        by_cases c4 : r9 = 0
        · exact (tail _ (if_p c4 h)).elim
        · replace h := if_n c4 h
          by_cases c5 : x.2.1 38 p3.1 p3.2 0 ≤ 0
          · replace h := if_p c5 h
            obtain ⟨M17, h17, h⟩ := bd_ok h
            exact (tail _ h).elim
          · replace h := if_n c5 h
            cases h
            intro q hq p hp
            cases hq
            cases hp
            exact v) FU _ _ ht
  rcases t with e | o
  · cases h
  · cases h
    exact key _ rfl _ rfl
set_option maxHeartbeats 4000000 in
set_option maxRecDepth 20000 in
theorem w_nt_timeOfTries_30 {X : Cx Me} {G : Gt} (ok : Ok X b_nt_timeOfTries "RetryChains$Network") (hG : GC X G) (hXR : X.R = rm_nt_timeOfTries) (hXn : X.nL = 8) {M : Me} {j0a : Nat} {j1a : Nat} {j1b : Nat} {y3 : Int32} {y5 : Int32} {y6 : Int32} (hj0a : j0a < 9) (hj1a : j1a < 9) (hj1b : j1b < 6) {t : Int32} (kx : ∀ e : Int32, e = t → Wt X M 68 [(0, .ref (G.1 + oNET j0a)), (1, .ref (G.1 + oCHN j1a j1b)), (3, .int y3), (4, .int e), (5, .int y5), (6, .int y6)] [])  : ∀ (n : Nat) (x : Int32 × Int32), lp n (b_nt_timeOfTries_30 M j0a j1a j1b y3 y5 y6) x = some t → Wt X M 30 [(0, .ref (G.1 + oNET j0a)), (1, .ref (G.1 + oCHN j1a j1b)), (3, .int y3), (4, .int x.1), (5, .int y5), (6, .int y6), (7, .int x.2)] [] := by
  intro n x h
  refine lp_W (P := fun x => Wt X M 30 [(0, .ref (G.1 + oNET j0a)), (1, .ref (G.1 + oCHN j1a j1b)), (3, .int y3), (4, .int x.1), (5, .int y5), (6, .int y6), (7, .int x.2)] []) (Z := fun t' => t' = t) (fun x r h hk hz => ?_) n x t h rfl
  unfold b_nt_timeOfTries_30 at h
  refine r_iload (n := 32) rfl ok d_nt_timeOfTries_30 6 rfl ?_
  refine r_iload (n := 34) rfl ok d_nt_timeOfTries_32 5 rfl ?_
  refine r_icmp_ge (tgt := 68) (n := 37) rfl ok d_nt_timeOfTries_34 (by decide) (fun c4 => ?_) (fun c4 => ?_)
  · replace h := if_p c4 h
    obtain rfl := Option.some.inj h
    exact r_sub [0, 1, 2, 3, 4, 5] rfl (show Wt X M 68 [(0, .ref (G.1 + oNET j0a)), (1, .ref (G.1 + oCHN j1a j1b)), (3, .int y3), (4, .int x.1), (5, .int y5), (6, .int y6)] [] from kx _ (hz _ rfl))
  · replace h := if_n c4 h
    refine r_iload (n := 39) rfl ok d_nt_timeOfTries_37 3 rfl ?_
    refine r_aload_n (n := 40) rfl ok d_nt_timeOfTries_39 rfl 0 rfl ?_
    refine g_NET_rates (n := 43) rfl ok hG hj0a k_239 d_nt_timeOfTries_40 ?_
    refine r_aload_n (n := 44) rfl ok d_nt_timeOfTries_43 rfl 1 rfl ?_
    refine g_CHN_rates (n := 47) rfl ok hG hj1a hj1b k_219 d_nt_timeOfTries_44 ?_
    refine r_iload (n := 49) rfl ok d_nt_timeOfTries_47 4 rfl ?_
    obtain ⟨g5, h⟩ := gd_ok h
    refine al_CRATES (n := 50) rfl ok hG hj1a hj1b g5 d_nt_timeOfTries_49 ?_
    refine r_aload_n (n := 51) rfl ok d_nt_timeOfTries_50 rfl 1 rfl ?_
    refine g_CHN_size (n := 54) rfl ok hG hj1a hj1b k_210 d_nt_timeOfTries_51 ?_
    refine r_iload (n := 56) rfl ok d_nt_timeOfTries_54 6 rfl ?_
    obtain ⟨r6, hr6, h⟩ := bd_ok h
    refine r_callV (n := 59) rfl ok hG mf_tb_timeOfTry k_550 k_551 k_604 (C_tb_timeOfTry hj0a hr6) ⟨rfl, rfl⟩ (rR hXR ⟨Nat.le_of_ble_eq_true rfl, Nat.le_of_ble_eq_true rfl⟩) rfl rfl (rv_TAB hj0a) rfl (Nat.le_of_ble_eq_true rfl) d_nt_timeOfTries_56 ?_
    refine r_iadd (n := 60) rfl ok d_nt_timeOfTries_59 ?_
    obtain ⟨x7, ex7, h⟩ := bd_ok h
    refine r_ti (Option.some.inj ex7).symm ?_
    refine r_istore (lv' := [(4, .int x7), (0, .ref (G.1 + oNET j0a)), (1, .ref (G.1 + oCHN j1a j1b)), (3, .int y3), (5, .int y5), (6, .int y6), (7, .int x.2)]) (n := 62) rfl ok d_nt_timeOfTries_60 (lt_n hXn (Nat.le_of_ble_eq_true rfl)) rfl ?_
    obtain ⟨x8, ex8, h⟩ := bd_ok h
    refine r_iinc (lv' := [(7, .int x8), (4, .int x7), (0, .ref (G.1 + oNET j0a)), (1, .ref (G.1 + oCHN j1a j1b)), (3, .int y3), (5, .int y5), (6, .int y6)]) (n := 65) rfl ok d_nt_timeOfTries_62 6 rfl (Option.some.inj ex8) (lt_n hXn (Nat.le_of_ble_eq_true rfl)) rfl ?_
    refine r_goto (tgt := 30) ok d_nt_timeOfTries_65 (by decide) ?_
    obtain rfl := Option.some.inj h
    exact r_sub [2, 3, 4, 1, 5, 6, 0] rfl (show Wt X M 30 [(0, .ref (G.1 + oNET j0a)), (1, .ref (G.1 + oCHN j1a j1b)), (3, .int y3), (4, .int x7), (5, .int y5), (6, .int y6), (7, .int x8)] [] from hk _ rfl)
set_option maxHeartbeats 4000000 in
set_option maxRecDepth 20000 in
theorem w_nt_timeOfTries_8 {X : Cx Me} {G : Gt} (ok : Ok X b_nt_timeOfTries "RetryChains$Network") (hG : GC X G) (hXR : X.R = rm_nt_timeOfTries) (hXn : X.nL = 8) {M : Me} {j0a : Nat} {j1a : Nat} {j1b : Nat} (hj0a : j0a < 9) (hj1a : j1a < 9) (hj1b : j1b < 6) {t : Int32} (kx : ∀ e : Int32, e = t → Wt X M 79 [(4, .int e)] [])  : ∀ (n : Nat) (x : Int32 × Int32 × Int32), lp n (b_nt_timeOfTries_8 M j0a j1a j1b) x = some t → Wt X M 8 [(0, .ref (G.1 + oNET j0a)), (1, .ref (G.1 + oCHN j1a j1b)), (3, .int x.1), (4, .int x.2.1), (5, .int x.2.2)] [] := by
  intro n x h
  refine lp_W (P := fun x => Wt X M 8 [(0, .ref (G.1 + oNET j0a)), (1, .ref (G.1 + oCHN j1a j1b)), (3, .int x.1), (4, .int x.2.1), (5, .int x.2.2)] []) (Z := fun t' => t' = t) (fun x r h hk hz => ?_) n x t h rfl
  unfold b_nt_timeOfTries_8 at h
  refine r_iload (n := 10) rfl ok d_nt_timeOfTries_8 4 rfl ?_
  refine r_iconst (v := 4) (n := 11) rfl ok d_nt_timeOfTries_10 (by decide) ?_
  refine r_icmp_ge (tgt := 79) (n := 14) rfl ok d_nt_timeOfTries_11 (by decide) (fun c1 => ?_) (fun c1 => ?_)
  · replace h := if_p c1 h
    obtain rfl := Option.some.inj h
    exact r_sub [3] rfl (show Wt X M 79 [(4, .int x.2.1)] [] from kx _ (hz _ rfl))
  · replace h := if_n c1 h
    refine r_iload_n (n := 15) rfl ok d_nt_timeOfTries_14 rfl 2 rfl ?_
    refine r_aload_n (n := 16) rfl ok d_nt_timeOfTries_15 rfl 1 rfl ?_
    refine g_CHN_tries (n := 19) rfl ok hG hj1a hj1b k_222 d_nt_timeOfTries_16 ?_
    refine r_iload (n := 21) rfl ok d_nt_timeOfTries_19 4 rfl ?_
    obtain ⟨g2, h⟩ := gd_ok h
    refine al_CTRIES (n := 22) rfl ok hG hj1a hj1b g2 d_nt_timeOfTries_21 ?_
    refine r_mmin (n := 25) rfl ok hG k_603 k_554 k_12 k_555 (rR hXR ⟨Nat.le_of_ble_eq_true rfl, Nat.le_of_ble_eq_true rfl⟩) d_nt_timeOfTries_22 ?_
    obtain ⟨x3, ex3, h⟩ := bd_ok h
    refine r_ti (Option.some.inj ex3).symm ?_
    refine r_istore (lv' := [(6, .int x3), (0, .ref (G.1 + oNET j0a)), (1, .ref (G.1 + oCHN j1a j1b)), (3, .int x.1), (4, .int x.2.1), (5, .int x.2.2)]) (n := 27) rfl ok d_nt_timeOfTries_25 (lt_n hXn (Nat.le_of_ble_eq_true rfl)) rfl ?_
    refine r_iconst (v := 0) (n := 28) rfl ok d_nt_timeOfTries_27 (by decide) ?_
    refine r_istore (lv' := [(7, .int 0), (6, .int x3), (0, .ref (G.1 + oNET j0a)), (1, .ref (G.1 + oCHN j1a j1b)), (3, .int x.1), (4, .int x.2.1), (5, .int x.2.2)]) (n := 30) rfl ok d_nt_timeOfTries_28 (lt_n hXn (Nat.le_of_ble_eq_true rfl)) rfl ?_
    obtain ⟨t9, ht9, h⟩ := bd_ok h
    refine r_sub [2, 3, 4, 5, 6, 1, 0] rfl (show Wt X M 30 [(0, .ref (G.1 + oNET j0a)), (1, .ref (G.1 + oCHN j1a j1b)), (3, .int x.1), (4, .int x.2.1), (5, .int x.2.2), (6, .int x3), (7, .int 0)] [] from w_nt_timeOfTries_30 ok hG hXR hXn hj0a hj1a hj1b ?_ _ _ ht9)
    · intro e10 he
      subst he
      refine r_iload_n (n := 69) rfl ok d_nt_timeOfTries_68 rfl 2 rfl ?_
      refine r_iload (n := 71) rfl ok d_nt_timeOfTries_69 5 rfl ?_
      refine r_isub (n := 72) rfl ok d_nt_timeOfTries_71 ?_
      obtain ⟨x11, ex11, h⟩ := bd_ok h
      refine r_ti (Option.some.inj ex11).symm ?_
      refine r_istore_n (lv' := [(3, .int x11), (0, .ref (G.1 + oNET j0a)), (1, .ref (G.1 + oCHN j1a j1b)), (4, .int e10), (5, .int x.2.2), (6, .int x3)]) (n := 73) rfl ok d_nt_timeOfTries_72 rfl (lt_n hXn (Nat.le_of_ble_eq_true rfl)) rfl ?_
      obtain ⟨x12, ex12, h⟩ := bd_ok h
      refine r_iinc (lv' := [(5, .int x12), (3, .int x11), (0, .ref (G.1 + oNET j0a)), (1, .ref (G.1 + oCHN j1a j1b)), (4, .int e10), (6, .int x3)]) (n := 76) rfl ok d_nt_timeOfTries_73 4 rfl (Option.some.inj ex12) (lt_n hXn (Nat.le_of_ble_eq_true rfl)) rfl ?_
      refine r_goto (tgt := 8) ok d_nt_timeOfTries_76 (by decide) ?_
      obtain rfl := Option.some.inj h
      exact r_sub [2, 3, 1, 4, 0] rfl (show Wt X M 8 [(0, .ref (G.1 + oNET j0a)), (1, .ref (G.1 + oCHN j1a j1b)), (3, .int x11), (4, .int e10), (5, .int x12)] [] from hk _ rfl)
set_option maxHeartbeats 4000000 in
set_option maxRecDepth 20000 in
theorem C_nt_timeOfTries {l : Launch} {G : Gt} {M : Me} {i0 : Nat} {i1 : Nat} {s1 : Nat} {a2 : Int32} (hi0 : i0 < 9) (hi1 : i1 < 9) (hs1 : s1 < 6) {o : Int32} (h : f_nt_timeOfTries M i0 i1 s1 a2 = some o) : Ct l G (WC G) (rC G) y_nt_timeOfTries b_nt_timeOfTries 8 (some .int) rm_nt_timeOfTries [.ref (G.1 + oNET i0), .ref (G.1 + oCHN i1 s1), .int a2] M (some (.int o)) M := by
  refine Ct.mk (own := "RetryChains$Network") rfl (by decide) (Nat.le_of_ble_eq_true rfl) ⟨_, rfl⟩ (fun X hXl hXR hXn ok hG fin => ?_)
  subst hXl
  unfold f_nt_timeOfTries at h
  show Wt X M 0 [(0, .ref (G.1 + oNET i0)), (1, .ref (G.1 + oCHN i1 s1)), (2, .int a2)] []
  refine r_iload_n (n := 1) rfl ok d_nt_timeOfTries_0 rfl 2 rfl ?_
  refine r_istore_n (lv' := [(3, .int a2), (0, .ref (G.1 + oNET i0)), (1, .ref (G.1 + oCHN i1 s1)), (2, .int a2)]) (n := 2) rfl ok d_nt_timeOfTries_1 rfl (lt_n hXn (Nat.le_of_ble_eq_true rfl)) rfl ?_
  refine r_iconst (v := 0) (n := 3) rfl ok d_nt_timeOfTries_2 (by decide) ?_
  refine r_istore (lv' := [(4, .int 0), (3, .int a2), (0, .ref (G.1 + oNET i0)), (1, .ref (G.1 + oCHN i1 s1)), (2, .int a2)]) (n := 5) rfl ok d_nt_timeOfTries_3 (lt_n hXn (Nat.le_of_ble_eq_true rfl)) rfl ?_
  refine r_iconst (v := 0) (n := 6) rfl ok d_nt_timeOfTries_5 (by decide) ?_
  refine r_istore (lv' := [(5, .int 0), (4, .int 0), (3, .int a2), (0, .ref (G.1 + oNET i0)), (1, .ref (G.1 + oCHN i1 s1)), (2, .int a2)]) (n := 8) rfl ok d_nt_timeOfTries_6 (lt_n hXn (Nat.le_of_ble_eq_true rfl)) rfl ?_
  obtain ⟨t13, ht13, h⟩ := bd_ok h
  refine r_sub [3, 4, 2, 1, 0] rfl (show Wt X M 8 [(0, .ref (G.1 + oNET i0)), (1, .ref (G.1 + oCHN i1 s1)), (3, .int a2), (4, .int 0), (5, .int 0)] [] from w_nt_timeOfTries_8 ok hG hXR hXn hi0 hi1 hs1 ?_ _ _ ht13)
  · intro e14 he
    subst he
    refine r_iload (n := 81) rfl ok d_nt_timeOfTries_79 0 rfl ?_
    obtain rfl := Option.some.inj h
    exact fin _ _ ⟨.int, rfl, rfl⟩ d_nt_timeOfTries_81
set_option maxHeartbeats 4000000 in
set_option maxRecDepth 20000 in
theorem C_nt_beginFallback {l : Launch} {G : Gt} {M : Me} {i0 : Nat} {i1 : Nat} {s1 : Nat} (hi0 : i0 < 9) (hi1 : i1 < 9) (hs1 : s1 < 4) {o : Me} (h : f_nt_beginFallback M i0 i1 s1 = some o) : Ct l G (WC G) (rC G) y_nt_beginFallback b_nt_beginFallback 2 none rm_nt_beginFallback [.ref (G.1 + oNET i0), .ref (G.1 + oSTA i1 s1)] M (none) o := by
  refine Ct.mk (own := "RetryChains$Network") rfl (by decide) (Nat.le_of_ble_eq_true rfl) rfl (fun X hXl hXR hXn ok hG fin => ?_)
  subst hXl
  unfold f_nt_beginFallback at h
  show Wt X M 0 [(0, .ref (G.1 + oNET i0)), (1, .ref (G.1 + oSTA i1 s1))] []
  refine r_aload_n (n := 1) rfl ok d_nt_beginFallback_0 rfl 1 rfl ?_
  refine g_STA_inFallback (n := 4) rfl ok hG hi1 hs1 k_158 d_nt_beginFallback_1 ?_
  refine r_if_ne (tgt := 30) (n := 7) rfl ok d_nt_beginFallback_4 (by decide) (fun c1 => ?_) (fun c1 => ?_)
  · replace h := if_n c1 h
    obtain rfl := Option.some.inj h
    exact fin _ _ d_nt_beginFallback_30
  · replace h := if_p c1 h
    refine r_aload_n (n := 8) rfl ok d_nt_beginFallback_7 rfl 1 rfl ?_
    refine r_iconst (v := 1) (n := 9) rfl ok d_nt_beginFallback_8 (by decide) ?_
    obtain ⟨M2, eM2, h⟩ := bd_ok h
    refine p_STA_inFallback (n := 12) rfl ok hG hi1 hs1 (by decide) k_158 d_nt_beginFallback_9 ?_
    refine r_mem (Option.some.inj eM2) ?_
    refine r_aload_n (n := 13) rfl ok d_nt_beginFallback_12 rfl 0 rfl ?_
    refine g_NET_log (n := 16) rfl ok hG hi0 k_245 d_nt_beginFallback_13 ?_
    refine r_iconst (v := 3) (n := 17) rfl ok d_nt_beginFallback_16 (by decide) ?_
    refine r_aload_n (n := 18) rfl ok d_nt_beginFallback_17 rfl 1 rfl ?_
    refine g_STA_number (n := 21) rfl ok hG hi1 hs1 k_131 d_nt_beginFallback_18 ?_
    refine r_bipush (v := (-9)) (n := 23) rfl ok d_nt_beginFallback_21 (by decide) ?_
    refine r_aload_n (n := 24) rfl ok d_nt_beginFallback_23 rfl 0 rfl ?_
    refine g_NET_time (n := 27) rfl ok hG hi0 k_249 d_nt_beginFallback_24 ?_
    obtain ⟨r3, hr3, h⟩ := bd_ok h
    refine r_callV (n := 30) rfl ok hG mf_lo_note k_625 k_626 k_624 (C_lo_note hi0 hr3) ⟨rfl, rfl⟩ (rR hXR ⟨Nat.le_of_ble_eq_true rfl, Nat.le_of_ble_eq_true rfl⟩) rfl rfl (rv_LOG hi0) rfl (Nat.le_of_ble_eq_true rfl) d_nt_beginFallback_27 ?_
    obtain rfl := Option.some.inj h
    exact fin _ _ d_nt_beginFallback_30
set_option maxHeartbeats 4000000 in
set_option maxRecDepth 20000 in
theorem w_nt_countTries_6 {X : Cx Me} {G : Gt} (ok : Ok X b_nt_countTries "RetryChains$Network") (hG : GC X G) (hXR : X.R = rm_nt_countTries) (hXn : X.nL = 9) {j0a : Nat} {j1a : Nat} {j1b : Nat} {j2a : Nat} {j2b : Nat} {y4 : Int32} (hj0a : j0a < 9) (hj1a : j1a < 9) (hj1b : j1b < 4) (hj2a : j2a < 9) (hj2b : j2b < 6) {t : Me} (kx : ∀ e : Me, e = t → Wt X e 92 [] [])  : ∀ (n : Nat) (x : Int32 × Int32 × Me), lp n (b_nt_countTries_6 j0a j1a j1b j2a j2b y4) x = some t → Wt X x.2.2 6 [(0, .ref (G.1 + oNET j0a)), (1, .ref (G.1 + oSTA j1a j1b)), (2, .ref (G.1 + oCHN j2a j2b)), (4, .int y4), (5, .int x.1), (6, .int x.2.1)] [] := by
  intro n x h
  refine lp_W (P := fun x => Wt X x.2.2 6 [(0, .ref (G.1 + oNET j0a)), (1, .ref (G.1 + oSTA j1a j1b)), (2, .ref (G.1 + oCHN j2a j2b)), (4, .int y4), (5, .int x.1), (6, .int x.2.1)] []) (Z := fun t' => t' = t) (fun x r h hk hz => ?_) n x t h rfl
  unfold b_nt_countTries_6 at h
  refine r_iload (n := 8) rfl ok d_nt_countTries_6 5 rfl ?_
  refine r_iconst (v := 4) (n := 9) rfl ok d_nt_countTries_8 (by decide) ?_
  refine r_icmp_ge (tgt := 92) (n := 12) rfl ok d_nt_countTries_9 (by decide) (fun c1 => ?_) (fun c1 => ?_)
  · replace h := if_p c1 h
    obtain rfl := Option.some.inj h
    exact r_sub [] rfl (show Wt X x.2.2 92 [] [] from kx _ (hz _ rfl))
  · replace h := if_n c1 h
    refine r_iload (n := 14) rfl ok d_nt_countTries_12 4 rfl ?_
    refine r_aload_n (n := 15) rfl ok d_nt_countTries_14 rfl 2 rfl ?_
    refine g_CHN_tries (n := 18) rfl ok hG hj2a hj2b k_222 d_nt_countTries_15 ?_
    refine r_iload (n := 20) rfl ok d_nt_countTries_18 5 rfl ?_
    obtain ⟨g2, h⟩ := gd_ok h
    refine al_CTRIES (n := 21) rfl ok hG hj2a hj2b g2 d_nt_countTries_20 ?_
    refine r_mmin (n := 24) rfl ok hG k_603 k_554 k_12 k_555 (rR hXR ⟨Nat.le_of_ble_eq_true rfl, Nat.le_of_ble_eq_true rfl⟩) d_nt_countTries_21 ?_
    obtain ⟨x3, ex3, h⟩ := bd_ok h
    refine r_ti (Option.some.inj ex3).symm ?_
    refine r_istore (lv' := [(7, .int x3), (0, .ref (G.1 + oNET j0a)), (1, .ref (G.1 + oSTA j1a j1b)), (2, .ref (G.1 + oCHN j2a j2b)), (4, .int y4), (5, .int x.1), (6, .int x.2.1)]) (n := 26) rfl ok d_nt_countTries_24 (lt_n hXn (Nat.le_of_ble_eq_true rfl)) rfl ?_
    refine r_aload_n (n := 27) rfl ok d_nt_countTries_26 rfl 3 rfl ?_
    refine g_CHN_rates (n := 30) rfl ok hG hj2a hj2b k_219 d_nt_countTries_27 ?_
    refine r_iload (n := 32) rfl ok d_nt_countTries_30 6 rfl ?_
    obtain ⟨g4, h⟩ := gd_ok h
    refine al_CRATES (n := 33) rfl ok hG hj2a hj2b g4 d_nt_countTries_32 ?_
    refine r_istore (lv' := [(8, .int (x.2.2.1 55 j2a j2b (tN x.2.1))), (7, .int x3), (0, .ref (G.1 + oNET j0a)), (1, .ref (G.1 + oSTA j1a j1b)), (2, .ref (G.1 + oCHN j2a j2b)), (4, .int y4), (5, .int x.1), (6, .int x.2.1)]) (n := 35) rfl ok d_nt_countTries_33 (lt_n hXn (Nat.le_of_ble_eq_true rfl)) rfl ?_
    refine r_iload (n := 37) rfl ok d_nt_countTries_35 6 rfl ?_
    refine r_iload (n := 39) rfl ok d_nt_countTries_37 1 rfl ?_
    refine r_isub (n := 40) rfl ok d_nt_countTries_39 ?_
    obtain ⟨x5, ex5, h⟩ := bd_ok h
    refine r_ti (Option.some.inj ex5).symm ?_
    refine r_istore (lv' := [(5, .int x5), (8, .int (x.2.2.1 55 j2a j2b (tN x.2.1))), (7, .int x3), (0, .ref (G.1 + oNET j0a)), (1, .ref (G.1 + oSTA j1a j1b)), (2, .ref (G.1 + oCHN j2a j2b)), (4, .int y4), (6, .int x.2.1)]) (n := 42) rfl ok d_nt_countTries_40 (lt_n hXn (Nat.le_of_ble_eq_true rfl)) rfl ?_
    refine r_iload (n := 44) rfl ok d_nt_countTries_42 2 rfl ?_
    refine r_if_le (tgt := 86) (n := 47) rfl ok d_nt_countTries_44 (by decide) (fun c6 => ?_) (fun c6 => ?_)
    · replace h := if_p c6 h
      obtain ⟨x7, ex7, h⟩ := bd_ok h
      refine r_iinc (lv' := [(6, .int x7), (5, .int x5), (8, .int (x.2.2.1 55 j2a j2b (tN x.2.1))), (7, .int x3), (0, .ref (G.1 + oNET j0a)), (1, .ref (G.1 + oSTA j1a j1b)), (2, .ref (G.1 + oCHN j2a j2b)), (4, .int y4)]) (n := 89) rfl ok d_nt_countTries_86 7 rfl (Option.some.inj ex7) (lt_n hXn (Nat.le_of_ble_eq_true rfl)) rfl ?_
      refine r_goto (tgt := 6) ok d_nt_countTries_89 (by decide) ?_
      obtain rfl := Option.some.inj h
      exact r_sub [4, 5, 6, 7, 1, 0] rfl (show Wt X x.2.2 6 [(0, .ref (G.1 + oNET j0a)), (1, .ref (G.1 + oSTA j1a j1b)), (2, .ref (G.1 + oCHN j2a j2b)), (4, .int y4), (5, .int x5), (6, .int x7)] [] from hk _ rfl)
    · replace h := if_n c6 h
      refine r_aload_n (n := 48) rfl ok d_nt_countTries_47 rfl 3 rfl ?_
      refine g_NET_rates (n := 51) rfl ok hG hj0a k_239 d_nt_countTries_48 ?_
      refine r_iload (n := 53) rfl ok d_nt_countTries_51 1 rfl ?_
      obtain ⟨r8, hr8, h⟩ := bd_ok h
      refine r_callV (n := 56) rfl ok hG mf_tb_has k_421 k_422 k_473 (C_tb_has hj0a hr8) ⟨rfl, rfl⟩ (rR hXR ⟨Nat.le_of_ble_eq_true rfl, Nat.le_of_ble_eq_true rfl⟩) rfl rfl (rv_TAB hj0a) rfl (Nat.le_of_ble_eq_true rfl) d_nt_countTries_53 ?_
      refine r_if_eq (tgt := 86) (n := 59) rfl ok d_nt_countTries_56 (by decide) (fun c9 => ?_) (fun c9 => ?_)
      · replace h := if_p c9 h
        obtain ⟨x10, ex10, h⟩ := bd_ok h
        refine r_iinc (lv' := [(6, .int x10), (5, .int x5), (8, .int (x.2.2.1 55 j2a j2b (tN x.2.1))), (7, .int x3), (0, .ref (G.1 + oNET j0a)), (1, .ref (G.1 + oSTA j1a j1b)), (2, .ref (G.1 + oCHN j2a j2b)), (4, .int y4)]) (n := 89) rfl ok d_nt_countTries_86 7 rfl (Option.some.inj ex10) (lt_n hXn (Nat.le_of_ble_eq_true rfl)) rfl ?_
        refine r_goto (tgt := 6) ok d_nt_countTries_89 (by decide) ?_
        obtain rfl := Option.some.inj h
        exact r_sub [4, 5, 6, 7, 1, 0] rfl (show Wt X x.2.2 6 [(0, .ref (G.1 + oNET j0a)), (1, .ref (G.1 + oSTA j1a j1b)), (2, .ref (G.1 + oCHN j2a j2b)), (4, .int y4), (5, .int x5), (6, .int x10)] [] from hk _ rfl)
      · replace h := if_n c9 h
        refine r_aload_n (n := 60) rfl ok d_nt_countTries_59 rfl 4 rfl ?_
        refine g_STA_links (n := 63) rfl ok hG hj1a hj1b k_134 d_nt_countTries_60 ?_
        refine r_iload (n := 65) rfl ok d_nt_countTries_63 1 rfl ?_
        obtain ⟨g11, h⟩ := gd_ok h
        refine al_LINKS (n := 66) rfl ok hG hj1a hj1b g11 d_nt_countTries_65 ?_
        refine r_iload (n := 68) rfl ok d_nt_countTries_66 2 rfl ?_
        refine r_iload (n := 70) rfl ok d_nt_countTries_68 6 rfl ?_
        refine r_if_eq (tgt := 82) (n := 73) rfl ok d_nt_countTries_70 (by decide) (fun c12 => ?_) (fun c12 => ?_)
        · replace h := if_p c12 h
          refine r_iconst (v := 0) (n := 83) rfl ok d_nt_countTries_82 (by decide) ?_
          obtain ⟨r13, hr13, h⟩ := bd_ok h
          refine r_callV (n := 86) rfl ok hG mf_lk_count k_615 k_616 k_614 (C_lk_count hj1a hj1b (gin_lt g11) hr13) ⟨rfl, rfl⟩ (rR hXR ⟨Nat.le_of_ble_eq_true rfl, Nat.le_of_ble_eq_true rfl⟩) rfl rfl (rv_LNK hj1a hj1b (gin_lt g11)) rfl (Nat.le_of_ble_eq_true rfl) d_nt_countTries_83 ?_
          obtain ⟨x14, ex14, h⟩ := bd_ok h
          refine r_iinc (lv' := [(6, .int x14), (5, .int x5), (8, .int (x.2.2.1 55 j2a j2b (tN x.2.1))), (7, .int x3), (0, .ref (G.1 + oNET j0a)), (1, .ref (G.1 + oSTA j1a j1b)), (2, .ref (G.1 + oCHN j2a j2b)), (4, .int y4)]) (n := 89) rfl ok d_nt_countTries_86 7 rfl (Option.some.inj ex14) (lt_n hXn (Nat.le_of_ble_eq_true rfl)) rfl ?_
          refine r_goto (tgt := 6) ok d_nt_countTries_89 (by decide) ?_
          obtain rfl := Option.some.inj h
          exact r_sub [4, 5, 6, 7, 1, 0] rfl (show Wt X r13 6 [(0, .ref (G.1 + oNET j0a)), (1, .ref (G.1 + oSTA j1a j1b)), (2, .ref (G.1 + oCHN j2a j2b)), (4, .int y4), (5, .int x5), (6, .int x14)] [] from hk _ rfl)
        · replace h := if_n c12 h
          refine r_iload (n := 75) rfl ok d_nt_countTries_73 0 rfl ?_
          refine r_if_ne (tgt := 82) (n := 78) rfl ok d_nt_countTries_75 (by decide) (fun c15 => ?_) (fun c15 => ?_)
          · replace h := if_n c15 h
            refine r_iconst (v := 0) (n := 83) rfl ok d_nt_countTries_82 (by decide) ?_
            obtain ⟨r16, hr16, h⟩ := bd_ok h
            refine r_callV (n := 86) rfl ok hG mf_lk_count k_615 k_616 k_614 (C_lk_count hj1a hj1b (gin_lt g11) hr16) ⟨rfl, rfl⟩ (rR hXR ⟨Nat.le_of_ble_eq_true rfl, Nat.le_of_ble_eq_true rfl⟩) rfl rfl (rv_LNK hj1a hj1b (gin_lt g11)) rfl (Nat.le_of_ble_eq_true rfl) d_nt_countTries_83 ?_
            obtain ⟨x17, ex17, h⟩ := bd_ok h
            refine r_iinc (lv' := [(6, .int x17), (5, .int x5), (8, .int (x.2.2.1 55 j2a j2b (tN x.2.1))), (7, .int x3), (0, .ref (G.1 + oNET j0a)), (1, .ref (G.1 + oSTA j1a j1b)), (2, .ref (G.1 + oCHN j2a j2b)), (4, .int y4)]) (n := 89) rfl ok d_nt_countTries_86 7 rfl (Option.some.inj ex17) (lt_n hXn (Nat.le_of_ble_eq_true rfl)) rfl ?_
            refine r_goto (tgt := 6) ok d_nt_countTries_89 (by decide) ?_
            obtain rfl := Option.some.inj h
            exact r_sub [4, 5, 6, 7, 1, 0] rfl (show Wt X r16 6 [(0, .ref (G.1 + oNET j0a)), (1, .ref (G.1 + oSTA j1a j1b)), (2, .ref (G.1 + oCHN j2a j2b)), (4, .int y4), (5, .int x5), (6, .int x17)] [] from hk _ rfl)
          · replace h := if_p c15 h
            refine r_iconst (v := 1) (n := 79) rfl ok d_nt_countTries_78 (by decide) ?_
            refine r_goto (tgt := 83) ok d_nt_countTries_79 (by decide) ?_
            obtain ⟨r18, hr18, h⟩ := bd_ok h
            refine r_callV (n := 86) rfl ok hG mf_lk_count k_615 k_616 k_614 (C_lk_count hj1a hj1b (gin_lt g11) hr18) ⟨rfl, rfl⟩ (rR hXR ⟨Nat.le_of_ble_eq_true rfl, Nat.le_of_ble_eq_true rfl⟩) rfl rfl (rv_LNK hj1a hj1b (gin_lt g11)) rfl (Nat.le_of_ble_eq_true rfl) d_nt_countTries_83 ?_
            obtain ⟨x19, ex19, h⟩ := bd_ok h
            refine r_iinc (lv' := [(6, .int x19), (5, .int x5), (8, .int (x.2.2.1 55 j2a j2b (tN x.2.1))), (7, .int x3), (0, .ref (G.1 + oNET j0a)), (1, .ref (G.1 + oSTA j1a j1b)), (2, .ref (G.1 + oCHN j2a j2b)), (4, .int y4)]) (n := 89) rfl ok d_nt_countTries_86 7 rfl (Option.some.inj ex19) (lt_n hXn (Nat.le_of_ble_eq_true rfl)) rfl ?_
            refine r_goto (tgt := 6) ok d_nt_countTries_89 (by decide) ?_
            obtain rfl := Option.some.inj h
            exact r_sub [4, 5, 6, 7, 1, 0] rfl (show Wt X r18 6 [(0, .ref (G.1 + oNET j0a)), (1, .ref (G.1 + oSTA j1a j1b)), (2, .ref (G.1 + oCHN j2a j2b)), (4, .int y4), (5, .int x5), (6, .int x19)] [] from hk _ rfl)
set_option maxHeartbeats 4000000 in
set_option maxRecDepth 20000 in
theorem C_nt_countTries {l : Launch} {G : Gt} {M : Me} {i0 : Nat} {i1 : Nat} {s1 : Nat} {i2 : Nat} {s2 : Nat} {a3 : Int32} {a4 : Int32} (hi0 : i0 < 9) (hi1 : i1 < 9) (hs1 : s1 < 4) (hi2 : i2 < 9) (hs2 : s2 < 6) {o : Me} (h : f_nt_countTries M i0 i1 s1 i2 s2 a3 a4 = some o) : Ct l G (WC G) (rC G) y_nt_countTries b_nt_countTries 9 none rm_nt_countTries [.ref (G.1 + oNET i0), .ref (G.1 + oSTA i1 s1), .ref (G.1 + oCHN i2 s2), .int a3, .int a4] M (none) o := by
  refine Ct.mk (own := "RetryChains$Network") rfl (by decide) (Nat.le_of_ble_eq_true rfl) rfl (fun X hXl hXR hXn ok hG fin => ?_)
  subst hXl
  unfold f_nt_countTries at h
  show Wt X M 0 [(0, .ref (G.1 + oNET i0)), (1, .ref (G.1 + oSTA i1 s1)), (2, .ref (G.1 + oCHN i2 s2)), (3, .int a3), (4, .int a4)] []
  refine r_iload_n (n := 1) rfl ok d_nt_countTries_0 rfl 3 rfl ?_
  refine r_istore (lv' := [(5, .int a3), (0, .ref (G.1 + oNET i0)), (1, .ref (G.1 + oSTA i1 s1)), (2, .ref (G.1 + oCHN i2 s2)), (3, .int a3), (4, .int a4)]) (n := 3) rfl ok d_nt_countTries_1 (lt_n hXn (Nat.le_of_ble_eq_true rfl)) rfl ?_
  refine r_iconst (v := 0) (n := 4) rfl ok d_nt_countTries_3 (by decide) ?_
  refine r_istore (lv' := [(6, .int 0), (5, .int a3), (0, .ref (G.1 + oNET i0)), (1, .ref (G.1 + oSTA i1 s1)), (2, .ref (G.1 + oCHN i2 s2)), (3, .int a3), (4, .int a4)]) (n := 6) rfl ok d_nt_countTries_4 (lt_n hXn (Nat.le_of_ble_eq_true rfl)) rfl ?_
  obtain ⟨t20, ht20, h⟩ := bd_ok h
  refine r_sub [2, 3, 4, 6, 1, 0] rfl (show Wt X M 6 [(0, .ref (G.1 + oNET i0)), (1, .ref (G.1 + oSTA i1 s1)), (2, .ref (G.1 + oCHN i2 s2)), (4, .int a4), (5, .int a3), (6, .int 0)] [] from w_nt_countTries_6 ok hG hXR hXn hi0 hi1 hs1 hi2 hs2 ?_ _ _ ht20)
  · intro e21 he
    subst he
    obtain rfl := Option.some.inj h
    exact fin _ _ d_nt_countTries_92
