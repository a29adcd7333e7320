set_option maxHeartbeats 4000000 in
set_option maxRecDepth 20000 in
theorem C_rc_isEntry {l : Launch} {G : Gt} {W0 : Me → Heap → Prop} {A : Nat → Prop} {M : Me} {a1 : Int32}  {o : Int32} (h : f_rc_isEntry a1 = some o) : Ct l G W0 A y_rc_isEntry b_rc_isEntry 1 (some .boolean) rm_rc_isEntry [.int a1] M (some (.int o)) M := by
  refine Ct.mk (own := "RetryChains") rfl (by decide) (Nat.le_of_ble_eq_true rfl) ⟨_, rfl⟩ (fun X hXl hXR hXn ok hG fin => ?_)
  subst hXl
  unfold f_rc_isEntry at h
  show Wt X M 0 [(0, .int a1)] []
  refine r_iload_n (n := 1) rfl ok d_rc_isEntry_0 rfl 0 rfl ?_
  refine r_if_lt (tgt := 13) (n := 4) rfl ok d_rc_isEntry_1 (by decide) (fun c1 => ?_) (fun c1 => ?_)
  · replace h := if_p c1 h
    refine r_iconst (v := 0) (n := 14) rfl ok d_rc_isEntry_13 (by decide) ?_
    obtain rfl := Option.some.inj h
    exact fin _ _ ⟨.boolean, rfl, nz0⟩ d_rc_isEntry_14
  · replace h := if_n c1 h
    refine r_iload_n (n := 5) rfl ok d_rc_isEntry_4 rfl 0 rfl ?_
    refine r_iconst (v := 4) (n := 6) rfl ok d_rc_isEntry_5 (by decide) ?_
    refine r_icmp_ge (tgt := 13) (n := 9) rfl ok d_rc_isEntry_6 (by decide) (fun c2 => ?_) (fun c2 => ?_)
    · replace h := if_p c2 h
      refine r_iconst (v := 0) (n := 14) rfl ok d_rc_isEntry_13 (by decide) ?_
      obtain rfl := Option.some.inj h
      exact fin _ _ ⟨.boolean, rfl, nz0⟩ d_rc_isEntry_14
    · replace h := if_n c2 h
      refine r_iconst (v := 1) (n := 10) rfl ok d_rc_isEntry_9 (by decide) ?_
      refine r_goto (tgt := 14) ok d_rc_isEntry_10 (by decide) ?_
      obtain rfl := Option.some.inj h
      exact fin _ _ ⟨.boolean, rfl, nz1⟩ d_rc_isEntry_14
set_option maxHeartbeats 4000000 in
set_option maxRecDepth 20000 in
theorem C_rc_entryRate {l : Launch} {G : Gt} {M : Me} {a1 : Int32} {a2 : Int32}  {o : Int32} (h : f_rc_entryRate M a1 a2 = some o) : Ct l G (WC G) (rC G) y_rc_entryRate b_rc_entryRate 4 (some .int) rm_rc_entryRate [.ref (G.1 + oRC), .int a1, .int a2] M (some (.int o)) M := by
  refine Ct.mk (own := "RetryChains") rfl (by decide) (Nat.le_of_ble_eq_true rfl) ⟨_, rfl⟩ (fun X hXl hXR hXn ok hG fin => ?_)
  subst hXl
  unfold f_rc_entryRate at h
  show Wt X M 0 [(0, .ref (G.1 + oRC)), (1, .int a1), (2, .int a2)] []
  refine r_aload_n (n := 1) rfl ok d_rc_entryRate_0 rfl 0 rfl ?_
  refine g_RC_now (n := 4) rfl ok hG  k_349 d_rc_entryRate_1 ?_
  refine r_iload_n (n := 5) rfl ok d_rc_entryRate_4 rfl 1 rfl ?_
  obtain ⟨r1, hr1, h⟩ := bd_ok h
  refine r_callV (n := 8) rfl ok hG mf_nt_chainAt k_592 k_593 k_591 (C_nt_chainAt (by decide) hr1) ⟨rfl, rfl⟩ (rR hXR ⟨Nat.le_of_ble_eq_true rfl, Nat.le_of_ble_eq_true rfl⟩) rfl rfl (rv_NET (by decide)) rfl (Nat.le_of_ble_eq_true rfl) d_rc_entryRate_5 ?_
  rcases er1 : r1 with _ | p2
  · replace h := el_n er1 h
    try rw [er1]
    refine r_astore_nN (lv' := [(3, .null), (0, .ref (G.1 + oRC)), (1, .int a1), (2, .int a2)]) (n := 9) rfl ok d_rc_entryRate_8 rfl (lt_n hXn (Nat.le_of_ble_eq_true rfl)) rfl ?_
    refine r_aload_nN (n := 10) rfl ok d_rc_entryRate_9 rfl 0 rfl ?_
    refine r_ifnullN (tgt := 20) ok d_rc_entryRate_10 (by decide) ?_
    refine r_iconst (v := (-1)) (n := 21) rfl ok d_rc_entryRate_20 (by decide) ?_
    refine r_goto (tgt := 30) ok d_rc_entryRate_21 (by decide) ?_
    obtain rfl := Option.some.inj h
    exact fin _ _ ⟨.int, rfl, rfl⟩ d_rc_entryRate_30
  · replace h := el_s er1 h
    try rw [er1]
    have vp2 := v_nt_chainAt (by decide) (hr1.trans (congrArg some er1))
    refine r_astore_n (lv' := [(3, .ref (G.1 + oCHN p2.1 p2.2)), (0, .ref (G.1 + oRC)), (1, .int a1), (2, .int a2)]) (n := 9) rfl ok d_rc_entryRate_8 rfl (lt_n hXn (Nat.le_of_ble_eq_true rfl)) rfl ?_
    refine r_aload_n (n := 10) rfl ok d_rc_entryRate_9 rfl 0 rfl ?_
    refine r_ifnull (n := 13) rfl ok d_rc_entryRate_10 ?_
    refine r_iload_n (n := 14) rfl ok d_rc_entryRate_13 rfl 3 rfl ?_
    obtain ⟨r3, hr3, h⟩ := bd_ok h
    refine r_callS (n := 17) rfl ok hG mf_rc_isEntry k_710 k_709 (C_rc_isEntry  hr3) ⟨rfl, rfl⟩ (rR hXR ⟨Nat.le_of_ble_eq_true rfl, Nat.le_of_ble_eq_true rfl⟩) rfl rfl (Nat.le_of_ble_eq_true rfl) d_rc_entryRate_14 ?_
    refine r_if_ne (tgt := 24) (n := 20) rfl ok d_rc_entryRate_17 (by decide) (fun c4 => ?_) (fun c4 => ?_)
    · replace h := if_n c4 h
      refine r_aload_n (n := 25) rfl ok d_rc_entryRate_24 rfl 0 rfl ?_
      refine g_CHN_rates (n := 28) rfl ok hG vp2.1 vp2.2 k_220 d_rc_entryRate_25 ?_
      refine r_iload_n (n := 29) rfl ok d_rc_entryRate_28 rfl 3 rfl ?_
      obtain ⟨g5, h⟩ := gd_ok h
      refine al_CRATES (n := 30) rfl ok hG vp2.1 vp2.2 g5 d_rc_entryRate_29 ?_
      obtain rfl := Option.some.inj h
      exact fin _ _ ⟨.int, rfl, rfl⟩ d_rc_entryRate_30
    · replace h := if_p c4 h
      refine r_iconst (v := (-1)) (n := 21) rfl ok d_rc_entryRate_20 (by decide) ?_
      refine r_goto (tgt := 30) ok d_rc_entryRate_21 (by decide) ?_
      obtain rfl := Option.some.inj h
      exact fin _ _ ⟨.int, rfl, rfl⟩ d_rc_entryRate_30
set_option maxHeartbeats 4000000 in
set_option maxRecDepth 20000 in
theorem C_rc_entryTries {l : Launch} {G : Gt} {M : Me} {a1 : Int32} {a2 : Int32}  {o : Int32} (h : f_rc_entryTries M a1 a2 = some o) : Ct l G (WC G) (rC G) y_rc_entryTries b_rc_entryTries 4 (some .int) rm_rc_entryTries [.ref (G.1 + oRC), .int a1, .int a2] M (some (.int o)) M := by
  refine Ct.mk (own := "RetryChains") rfl (by decide) (Nat.le_of_ble_eq_true rfl) ⟨_, rfl⟩ (fun X hXl hXR hXn ok hG fin => ?_)
  subst hXl
  unfold f_rc_entryTries at h
  show Wt X M 0 [(0, .ref (G.1 + oRC)), (1, .int a1), (2, .int a2)] []
  refine r_aload_n (n := 1) rfl ok d_rc_entryTries_0 rfl 0 rfl ?_
  refine g_RC_now (n := 4) rfl ok hG  k_349 d_rc_entryTries_1 ?_
  refine r_iload_n (n := 5) rfl ok d_rc_entryTries_4 rfl 1 rfl ?_
  obtain ⟨r1, hr1, h⟩ := bd_ok h
  refine r_callV (n := 8) rfl ok hG mf_nt_chainAt k_592 k_593 k_591 (C_nt_chainAt (by decide) hr1) ⟨rfl, rfl⟩ (rR hXR ⟨Nat.le_of_ble_eq_true rfl, Nat.le_of_ble_eq_true rfl⟩) rfl rfl (rv_NET (by decide)) rfl (Nat.le_of_ble_eq_true rfl) d_rc_entryTries_5 ?_
  rcases er1 : r1 with _ | p2
  · replace h := el_n er1 h
    try rw [er1]
    refine r_astore_nN (lv' := [(3, .null), (0, .ref (G.1 + oRC)), (1, .int a1), (2, .int a2)]) (n := 9) rfl ok d_rc_entryTries_8 rfl (lt_n hXn (Nat.le_of_ble_eq_true rfl)) rfl ?_
    refine r_aload_nN (n := 10) rfl ok d_rc_entryTries_9 rfl 0 rfl ?_
    refine r_ifnullN (tgt := 20) ok d_rc_entryTries_10 (by decide) ?_
    refine r_iconst (v := (-1)) (n := 21) rfl ok d_rc_entryTries_20 (by decide) ?_
    refine r_goto (tgt := 30) ok d_rc_entryTries_21 (by decide) ?_
    obtain rfl := Option.some.inj h
    exact fin _ _ ⟨.int, rfl, rfl⟩ d_rc_entryTries_30
  · replace h := el_s er1 h
    try rw [er1]
    have vp2 := v_nt_chainAt (by decide) (hr1.trans (congrArg some er1))
    refine r_astore_n (lv' := [(3, .ref (G.1 + oCHN p2.1 p2.2)), (0, .ref (G.1 + oRC)), (1, .int a1), (2, .int a2)]) (n := 9) rfl ok d_rc_entryTries_8 rfl (lt_n hXn (Nat.le_of_ble_eq_true rfl)) rfl ?_
    refine r_aload_n (n := 10) rfl ok d_rc_entryTries_9 rfl 0 rfl ?_
    refine r_ifnull (n := 13) rfl ok d_rc_entryTries_10 ?_
    refine r_iload_n (n := 14) rfl ok d_rc_entryTries_13 rfl 3 rfl ?_
    obtain ⟨r3, hr3, h⟩ := bd_ok h
    refine r_callS (n := 17) rfl ok hG mf_rc_isEntry k_710 k_709 (C_rc_isEntry  hr3) ⟨rfl, rfl⟩ (rR hXR ⟨Nat.le_of_ble_eq_true rfl, Nat.le_of_ble_eq_true rfl⟩) rfl rfl (Nat.le_of_ble_eq_true rfl) d_rc_entryTries_14 ?_
    refine r_if_ne (tgt := 24) (n := 20) rfl ok d_rc_entryTries_17 (by decide) (fun c4 => ?_) (fun c4 => ?_)
    · replace h := if_n c4 h
      refine r_aload_n (n := 25) rfl ok d_rc_entryTries_24 rfl 0 rfl ?_
      refine g_CHN_tries (n := 28) rfl ok hG vp2.1 vp2.2 k_223 d_rc_entryTries_25 ?_
      refine r_iload_n (n := 29) rfl ok d_rc_entryTries_28 rfl 3 rfl ?_
      obtain ⟨g5, h⟩ := gd_ok h
      refine al_CTRIES (n := 30) rfl ok hG vp2.1 vp2.2 g5 d_rc_entryTries_29 ?_
      obtain rfl := Option.some.inj h
      exact fin _ _ ⟨.int, rfl, rfl⟩ d_rc_entryTries_30
    · replace h := if_p c4 h
      refine r_iconst (v := (-1)) (n := 21) rfl ok d_rc_entryTries_20 (by decide) ?_
      refine r_goto (tgt := 30) ok d_rc_entryTries_21 (by decide) ?_
      obtain rfl := Option.some.inj h
      exact fin _ _ ⟨.int, rfl, rfl⟩ d_rc_entryTries_30
set_option maxHeartbeats 4000000 in
set_option maxRecDepth 20000 in
theorem C_rc_tag {l : Launch} {G : Gt} {M : Me} {a1 : Int32}  {o : Int32} (h : f_rc_tag M a1 = some o) : Ct l G (WC G) (rC G) y_rc_tag b_rc_tag 4 (some .int) rm_rc_tag [.ref (G.1 + oRC), .int a1] M (some (.int o)) M := by
  refine Ct.mk (own := "RetryChains") rfl (by decide) (Nat.le_of_ble_eq_true rfl) ⟨_, rfl⟩ (fun X hXl hXR hXn ok hG fin => ?_)
  subst hXl
  unfold f_rc_tag at h
  show Wt X M 0 [(0, .ref (G.1 + oRC)), (1, .int a1)] []
  refine r_aload_n (n := 1) rfl ok d_rc_tag_0 rfl 0 rfl ?_
  refine g_RC_now (n := 4) rfl ok hG  k_349 d_rc_tag_1 ?_
  refine r_iload_n (n := 5) rfl ok d_rc_tag_4 rfl 1 rfl ?_
  obtain ⟨r1, hr1, h⟩ := bd_ok h
  refine r_callV (n := 8) rfl ok hG mf_nt_chainAt k_592 k_593 k_591 (C_nt_chainAt (by decide) hr1) ⟨rfl, rfl⟩ (rR hXR ⟨Nat.le_of_ble_eq_true rfl, Nat.le_of_ble_eq_true rfl⟩) rfl rfl (rv_NET (by decide)) rfl (Nat.le_of_ble_eq_true rfl) d_rc_tag_5 ?_
  rcases er1 : r1 with _ | p2
  · replace h := el_n er1 h
    try rw [er1]
    refine r_astore_nN (lv' := [(2, .null), (0, .ref (G.1 + oRC)), (1, .int a1)]) (n := 9) rfl ok d_rc_tag_8 rfl (lt_n hXn (Nat.le_of_ble_eq_true rfl)) rfl ?_
    refine r_aload_nN (n := 10) rfl ok d_rc_tag_9 rfl 0 rfl ?_
    refine r_ifnonnullN (n := 13) rfl ok d_rc_tag_10 ?_
    refine r_iconst (v := (-1)) (n := 14) rfl ok d_rc_tag_13 (by decide) ?_
    obtain rfl := Option.some.inj h
    exact fin _ _ ⟨.int, rfl, rfl⟩ d_rc_tag_14
  · replace h := el_s er1 h
    try rw [er1]
    have vp2 := v_nt_chainAt (by decide) (hr1.trans (congrArg some er1))
    refine r_astore_n (lv' := [(2, .ref (G.1 + oCHN p2.1 p2.2)), (0, .ref (G.1 + oRC)), (1, .int a1)]) (n := 9) rfl ok d_rc_tag_8 rfl (lt_n hXn (Nat.le_of_ble_eq_true rfl)) rfl ?_
    refine r_aload_n (n := 10) rfl ok d_rc_tag_9 rfl 0 rfl ?_
    refine r_ifnonnull (tgt := 15) ok d_rc_tag_10 (by decide) ?_
    refine r_iconst (v := 4) (n := 16) rfl ok d_rc_tag_15 (by decide) ?_
    refine r_aload_n (n := 17) rfl ok d_rc_tag_16 rfl 0 rfl ?_
    refine g_CHN_size (n := 20) rfl ok hG vp2.1 vp2.2 k_211 d_rc_tag_17 ?_
    refine r_imul (n := 21) rfl ok d_rc_tag_20 ?_
    refine r_aload_n (n := 22) rfl ok d_rc_tag_21 rfl 0 rfl ?_
    refine g_CHN_station (n := 25) rfl ok hG vp2.1 vp2.2 k_208 d_rc_tag_22 ?_
    refine r_iadd (n := 26) rfl ok d_rc_tag_25 ?_
    obtain ⟨x3, ex3, h⟩ := bd_ok h
    refine r_ti (Option.some.inj ex3).symm ?_
    refine r_istore_n (lv' := [(3, .int x3), (2, .ref (G.1 + oCHN p2.1 p2.2)), (0, .ref (G.1 + oRC)), (1, .int a1)]) (n := 27) rfl ok d_rc_tag_26 rfl (lt_n hXn (Nat.le_of_ble_eq_true rfl)) rfl ?_
    refine r_aload_n (n := 28) rfl ok d_rc_tag_27 rfl 1 rfl ?_
    refine g_CHN_kind (n := 31) rfl ok hG vp2.1 vp2.2 k_214 d_rc_tag_28 ?_
    refine r_iconst (v := 1) (n := 32) rfl ok d_rc_tag_31 (by decide) ?_
    refine r_icmp_ne (tgt := 59) (n := 35) rfl ok d_rc_tag_32 (by decide) (fun c4 => ?_) (fun c4 => ?_)
    · replace h := if_n c4 h
      refine r_aload_n (n := 60) rfl ok d_rc_tag_59 rfl 1 rfl ?_
      refine g_CHN_kind (n := 63) rfl ok hG vp2.1 vp2.2 k_214 d_rc_tag_60 ?_
      refine r_iconst (v := 2) (n := 64) rfl ok d_rc_tag_63 (by decide) ?_
      refine r_icmp_ne (tgt := 74) (n := 67) rfl ok d_rc_tag_64 (by decide) (fun c5 => ?_) (fun c5 => ?_)
      · replace h := if_n c5 h
        refine r_iload_n (n := 75) rfl ok d_rc_tag_74 rfl 0 rfl ?_
        obtain rfl := Option.some.inj h
        exact fin _ _ ⟨.int, rfl, rfl⟩ d_rc_tag_75
      · replace h := if_p c5 h
        refine r_iload_n (n := 68) rfl ok d_rc_tag_67 rfl 0 rfl ?_
        refine r_ldc (n := 70) rfl ok d_rc_tag_68 k_491 ?_
        refine r_iadd (n := 71) rfl ok d_rc_tag_70 ?_
        refine r_goto (tgt := 75) ok d_rc_tag_71 (by decide) ?_
        obtain rfl := Option.some.inj h
        exact fin _ _ ⟨.int, rfl, rfl⟩ d_rc_tag_75
    · replace h := if_p c4 h
      refine r_aload_n (n := 36) rfl ok d_rc_tag_35 rfl 1 rfl ?_
      refine g_CHN_sampleEntry (n := 39) rfl ok hG vp2.1 vp2.2 k_217 d_rc_tag_36 ?_
      obtain ⟨r6, hr6, h⟩ := bd_ok h
      refine r_callS (n := 42) rfl ok hG mf_rc_isEntry k_710 k_709 (C_rc_isEntry  hr6) ⟨rfl, rfl⟩ (rR hXR ⟨Nat.le_of_ble_eq_true rfl, Nat.le_of_ble_eq_true rfl⟩) rfl rfl (Nat.le_of_ble_eq_true rfl) d_rc_tag_39 ?_
      refine r_if_eq (tgt := 59) (n := 45) rfl ok d_rc_tag_42 (by decide) (fun c7 => ?_) (fun c7 => ?_)
      · replace h := if_p c7 h
        refine r_aload_n (n := 60) rfl ok d_rc_tag_59 rfl 1 rfl ?_
        refine g_CHN_kind (n := 63) rfl ok hG vp2.1 vp2.2 k_214 d_rc_tag_60 ?_
        refine r_iconst (v := 2) (n := 64) rfl ok d_rc_tag_63 (by decide) ?_
        refine r_icmp_ne (tgt := 74) (n := 67) rfl ok d_rc_tag_64 (by decide) (fun c8 => ?_) (fun c8 => ?_)
        · replace h := if_n c8 h
          refine r_iload_n (n := 75) rfl ok d_rc_tag_74 rfl 0 rfl ?_
          obtain rfl := Option.some.inj h
          exact fin _ _ ⟨.int, rfl, rfl⟩ d_rc_tag_75
        · replace h := if_p c8 h
          refine r_iload_n (n := 68) rfl ok d_rc_tag_67 rfl 0 rfl ?_
          refine r_ldc (n := 70) rfl ok d_rc_tag_68 k_491 ?_
          refine r_iadd (n := 71) rfl ok d_rc_tag_70 ?_
          refine r_goto (tgt := 75) ok d_rc_tag_71 (by decide) ?_
          obtain rfl := Option.some.inj h
          exact fin _ _ ⟨.int, rfl, rfl⟩ d_rc_tag_75
      · replace h := if_n c7 h
        refine r_iconst (v := 3) (n := 46) rfl ok d_rc_tag_45 (by decide) ?_
        refine r_iload_n (n := 47) rfl ok d_rc_tag_46 rfl 0 rfl ?_
        refine r_imul (n := 48) rfl ok d_rc_tag_47 ?_
        refine r_aload_n (n := 49) rfl ok d_rc_tag_48 rfl 1 rfl ?_
        refine g_CHN_rates (n := 52) rfl ok hG vp2.1 vp2.2 k_220 d_rc_tag_49 ?_
        refine r_aload_n (n := 53) rfl ok d_rc_tag_52 rfl 1 rfl ?_
        refine g_CHN_sampleEntry (n := 56) rfl ok hG vp2.1 vp2.2 k_217 d_rc_tag_53 ?_
        obtain ⟨g9, h⟩ := gd_ok h
        refine al_CRATES (n := 57) rfl ok hG vp2.1 vp2.2 g9 d_rc_tag_56 ?_
        refine r_iadd (n := 58) rfl ok d_rc_tag_57 ?_
        obtain rfl := Option.some.inj h
        exact fin _ _ ⟨.int, rfl, rfl⟩ d_rc_tag_58
set_option maxHeartbeats 4000000 in
set_option maxRecDepth 20000 in
theorem C_rc_deliveryChance {l : Launch} {G : Gt} {M : Me} {a1 : Int32}  {o : Int32} (h : f_rc_deliveryChance M a1 = some o) : Ct l G (WC G) (rC G) y_rc_deliveryChance b_rc_deliveryChance 3 (some .int) rm_rc_deliveryChance [.ref (G.1 + oRC), .int a1] M (some (.int o)) M := by
  refine Ct.mk (own := "RetryChains") rfl (by decide) (Nat.le_of_ble_eq_true rfl) ⟨_, rfl⟩ (fun X hXl hXR hXn ok hG fin => ?_)
  subst hXl
  unfold f_rc_deliveryChance at h
  show Wt X M 0 [(0, .ref (G.1 + oRC)), (1, .int a1)] []
  refine r_aload_n (n := 1) rfl ok d_rc_deliveryChance_0 rfl 0 rfl ?_
  refine g_RC_now (n := 4) rfl ok hG  k_349 d_rc_deliveryChance_1 ?_
  refine r_iload_n (n := 5) rfl ok d_rc_deliveryChance_4 rfl 1 rfl ?_
  obtain ⟨r1, hr1, h⟩ := bd_ok h
  refine r_callV (n := 8) rfl ok hG mf_nt_chainAt k_592 k_593 k_591 (C_nt_chainAt (by decide) hr1) ⟨rfl, rfl⟩ (rR hXR ⟨Nat.le_of_ble_eq_true rfl, Nat.le_of_ble_eq_true rfl⟩) rfl rfl (rv_NET (by decide)) rfl (Nat.le_of_ble_eq_true rfl) d_rc_deliveryChance_5 ?_
  rcases er1 : r1 with _ | p2
  · replace h := el_n er1 h
    try rw [er1]
    refine r_astore_nN (lv' := [(2, .null), (0, .ref (G.1 + oRC)), (1, .int a1)]) (n := 9) rfl ok d_rc_deliveryChance_8 rfl (lt_n hXn (Nat.le_of_ble_eq_true rfl)) rfl ?_
    refine r_aload_nN (n := 10) rfl ok d_rc_deliveryChance_9 rfl 0 rfl ?_
    refine r_ifnonnullN (n := 13) rfl ok d_rc_deliveryChance_10 ?_
    refine r_iconst (v := (-1)) (n := 14) rfl ok d_rc_deliveryChance_13 (by decide) ?_
    refine r_goto (tgt := 28) ok d_rc_deliveryChance_14 (by decide) ?_
    obtain rfl := Option.some.inj h
    exact fin _ _ ⟨.int, rfl, rfl⟩ d_rc_deliveryChance_28
  · replace h := el_s er1 h
    try rw [er1]
    have vp2 := v_nt_chainAt (by decide) (hr1.trans (congrArg some er1))
    refine r_astore_n (lv' := [(2, .ref (G.1 + oCHN p2.1 p2.2)), (0, .ref (G.1 + oRC)), (1, .int a1)]) (n := 9) rfl ok d_rc_deliveryChance_8 rfl (lt_n hXn (Nat.le_of_ble_eq_true rfl)) rfl ?_
    refine r_aload_n (n := 10) rfl ok d_rc_deliveryChance_9 rfl 0 rfl ?_
    refine r_ifnonnull (tgt := 17) ok d_rc_deliveryChance_10 (by decide) ?_
    refine r_ldc (n := 19) rfl ok d_rc_deliveryChance_17 k_724 ?_
    refine r_aload_n (n := 20) rfl ok d_rc_deliveryChance_19 rfl 1 rfl ?_
    refine g_RC_now (n := 23) rfl ok hG  k_349 d_rc_deliveryChance_20 ?_
    refine r_aload_n (n := 24) rfl ok d_rc_deliveryChance_23 rfl 0 rfl ?_
    obtain ⟨r3, hr3, h⟩ := bd_ok h
    refine r_callV (n := 27) rfl ok hG mf_nt_reachOfEnd k_726 k_727 k_725 (C_nt_reachOfEnd (by decide) vp2.1 vp2.2 hr3) ⟨rfl, rfl⟩ (rR hXR ⟨Nat.le_of_ble_eq_true rfl, Nat.le_of_ble_eq_true rfl⟩) rfl rfl (rv_NET (by decide)) rfl (Nat.le_of_ble_eq_true rfl) d_rc_deliveryChance_24 ?_
    refine r_isub (n := 28) rfl ok d_rc_deliveryChance_27 ?_
    obtain rfl := Option.some.inj h
    exact fin _ _ ⟨.int, rfl, rfl⟩ d_rc_deliveryChance_28
set_option maxHeartbeats 4000000 in
set_option maxRecDepth 20000 in
theorem C_rc_expectedTime {l : Launch} {G : Gt} {M : Me} {a1 : Int32}  {o : Int32} (h : f_rc_expectedTime M a1 = some o) : Ct l G (WC G) (rC G) y_rc_expectedTime b_rc_expectedTime 3 (some .int) rm_rc_expectedTime [.ref (G.1 + oRC), .int a1] M (some (.int o)) M := by
  refine Ct.mk (own := "RetryChains") rfl (by decide) (Nat.le_of_ble_eq_true rfl) ⟨_, rfl⟩ (fun X hXl hXR hXn ok hG fin => ?_)
  subst hXl
  unfold f_rc_expectedTime at h
  show Wt X M 0 [(0, .ref (G.1 + oRC)), (1, .int a1)] []
  refine r_aload_n (n := 1) rfl ok d_rc_expectedTime_0 rfl 0 rfl ?_
  refine g_RC_now (n := 4) rfl ok hG  k_349 d_rc_expectedTime_1 ?_
  refine r_iload_n (n := 5) rfl ok d_rc_expectedTime_4 rfl 1 rfl ?_
  obtain ⟨r1, hr1, h⟩ := bd_ok h
  refine r_callV (n := 8) rfl ok hG mf_nt_chainAt k_592 k_593 k_591 (C_nt_chainAt (by decide) hr1) ⟨rfl, rfl⟩ (rR hXR ⟨Nat.le_of_ble_eq_true rfl, Nat.le_of_ble_eq_true rfl⟩) rfl rfl (rv_NET (by decide)) rfl (Nat.le_of_ble_eq_true rfl) d_rc_expectedTime_5 ?_
  rcases er1 : r1 with _ | p2
  · replace h := el_n er1 h
    try rw [er1]
    refine r_astore_nN (lv' := [(2, .null), (0, .ref (G.1 + oRC)), (1, .int a1)]) (n := 9) rfl ok d_rc_expectedTime_8 rfl (lt_n hXn (Nat.le_of_ble_eq_true rfl)) rfl ?_
    refine r_aload_nN (n := 10) rfl ok d_rc_expectedTime_9 rfl 0 rfl ?_
    refine r_ifnonnullN (n := 13) rfl ok d_rc_expectedTime_10 ?_
    refine r_iconst (v := (-1)) (n := 14) rfl ok d_rc_expectedTime_13 (by decide) ?_
    refine r_goto (tgt := 30) ok d_rc_expectedTime_14 (by decide) ?_
    obtain rfl := Option.some.inj h
    exact fin _ _ ⟨.int, rfl, rfl⟩ d_rc_expectedTime_30
  · replace h := el_s er1 h
    try rw [er1]
    have vp2 := v_nt_chainAt (by decide) (hr1.trans (congrArg some er1))
    refine r_astore_n (lv' := [(2, .ref (G.1 + oCHN p2.1 p2.2)), (0, .ref (G.1 + oRC)), (1, .int a1)]) (n := 9) rfl ok d_rc_expectedTime_8 rfl (lt_n hXn (Nat.le_of_ble_eq_true rfl)) rfl ?_
    refine r_aload_n (n := 10) rfl ok d_rc_expectedTime_9 rfl 0 rfl ?_
    refine r_ifnonnull (tgt := 17) ok d_rc_expectedTime_10 (by decide) ?_
    refine r_aload_n (n := 18) rfl ok d_rc_expectedTime_17 rfl 1 rfl ?_
    refine g_RC_now (n := 21) rfl ok hG  k_349 d_rc_expectedTime_18 ?_
    refine r_aload_n (n := 22) rfl ok d_rc_expectedTime_21 rfl 0 rfl ?_
    obtain ⟨r3, hr3, h⟩ := bd_ok h
    refine r_callV (n := 25) rfl ok hG mf_nt_weightedTime k_742 k_743 k_741 (C_nt_weightedTime (by decide) vp2.1 vp2.2 hr3) ⟨rfl, rfl⟩ (rR hXR ⟨Nat.le_of_ble_eq_true rfl, Nat.le_of_ble_eq_true rfl⟩) rfl rfl (rv_NET (by decide)) rfl (Nat.le_of_ble_eq_true rfl) d_rc_expectedTime_22 ?_
    refine r_ldc2 (n := 28) rfl ok d_rc_expectedTime_25 k_745 ?_
    refine r_ldiv (n := 29) rfl ok d_rc_expectedTime_28 (by decide) ?_
    refine r_l2i (n := 30) rfl ok d_rc_expectedTime_29 ?_
    obtain rfl := Option.some.inj h
    exact fin _ _ ⟨.int, rfl, rfl⟩ d_rc_expectedTime_30
set_option maxHeartbeats 4000000 in
set_option maxRecDepth 20000 in
theorem C_rc_estimate {l : Launch} {G : Gt} {M : Me} {a1 : Int32} {a2 : Int32}  {o : Int32} (h : f_rc_estimate M a1 a2 = some o) : Ct l G (WC G) (rC G) y_rc_estimate b_rc_estimate 4 (some .int) rm_rc_estimate [.ref (G.1 + oRC), .int a1, .int a2] M (some (.int o)) M := by
  refine Ct.mk (own := "RetryChains") rfl (by decide) (Nat.le_of_ble_eq_true rfl) ⟨_, rfl⟩ (fun X hXl hXR hXn ok hG fin => ?_)
  subst hXl
  unfold f_rc_estimate at h
  show Wt X M 0 [(0, .ref (G.1 + oRC)), (1, .int a1), (2, .int a2)] []
  refine r_aload_n (n := 1) rfl ok d_rc_estimate_0 rfl 0 rfl ?_
  refine g_RC_now (n := 4) rfl ok hG  k_349 d_rc_estimate_1 ?_
  refine r_iload_n (n := 5) rfl ok d_rc_estimate_4 rfl 1 rfl ?_
  refine r_iload_n (n := 6) rfl ok d_rc_estimate_5 rfl 2 rfl ?_
  obtain ⟨r1, hr1, h⟩ := bd_ok h
  refine r_callV (n := 9) rfl ok hG mf_nt_linkAt k_469 k_470 k_468 (C_nt_linkAt (by decide) hr1) ⟨rfl, rfl⟩ (rR hXR ⟨Nat.le_of_ble_eq_true rfl, Nat.le_of_ble_eq_true rfl⟩) rfl rfl (rv_NET (by decide)) rfl (Nat.le_of_ble_eq_true rfl) d_rc_estimate_6 ?_
  rcases er1 : r1 with _ | p2
  · replace h := el_n er1 h
    try rw [er1]
    refine r_astore_nN (lv' := [(3, .null), (0, .ref (G.1 + oRC)), (1, .int a1), (2, .int a2)]) (n := 10) rfl ok d_rc_estimate_9 rfl (lt_n hXn (Nat.le_of_ble_eq_true rfl)) rfl ?_
    refine r_aload_nN (n := 11) rfl ok d_rc_estimate_10 rfl 0 rfl ?_
    refine r_ifnonnullN (n := 14) rfl ok d_rc_estimate_11 ?_
    refine r_iconst (v := (-1)) (n := 15) rfl ok d_rc_estimate_14 (by decide) ?_
    refine r_goto (tgt := 22) ok d_rc_estimate_15 (by decide) ?_
    obtain rfl := Option.some.inj h
    exact fin _ _ ⟨.int, rfl, rfl⟩ d_rc_estimate_22
  · replace h := el_s er1 h
    try rw [er1]
    have vp2 := v_nt_linkAt (by decide) (hr1.trans (congrArg some er1))
    refine r_astore_n (lv' := [(3, .ref (G.1 + oLNK p2.1 p2.2.1 p2.2.2)), (0, .ref (G.1 + oRC)), (1, .int a1), (2, .int a2)]) (n := 10) rfl ok d_rc_estimate_9 rfl (lt_n hXn (Nat.le_of_ble_eq_true rfl)) rfl ?_
    refine r_aload_n (n := 11) rfl ok d_rc_estimate_10 rfl 0 rfl ?_
    refine r_ifnonnull (tgt := 18) ok d_rc_estimate_11 (by decide) ?_
    refine r_aload_n (n := 19) rfl ok d_rc_estimate_18 rfl 0 rfl ?_
    refine g_LNK_estimate (n := 22) rfl ok hG vp2.1 vp2.2.1 vp2.2.2 k_94 d_rc_estimate_19 ?_
    obtain rfl := Option.some.inj h
    exact fin _ _ ⟨.int, rfl, rfl⟩ d_rc_estimate_22
set_option maxHeartbeats 4000000 in
set_option maxRecDepth 20000 in
theorem C_rc_triesOf {l : Launch} {G : Gt} {M : Me} {a1 : Int32} {a2 : Int32}  {o : Int32} (h : f_rc_triesOf M a1 a2 = some o) : Ct l G (WC G) (rC G) y_rc_triesOf b_rc_triesOf 4 (some .int) rm_rc_triesOf [.ref (G.1 + oRC), .int a1, .int a2] M (some (.int o)) M := by
  refine Ct.mk (own := "RetryChains") rfl (by decide) (Nat.le_of_ble_eq_true rfl) ⟨_, rfl⟩ (fun X hXl hXR hXn ok hG fin => ?_)
  subst hXl
  unfold f_rc_triesOf at h
  show Wt X M 0 [(0, .ref (G.1 + oRC)), (1, .int a1), (2, .int a2)] []
  refine r_aload_n (n := 1) rfl ok d_rc_triesOf_0 rfl 0 rfl ?_
  refine g_RC_now (n := 4) rfl ok hG  k_349 d_rc_triesOf_1 ?_
  refine r_iload_n (n := 5) rfl ok d_rc_triesOf_4 rfl 1 rfl ?_
  refine r_iload_n (n := 6) rfl ok d_rc_triesOf_5 rfl 2 rfl ?_
  obtain ⟨r1, hr1, h⟩ := bd_ok h
  refine r_callV (n := 9) rfl ok hG mf_nt_linkAt k_469 k_470 k_468 (C_nt_linkAt (by decide) hr1) ⟨rfl, rfl⟩ (rR hXR ⟨Nat.le_of_ble_eq_true rfl, Nat.le_of_ble_eq_true rfl⟩) rfl rfl (rv_NET (by decide)) rfl (Nat.le_of_ble_eq_true rfl) d_rc_triesOf_6 ?_
  rcases er1 : r1 with _ | p2
  · replace h := el_n er1 h
    try rw [er1]
    refine r_astore_nN (lv' := [(3, .null), (0, .ref (G.1 + oRC)), (1, .int a1), (2, .int a2)]) (n := 10) rfl ok d_rc_triesOf_9 rfl (lt_n hXn (Nat.le_of_ble_eq_true rfl)) rfl ?_
    refine r_aload_nN (n := 11) rfl ok d_rc_triesOf_10 rfl 0 rfl ?_
    refine r_ifnonnullN (n := 14) rfl ok d_rc_triesOf_11 ?_
    refine r_iconst (v := (-1)) (n := 15) rfl ok d_rc_triesOf_14 (by decide) ?_
    refine r_goto (tgt := 22) ok d_rc_triesOf_15 (by decide) ?_
    obtain rfl := Option.some.inj h
    exact fin _ _ ⟨.int, rfl, rfl⟩ d_rc_triesOf_22
  · replace h := el_s er1 h
    try rw [er1]
    have vp2 := v_nt_linkAt (by decide) (hr1.trans (congrArg some er1))
    refine r_astore_n (lv' := [(3, .ref (G.1 + oLNK p2.1 p2.2.1 p2.2.2)), (0, .ref (G.1 + oRC)), (1, .int a1), (2, .int a2)]) (n := 10) rfl ok d_rc_triesOf_9 rfl (lt_n hXn (Nat.le_of_ble_eq_true rfl)) rfl ?_
    refine r_aload_n (n := 11) rfl ok d_rc_triesOf_10 rfl 0 rfl ?_
    refine r_ifnonnull (tgt := 18) ok d_rc_triesOf_11 (by decide) ?_
    refine r_aload_n (n := 19) rfl ok d_rc_triesOf_18 rfl 0 rfl ?_
    refine g_LNK_allTries (n := 22) rfl ok hG vp2.1 vp2.2.1 vp2.2.2 k_103 d_rc_triesOf_19 ?_
    obtain rfl := Option.some.inj h
    exact fin _ _ ⟨.int, rfl, rfl⟩ d_rc_triesOf_22
set_option maxHeartbeats 4000000 in
set_option maxRecDepth 20000 in
theorem C_rc_successesOf {l : Launch} {G : Gt} {M : Me} {a1 : Int32} {a2 : Int32}  {o : Int32} (h : f_rc_successesOf M a1 a2 = some o) : Ct l G (WC G) (rC G) y_rc_successesOf b_rc_successesOf 4 (some .int) rm_rc_successesOf [.ref (G.1 + oRC), .int a1, .int a2] M (some (.int o)) M := by
  refine Ct.mk (own := "RetryChains") rfl (by decide) (Nat.le_of_ble_eq_true rfl) ⟨_, rfl⟩ (fun X hXl hXR hXn ok hG fin => ?_)
  subst hXl
  unfold f_rc_successesOf at h
  show Wt X M 0 [(0, .ref (G.1 + oRC)), (1, .int a1), (2, .int a2)] []
  refine r_aload_n (n := 1) rfl ok d_rc_successesOf_0 rfl 0 rfl ?_
  refine g_RC_now (n := 4) rfl ok hG  k_349 d_rc_successesOf_1 ?_
  refine r_iload_n (n := 5) rfl ok d_rc_successesOf_4 rfl 1 rfl ?_
  refine r_iload_n (n := 6) rfl ok d_rc_successesOf_5 rfl 2 rfl ?_
  obtain ⟨r1, hr1, h⟩ := bd_ok h
  refine r_callV (n := 9) rfl ok hG mf_nt_linkAt k_469 k_470 k_468 (C_nt_linkAt (by decide) hr1) ⟨rfl, rfl⟩ (rR hXR ⟨Nat.le_of_ble_eq_true rfl, Nat.le_of_ble_eq_true rfl⟩) rfl rfl (rv_NET (by decide)) rfl (Nat.le_of_ble_eq_true rfl) d_rc_successesOf_6 ?_
  rcases er1 : r1 with _ | p2
  · replace h := el_n er1 h
    try rw [er1]
    refine r_astore_nN (lv' := [(3, .null), (0, .ref (G.1 + oRC)), (1, .int a1), (2, .int a2)]) (n := 10) rfl ok d_rc_successesOf_9 rfl (lt_n hXn (Nat.le_of_ble_eq_true rfl)) rfl ?_
    refine r_aload_nN (n := 11) rfl ok d_rc_successesOf_10 rfl 0 rfl ?_
    refine r_ifnonnullN (n := 14) rfl ok d_rc_successesOf_11 ?_
    refine r_iconst (v := (-1)) (n := 15) rfl ok d_rc_successesOf_14 (by decide) ?_
    refine r_goto (tgt := 22) ok d_rc_successesOf_15 (by decide) ?_
    obtain rfl := Option.some.inj h
    exact fin _ _ ⟨.int, rfl, rfl⟩ d_rc_successesOf_22
  · replace h := el_s er1 h
    try rw [er1]
    have vp2 := v_nt_linkAt (by decide) (hr1.trans (congrArg some er1))
    refine r_astore_n (lv' := [(3, .ref (G.1 + oLNK p2.1 p2.2.1 p2.2.2)), (0, .ref (G.1 + oRC)), (1, .int a1), (2, .int a2)]) (n := 10) rfl ok d_rc_successesOf_9 rfl (lt_n hXn (Nat.le_of_ble_eq_true rfl)) rfl ?_
    refine r_aload_n (n := 11) rfl ok d_rc_successesOf_10 rfl 0 rfl ?_
    refine r_ifnonnull (tgt := 18) ok d_rc_successesOf_11 (by decide) ?_
    refine r_aload_n (n := 19) rfl ok d_rc_successesOf_18 rfl 0 rfl ?_
    refine g_LNK_allSuccesses (n := 22) rfl ok hG vp2.1 vp2.2.1 vp2.2.2 k_105 d_rc_successesOf_19 ?_
    obtain rfl := Option.some.inj h
    exact fin _ _ ⟨.int, rfl, rfl⟩ d_rc_successesOf_22
set_option maxHeartbeats 4000000 in
set_option maxRecDepth 20000 in
theorem C_rc_isSize {l : Launch} {G : Gt} {W0 : Me → Heap → Prop} {A : Nat → Prop} {M : Me} {a1 : Int32}  {o : Int32} (h : f_rc_isSize a1 = some o) : Ct l G W0 A y_rc_isSize b_rc_isSize 1 (some .boolean) rm_rc_isSize [.int a1] M (some (.int o)) M := by
  refine Ct.mk (own := "RetryChains") rfl (by decide) (Nat.le_of_ble_eq_true rfl) ⟨_, rfl⟩ (fun X hXl hXR hXn ok hG fin => ?_)
  subst hXl
  unfold f_rc_isSize at h
  show Wt X M 0 [(0, .int a1)] []
  refine r_iload_n (n := 1) rfl ok d_rc_isSize_0 rfl 0 rfl ?_
  refine r_iconst (v := 1) (n := 2) rfl ok d_rc_isSize_1 (by decide) ?_
  refine r_icmp_lt (tgt := 16) (n := 5) rfl ok d_rc_isSize_2 (by decide) (fun c1 => ?_) (fun c1 => ?_)
  · replace h := if_p c1 h
    refine r_iconst (v := 0) (n := 17) rfl ok d_rc_isSize_16 (by decide) ?_
    obtain rfl := Option.some.inj h
    exact fin _ _ ⟨.boolean, rfl, nz0⟩ d_rc_isSize_17
  · replace h := if_n c1 h
    refine r_iload_n (n := 6) rfl ok d_rc_isSize_5 rfl 0 rfl ?_
    refine r_ldcw (n := 9) rfl ok d_rc_isSize_6 k_766 ?_
    refine r_icmp_gt (tgt := 16) (n := 12) rfl ok d_rc_isSize_9 (by decide) (fun c2 => ?_) (fun c2 => ?_)
    · replace h := if_p c2 h
      refine r_iconst (v := 0) (n := 17) rfl ok d_rc_isSize_16 (by decide) ?_
      obtain rfl := Option.some.inj h
      exact fin _ _ ⟨.boolean, rfl, nz0⟩ d_rc_isSize_17
    · replace h := if_n c2 h
      refine r_iconst (v := 1) (n := 13) rfl ok d_rc_isSize_12 (by decide) ?_
      refine r_goto (tgt := 17) ok d_rc_isSize_13 (by decide) ?_
      obtain rfl := Option.some.inj h
      exact fin _ _ ⟨.boolean, rfl, nz1⟩ d_rc_isSize_17
set_option maxHeartbeats 4000000 in
set_option maxRecDepth 20000 in
theorem C_rc_airTime {l : Launch} {G : Gt} {M : Me} {a1 : Int32} {a2 : Int32}  {o : Int32} (h : f_rc_airTime M a1 a2 = some o) : Ct l G (WC G) (rC G) y_rc_airTime b_rc_airTime 3 (some .int) rm_rc_airTime [.ref (G.1 + oRC), .int a1, .int a2] M (some (.int o)) M := by
  refine Ct.mk (own := "RetryChains") rfl (by decide) (Nat.le_of_ble_eq_true rfl) ⟨_, rfl⟩ (fun X hXl hXR hXn ok hG fin => ?_)
  subst hXl
  unfold f_rc_airTime at h
  show Wt X M 0 [(0, .ref (G.1 + oRC)), (1, .int a1), (2, .int a2)] []
  refine r_aload_n (n := 1) rfl ok d_rc_airTime_0 rfl 0 rfl ?_
  refine g_RC_now (n := 4) rfl ok hG  k_349 d_rc_airTime_1 ?_
  refine g_NET_rates (n := 7) rfl ok hG (by decide) k_241 d_rc_airTime_4 ?_
  refine r_iload_n (n := 8) rfl ok d_rc_airTime_7 rfl 1 rfl ?_
  obtain ⟨r1, hr1, h⟩ := bd_ok h
  refine r_callV (n := 11) rfl ok hG mf_tb_has k_421 k_422 k_762 (C_tb_has (by decide) hr1) ⟨rfl, rfl⟩ (rR hXR ⟨Nat.le_of_ble_eq_true rfl, Nat.le_of_ble_eq_true rfl⟩) rfl rfl (rv_TAB (by decide)) rfl (Nat.le_of_ble_eq_true rfl) d_rc_airTime_8 ?_
  refine r_if_eq (tgt := 21) (n := 14) rfl ok d_rc_airTime_11 (by decide) (fun c2 => ?_) (fun c2 => ?_)
  · replace h := if_p c2 h
    refine r_iconst (v := (-1)) (n := 22) rfl ok d_rc_airTime_21 (by decide) ?_
    obtain rfl := Option.some.inj h
    exact fin _ _ ⟨.int, rfl, rfl⟩ d_rc_airTime_22
  · replace h := if_n c2 h
    refine r_iload_n (n := 15) rfl ok d_rc_airTime_14 rfl 2 rfl ?_
    obtain ⟨r3, hr3, h⟩ := bd_ok h
    refine r_callS (n := 18) rfl ok hG mf_rc_isSize k_764 k_763 (C_rc_isSize  hr3) ⟨rfl, rfl⟩ (rR hXR ⟨Nat.le_of_ble_eq_true rfl, Nat.le_of_ble_eq_true rfl⟩) rfl rfl (Nat.le_of_ble_eq_true rfl) d_rc_airTime_15 ?_
    refine r_if_ne (tgt := 23) (n := 21) rfl ok d_rc_airTime_18 (by decide) (fun c4 => ?_) (fun c4 => ?_)
    · replace h := if_n c4 h
      refine r_aload_n (n := 24) rfl ok d_rc_airTime_23 rfl 0 rfl ?_
      refine g_RC_now (n := 27) rfl ok hG  k_349 d_rc_airTime_24 ?_
      refine g_NET_rates (n := 30) rfl ok hG (by decide) k_241 d_rc_airTime_27 ?_
      refine r_iload_n (n := 31) rfl ok d_rc_airTime_30 rfl 1 rfl ?_
      refine r_iload_n (n := 32) rfl ok d_rc_airTime_31 rfl 2 rfl ?_
      obtain ⟨r5, hr5, h⟩ := bd_ok h
      refine r_callV (n := 35) rfl ok hG mf_tb_timeInAir k_417 k_418 k_767 (C_tb_timeInAir (by decide) hr5) ⟨rfl, rfl⟩ (rR hXR ⟨Nat.le_of_ble_eq_true rfl, Nat.le_of_ble_eq_true rfl⟩) rfl rfl (rv_TAB (by decide)) rfl (Nat.le_of_ble_eq_true rfl) d_rc_airTime_32 ?_
      obtain rfl := Option.some.inj h
      exact fin _ _ ⟨.int, rfl, rfl⟩ d_rc_airTime_35
    · replace h := if_p c4 h
      refine r_iconst (v := (-1)) (n := 22) rfl ok d_rc_airTime_21 (by decide) ?_
      obtain rfl := Option.some.inj h
      exact fin _ _ ⟨.int, rfl, rfl⟩ d_rc_airTime_22
set_option maxHeartbeats 4000000 in
set_option maxRecDepth 20000 in
theorem C_rc_throughput {l : Launch} {G : Gt} {M : Me} {a1 : Int32} {a2 : Int32} {a3 : Int32}  {o : Int32} (h : f_rc_throughput M a1 a2 a3 = some o) : Ct l G (WC G) (rC G) y_rc_throughput b_rc_throughput 8 (some .int) rm_rc_throughput [.ref (G.1 + oRC), .int a1, .int a2, .int a3] M (some (.int o)) M := by
  refine Ct.mk (own := "RetryChains") rfl (by decide) (Nat.le_of_ble_eq_true rfl) ⟨_, rfl⟩ (fun X hXl hXR hXn ok hG fin => ?_)
  subst hXl
  unfold f_rc_throughput at h
  show Wt X M 0 [(0, .ref (G.1 + oRC)), (1, .int a1), (2, .int a2), (3, .int a3)] []
  refine r_aload_n (n := 1) rfl ok d_rc_throughput_0 rfl 0 rfl ?_
  refine g_RC_now (n := 4) rfl ok hG  k_349 d_rc_throughput_1 ?_
  refine r_iload_n (n := 5) rfl ok d_rc_throughput_4 rfl 1 rfl ?_
  refine r_iload_n (n := 6) rfl ok d_rc_throughput_5 rfl 2 rfl ?_
  obtain ⟨r1, hr1, h⟩ := bd_ok h
  refine r_callV (n := 9) rfl ok hG mf_nt_linkAt k_469 k_470 k_468 (C_nt_linkAt (by decide) hr1) ⟨rfl, rfl⟩ (rR hXR ⟨Nat.le_of_ble_eq_true rfl, Nat.le_of_ble_eq_true rfl⟩) rfl rfl (rv_NET (by decide)) rfl (Nat.le_of_ble_eq_true rfl) d_rc_throughput_6 ?_
  rcases er1 : r1 with _ | p2
  · replace h := el_n er1 h
    try rw [er1]
    refine r_astoreN (lv' := [(4, .null), (0, .ref (G.1 + oRC)), (1, .int a1), (2, .int a2), (3, .int a3)]) (n := 11) rfl ok d_rc_throughput_9 (lt_n hXn (Nat.le_of_ble_eq_true rfl)) rfl ?_
    refine r_aloadN (n := 13) rfl ok d_rc_throughput_11 0 rfl ?_
    refine r_ifnullN (tgt := 23) ok d_rc_throughput_13 (by decide) ?_
    refine r_iconst (v := (-1)) (n := 24) rfl ok d_rc_throughput_23 (by decide) ?_
    obtain rfl := Option.some.inj h
    exact fin _ _ ⟨.int, rfl, rfl⟩ d_rc_throughput_24
  · replace h := el_s er1 h
    try rw [er1]
    have vp2 := v_nt_linkAt (by decide) (hr1.trans (congrArg some er1))
    refine r_astore (lv' := [(4, .ref (G.1 + oLNK p2.1 p2.2.1 p2.2.2)), (0, .ref (G.1 + oRC)), (1, .int a1), (2, .int a2), (3, .int a3)]) (n := 11) rfl ok d_rc_throughput_9 (lt_n hXn (Nat.le_of_ble_eq_true rfl)) rfl ?_
    refine r_aload (n := 13) rfl ok d_rc_throughput_11 0 rfl ?_
    refine r_ifnull (n := 16) rfl ok d_rc_throughput_13 ?_
    refine r_iload_n (n := 17) rfl ok d_rc_throughput_16 rfl 4 rfl ?_
    obtain ⟨r3, hr3, h⟩ := bd_ok h
    refine r_callS (n := 20) rfl ok hG mf_rc_isSize k_764 k_763 (C_rc_isSize  hr3) ⟨rfl, rfl⟩ (rR hXR ⟨Nat.le_of_ble_eq_true rfl, Nat.le_of_ble_eq_true rfl⟩) rfl rfl (Nat.le_of_ble_eq_true rfl) d_rc_throughput_17 ?_
    refine r_if_ne (tgt := 25) (n := 23) rfl ok d_rc_throughput_20 (by decide) (fun c4 => ?_) (fun c4 => ?_)
    · replace h := if_n c4 h
      refine r_aload (n := 27) rfl ok d_rc_throughput_25 0 rfl ?_
      obtain ⟨r5, hr5, h⟩ := bd_ok h
      refine r_callV (n := 30) rfl ok hG mf_lk_isEstimated k_650 k_651 k_772 (C_lk_isEstimated vp2.1 vp2.2.1 vp2.2.2 hr5) ⟨rfl, rfl⟩ (rR hXR ⟨Nat.le_of_ble_eq_true rfl, Nat.le_of_ble_eq_true rfl⟩) rfl rfl (rv_LNK vp2.1 vp2.2.1 vp2.2.2) rfl (Nat.le_of_ble_eq_true rfl) d_rc_throughput_27 ?_
      refine r_if_ne (tgt := 36) (n := 33) rfl ok d_rc_throughput_30 (by decide) (fun c6 => ?_) (fun c6 => ?_)
      · replace h := if_n c6 h
        refine r_aload (n := 38) rfl ok d_rc_throughput_36 0 rfl ?_
        refine g_LNK_estimate (n := 41) rfl ok hG vp2.1 vp2.2.1 vp2.2.2 k_94 d_rc_throughput_38 ?_
        refine r_i2l (n := 42) rfl ok d_rc_throughput_41 ?_
        refine r_bipush (v := 8) (n := 44) rfl ok d_rc_throughput_42 (by decide) ?_
        refine r_iload_n (n := 45) rfl ok d_rc_throughput_44 rfl 4 rfl ?_
        refine r_imul (n := 46) rfl ok d_rc_throughput_45 ?_
        refine r_i2l (n := 47) rfl ok d_rc_throughput_46 ?_
        refine r_lmul (n := 48) rfl ok d_rc_throughput_47 ?_
        obtain ⟨x7, ex7, h⟩ := bd_ok h
        refine r_tl (Option.some.inj ex7).symm ?_
        refine r_lstore (lv' := [(5, .long x7), (4, .ref (G.1 + oLNK p2.1 p2.2.1 p2.2.2)), (0, .ref (G.1 + oRC)), (1, .int a1), (2, .int a2), (3, .int a3)]) (n := 50) rfl ok d_rc_throughput_48 (lt_n hXn (Nat.le_of_ble_eq_true rfl)) rfl ?_
        refine r_lload (n := 52) rfl ok d_rc_throughput_50 0 rfl ?_
        refine r_ldc2 (n := 55) rfl ok d_rc_throughput_52 k_773 ?_
        refine r_lcmp (n := 56) rfl ok d_rc_throughput_55 ?_
        refine r_if_le (tgt := 62) (n := 59) rfl ok d_rc_throughput_56 (by decide) (fun c8 => ?_) (fun c8 => ?_)
        · replace h := if_p c8 h
          refine r_iconst (v := 1) (n := 63) rfl ok d_rc_throughput_62 (by decide) ?_
          refine r_aload_n (n := 64) rfl ok d_rc_throughput_63 rfl 2 rfl ?_
          refine g_RC_now (n := 67) rfl ok hG  k_349 d_rc_throughput_64 ?_
          refine g_NET_rates (n := 70) rfl ok hG (by decide) k_241 d_rc_throughput_67 ?_
          refine r_iload_n (n := 71) rfl ok d_rc_throughput_70 rfl 4 rfl ?_
          refine r_iload_n (n := 72) rfl ok d_rc_throughput_71 rfl 5 rfl ?_
          obtain ⟨r9, hr9, h⟩ := bd_ok h
          refine r_callV (n := 75) rfl ok hG mf_tb_timeInAir k_417 k_418 k_767 (C_tb_timeInAir (by decide) hr9) ⟨rfl, rfl⟩ (rR hXR ⟨Nat.le_of_ble_eq_true rfl, Nat.le_of_ble_eq_true rfl⟩) rfl rfl (rv_TAB (by decide)) rfl (Nat.le_of_ble_eq_true rfl) d_rc_throughput_72 ?_
          refine r_mmax (n := 78) rfl ok hG k_774 k_425 k_12 k_426 (rR hXR ⟨Nat.le_of_ble_eq_true rfl, Nat.le_of_ble_eq_true rfl⟩) d_rc_throughput_75 ?_
          obtain ⟨x10, ex10, h⟩ := bd_ok h
          refine r_ti (Option.some.inj ex10).symm ?_
          refine r_istore (lv' := [(7, .int x10), (5, .long x7), (4, .ref (G.1 + oLNK p2.1 p2.2.1 p2.2.2)), (0, .ref (G.1 + oRC)), (1, .int a1), (2, .int a2), (3, .int a3)]) (n := 80) rfl ok d_rc_throughput_78 (lt_n hXn (Nat.le_of_ble_eq_true rfl)) rfl ?_
          refine r_lload (n := 82) rfl ok d_rc_throughput_80 1 rfl ?_
          refine r_l2i (n := 83) rfl ok d_rc_throughput_82 ?_
          refine r_iload (n := 85) rfl ok d_rc_throughput_83 0 rfl ?_
          obtain ⟨g11, h⟩ := gd_ok h
          refine r_idiv (n := 86) rfl ok d_rc_throughput_85 g11 ?_
          obtain rfl := Option.some.inj h
          exact fin _ _ ⟨.int, rfl, rfl⟩ d_rc_throughput_86
        · replace h := if_n c8 h
          refine r_bipush (v := (-4)) (n := 61) rfl ok d_rc_throughput_59 (by decide) ?_
          obtain rfl := Option.some.inj h
          exact fin _ _ ⟨.int, rfl, rfl⟩ d_rc_throughput_61
      · replace h := if_p c6 h
        refine r_bipush (v := (-9)) (n := 35) rfl ok d_rc_throughput_33 (by decide) ?_
        obtain rfl := Option.some.inj h
        exact fin _ _ ⟨.int, rfl, rfl⟩ d_rc_throughput_35
    · replace h := if_p c4 h
      refine r_iconst (v := (-1)) (n := 24) rfl ok d_rc_throughput_23 (by decide) ?_
      obtain rfl := Option.some.inj h
      exact fin _ _ ⟨.int, rfl, rfl⟩ d_rc_throughput_24
set_option maxHeartbeats 4000000 in
set_option maxRecDepth 20000 in
theorem C_rc_role {l : Launch} {G : Gt} {M : Me} {a1 : Int32} {a2 : Int32}  {o : Int32} (h : f_rc_role M a1 a2 = some o) : Ct l G (WC G) (rC G) y_rc_role b_rc_role 4 (some .int) rm_rc_role [.ref (G.1 + oRC), .int a1, .int a2] M (some (.int o)) M := by
  refine Ct.mk (own := "RetryChains") rfl (by decide) (Nat.le_of_ble_eq_true rfl) ⟨_, rfl⟩ (fun X hXl hXR hXn ok hG fin => ?_)
  subst hXl
  unfold f_rc_role at h
  show Wt X M 0 [(0, .ref (G.1 + oRC)), (1, .int a1), (2, .int a2)] []
  refine r_aload_n (n := 1) rfl ok d_rc_role_0 rfl 0 rfl ?_
  refine g_RC_now (n := 4) rfl ok hG  k_349 d_rc_role_1 ?_
  refine r_iload_n (n := 5) rfl ok d_rc_role_4 rfl 1 rfl ?_
  obtain ⟨r1, hr1, h⟩ := bd_ok h
  refine r_callV (n := 8) rfl ok hG mf_nt_stationAt k_465 k_466 k_464 (C_nt_stationAt (by decide) hr1) ⟨rfl, rfl⟩ (rR hXR ⟨Nat.le_of_ble_eq_true rfl, Nat.le_of_ble_eq_true rfl⟩) rfl rfl (rv_NET (by decide)) rfl (Nat.le_of_ble_eq_true rfl) d_rc_role_5 ?_
  rcases er1 : r1 with _ | p2
  · replace h := el_n er1 h
    try rw [er1]
    refine r_astore_nN (lv' := [(3, .null), (0, .ref (G.1 + oRC)), (1, .int a1), (2, .int a2)]) (n := 9) rfl ok d_rc_role_8 rfl (lt_n hXn (Nat.le_of_ble_eq_true rfl)) rfl ?_
    refine r_aload_nN (n := 10) rfl ok d_rc_role_9 rfl 0 rfl ?_
    refine r_ifnullN (tgt := 22) ok d_rc_role_10 (by decide) ?_
    refine r_iconst (v := (-1)) (n := 23) rfl ok d_rc_role_22 (by decide) ?_
    refine r_goto (tgt := 32) ok d_rc_role_23 (by decide) ?_
    obtain rfl := Option.some.inj h
    exact fin _ _ ⟨.int, rfl, rfl⟩ d_rc_role_32
  · replace h := el_s er1 h
    try rw [er1]
    have vp2 := v_nt_stationAt (by decide) (hr1.trans (congrArg some er1))
    refine r_astore_n (lv' := [(3, .ref (G.1 + oSTA p2.1 p2.2)), (0, .ref (G.1 + oRC)), (1, .int a1), (2, .int a2)]) (n := 9) rfl ok d_rc_role_8 rfl (lt_n hXn (Nat.le_of_ble_eq_true rfl)) rfl ?_
    refine r_aload_n (n := 10) rfl ok d_rc_role_9 rfl 0 rfl ?_
    refine r_ifnull (n := 13) rfl ok d_rc_role_10 ?_
    refine r_iload_n (n := 14) rfl ok d_rc_role_13 rfl 3 rfl ?_
    refine r_if_lt (tgt := 22) (n := 17) rfl ok d_rc_role_14 (by decide) (fun c3 => ?_) (fun c3 => ?_)
    · replace h := if_p c3 h
      refine r_iconst (v := (-1)) (n := 23) rfl ok d_rc_role_22 (by decide) ?_
      refine r_goto (tgt := 32) ok d_rc_role_23 (by decide) ?_
      obtain rfl := Option.some.inj h
      exact fin _ _ ⟨.int, rfl, rfl⟩ d_rc_role_32
    · replace h := if_n c3 h
      refine r_iload_n (n := 18) rfl ok d_rc_role_17 rfl 3 rfl ?_
      refine r_iconst (v := 4) (n := 19) rfl ok d_rc_role_18 (by decide) ?_
      refine r_icmp_lt (tgt := 26) (n := 22) rfl ok d_rc_role_19 (by decide) (fun c4 => ?_) (fun c4 => ?_)
      · replace h := if_p c4 h
        refine r_aload_n (n := 27) rfl ok d_rc_role_26 rfl 0 rfl ?_
        refine g_STA_roles (n := 30) rfl ok hG vp2.1 vp2.2 k_137 d_rc_role_27 ?_
        refine r_iload_n (n := 31) rfl ok d_rc_role_30 rfl 3 rfl ?_
        obtain ⟨g5, h⟩ := gd_ok h
        refine al_ROLES (n := 32) rfl ok hG vp2.1 vp2.2 g5 d_rc_role_31 ?_
        obtain rfl := Option.some.inj h
        exact fin _ _ ⟨.int, rfl, rfl⟩ d_rc_role_32
      · replace h := if_n c4 h
        refine r_iconst (v := (-1)) (n := 23) rfl ok d_rc_role_22 (by decide) ?_
        refine r_goto (tgt := 32) ok d_rc_role_23 (by decide) ?_
        obtain rfl := Option.some.inj h
        exact fin _ _ ⟨.int, rfl, rfl⟩ d_rc_role_32
set_option maxHeartbeats 4000000 in
set_option maxRecDepth 20000 in
theorem C_rc_refusal {l : Launch} {G : Gt} {M : Me} {a1 : Int32} {a2 : Int32}  {o : Int32} (h : f_rc_refusal M a1 a2 = some o) : Ct l G (WC G) (rC G) y_rc_refusal b_rc_refusal 4 (some .int) rm_rc_refusal [.ref (G.1 + oRC), .int a1, .int a2] M (some (.int o)) M := by
  refine Ct.mk (own := "RetryChains") rfl (by decide) (Nat.le_of_ble_eq_true rfl) ⟨_, rfl⟩ (fun X hXl hXR hXn ok hG fin => ?_)
  subst hXl
  unfold f_rc_refusal at h
  show Wt X M 0 [(0, .ref (G.1 + oRC)), (1, .int a1), (2, .int a2)] []
  refine r_aload_n (n := 1) rfl ok d_rc_refusal_0 rfl 0 rfl ?_
  refine g_RC_now (n := 4) rfl ok hG  k_349 d_rc_refusal_1 ?_
  refine r_iload_n (n := 5) rfl ok d_rc_refusal_4 rfl 1 rfl ?_
  obtain ⟨r1, hr1, h⟩ := bd_ok h
  refine r_callV (n := 8) rfl ok hG mf_nt_stationAt k_465 k_466 k_464 (C_nt_stationAt (by decide) hr1) ⟨rfl, rfl⟩ (rR hXR ⟨Nat.le_of_ble_eq_true rfl, Nat.le_of_ble_eq_true rfl⟩) rfl rfl (rv_NET (by decide)) rfl (Nat.le_of_ble_eq_true rfl) d_rc_refusal_5 ?_
  rcases er1 : r1 with _ | p2
  · replace h := el_n er1 h
    try rw [er1]
    refine r_astore_nN (lv' := [(3, .null), (0, .ref (G.1 + oRC)), (1, .int a1), (2, .int a2)]) (n := 9) rfl ok d_rc_refusal_8 rfl (lt_n hXn (Nat.le_of_ble_eq_true rfl)) rfl ?_
    refine r_aload_nN (n := 10) rfl ok d_rc_refusal_9 rfl 0 rfl ?_
    refine r_ifnullN (tgt := 22) ok d_rc_refusal_10 (by decide) ?_
    refine r_iconst (v := (-1)) (n := 23) rfl ok d_rc_refusal_22 (by decide) ?_
    refine r_goto (tgt := 32) ok d_rc_refusal_23 (by decide) ?_
    obtain rfl := Option.some.inj h
    exact fin _ _ ⟨.int, rfl, rfl⟩ d_rc_refusal_32
  · replace h := el_s er1 h
    try rw [er1]
    have vp2 := v_nt_stationAt (by decide) (hr1.trans (congrArg some er1))
    refine r_astore_n (lv' := [(3, .ref (G.1 + oSTA p2.1 p2.2)), (0, .ref (G.1 + oRC)), (1, .int a1), (2, .int a2)]) (n := 9) rfl ok d_rc_refusal_8 rfl (lt_n hXn (Nat.le_of_ble_eq_true rfl)) rfl ?_
    refine r_aload_n (n := 10) rfl ok d_rc_refusal_9 rfl 0 rfl ?_
    refine r_ifnull (n := 13) rfl ok d_rc_refusal_10 ?_
    refine r_iload_n (n := 14) rfl ok d_rc_refusal_13 rfl 3 rfl ?_
    refine r_if_lt (tgt := 22) (n := 17) rfl ok d_rc_refusal_14 (by decide) (fun c3 => ?_) (fun c3 => ?_)
    · replace h := if_p c3 h
      refine r_iconst (v := (-1)) (n := 23) rfl ok d_rc_refusal_22 (by decide) ?_
      refine r_goto (tgt := 32) ok d_rc_refusal_23 (by decide) ?_
      obtain rfl := Option.some.inj h
      exact fin _ _ ⟨.int, rfl, rfl⟩ d_rc_refusal_32
    · replace h := if_n c3 h
      refine r_iload_n (n := 18) rfl ok d_rc_refusal_17 rfl 3 rfl ?_
      refine r_iconst (v := 3) (n := 19) rfl ok d_rc_refusal_18 (by decide) ?_
      refine r_icmp_lt (tgt := 26) (n := 22) rfl ok d_rc_refusal_19 (by decide) (fun c4 => ?_) (fun c4 => ?_)
      · replace h := if_p c4 h
        refine r_aload_n (n := 27) rfl ok d_rc_refusal_26 rfl 0 rfl ?_
        refine g_STA_refusals (n := 30) rfl ok hG vp2.1 vp2.2 k_139 d_rc_refusal_27 ?_
        refine r_iload_n (n := 31) rfl ok d_rc_refusal_30 rfl 3 rfl ?_
        obtain ⟨g5, h⟩ := gd_ok h
        refine al_REFS (n := 32) rfl ok hG vp2.1 vp2.2 g5 d_rc_refusal_31 ?_
        obtain rfl := Option.some.inj h
        exact fin _ _ ⟨.int, rfl, rfl⟩ d_rc_refusal_32
      · replace h := if_n c4 h
        refine r_iconst (v := (-1)) (n := 23) rfl ok d_rc_refusal_22 (by decide) ?_
        refine r_goto (tgt := 32) ok d_rc_refusal_23 (by decide) ?_
        obtain rfl := Option.some.inj h
        exact fin _ _ ⟨.int, rfl, rfl⟩ d_rc_refusal_32
set_option maxHeartbeats 4000000 in
set_option maxRecDepth 20000 in
theorem C_rc_rateOfMode {l : Launch} {G : Gt} {M : Me} {a1 : Int32} {a2 : Int32}  {o : Int32} (h : f_rc_rateOfMode M a1 a2 = some o) : Ct l G (WC G) (rC G) y_rc_rateOfMode b_rc_rateOfMode 3 (some .int) rm_rc_rateOfMode [.ref (G.1 + oRC), .int a1, .int a2] M (some (.int o)) M := by
  refine Ct.mk (own := "RetryChains") rfl (by decide) (Nat.le_of_ble_eq_true rfl) ⟨_, rfl⟩ (fun X hXl hXR hXn ok hG fin => ?_)
  subst hXl
  unfold f_rc_rateOfMode at h
  show Wt X M 0 [(0, .ref (G.1 + oRC)), (1, .int a1), (2, .int a2)] []
  refine r_iload_n (n := 1) rfl ok d_rc_rateOfMode_0 rfl 1 rfl ?_
  obtain ⟨r1, hr1, h⟩ := bd_ok h
  refine r_callS (n := 4) rfl ok hG mf_rc_isMode k_373 k_372 (C_rc_isMode  hr1) ⟨rfl, rfl⟩ (rR hXR ⟨Nat.le_of_ble_eq_true rfl, Nat.le_of_ble_eq_true rfl⟩) rfl rfl (Nat.le_of_ble_eq_true rfl) d_rc_rateOfMode_1 ?_
  refine r_if_eq (tgt := 11) (n := 7) rfl ok d_rc_rateOfMode_4 (by decide) (fun c2 => ?_) (fun c2 => ?_)
  · replace h := if_p c2 h
    refine r_iconst (v := (-1)) (n := 12) rfl ok d_rc_rateOfMode_11 (by decide) ?_
    obtain rfl := Option.some.inj h
    exact fin _ _ ⟨.int, rfl, rfl⟩ d_rc_rateOfMode_12
  · replace h := if_n c2 h
    refine r_iload_n (n := 8) rfl ok d_rc_rateOfMode_7 rfl 2 rfl ?_
    refine r_if_ge (tgt := 13) (n := 11) rfl ok d_rc_rateOfMode_8 (by decide) (fun c3 => ?_) (fun c3 => ?_)
    · replace h := if_p c3 h
      refine r_aload_n (n := 14) rfl ok d_rc_rateOfMode_13 rfl 0 rfl ?_
      refine g_RC_now (n := 17) rfl ok hG  k_349 d_rc_rateOfMode_14 ?_
      refine g_NET_rates (n := 20) rfl ok hG (by decide) k_241 d_rc_rateOfMode_17 ?_
      refine r_iload_n (n := 21) rfl ok d_rc_rateOfMode_20 rfl 1 rfl ?_
      refine r_iload_n (n := 22) rfl ok d_rc_rateOfMode_21 rfl 2 rfl ?_
      obtain ⟨r4, hr4, h⟩ := bd_ok h
      refine r_callV (n := 25) rfl ok hG mf_tb_inOrderOfSpeed k_788 k_789 k_787 (C_tb_inOrderOfSpeed (by decide) hr4) ⟨rfl, rfl⟩ (rR hXR ⟨Nat.le_of_ble_eq_true rfl, Nat.le_of_ble_eq_true rfl⟩) rfl rfl (rv_TAB (by decide)) rfl (Nat.le_of_ble_eq_true rfl) d_rc_rateOfMode_22 ?_
      obtain rfl := Option.some.inj h
      exact fin _ _ ⟨.int, rfl, rfl⟩ d_rc_rateOfMode_25
    · replace h := if_n c3 h
      refine r_iconst (v := (-1)) (n := 12) rfl ok d_rc_rateOfMode_11 (by decide) ?_
      obtain rfl := Option.some.inj h
      exact fin _ _ ⟨.int, rfl, rfl⟩ d_rc_rateOfMode_12
set_option maxHeartbeats 4000000 in
set_option maxRecDepth 20000 in
theorem C_rc_bestOfMode {l : Launch} {G : Gt} {M : Me} {a1 : Int32} {a2 : Int32}  {o : Int32} (h : f_rc_bestOfMode M a1 a2 = some o) : Ct l G (WC G) (rC G) y_rc_bestOfMode b_rc_bestOfMode 4 (some .int) rm_rc_bestOfMode [.ref (G.1 + oRC), .int a1, .int a2] M (some (.int o)) M := by
  refine Ct.mk (own := "RetryChains") rfl (by decide) (Nat.le_of_ble_eq_true rfl) ⟨_, rfl⟩ (fun X hXl hXR hXn ok hG fin => ?_)
  subst hXl
  unfold f_rc_bestOfMode at h
  show Wt X M 0 [(0, .ref (G.1 + oRC)), (1, .int a1), (2, .int a2)] []
  refine r_aload_n (n := 1) rfl ok d_rc_bestOfMode_0 rfl 0 rfl ?_
  refine g_RC_now (n := 4) rfl ok hG  k_349 d_rc_bestOfMode_1 ?_
  refine r_iload_n (n := 5) rfl ok d_rc_bestOfMode_4 rfl 1 rfl ?_
  obtain ⟨r1, hr1, h⟩ := bd_ok h
  refine r_callV (n := 8) rfl ok hG mf_nt_stationAt k_465 k_466 k_464 (C_nt_stationAt (by decide) hr1) ⟨rfl, rfl⟩ (rR hXR ⟨Nat.le_of_ble_eq_true rfl, Nat.le_of_ble_eq_true rfl⟩) rfl rfl (rv_NET (by decide)) rfl (Nat.le_of_ble_eq_true rfl) d_rc_bestOfMode_5 ?_
  rcases er1 : r1 with _ | p2
  · replace h := el_n er1 h
    try rw [er1]
    refine r_astore_nN (lv' := [(3, .null), (0, .ref (G.1 + oRC)), (1, .int a1), (2, .int a2)]) (n := 9) rfl ok d_rc_bestOfMode_8 rfl (lt_n hXn (Nat.le_of_ble_eq_true rfl)) rfl ?_
    refine r_aload_nN (n := 10) rfl ok d_rc_bestOfMode_9 rfl 0 rfl ?_
    refine r_ifnullN (tgt := 20) ok d_rc_bestOfMode_10 (by decide) ?_
    refine r_iconst (v := (-1)) (n := 21) rfl ok d_rc_bestOfMode_20 (by decide) ?_
    obtain rfl := Option.some.inj h
    exact fin _ _ ⟨.int, rfl, rfl⟩ d_rc_bestOfMode_21
  · replace h := el_s er1 h
    try rw [er1]
    have vp2 := v_nt_stationAt (by decide) (hr1.trans (congrArg some er1))
    refine r_astore_n (lv' := [(3, .ref (G.1 + oSTA p2.1 p2.2)), (0, .ref (G.1 + oRC)), (1, .int a1), (2, .int a2)]) (n := 9) rfl ok d_rc_bestOfMode_8 rfl (lt_n hXn (Nat.le_of_ble_eq_true rfl)) rfl ?_
    refine r_aload_n (n := 10) rfl ok d_rc_bestOfMode_9 rfl 0 rfl ?_
    refine r_ifnull (n := 13) rfl ok d_rc_bestOfMode_10 ?_
    refine r_iload_n (n := 14) rfl ok d_rc_bestOfMode_13 rfl 3 rfl ?_
    obtain ⟨r3, hr3, h⟩ := bd_ok h
    refine r_callS (n := 17) rfl ok hG mf_rc_isMode k_373 k_372 (C_rc_isMode  hr3) ⟨rfl, rfl⟩ (rR hXR ⟨Nat.le_of_ble_eq_true rfl, Nat.le_of_ble_eq_true rfl⟩) rfl rfl (Nat.le_of_ble_eq_true rfl) d_rc_bestOfMode_14 ?_
    refine r_if_ne (tgt := 22) (n := 20) rfl ok d_rc_bestOfMode_17 (by decide) (fun c4 => ?_) (fun c4 => ?_)
    · replace h := if_n c4 h
      refine r_aload_n (n := 23) rfl ok d_rc_bestOfMode_22 rfl 0 rfl ?_
      refine r_aload_n (n := 24) rfl ok d_rc_bestOfMode_23 rfl 1 rfl ?_
      refine g_RC_now (n := 27) rfl ok hG  k_349 d_rc_bestOfMode_24 ?_
      refine g_NET_rates (n := 30) rfl ok hG (by decide) k_241 d_rc_bestOfMode_27 ?_
      refine r_iload_n (n := 31) rfl ok d_rc_bestOfMode_30 rfl 3 rfl ?_
      obtain ⟨r5, hr5, h⟩ := bd_ok h
      refine r_callV (n := 34) rfl ok hG mf_st_mostValuableOfMode k_800 k_801 k_799 (C_st_mostValuableOfMode vp2.1 vp2.2 (by decide) hr5) ⟨rfl, rfl⟩ (rR hXR ⟨Nat.le_of_ble_eq_true rfl, Nat.le_of_ble_eq_true rfl⟩) rfl rfl (rv_STA vp2.1 vp2.2) rfl (Nat.le_of_ble_eq_true rfl) d_rc_bestOfMode_31 ?_
      obtain rfl := Option.some.inj h
      exact fin _ _ ⟨.int, rfl, rfl⟩ d_rc_bestOfMode_34
    · replace h := if_p c4 h
      refine r_iconst (v := (-1)) (n := 21) rfl ok d_rc_bestOfMode_20 (by decide) ?_
      obtain rfl := Option.some.inj h
      exact fin _ _ ⟨.int, rfl, rfl⟩ d_rc_bestOfMode_21
set_option maxHeartbeats 4000000 in
set_option maxRecDepth 20000 in
theorem C_rc_mostUsed {l : Launch} {G : Gt} {M : Me} {a1 : Int32}  {o : Int32} (h : f_rc_mostUsed M a1 = some o) : Ct l G (WC G) (rC G) y_rc_mostUsed b_rc_mostUsed 3 (some .int) rm_rc_mostUsed [.ref (G.1 + oRC), .int a1] M (some (.int o)) M := by
  refine Ct.mk (own := "RetryChains") rfl (by decide) (Nat.le_of_ble_eq_true rfl) ⟨_, rfl⟩ (fun X hXl hXR hXn ok hG fin => ?_)
  subst hXl
  unfold f_rc_mostUsed at h
  show Wt X M 0 [(0, .ref (G.1 + oRC)), (1, .int a1)] []
  refine r_aload_n (n := 1) rfl ok d_rc_mostUsed_0 rfl 0 rfl ?_
  refine g_RC_now (n := 4) rfl ok hG  k_349 d_rc_mostUsed_1 ?_
  refine r_iload_n (n := 5) rfl ok d_rc_mostUsed_4 rfl 1 rfl ?_
  obtain ⟨r1, hr1, h⟩ := bd_ok h
  refine r_callV (n := 8) rfl ok hG mf_nt_stationAt k_465 k_466 k_464 (C_nt_stationAt (by decide) hr1) ⟨rfl, rfl⟩ (rR hXR ⟨Nat.le_of_ble_eq_true rfl, Nat.le_of_ble_eq_true rfl⟩) rfl rfl (rv_NET (by decide)) rfl (Nat.le_of_ble_eq_true rfl) d_rc_mostUsed_5 ?_
  rcases er1 : r1 with _ | p2
  · replace h := el_n er1 h
    try rw [er1]
    refine r_astore_nN (lv' := [(2, .null), (0, .ref (G.1 + oRC)), (1, .int a1)]) (n := 9) rfl ok d_rc_mostUsed_8 rfl (lt_n hXn (Nat.le_of_ble_eq_true rfl)) rfl ?_
    refine r_aload_nN (n := 10) rfl ok d_rc_mostUsed_9 rfl 0 rfl ?_
    refine r_ifnonnullN (n := 13) rfl ok d_rc_mostUsed_10 ?_
    refine r_iconst (v := (-1)) (n := 14) rfl ok d_rc_mostUsed_13 (by decide) ?_
    refine r_goto (tgt := 28) ok d_rc_mostUsed_14 (by decide) ?_
    obtain rfl := Option.some.inj h
    exact fin _ _ ⟨.int, rfl, rfl⟩ d_rc_mostUsed_28
  · replace h := el_s er1 h
    try rw [er1]
    have vp2 := v_nt_stationAt (by decide) (hr1.trans (congrArg some er1))
    refine r_astore_n (lv' := [(2, .ref (G.1 + oSTA p2.1 p2.2)), (0, .ref (G.1 + oRC)), (1, .int a1)]) (n := 9) rfl ok d_rc_mostUsed_8 rfl (lt_n hXn (Nat.le_of_ble_eq_true rfl)) rfl ?_
    refine r_aload_n (n := 10) rfl ok d_rc_mostUsed_9 rfl 0 rfl ?_
    refine r_ifnonnull (tgt := 17) ok d_rc_mostUsed_10 (by decide) ?_
    refine r_aload_n (n := 18) rfl ok d_rc_mostUsed_17 rfl 0 rfl ?_
    refine r_aload_n (n := 19) rfl ok d_rc_mostUsed_18 rfl 1 rfl ?_
    refine g_RC_now (n := 22) rfl ok hG  k_349 d_rc_mostUsed_19 ?_
    refine g_NET_rates (n := 25) rfl ok hG (by decide) k_241 d_rc_mostUsed_22 ?_
    obtain ⟨r3, hr3, h⟩ := bd_ok h
    refine r_callV (n := 28) rfl ok hG mf_st_mostTried k_810 k_811 k_809 (C_st_mostTried vp2.1 vp2.2 (by decide) hr3) ⟨rfl, rfl⟩ (rR hXR ⟨Nat.le_of_ble_eq_true rfl, Nat.le_of_ble_eq_true rfl⟩) rfl rfl (rv_STA vp2.1 vp2.2) rfl (Nat.le_of_ble_eq_true rfl) d_rc_mostUsed_25 ?_
    obtain rfl := Option.some.inj h
    exact fin _ _ ⟨.int, rfl, rfl⟩ d_rc_mostUsed_28
set_option maxHeartbeats 4000000 in
set_option maxRecDepth 20000 in
theorem C_rc_bestChain {l : Launch} {G : Gt} {M : Me} {a1 : Int32} {a2 : Int32} {a3 : Int32}  {o : Int32 × Me} (h : f_rc_bestChain M a1 a2 a3 = some o) : Ct l G (WC G) (rC G) y_rc_bestChain b_rc_bestChain 5 (some .int) rm_rc_bestChain [.ref (G.1 + oRC), .int a1, .int a2, .int a3] M (some (.int o.1)) o.2 := by
  refine Ct.mk (own := "RetryChains") rfl (by decide) (Nat.le_of_ble_eq_true rfl) ⟨_, rfl⟩ (fun X hXl hXR hXn ok hG fin => ?_)
  subst hXl
  unfold f_rc_bestChain at h
  show Wt X M 0 [(0, .ref (G.1 + oRC)), (1, .int a1), (2, .int a2), (3, .int a3)] []
  refine r_aload_n (n := 1) rfl ok d_rc_bestChain_0 rfl 0 rfl ?_
  refine g_RC_now (n := 4) rfl ok hG  k_349 d_rc_bestChain_1 ?_
  refine r_iload_n (n := 5) rfl ok d_rc_bestChain_4 rfl 1 rfl ?_
  obtain ⟨r1, hr1, h⟩ := bd_ok h
  refine r_callV (n := 8) rfl ok hG mf_nt_stationAt k_465 k_466 k_464 (C_nt_stationAt (by decide) hr1) ⟨rfl, rfl⟩ (rR hXR ⟨Nat.le_of_ble_eq_true rfl, Nat.le_of_ble_eq_true rfl⟩) rfl rfl (rv_NET (by decide)) rfl (Nat.le_of_ble_eq_true rfl) d_rc_bestChain_5 ?_
  rcases er1 : r1 with _ | p2
  · replace h := el_n er1 h
    try rw [er1]
    refine r_astoreN (lv' := [(4, .null), (0, .ref (G.1 + oRC)), (1, .int a1), (2, .int a2), (3, .int a3)]) (n := 10) rfl ok d_rc_bestChain_8 (lt_n hXn (Nat.le_of_ble_eq_true rfl)) rfl ?_
    refine r_aloadN (n := 12) rfl ok d_rc_bestChain_10 0 rfl ?_
    refine r_ifnullN (tgt := 29) ok d_rc_bestChain_12 (by decide) ?_
    refine r_iconst (v := (-1)) (n := 30) rfl ok d_rc_bestChain_29 (by decide) ?_
    obtain rfl := Option.some.inj h
    exact fin _ _ ⟨.int, rfl, rfl⟩ d_rc_bestChain_30
  · replace h := el_s er1 h
    try rw [er1]
    have vp2 := v_nt_stationAt (by decide) (hr1.trans (congrArg some er1))
    refine r_astore (lv' := [(4, .ref (G.1 + oSTA p2.1 p2.2)), (0, .ref (G.1 + oRC)), (1, .int a1), (2, .int a2), (3, .int a3)]) (n := 10) rfl ok d_rc_bestChain_8 (lt_n hXn (Nat.le_of_ble_eq_true rfl)) rfl ?_
    refine r_aload (n := 12) rfl ok d_rc_bestChain_10 0 rfl ?_
    refine r_ifnull (n := 15) rfl ok d_rc_bestChain_12 ?_
    refine r_iload_n (n := 16) rfl ok d_rc_bestChain_15 rfl 3 rfl ?_
    obtain ⟨r3, hr3, h⟩ := bd_ok h
    refine r_callS (n := 19) rfl ok hG mf_rc_isFrame k_497 k_496 (C_rc_isFrame  hr3) ⟨rfl, rfl⟩ (rR hXR ⟨Nat.le_of_ble_eq_true rfl, Nat.le_of_ble_eq_true rfl⟩) rfl rfl (Nat.le_of_ble_eq_true rfl) d_rc_bestChain_16 ?_
    refine r_if_eq (tgt := 29) (n := 22) rfl ok d_rc_bestChain_19 (by decide) (fun c4 => ?_) (fun c4 => ?_)
    · replace h := if_p c4 h
      refine r_iconst (v := (-1)) (n := 30) rfl ok d_rc_bestChain_29 (by decide) ?_
      obtain rfl := Option.some.inj h
      exact fin _ _ ⟨.int, rfl, rfl⟩ d_rc_bestChain_30
    · replace h := if_n c4 h
      refine r_iload_n (n := 23) rfl ok d_rc_bestChain_22 rfl 4 rfl ?_
      obtain ⟨r5, hr5, h⟩ := bd_ok h
      refine r_callS (n := 26) rfl ok hG mf_rc_isEntry k_710 k_709 (C_rc_isEntry  hr5) ⟨rfl, rfl⟩ (rR hXR ⟨Nat.le_of_ble_eq_true rfl, Nat.le_of_ble_eq_true rfl⟩) rfl rfl (Nat.le_of_ble_eq_true rfl) d_rc_bestChain_23 ?_
      refine r_if_ne (tgt := 31) (n := 29) rfl ok d_rc_bestChain_26 (by decide) (fun c6 => ?_) (fun c6 => ?_)
      · replace h := if_n c6 h
        refine r_aload_n (n := 32) rfl ok d_rc_bestChain_31 rfl 1 rfl ?_
        refine g_RC_search (n := 35) rfl ok hG  k_354 d_rc_bestChain_32 ?_
        refine r_aload_n (n := 36) rfl ok d_rc_bestChain_35 rfl 1 rfl ?_
        refine g_RC_now (n := 39) rfl ok hG  k_349 d_rc_bestChain_36 ?_
        refine r_aload (n := 41) rfl ok d_rc_bestChain_39 0 rfl ?_
        refine r_iload_n (n := 42) rfl ok d_rc_bestChain_41 rfl 3 rfl ?_
        obtain ⟨r7, hr7, h⟩ := bd_ok h
        refine r_callV (n := 45) rfl ok hG mf_se_prepare k_818 k_819 k_817 (C_se_prepare (by decide) vp2.1 vp2.2 hr7) ⟨rfl, rfl⟩ (rR hXR ⟨Nat.le_of_ble_eq_true rfl, Nat.le_of_ble_eq_true rfl⟩) rfl rfl (rv_SEA) rfl (Nat.le_of_ble_eq_true rfl) d_rc_bestChain_42 ?_
        refine r_aload_n (n := 46) rfl ok d_rc_bestChain_45 rfl 1 rfl ?_
        refine g_RC_search (n := 49) rfl ok hG  k_354 d_rc_bestChain_46 ?_
        refine g_SEA_count (n := 52) rfl ok hG  k_313 d_rc_bestChain_49 ?_
        refine r_if_ne (tgt := 58) (n := 55) rfl ok d_rc_bestChain_52 (by decide) (fun c8 => ?_) (fun c8 => ?_)
        · replace h := if_n c8 h
          refine r_aload_n (n := 59) rfl ok d_rc_bestChain_58 rfl 1 rfl ?_
          refine g_RC_search (n := 62) rfl ok hG  k_354 d_rc_bestChain_59 ?_
          obtain ⟨r9, hr9, h⟩ := bd_ok h
          refine r_callV (n := 65) rfl ok hG mf_se_explore k_826 k_827 k_825 (C_se_explore  hr9) ⟨rfl, rfl⟩ (rR hXR ⟨Nat.le_of_ble_eq_true rfl, Nat.le_of_ble_eq_true rfl⟩) rfl rfl (rv_SEA) rfl (Nat.le_of_ble_eq_true rfl) d_rc_bestChain_62 ?_
          refine r_aload_n (n := 66) rfl ok d_rc_bestChain_65 rfl 1 rfl ?_
          refine g_RC_search (n := 69) rfl ok hG  k_354 d_rc_bestChain_66 ?_
          refine g_SEA_best (n := 72) rfl ok hG  k_322 d_rc_bestChain_69 ?_
          refine r_iload_n (n := 73) rfl ok d_rc_bestChain_72 rfl 4 rfl ?_
          obtain ⟨g10, h⟩ := gd_ok h
          refine al_SBEST (n := 74) rfl ok hG  g10 d_rc_bestChain_73 ?_
          obtain rfl := Option.some.inj h
          exact fin _ _ ⟨.int, rfl, rfl⟩ d_rc_bestChain_74
        · replace h := if_p c8 h
          refine r_bipush (v := (-9)) (n := 57) rfl ok d_rc_bestChain_55 (by decide) ?_
          obtain rfl := Option.some.inj h
          exact fin _ _ ⟨.int, rfl, rfl⟩ d_rc_bestChain_57
      · replace h := if_p c6 h
        refine r_iconst (v := (-1)) (n := 30) rfl ok d_rc_bestChain_29 (by decide) ?_
        obtain rfl := Option.some.inj h
        exact fin _ _ ⟨.int, rfl, rfl⟩ d_rc_bestChain_30
set_option maxHeartbeats 4000000 in
set_option maxRecDepth 20000 in
theorem C_rc_chains {l : Launch} {G : Gt} {M : Me} {a1 : Int32}  {o : Int32} (h : f_rc_chains M a1 = some o) : Ct l G (WC G) (rC G) y_rc_chains b_rc_chains 3 (some .int) rm_rc_chains [.ref (G.1 + oRC), .int a1] M (some (.int o)) M := by
  refine Ct.mk (own := "RetryChains") rfl (by decide) (Nat.le_of_ble_eq_true rfl) ⟨_, rfl⟩ (fun X hXl hXR hXn ok hG fin => ?_)
  subst hXl
  unfold f_rc_chains at h
  show Wt X M 0 [(0, .ref (G.1 + oRC)), (1, .int a1)] []
  refine r_aload_n (n := 1) rfl ok d_rc_chains_0 rfl 0 rfl ?_
  refine g_RC_now (n := 4) rfl ok hG  k_349 d_rc_chains_1 ?_
  refine r_iload_n (n := 5) rfl ok d_rc_chains_4 rfl 1 rfl ?_
  obtain ⟨r1, hr1, h⟩ := bd_ok h
  refine r_callV (n := 8) rfl ok hG mf_nt_stationAt k_465 k_466 k_464 (C_nt_stationAt (by decide) hr1) ⟨rfl, rfl⟩ (rR hXR ⟨Nat.le_of_ble_eq_true rfl, Nat.le_of_ble_eq_true rfl⟩) rfl rfl (rv_NET (by decide)) rfl (Nat.le_of_ble_eq_true rfl) d_rc_chains_5 ?_
  rcases er1 : r1 with _ | p2
  · replace h := el_n er1 h
    try rw [er1]
    refine r_astore_nN (lv' := [(2, .null), (0, .ref (G.1 + oRC)), (1, .int a1)]) (n := 9) rfl ok d_rc_chains_8 rfl (lt_n hXn (Nat.le_of_ble_eq_true rfl)) rfl ?_
    refine r_aload_nN (n := 10) rfl ok d_rc_chains_9 rfl 0 rfl ?_
    refine r_ifnonnullN (n := 13) rfl ok d_rc_chains_10 ?_
    refine r_iconst (v := (-1)) (n := 14) rfl ok d_rc_chains_13 (by decide) ?_
    refine r_goto (tgt := 21) ok d_rc_chains_14 (by decide) ?_
    obtain rfl := Option.some.inj h
    exact fin _ _ ⟨.int, rfl, rfl⟩ d_rc_chains_21
  · replace h := el_s er1 h
    try rw [er1]
    have vp2 := v_nt_stationAt (by decide) (hr1.trans (congrArg some er1))
    refine r_astore_n (lv' := [(2, .ref (G.1 + oSTA p2.1 p2.2)), (0, .ref (G.1 + oRC)), (1, .int a1)]) (n := 9) rfl ok d_rc_chains_8 rfl (lt_n hXn (Nat.le_of_ble_eq_true rfl)) rfl ?_
    refine r_aload_n (n := 10) rfl ok d_rc_chains_9 rfl 0 rfl ?_
    refine r_ifnonnull (tgt := 17) ok d_rc_chains_10 (by decide) ?_
    refine r_aload_n (n := 18) rfl ok d_rc_chains_17 rfl 0 rfl ?_
    refine g_STA_chains (n := 21) rfl ok hG vp2.1 vp2.2 k_145 d_rc_chains_18 ?_
    obtain rfl := Option.some.inj h
    exact fin _ _ ⟨.int, rfl, rfl⟩ d_rc_chains_21
set_option maxHeartbeats 4000000 in
set_option maxRecDepth 20000 in
theorem C_rc_sampled {l : Launch} {G : Gt} {M : Me} {a1 : Int32}  {o : Int32} (h : f_rc_sampled M a1 = some o) : Ct l G (WC G) (rC G) y_rc_sampled b_rc_sampled 3 (some .int) rm_rc_sampled [.ref (G.1 + oRC), .int a1] M (some (.int o)) M := by
  refine Ct.mk (own := "RetryChains") rfl (by decide) (Nat.le_of_ble_eq_true rfl) ⟨_, rfl⟩ (fun X hXl hXR hXn ok hG fin => ?_)
  subst hXl
  unfold f_rc_sampled at h
  show Wt X M 0 [(0, .ref (G.1 + oRC)), (1, .int a1)] []
  refine r_aload_n (n := 1) rfl ok d_rc_sampled_0 rfl 0 rfl ?_
  refine g_RC_now (n := 4) rfl ok hG  k_349 d_rc_sampled_1 ?_
  refine r_iload_n (n := 5) rfl ok d_rc_sampled_4 rfl 1 rfl ?_
  obtain ⟨r1, hr1, h⟩ := bd_ok h
  refine r_callV (n := 8) rfl ok hG mf_nt_stationAt k_465 k_466 k_464 (C_nt_stationAt (by decide) hr1) ⟨rfl, rfl⟩ (rR hXR ⟨Nat.le_of_ble_eq_true rfl, Nat.le_of_ble_eq_true rfl⟩) rfl rfl (rv_NET (by decide)) rfl (Nat.le_of_ble_eq_true rfl) d_rc_sampled_5 ?_
  rcases er1 : r1 with _ | p2
  · replace h := el_n er1 h
    try rw [er1]
    refine r_astore_nN (lv' := [(2, .null), (0, .ref (G.1 + oRC)), (1, .int a1)]) (n := 9) rfl ok d_rc_sampled_8 rfl (lt_n hXn (Nat.le_of_ble_eq_true rfl)) rfl ?_
    refine r_aload_nN (n := 10) rfl ok d_rc_sampled_9 rfl 0 rfl ?_
    refine r_ifnonnullN (n := 13) rfl ok d_rc_sampled_10 ?_
    refine r_iconst (v := (-1)) (n := 14) rfl ok d_rc_sampled_13 (by decide) ?_
    refine r_goto (tgt := 21) ok d_rc_sampled_14 (by decide) ?_
    obtain rfl := Option.some.inj h
    exact fin _ _ ⟨.int, rfl, rfl⟩ d_rc_sampled_21
  · replace h := el_s er1 h
    try rw [er1]
    have vp2 := v_nt_stationAt (by decide) (hr1.trans (congrArg some er1))
    refine r_astore_n (lv' := [(2, .ref (G.1 + oSTA p2.1 p2.2)), (0, .ref (G.1 + oRC)), (1, .int a1)]) (n := 9) rfl ok d_rc_sampled_8 rfl (lt_n hXn (Nat.le_of_ble_eq_true rfl)) rfl ?_
    refine r_aload_n (n := 10) rfl ok d_rc_sampled_9 rfl 0 rfl ?_
    refine r_ifnonnull (tgt := 17) ok d_rc_sampled_10 (by decide) ?_
    refine r_aload_n (n := 18) rfl ok d_rc_sampled_17 rfl 0 rfl ?_
    refine g_STA_sampled (n := 21) rfl ok hG vp2.1 vp2.2 k_148 d_rc_sampled_18 ?_
    obtain rfl := Option.some.inj h
    exact fin _ _ ⟨.int, rfl, rfl⟩ d_rc_sampled_21
set_option maxHeartbeats 4000000 in
set_option maxRecDepth 20000 in
theorem C_rc_delivered {l : Launch} {G : Gt} {M : Me} {a1 : Int32}  {o : Int32} (h : f_rc_delivered M a1 = some o) : Ct l G (WC G) (rC G) y_rc_delivered b_rc_delivered 3 (some .int) rm_rc_delivered [.ref (G.1 + oRC), .int a1] M (some (.int o)) M := by
  refine Ct.mk (own := "RetryChains") rfl (by decide) (Nat.le_of_ble_eq_true rfl) ⟨_, rfl⟩ (fun X hXl hXR hXn ok hG fin => ?_)
  subst hXl
  unfold f_rc_delivered at h
  show Wt X M 0 [(0, .ref (G.1 + oRC)), (1, .int a1)] []
  refine r_aload_n (n := 1) rfl ok d_rc_delivered_0 rfl 0 rfl ?_
  refine g_RC_now (n := 4) rfl ok hG  k_349 d_rc_delivered_1 ?_
  refine r_iload_n (n := 5) rfl ok d_rc_delivered_4 rfl 1 rfl ?_
  obtain ⟨r1, hr1, h⟩ := bd_ok h
  refine r_callV (n := 8) rfl ok hG mf_nt_stationAt k_465 k_466 k_464 (C_nt_stationAt (by decide) hr1) ⟨rfl, rfl⟩ (rR hXR ⟨Nat.le_of_ble_eq_true rfl, Nat.le_of_ble_eq_true rfl⟩) rfl rfl (rv_NET (by decide)) rfl (Nat.le_of_ble_eq_true rfl) d_rc_delivered_5 ?_
  rcases er1 : r1 with _ | p2
  · replace h := el_n er1 h
    try rw [er1]
    refine r_astore_nN (lv' := [(2, .null), (0, .ref (G.1 + oRC)), (1, .int a1)]) (n := 9) rfl ok d_rc_delivered_8 rfl (lt_n hXn (Nat.le_of_ble_eq_true rfl)) rfl ?_
    refine r_aload_nN (n := 10) rfl ok d_rc_delivered_9 rfl 0 rfl ?_
    refine r_ifnonnullN (n := 13) rfl ok d_rc_delivered_10 ?_
    refine r_iconst (v := (-1)) (n := 14) rfl ok d_rc_delivered_13 (by decide) ?_
    refine r_goto (tgt := 21) ok d_rc_delivered_14 (by decide) ?_
    obtain rfl := Option.some.inj h
    exact fin _ _ ⟨.int, rfl, rfl⟩ d_rc_delivered_21
  · replace h := el_s er1 h
    try rw [er1]
    have vp2 := v_nt_stationAt (by decide) (hr1.trans (congrArg some er1))
    refine r_astore_n (lv' := [(2, .ref (G.1 + oSTA p2.1 p2.2)), (0, .ref (G.1 + oRC)), (1, .int a1)]) (n := 9) rfl ok d_rc_delivered_8 rfl (lt_n hXn (Nat.le_of_ble_eq_true rfl)) rfl ?_
    refine r_aload_n (n := 10) rfl ok d_rc_delivered_9 rfl 0 rfl ?_
    refine r_ifnonnull (tgt := 17) ok d_rc_delivered_10 (by decide) ?_
    refine r_aload_n (n := 18) rfl ok d_rc_delivered_17 rfl 0 rfl ?_
    refine g_STA_delivered (n := 21) rfl ok hG vp2.1 vp2.2 k_151 d_rc_delivered_18 ?_
    obtain rfl := Option.some.inj h
    exact fin _ _ ⟨.int, rfl, rfl⟩ d_rc_delivered_21
set_option maxHeartbeats 4000000 in
set_option maxRecDepth 20000 in
theorem C_rc_lost {l : Launch} {G : Gt} {M : Me} {a1 : Int32}  {o : Int32} (h : f_rc_lost M a1 = some o) : Ct l G (WC G) (rC G) y_rc_lost b_rc_lost 3 (some .int) rm_rc_lost [.ref (G.1 + oRC), .int a1] M (some (.int o)) M := by
  refine Ct.mk (own := "RetryChains") rfl (by decide) (Nat.le_of_ble_eq_true rfl) ⟨_, rfl⟩ (fun X hXl hXR hXn ok hG fin => ?_)
  subst hXl
  unfold f_rc_lost at h
  show Wt X M 0 [(0, .ref (G.1 + oRC)), (1, .int a1)] []
  refine r_aload_n (n := 1) rfl ok d_rc_lost_0 rfl 0 rfl ?_
  refine g_RC_now (n := 4) rfl ok hG  k_349 d_rc_lost_1 ?_
  refine r_iload_n (n := 5) rfl ok d_rc_lost_4 rfl 1 rfl ?_
  obtain ⟨r1, hr1, h⟩ := bd_ok h
  refine r_callV (n := 8) rfl ok hG mf_nt_stationAt k_465 k_466 k_464 (C_nt_stationAt (by decide) hr1) ⟨rfl, rfl⟩ (rR hXR ⟨Nat.le_of_ble_eq_true rfl, Nat.le_of_ble_eq_true rfl⟩) rfl rfl (rv_NET (by decide)) rfl (Nat.le_of_ble_eq_true rfl) d_rc_lost_5 ?_
  rcases er1 : r1 with _ | p2
  · replace h := el_n er1 h
    try rw [er1]
    refine r_astore_nN (lv' := [(2, .null), (0, .ref (G.1 + oRC)), (1, .int a1)]) (n := 9) rfl ok d_rc_lost_8 rfl (lt_n hXn (Nat.le_of_ble_eq_true rfl)) rfl ?_
    refine r_aload_nN (n := 10) rfl ok d_rc_lost_9 rfl 0 rfl ?_
    refine r_ifnonnullN (n := 13) rfl ok d_rc_lost_10 ?_
    refine r_iconst (v := (-1)) (n := 14) rfl ok d_rc_lost_13 (by decide) ?_
    refine r_goto (tgt := 21) ok d_rc_lost_14 (by decide) ?_
    obtain rfl := Option.some.inj h
    exact fin _ _ ⟨.int, rfl, rfl⟩ d_rc_lost_21
  · replace h := el_s er1 h
    try rw [er1]
    have vp2 := v_nt_stationAt (by decide) (hr1.trans (congrArg some er1))
    refine r_astore_n (lv' := [(2, .ref (G.1 + oSTA p2.1 p2.2)), (0, .ref (G.1 + oRC)), (1, .int a1)]) (n := 9) rfl ok d_rc_lost_8 rfl (lt_n hXn (Nat.le_of_ble_eq_true rfl)) rfl ?_
    refine r_aload_n (n := 10) rfl ok d_rc_lost_9 rfl 0 rfl ?_
    refine r_ifnonnull (tgt := 17) ok d_rc_lost_10 (by decide) ?_
    refine r_aload_n (n := 18) rfl ok d_rc_lost_17 rfl 0 rfl ?_
    refine g_STA_lost (n := 21) rfl ok hG vp2.1 vp2.2 k_154 d_rc_lost_18 ?_
    obtain rfl := Option.some.inj h
    exact fin _ _ ⟨.int, rfl, rfl⟩ d_rc_lost_21
set_option maxHeartbeats 4000000 in
set_option maxRecDepth 20000 in
theorem C_rc_queued {l : Launch} {G : Gt} {M : Me} {a1 : Int32}  {o : Int32} (h : f_rc_queued M a1 = some o) : Ct l G (WC G) (rC G) y_rc_queued b_rc_queued 3 (some .int) rm_rc_queued [.ref (G.1 + oRC), .int a1] M (some (.int o)) M := by
  refine Ct.mk (own := "RetryChains") rfl (by decide) (Nat.le_of_ble_eq_true rfl) ⟨_, rfl⟩ (fun X hXl hXR hXn ok hG fin => ?_)
  subst hXl
  unfold f_rc_queued at h
  show Wt X M 0 [(0, .ref (G.1 + oRC)), (1, .int a1)] []
  refine r_aload_n (n := 1) rfl ok d_rc_queued_0 rfl 0 rfl ?_
  refine g_RC_now (n := 4) rfl ok hG  k_349 d_rc_queued_1 ?_
  refine r_iload_n (n := 5) rfl ok d_rc_queued_4 rfl 1 rfl ?_
  obtain ⟨r1, hr1, h⟩ := bd_ok h
  refine r_callV (n := 8) rfl ok hG mf_nt_stationAt k_465 k_466 k_464 (C_nt_stationAt (by decide) hr1) ⟨rfl, rfl⟩ (rR hXR ⟨Nat.le_of_ble_eq_true rfl, Nat.le_of_ble_eq_true rfl⟩) rfl rfl (rv_NET (by decide)) rfl (Nat.le_of_ble_eq_true rfl) d_rc_queued_5 ?_
  rcases er1 : r1 with _ | p2
  · replace h := el_n er1 h
    try rw [er1]
    refine r_astore_nN (lv' := [(2, .null), (0, .ref (G.1 + oRC)), (1, .int a1)]) (n := 9) rfl ok d_rc_queued_8 rfl (lt_n hXn (Nat.le_of_ble_eq_true rfl)) rfl ?_
    refine r_aload_nN (n := 10) rfl ok d_rc_queued_9 rfl 0 rfl ?_
    refine r_ifnonnullN (n := 13) rfl ok d_rc_queued_10 ?_
    refine r_iconst (v := (-1)) (n := 14) rfl ok d_rc_queued_13 (by decide) ?_
    refine r_goto (tgt := 21) ok d_rc_queued_14 (by decide) ?_
    obtain rfl := Option.some.inj h
    exact fin _ _ ⟨.int, rfl, rfl⟩ d_rc_queued_21
  · replace h := el_s er1 h
    try rw [er1]
    have vp2 := v_nt_stationAt (by decide) (hr1.trans (congrArg some er1))
    refine r_astore_n (lv' := [(2, .ref (G.1 + oSTA p2.1 p2.2)), (0, .ref (G.1 + oRC)), (1, .int a1)]) (n := 9) rfl ok d_rc_queued_8 rfl (lt_n hXn (Nat.le_of_ble_eq_true rfl)) rfl ?_
    refine r_aload_n (n := 10) rfl ok d_rc_queued_9 rfl 0 rfl ?_
    refine r_ifnonnull (tgt := 17) ok d_rc_queued_10 (by decide) ?_
    refine r_aload_n (n := 18) rfl ok d_rc_queued_17 rfl 0 rfl ?_
    refine g_STA_queueLength (n := 21) rfl ok hG vp2.1 vp2.2 k_142 d_rc_queued_18 ?_
    obtain rfl := Option.some.inj h
    exact fin _ _ ⟨.int, rfl, rfl⟩ d_rc_queued_21
set_option maxHeartbeats 4000000 in
set_option maxRecDepth 20000 in
theorem C_rc_deficit {l : Launch} {G : Gt} {M : Me} {a1 : Int32}  {o : Int32} (h : f_rc_deficit M a1 = some o) : Ct l G (WC G) (rC G) y_rc_deficit b_rc_deficit 3 (some .int) rm_rc_deficit [.ref (G.1 + oRC), .int a1] M (some (.int o)) M := by
  refine Ct.mk (own := "RetryChains") rfl (by decide) (Nat.le_of_ble_eq_true rfl) ⟨_, rfl⟩ (fun X hXl hXR hXn ok hG fin => ?_)
  subst hXl
  unfold f_rc_deficit at h
  show Wt X M 0 [(0, .ref (G.1 + oRC)), (1, .int a1)] []
  refine r_aload_n (n := 1) rfl ok d_rc_deficit_0 rfl 0 rfl ?_
  refine g_RC_now (n := 4) rfl ok hG  k_349 d_rc_deficit_1 ?_
  refine r_iload_n (n := 5) rfl ok d_rc_deficit_4 rfl 1 rfl ?_
  obtain ⟨r1, hr1, h⟩ := bd_ok h
  refine r_callV (n := 8) rfl ok hG mf_nt_stationAt k_465 k_466 k_464 (C_nt_stationAt (by decide) hr1) ⟨rfl, rfl⟩ (rR hXR ⟨Nat.le_of_ble_eq_true rfl, Nat.le_of_ble_eq_true rfl⟩) rfl rfl (rv_NET (by decide)) rfl (Nat.le_of_ble_eq_true rfl) d_rc_deficit_5 ?_
  rcases er1 : r1 with _ | p2
  · replace h := el_n er1 h
    try rw [er1]
    refine r_astore_nN (lv' := [(2, .null), (0, .ref (G.1 + oRC)), (1, .int a1)]) (n := 9) rfl ok d_rc_deficit_8 rfl (lt_n hXn (Nat.le_of_ble_eq_true rfl)) rfl ?_
    refine r_aload_nN (n := 10) rfl ok d_rc_deficit_9 rfl 0 rfl ?_
    refine r_ifnonnullN (n := 13) rfl ok d_rc_deficit_10 ?_
    refine r_ldcw (n := 16) rfl ok d_rc_deficit_13 k_864 ?_
    refine r_goto (tgt := 23) ok d_rc_deficit_16 (by decide) ?_
    obtain rfl := Option.some.inj h
    exact fin _ _ ⟨.int, rfl, rfl⟩ d_rc_deficit_23
  · replace h := el_s er1 h
    try rw [er1]
    have vp2 := v_nt_stationAt (by decide) (hr1.trans (congrArg some er1))
    refine r_astore_n (lv' := [(2, .ref (G.1 + oSTA p2.1 p2.2)), (0, .ref (G.1 + oRC)), (1, .int a1)]) (n := 9) rfl ok d_rc_deficit_8 rfl (lt_n hXn (Nat.le_of_ble_eq_true rfl)) rfl ?_
    refine r_aload_n (n := 10) rfl ok d_rc_deficit_9 rfl 0 rfl ?_
    refine r_ifnonnull (tgt := 19) ok d_rc_deficit_10 (by decide) ?_
    refine r_aload_n (n := 20) rfl ok d_rc_deficit_19 rfl 0 rfl ?_
    refine g_STA_deficit (n := 23) rfl ok hG vp2.1 vp2.2 k_162 d_rc_deficit_20 ?_
    obtain rfl := Option.some.inj h
    exact fin _ _ ⟨.int, rfl, rfl⟩ d_rc_deficit_23
set_option maxHeartbeats 4000000 in
set_option maxRecDepth 20000 in
theorem C_rc_inFallback {l : Launch} {G : Gt} {M : Me} {a1 : Int32}  {o : Int32} (h : f_rc_inFallback M a1 = some o) : Ct l G (WC G) (rC G) y_rc_inFallback b_rc_inFallback 3 (some .int) rm_rc_inFallback [.ref (G.1 + oRC), .int a1] M (some (.int o)) M := by
  refine Ct.mk (own := "RetryChains") rfl (by decide) (Nat.le_of_ble_eq_true rfl) ⟨_, rfl⟩ (fun X hXl hXR hXn ok hG fin => ?_)
  subst hXl
  unfold f_rc_inFallback at h
  show Wt X M 0 [(0, .ref (G.1 + oRC)), (1, .int a1)] []
  refine r_aload_n (n := 1) rfl ok d_rc_inFallback_0 rfl 0 rfl ?_
  refine g_RC_now (n := 4) rfl ok hG  k_349 d_rc_inFallback_1 ?_
  refine r_iload_n (n := 5) rfl ok d_rc_inFallback_4 rfl 1 rfl ?_
  obtain ⟨r1, hr1, h⟩ := bd_ok h
  refine r_callV (n := 8) rfl ok hG mf_nt_stationAt k_465 k_466 k_464 (C_nt_stationAt (by decide) hr1) ⟨rfl, rfl⟩ (rR hXR ⟨Nat.le_of_ble_eq_true rfl, Nat.le_of_ble_eq_true rfl⟩) rfl rfl (rv_NET (by decide)) rfl (Nat.le_of_ble_eq_true rfl) d_rc_inFallback_5 ?_
  rcases er1 : r1 with _ | p2
  · replace h := el_n er1 h
    try rw [er1]
    refine r_astore_nN (lv' := [(2, .null), (0, .ref (G.1 + oRC)), (1, .int a1)]) (n := 9) rfl ok d_rc_inFallback_8 rfl (lt_n hXn (Nat.le_of_ble_eq_true rfl)) rfl ?_
    refine r_aload_nN (n := 10) rfl ok d_rc_inFallback_9 rfl 0 rfl ?_
    refine r_ifnonnullN (n := 13) rfl ok d_rc_inFallback_10 ?_
    refine r_iconst (v := (-1)) (n := 14) rfl ok d_rc_inFallback_13 (by decide) ?_
    obtain rfl := Option.some.inj h
    exact fin _ _ ⟨.int, rfl, rfl⟩ d_rc_inFallback_14
  · replace h := el_s er1 h
    try rw [er1]
    have vp2 := v_nt_stationAt (by decide) (hr1.trans (congrArg some er1))
    refine r_astore_n (lv' := [(2, .ref (G.1 + oSTA p2.1 p2.2)), (0, .ref (G.1 + oRC)), (1, .int a1)]) (n := 9) rfl ok d_rc_inFallback_8 rfl (lt_n hXn (Nat.le_of_ble_eq_true rfl)) rfl ?_
    refine r_aload_n (n := 10) rfl ok d_rc_inFallback_9 rfl 0 rfl ?_
    refine r_ifnonnull (tgt := 15) ok d_rc_inFallback_10 (by decide) ?_
    refine r_aload_n (n := 16) rfl ok d_rc_inFallback_15 rfl 0 rfl ?_
    refine g_STA_inFallback (n := 19) rfl ok hG vp2.1 vp2.2 k_159 d_rc_inFallback_16 ?_
    refine r_if_eq (tgt := 26) (n := 22) rfl ok d_rc_inFallback_19 (by decide) (fun c3 => ?_) (fun c3 => ?_)
    · replace h := if_p c3 h
      refine r_iconst (v := 0) (n := 27) rfl ok d_rc_inFallback_26 (by decide) ?_
      obtain rfl := Option.some.inj h
      exact fin _ _ ⟨.int, rfl, rfl⟩ d_rc_inFallback_27
    · replace h := if_n c3 h
      refine r_iconst (v := 1) (n := 23) rfl ok d_rc_inFallback_22 (by decide) ?_
      refine r_goto (tgt := 27) ok d_rc_inFallback_23 (by decide) ?_
      obtain rfl := Option.some.inj h
      exact fin _ _ ⟨.int, rfl, rfl⟩ d_rc_inFallback_27
set_option maxHeartbeats 4000000 in
set_option maxRecDepth 20000 in
theorem C_rc_time {l : Launch} {G : Gt} {M : Me}   {o : Int32} (h : f_rc_time M = some o) : Ct l G (WC G) (rC G) y_rc_time b_rc_time 1 (some .int) rm_rc_time [.ref (G.1 + oRC)] M (some (.int o)) M := by
  refine Ct.mk (own := "RetryChains") rfl (by decide) (Nat.le_of_ble_eq_true rfl) ⟨_, rfl⟩ (fun X hXl hXR hXn ok hG fin => ?_)
  subst hXl
  unfold f_rc_time at h
  show Wt X M 0 [(0, .ref (G.1 + oRC))] []
  refine r_aload_n (n := 1) rfl ok d_rc_time_0 rfl 0 rfl ?_
  refine g_RC_now (n := 4) rfl ok hG  k_349 d_rc_time_1 ?_
  refine g_NET_time (n := 7) rfl ok hG (by decide) k_250 d_rc_time_4 ?_
  obtain rfl := Option.some.inj h
  exact fin _ _ ⟨.int, rfl, rfl⟩ d_rc_time_7
set_option maxHeartbeats 4000000 in
set_option maxRecDepth 20000 in
theorem C_rc_setQuality {l : Launch} {G : Gt} {M : Me} {a1 : Int32} {a2 : Int32} {a3 : Int32}  {o : Int32 × Me} (h : f_rc_setQuality M a1 a2 a3 = some o) : Ct l G (WC G) (rC G) y_rc_setQuality b_rc_setQuality 6 (some .int) rm_rc_setQuality [.ref (G.1 + oRC), .int a1, .int a2, .int a3] M (some (.int o.1)) o.2 := by
  refine Ct.mk (own := "RetryChains") rfl (by decide) (Nat.le_of_ble_eq_true rfl) ⟨_, rfl⟩ (fun X hXl hXR hXn ok hG fin => ?_)
  subst hXl
  unfold f_rc_setQuality at h
  show Wt X M 0 [(0, .ref (G.1 + oRC)), (1, .int a1), (2, .int a2), (3, .int a3)] []
  refine r_aload_n (n := 1) rfl ok d_rc_setQuality_0 rfl 0 rfl ?_
  refine g_RC_now (n := 4) rfl ok hG  k_349 d_rc_setQuality_1 ?_
  refine r_iload_n (n := 5) rfl ok d_rc_setQuality_4 rfl 1 rfl ?_
  refine r_iload_n (n := 6) rfl ok d_rc_setQuality_5 rfl 2 rfl ?_
  obtain ⟨r1, hr1, h⟩ := bd_ok h
  refine r_callV (n := 9) rfl ok hG mf_nt_linkAt k_469 k_470 k_468 (C_nt_linkAt (by decide) hr1) ⟨rfl, rfl⟩ (rR hXR ⟨Nat.le_of_ble_eq_true rfl, Nat.le_of_ble_eq_true rfl⟩) rfl rfl (rv_NET (by decide)) rfl (Nat.le_of_ble_eq_true rfl) d_rc_setQuality_6 ?_
  rcases er1 : r1 with _ | p2
  · replace h := el_n er1 h
    try rw [er1]
    refine r_astoreN (lv' := [(4, .null), (0, .ref (G.1 + oRC)), (1, .int a1), (2, .int a2), (3, .int a3)]) (n := 11) rfl ok d_rc_setQuality_9 (lt_n hXn (Nat.le_of_ble_eq_true rfl)) rfl ?_
    refine r_aloadN (n := 13) rfl ok d_rc_setQuality_11 0 rfl ?_
    refine r_ifnullN (tgt := 27) ok d_rc_setQuality_13 (by decide) ?_
    refine r_iconst (v := (-1)) (n := 28) rfl ok d_rc_setQuality_27 (by decide) ?_
    obtain rfl := Option.some.inj h
    exact fin _ _ ⟨.int, rfl, rfl⟩ d_rc_setQuality_28
  · replace h := el_s er1 h
    try rw [er1]
    have vp2 := v_nt_linkAt (by decide) (hr1.trans (congrArg some er1))
    refine r_astore (lv' := [(4, .ref (G.1 + oLNK p2.1 p2.2.1 p2.2.2)), (0, .ref (G.1 + oRC)), (1, .int a1), (2, .int a2), (3, .int a3)]) (n := 11) rfl ok d_rc_setQuality_9 (lt_n hXn (Nat.le_of_ble_eq_true rfl)) rfl ?_
    refine r_aload (n := 13) rfl ok d_rc_setQuality_11 0 rfl ?_
    refine r_ifnull (n := 16) rfl ok d_rc_setQuality_13 ?_
    refine r_iload_n (n := 17) rfl ok d_rc_setQuality_16 rfl 4 rfl ?_
    refine r_if_lt (tgt := 27) (n := 20) rfl ok d_rc_setQuality_17 (by decide) (fun c3 => ?_) (fun c3 => ?_)
    · replace h := if_p c3 h
      refine r_iconst (v := (-1)) (n := 28) rfl ok d_rc_setQuality_27 (by decide) ?_
      obtain rfl := Option.some.inj h
      exact fin _ _ ⟨.int, rfl, rfl⟩ d_rc_setQuality_28
    · replace h := if_n c3 h
      refine r_iload_n (n := 21) rfl ok d_rc_setQuality_20 rfl 4 rfl ?_
      refine r_sipush (v := 1000) (n := 24) rfl ok d_rc_setQuality_21 (by decide) ?_
      refine r_icmp_le (tgt := 29) (n := 27) rfl ok d_rc_setQuality_24 (by decide) (fun c4 => ?_) (fun c4 => ?_)
      · replace h := if_p c4 h
        refine r_aload_n (n := 30) rfl ok d_rc_setQuality_29 rfl 1 rfl ?_
        refine g_RC_history (n := 33) rfl ok hG  k_353 d_rc_setQuality_30 ?_
        refine r_aload_n (n := 34) rfl ok d_rc_setQuality_33 rfl 1 rfl ?_
        refine g_RC_now (n := 37) rfl ok hG  k_349 d_rc_setQuality_34 ?_
        obtain ⟨r5, hr5, h⟩ := bd_ok h
        refine r_callV (n := 40) rfl ok hG mf_hi_keep k_376 k_377 k_375 (C_hi_keep (by decide) hr5) ⟨rfl, rfl⟩ (rR hXR ⟨Nat.le_of_ble_eq_true rfl, Nat.le_of_ble_eq_true rfl⟩) rfl rfl (rv_HIS) rfl (Nat.le_of_ble_eq_true rfl) d_rc_setQuality_37 ?_
        refine r_aload (n := 42) rfl ok d_rc_setQuality_40 0 rfl ?_
        refine g_LNK_quality (n := 45) rfl ok hG vp2.1 vp2.2.1 vp2.2.2 k_109 d_rc_setQuality_42 ?_
        refine r_istore (lv' := [(5, .int (r5.1 27 p2.1 p2.2.1 p2.2.2)), (4, .ref (G.1 + oLNK p2.1 p2.2.1 p2.2.2)), (0, .ref (G.1 + oRC)), (1, .int a1), (2, .int a2), (3, .int a3)]) (n := 47) rfl ok d_rc_setQuality_45 (lt_n hXn (Nat.le_of_ble_eq_true rfl)) rfl ?_
        refine r_aload (n := 49) rfl ok d_rc_setQuality_47 1 rfl ?_
        refine r_iload_n (n := 50) rfl ok d_rc_setQuality_49 rfl 5 rfl ?_
        obtain ⟨M6, eM6, h⟩ := bd_ok h
        refine p_LNK_quality (n := 53) rfl ok hG vp2.1 vp2.2.1 vp2.2.2 k_109 d_rc_setQuality_50 ?_
        refine r_mem (Option.some.inj eM6) ?_
        refine r_iload (n := 55) rfl ok d_rc_setQuality_53 0 rfl ?_
        obtain rfl := Option.some.inj h
        exact fin _ _ ⟨.int, rfl, rfl⟩ d_rc_setQuality_55
      · replace h := if_n c4 h
        refine r_iconst (v := (-1)) (n := 28) rfl ok d_rc_setQuality_27 (by decide) ?_
        obtain rfl := Option.some.inj h
        exact fin _ _ ⟨.int, rfl, rfl⟩ d_rc_setQuality_28
set_option maxHeartbeats 4000000 in
set_option maxRecDepth 20000 in
theorem C_rc_errorOfSimulation {l : Launch} {G : Gt} {M : Me} {a1 : Int32} {a2 : Int32} {a3 : Int32}  {o : Int32} (h : f_rc_errorOfSimulation M a1 a2 a3 = some o) : Ct l G (WC G) (rC G) y_rc_errorOfSimulation b_rc_errorOfSimulation 5 (some .int) rm_rc_errorOfSimulation [.ref (G.1 + oRC), .int a1, .int a2, .int a3] M (some (.int o)) M := by
  refine Ct.mk (own := "RetryChains") rfl (by decide) (Nat.le_of_ble_eq_true rfl) ⟨_, rfl⟩ (fun X hXl hXR hXn ok hG fin => ?_)
  subst hXl
  unfold f_rc_errorOfSimulation at h
  show Wt X M 0 [(0, .ref (G.1 + oRC)), (1, .int a1), (2, .int a2), (3, .int a3)] []
  refine r_aload_n (n := 1) rfl ok d_rc_errorOfSimulation_0 rfl 0 rfl ?_
  refine g_RC_now (n := 4) rfl ok hG  k_349 d_rc_errorOfSimulation_1 ?_
  refine r_iload_n (n := 5) rfl ok d_rc_errorOfSimulation_4 rfl 1 rfl ?_
  obtain ⟨r1, hr1, h⟩ := bd_ok h
  refine r_callV (n := 8) rfl ok hG mf_nt_stationAt k_465 k_466 k_464 (C_nt_stationAt (by decide) hr1) ⟨rfl, rfl⟩ (rR hXR ⟨Nat.le_of_ble_eq_true rfl, Nat.le_of_ble_eq_true rfl⟩) rfl rfl (rv_NET (by decide)) rfl (Nat.le_of_ble_eq_true rfl) d_rc_errorOfSimulation_5 ?_
  rcases er1 : r1 with _ | p2
  · replace h := el_n er1 h
    try rw [er1]
    refine r_astoreN (lv' := [(4, .null), (0, .ref (G.1 + oRC)), (1, .int a1), (2, .int a2), (3, .int a3)]) (n := 10) rfl ok d_rc_errorOfSimulation_8 (lt_n hXn (Nat.le_of_ble_eq_true rfl)) rfl ?_
    refine r_aloadN (n := 12) rfl ok d_rc_errorOfSimulation_10 0 rfl ?_
    refine r_ifnullN (tgt := 33) ok d_rc_errorOfSimulation_12 (by decide) ?_
    refine r_iconst (v := (-1)) (n := 34) rfl ok d_rc_errorOfSimulation_33 (by decide) ?_
    obtain rfl := Option.some.inj h
    exact fin _ _ ⟨.int, rfl, rfl⟩ d_rc_errorOfSimulation_34
  · replace h := el_s er1 h
    try rw [er1]
    have vp2 := v_nt_stationAt (by decide) (hr1.trans (congrArg some er1))
    refine r_astore (lv' := [(4, .ref (G.1 + oSTA p2.1 p2.2)), (0, .ref (G.1 + oRC)), (1, .int a1), (2, .int a2), (3, .int a3)]) (n := 10) rfl ok d_rc_errorOfSimulation_8 (lt_n hXn (Nat.le_of_ble_eq_true rfl)) rfl ?_
    refine r_aload (n := 12) rfl ok d_rc_errorOfSimulation_10 0 rfl ?_
    refine r_ifnull (n := 15) rfl ok d_rc_errorOfSimulation_12 ?_
    refine r_iload_n (n := 16) rfl ok d_rc_errorOfSimulation_15 rfl 3 rfl ?_
    refine r_iconst (v := 1) (n := 17) rfl ok d_rc_errorOfSimulation_16 (by decide) ?_
    refine r_icmp_lt (tgt := 33) (n := 20) rfl ok d_rc_errorOfSimulation_17 (by decide) (fun c3 => ?_) (fun c3 => ?_)
    · replace h := if_p c3 h
      refine r_iconst (v := (-1)) (n := 34) rfl ok d_rc_errorOfSimulation_33 (by decide) ?_
      obtain rfl := Option.some.inj h
      exact fin _ _ ⟨.int, rfl, rfl⟩ d_rc_errorOfSimulation_34
    · replace h := if_n c3 h
      refine r_iload_n (n := 21) rfl ok d_rc_errorOfSimulation_20 rfl 3 rfl ?_
      refine r_bipush (v := 50) (n := 23) rfl ok d_rc_errorOfSimulation_21 (by decide) ?_
      refine r_icmp_gt (tgt := 33) (n := 26) rfl ok d_rc_errorOfSimulation_23 (by decide) (fun c4 => ?_) (fun c4 => ?_)
      · replace h := if_p c4 h
        refine r_iconst (v := (-1)) (n := 34) rfl ok d_rc_errorOfSimulation_33 (by decide) ?_
        obtain rfl := Option.some.inj h
        exact fin _ _ ⟨.int, rfl, rfl⟩ d_rc_errorOfSimulation_34
      · replace h := if_n c4 h
        refine r_iload_n (n := 27) rfl ok d_rc_errorOfSimulation_26 rfl 4 rfl ?_
        obtain ⟨r5, hr5, h⟩ := bd_ok h
        refine r_callS (n := 30) rfl ok hG mf_rc_isFrame k_497 k_496 (C_rc_isFrame  hr5) ⟨rfl, rfl⟩ (rR hXR ⟨Nat.le_of_ble_eq_true rfl, Nat.le_of_ble_eq_true rfl⟩) rfl rfl (Nat.le_of_ble_eq_true rfl) d_rc_errorOfSimulation_27 ?_
        refine r_if_ne (tgt := 35) (n := 33) rfl ok d_rc_errorOfSimulation_30 (by decide) (fun c6 => ?_) (fun c6 => ?_)
        · replace h := if_n c6 h
          refine r_aload (n := 37) rfl ok d_rc_errorOfSimulation_35 0 rfl ?_
          refine r_aload_n (n := 38) rfl ok d_rc_errorOfSimulation_37 rfl 1 rfl ?_
          refine g_RC_now (n := 41) rfl ok hG  k_349 d_rc_errorOfSimulation_38 ?_
          refine g_NET_rates (n := 44) rfl ok hG (by decide) k_241 d_rc_errorOfSimulation_41 ?_
          obtain ⟨r7, hr7, h⟩ := bd_ok h
          refine r_callV (n := 47) rfl ok hG mf_st_hasAllowedRate k_500 k_501 k_499 (C_st_hasAllowedRate vp2.1 vp2.2 (by decide) hr7) ⟨rfl, rfl⟩ (rR hXR ⟨Nat.le_of_ble_eq_true rfl, Nat.le_of_ble_eq_true rfl⟩) rfl rfl (rv_STA vp2.1 vp2.2) rfl (Nat.le_of_ble_eq_true rfl) d_rc_errorOfSimulation_44 ?_
          refine r_if_ne (tgt := 53) (n := 50) rfl ok d_rc_errorOfSimulation_47 (by decide) (fun c8 => ?_) (fun c8 => ?_)
          · replace h := if_n c8 h
            refine r_aload_n (n := 54) rfl ok d_rc_errorOfSimulation_53 rfl 1 rfl ?_
            refine g_RC_now (n := 57) rfl ok hG  k_349 d_rc_errorOfSimulation_54 ?_
            obtain ⟨r9, hr9, h⟩ := bd_ok h
            refine r_callV (n := 60) rfl ok hG mf_nt_freeChain k_504 k_505 k_503 (C_nt_freeChain (by decide) hr9) ⟨rfl, rfl⟩ (rR hXR ⟨Nat.le_of_ble_eq_true rfl, Nat.le_of_ble_eq_true rfl⟩) rfl rfl (rv_NET (by decide)) rfl (Nat.le_of_ble_eq_true rfl) d_rc_errorOfSimulation_57 ?_
            refine r_bipush (v := (-9)) (n := 62) rfl ok d_rc_errorOfSimulation_60 (by decide) ?_
            refine r_icmp_ne (tgt := 68) (n := 65) rfl ok d_rc_errorOfSimulation_62 (by decide) (fun c10 => ?_) (fun c10 => ?_)
            · replace h := if_n c10 h
              refine r_aload_n (n := 69) rfl ok d_rc_errorOfSimulation_68 rfl 1 rfl ?_
              refine g_RC_now (n := 72) rfl ok hG  k_349 d_rc_errorOfSimulation_69 ?_
              refine g_NET_time (n := 75) rfl ok hG (by decide) k_250 d_rc_errorOfSimulation_72 ?_
              refine r_ldcw (n := 78) rfl ok d_rc_errorOfSimulation_75 k_885 ?_
              refine r_icmp_le (tgt := 86) (n := 81) rfl ok d_rc_errorOfSimulation_78 (by decide) (fun c11 => ?_) (fun c11 => ?_)
              · replace h := if_p c11 h
                refine r_iconst (v := 0) (n := 87) rfl ok d_rc_errorOfSimulation_86 (by decide) ?_
                obtain rfl := Option.some.inj h
                exact fin _ _ ⟨.int, rfl, rfl⟩ d_rc_errorOfSimulation_87
              · replace h := if_n c11 h
                refine r_bipush (v := (-4)) (n := 83) rfl ok d_rc_errorOfSimulation_81 (by decide) ?_
                refine r_goto (tgt := 87) ok d_rc_errorOfSimulation_83 (by decide) ?_
                obtain rfl := Option.some.inj h
                exact fin _ _ ⟨.int, rfl, rfl⟩ d_rc_errorOfSimulation_87
            · replace h := if_p c10 h
              refine r_bipush (v := (-3)) (n := 67) rfl ok d_rc_errorOfSimulation_65 (by decide) ?_
              obtain rfl := Option.some.inj h
              exact fin _ _ ⟨.int, rfl, rfl⟩ d_rc_errorOfSimulation_67
          · replace h := if_p c8 h
            refine r_bipush (v := (-2)) (n := 52) rfl ok d_rc_errorOfSimulation_50 (by decide) ?_
            obtain rfl := Option.some.inj h
            exact fin _ _ ⟨.int, rfl, rfl⟩ d_rc_errorOfSimulation_52
        · replace h := if_p c6 h
          refine r_iconst (v := (-1)) (n := 34) rfl ok d_rc_errorOfSimulation_33 (by decide) ?_
          obtain rfl := Option.some.inj h
          exact fin _ _ ⟨.int, rfl, rfl⟩ d_rc_errorOfSimulation_34
set_option maxHeartbeats 4000000 in
set_option maxRecDepth 20000 in
theorem C_rc_simulate {l : Launch} {G : Gt} {M : Me} {a1 : Int32} {a2 : Int32} {a3 : Int32} {a4 : Int32}  {o : Int32 × Me} (h : f_rc_simulate M a1 a2 a3 a4 = some o) : Ct l G (WC G) (rC G) y_rc_simulate b_rc_simulate 6 (some .int) rm_rc_simulate [.ref (G.1 + oRC), .int a1, .int a2, .int a3, .int a4] M (some (.int o.1)) o.2 := by
  refine Ct.mk (own := "RetryChains") rfl (by decide) (Nat.le_of_ble_eq_true rfl) ⟨_, rfl⟩ (fun X hXl hXR hXn ok hG fin => ?_)
  subst hXl
  unfold f_rc_simulate at h
  show Wt X M 0 [(0, .ref (G.1 + oRC)), (1, .int a1), (2, .int a2), (3, .int a3), (4, .int a4)] []
  refine r_aload_n (n := 1) rfl ok d_rc_simulate_0 rfl 0 rfl ?_
  refine r_iload_n (n := 2) rfl ok d_rc_simulate_1 rfl 1 rfl ?_
  refine r_iload_n (n := 3) rfl ok d_rc_simulate_2 rfl 2 rfl ?_
  refine r_iload_n (n := 4) rfl ok d_rc_simulate_3 rfl 3 rfl ?_
  obtain ⟨r1, hr1, h⟩ := bd_ok h
  refine r_callV (n := 7) rfl ok hG mf_rc_errorOfSimulation k_883 ks_13 k_881 (C_rc_errorOfSimulation  hr1) ⟨rfl, rfl⟩ (rR hXR ⟨Nat.le_of_ble_eq_true rfl, Nat.le_of_ble_eq_true rfl⟩) rfl rfl (rv_RC) rfl (Nat.le_of_ble_eq_true rfl) d_rc_simulate_4 ?_
  refine r_istore (lv' := [(5, .int r1), (0, .ref (G.1 + oRC)), (1, .int a1), (2, .int a2), (3, .int a3), (4, .int a4)]) (n := 9) rfl ok d_rc_simulate_7 (lt_n hXn (Nat.le_of_ble_eq_true rfl)) rfl ?_
  refine r_iload (n := 11) rfl ok d_rc_simulate_9 0 rfl ?_
  refine r_if_eq (tgt := 17) (n := 14) rfl ok d_rc_simulate_11 (by decide) (fun c2 => ?_) (fun c2 => ?_)
  · replace h := if_p c2 h
    refine r_aload_n (n := 18) rfl ok d_rc_simulate_17 rfl 1 rfl ?_
    refine g_RC_history (n := 21) rfl ok hG  k_353 d_rc_simulate_18 ?_
    refine r_aload_n (n := 22) rfl ok d_rc_simulate_21 rfl 1 rfl ?_
    refine g_RC_now (n := 25) rfl ok hG  k_349 d_rc_simulate_22 ?_
    obtain ⟨r3, hr3, h⟩ := bd_ok h
    refine r_callV (n := 28) rfl ok hG mf_hi_keep k_376 k_377 k_375 (C_hi_keep (by decide) hr3) ⟨rfl, rfl⟩ (rR hXR ⟨Nat.le_of_ble_eq_true rfl, Nat.le_of_ble_eq_true rfl⟩) rfl rfl (rv_HIS) rfl (Nat.le_of_ble_eq_true rfl) d_rc_simulate_25 ?_
    refine r_aload_n (n := 29) rfl ok d_rc_simulate_28 rfl 1 rfl ?_
    refine g_RC_now (n := 32) rfl ok hG  k_349 d_rc_simulate_29 ?_
    refine r_iload_n (n := 33) rfl ok d_rc_simulate_32 rfl 2 rfl ?_
    refine r_iload_n (n := 34) rfl ok d_rc_simulate_33 rfl 3 rfl ?_
    refine r_iload_n (n := 35) rfl ok d_rc_simulate_34 rfl 4 rfl ?_
    refine r_iload (n := 37) rfl ok d_rc_simulate_35 5 rfl ?_
    obtain ⟨r4, hr4, h⟩ := bd_ok h
    refine r_callV (n := 40) rfl ok hG mf_nt_sendFrames k_887 k_888 k_886 (C_nt_sendFrames (by decide) hr4) ⟨rfl, rfl⟩ (rR hXR ⟨Nat.le_of_ble_eq_true rfl, Nat.le_of_ble_eq_true rfl⟩) rfl rfl (rv_NET (by decide)) rfl (Nat.le_of_ble_eq_true rfl) d_rc_simulate_37 ?_
    obtain rfl := Option.some.inj h
    exact fin _ _ ⟨.int, rfl, rfl⟩ d_rc_simulate_40
  · replace h := if_n c2 h
    refine r_iload (n := 16) rfl ok d_rc_simulate_14 0 rfl ?_
    obtain rfl := Option.some.inj h
    exact fin _ _ ⟨.int, rfl, rfl⟩ d_rc_simulate_16
set_option maxHeartbeats 4000000 in
set_option maxRecDepth 20000 in
theorem C_rc_forecast {l : Launch} {G : Gt} {M : Me} {a1 : Int32} {a2 : Int32} {a3 : Int32} {a4 : Int32}  {o : Int32 × Me} (h : f_rc_forecast M a1 a2 a3 a4 = some o) : Ct l G (WC G) (rC G) y_rc_forecast b_rc_forecast 6 (some .int) rm_rc_forecast [.ref (G.1 + oRC), .int a1, .int a2, .int a3, .int a4] M (some (.int o.1)) o.2 := by
  refine Ct.mk (own := "RetryChains") rfl (by decide) (Nat.le_of_ble_eq_true rfl) ⟨_, rfl⟩ (fun X hXl hXR hXn ok hG fin => ?_)
  subst hXl
  unfold f_rc_forecast at h
  show Wt X M 0 [(0, .ref (G.1 + oRC)), (1, .int a1), (2, .int a2), (3, .int a3), (4, .int a4)] []
  refine r_aload_n (n := 1) rfl ok d_rc_forecast_0 rfl 0 rfl ?_
  refine r_iload_n (n := 2) rfl ok d_rc_forecast_1 rfl 1 rfl ?_
  refine r_iload_n (n := 3) rfl ok d_rc_forecast_2 rfl 2 rfl ?_
  refine r_iload_n (n := 4) rfl ok d_rc_forecast_3 rfl 3 rfl ?_
  obtain ⟨r1, hr1, h⟩ := bd_ok h
  refine r_callV (n := 7) rfl ok hG mf_rc_errorOfSimulation k_883 ks_13 k_881 (C_rc_errorOfSimulation  hr1) ⟨rfl, rfl⟩ (rR hXR ⟨Nat.le_of_ble_eq_true rfl, Nat.le_of_ble_eq_true rfl⟩) rfl rfl (rv_RC) rfl (Nat.le_of_ble_eq_true rfl) d_rc_forecast_4 ?_
  refine r_istore (lv' := [(5, .int r1), (0, .ref (G.1 + oRC)), (1, .int a1), (2, .int a2), (3, .int a3), (4, .int a4)]) (n := 9) rfl ok d_rc_forecast_7 (lt_n hXn (Nat.le_of_ble_eq_true rfl)) rfl ?_
  refine r_iload (n := 11) rfl ok d_rc_forecast_9 0 rfl ?_
  refine r_if_eq (tgt := 17) (n := 14) rfl ok d_rc_forecast_11 (by decide) (fun c2 => ?_) (fun c2 => ?_)
  · replace h := if_p c2 h
    refine r_aload_n (n := 18) rfl ok d_rc_forecast_17 rfl 1 rfl ?_
    refine g_RC_trial (n := 21) rfl ok hG  k_350 d_rc_forecast_18 ?_
    refine r_aload_n (n := 22) rfl ok d_rc_forecast_21 rfl 1 rfl ?_
    refine g_RC_now (n := 25) rfl ok hG  k_349 d_rc_forecast_22 ?_
    obtain ⟨r3, hr3, h⟩ := bd_ok h
    refine r_callV (n := 28) rfl ok hG mf_nt_become k_383 k_384 k_903 (C_nt_become (by decide) (by decide) hr3) ⟨rfl, rfl⟩ (rR hXR ⟨Nat.le_of_ble_eq_true rfl, Nat.le_of_ble_eq_true rfl⟩) rfl rfl (rv_NET (by decide)) rfl (Nat.le_of_ble_eq_true rfl) d_rc_forecast_25 ?_
    refine r_aload_n (n := 29) rfl ok d_rc_forecast_28 rfl 1 rfl ?_
    refine g_RC_trial (n := 32) rfl ok hG  k_350 d_rc_forecast_29 ?_
    refine r_iload_n (n := 33) rfl ok d_rc_forecast_32 rfl 2 rfl ?_
    refine r_iload_n (n := 34) rfl ok d_rc_forecast_33 rfl 3 rfl ?_
    refine r_iload_n (n := 35) rfl ok d_rc_forecast_34 rfl 4 rfl ?_
    refine r_iload (n := 37) rfl ok d_rc_forecast_35 5 rfl ?_
    obtain ⟨r4, hr4, h⟩ := bd_ok h
    refine r_callV (n := 40) rfl ok hG mf_nt_sendFrames k_887 k_888 k_886 (C_nt_sendFrames (by decide) hr4) ⟨rfl, rfl⟩ (rR hXR ⟨Nat.le_of_ble_eq_true rfl, Nat.le_of_ble_eq_true rfl⟩) rfl rfl (rv_NET (by decide)) rfl (Nat.le_of_ble_eq_true rfl) d_rc_forecast_37 ?_
    obtain rfl := Option.some.inj h
    exact fin _ _ ⟨.int, rfl, rfl⟩ d_rc_forecast_40
  · replace h := if_n c2 h
    refine r_iload (n := 16) rfl ok d_rc_forecast_14 0 rfl ?_
    obtain rfl := Option.some.inj h
    exact fin _ _ ⟨.int, rfl, rfl⟩ d_rc_forecast_16
set_option maxHeartbeats 4000000 in
set_option maxRecDepth 20000 in
theorem C_rc_oracle {l : Launch} {G : Gt} {M : Me} {a1 : Int32} {a2 : Int32}  {o : Int32} (h : f_rc_oracle M a1 a2 = some o) : Ct l G (WC G) (rC G) y_rc_oracle b_rc_oracle 4 (some .int) rm_rc_oracle [.ref (G.1 + oRC), .int a1, .int a2] M (some (.int o)) M := by
  refine Ct.mk (own := "RetryChains") rfl (by decide) (Nat.le_of_ble_eq_true rfl) ⟨_, rfl⟩ (fun X hXl hXR hXn ok hG fin => ?_)
  subst hXl
  unfold f_rc_oracle at h
  show Wt X M 0 [(0, .ref (G.1 + oRC)), (1, .int a1), (2, .int a2)] []
  refine r_aload_n (n := 1) rfl ok d_rc_oracle_0 rfl 0 rfl ?_
  refine g_RC_now (n := 4) rfl ok hG  k_349 d_rc_oracle_1 ?_
  refine r_iload_n (n := 5) rfl ok d_rc_oracle_4 rfl 1 rfl ?_
  obtain ⟨r1, hr1, h⟩ := bd_ok h
  refine r_callV (n := 8) rfl ok hG mf_nt_stationAt k_465 k_466 k_464 (C_nt_stationAt (by decide) hr1) ⟨rfl, rfl⟩ (rR hXR ⟨Nat.le_of_ble_eq_true rfl, Nat.le_of_ble_eq_true rfl⟩) rfl rfl (rv_NET (by decide)) rfl (Nat.le_of_ble_eq_true rfl) d_rc_oracle_5 ?_
  rcases er1 : r1 with _ | p2
  · replace h := el_n er1 h
    try rw [er1]
    refine r_astore_nN (lv' := [(3, .null), (0, .ref (G.1 + oRC)), (1, .int a1), (2, .int a2)]) (n := 9) rfl ok d_rc_oracle_8 rfl (lt_n hXn (Nat.le_of_ble_eq_true rfl)) rfl ?_
    refine r_aload_nN (n := 10) rfl ok d_rc_oracle_9 rfl 0 rfl ?_
    refine r_ifnullN (tgt := 20) ok d_rc_oracle_10 (by decide) ?_
    refine r_iconst (v := (-1)) (n := 21) rfl ok d_rc_oracle_20 (by decide) ?_
    obtain rfl := Option.some.inj h
    exact fin _ _ ⟨.int, rfl, rfl⟩ d_rc_oracle_21
  · replace h := el_s er1 h
    try rw [er1]
    have vp2 := v_nt_stationAt (by decide) (hr1.trans (congrArg some er1))
    refine r_astore_n (lv' := [(3, .ref (G.1 + oSTA p2.1 p2.2)), (0, .ref (G.1 + oRC)), (1, .int a1), (2, .int a2)]) (n := 9) rfl ok d_rc_oracle_8 rfl (lt_n hXn (Nat.le_of_ble_eq_true rfl)) rfl ?_
    refine r_aload_n (n := 10) rfl ok d_rc_oracle_9 rfl 0 rfl ?_
    refine r_ifnull (n := 13) rfl ok d_rc_oracle_10 ?_
    refine r_iload_n (n := 14) rfl ok d_rc_oracle_13 rfl 3 rfl ?_
    obtain ⟨r3, hr3, h⟩ := bd_ok h
    refine r_callS (n := 17) rfl ok hG mf_rc_isFrame k_497 k_496 (C_rc_isFrame  hr3) ⟨rfl, rfl⟩ (rR hXR ⟨Nat.le_of_ble_eq_true rfl, Nat.le_of_ble_eq_true rfl⟩) rfl rfl (Nat.le_of_ble_eq_true rfl) d_rc_oracle_14 ?_
    refine r_if_ne (tgt := 22) (n := 20) rfl ok d_rc_oracle_17 (by decide) (fun c4 => ?_) (fun c4 => ?_)
    · replace h := if_n c4 h
      refine r_aload_n (n := 23) rfl ok d_rc_oracle_22 rfl 0 rfl ?_
      refine r_aload_n (n := 24) rfl ok d_rc_oracle_23 rfl 1 rfl ?_
      refine g_RC_now (n := 27) rfl ok hG  k_349 d_rc_oracle_24 ?_
      refine g_NET_rates (n := 30) rfl ok hG (by decide) k_241 d_rc_oracle_27 ?_
      refine r_iload_n (n := 31) rfl ok d_rc_oracle_30 rfl 3 rfl ?_
      obtain ⟨r5, hr5, h⟩ := bd_ok h
      refine r_callV (n := 34) rfl ok hG mf_st_bestByChannel k_909 k_910 k_908 (C_st_bestByChannel vp2.1 vp2.2 (by decide) hr5) ⟨rfl, rfl⟩ (rR hXR ⟨Nat.le_of_ble_eq_true rfl, Nat.le_of_ble_eq_true rfl⟩) rfl rfl (rv_STA vp2.1 vp2.2) rfl (Nat.le_of_ble_eq_true rfl) d_rc_oracle_31 ?_
      obtain rfl := Option.some.inj h
      exact fin _ _ ⟨.int, rfl, rfl⟩ d_rc_oracle_34
    · replace h := if_p c4 h
      refine r_iconst (v := (-1)) (n := 21) rfl ok d_rc_oracle_20 (by decide) ?_
      obtain rfl := Option.some.inj h
      exact fin _ _ ⟨.int, rfl, rfl⟩ d_rc_oracle_21
set_option maxHeartbeats 4000000 in
set_option maxRecDepth 20000 in
theorem C_rc_events {l : Launch} {G : Gt} {M : Me}   {o : Int32} (h : f_rc_events M = some o) : Ct l G (WC G) (rC G) y_rc_events b_rc_events 1 (some .int) rm_rc_events [.ref (G.1 + oRC)] M (some (.int o)) M := by
  refine Ct.mk (own := "RetryChains") rfl (by decide) (Nat.le_of_ble_eq_true rfl) ⟨_, rfl⟩ (fun X hXl hXR hXn ok hG fin => ?_)
  subst hXl
  unfold f_rc_events at h
  show Wt X M 0 [(0, .ref (G.1 + oRC))] []
  refine r_aload_n (n := 1) rfl ok d_rc_events_0 rfl 0 rfl ?_
  refine g_RC_now (n := 4) rfl ok hG  k_349 d_rc_events_1 ?_
  refine g_NET_log (n := 7) rfl ok hG (by decide) k_246 d_rc_events_4 ?_
  refine g_LOG_total (n := 10) rfl ok hG (by decide) k_66 d_rc_events_7 ?_
  obtain rfl := Option.some.inj h
  exact fin _ _ ⟨.int, rfl, rfl⟩ d_rc_events_10
set_option maxHeartbeats 4000000 in
set_option maxRecDepth 20000 in
theorem C_rc_eventKind {l : Launch} {G : Gt} {M : Me} {a1 : Int32}  {o : Int32} (h : f_rc_eventKind M a1 = some o) : Ct l G (WC G) (rC G) y_rc_eventKind b_rc_eventKind 2 (some .int) rm_rc_eventKind [.ref (G.1 + oRC), .int a1] M (some (.int o)) M := by
  refine Ct.mk (own := "RetryChains") rfl (by decide) (Nat.le_of_ble_eq_true rfl) ⟨_, rfl⟩ (fun X hXl hXR hXn ok hG fin => ?_)
  subst hXl
  unfold f_rc_eventKind at h
  show Wt X M 0 [(0, .ref (G.1 + oRC)), (1, .int a1)] []
  refine r_aload_n (n := 1) rfl ok d_rc_eventKind_0 rfl 0 rfl ?_
  refine g_RC_now (n := 4) rfl ok hG  k_349 d_rc_eventKind_1 ?_
  refine g_NET_log (n := 7) rfl ok hG (by decide) k_246 d_rc_eventKind_4 ?_
  refine r_iconst (v := 0) (n := 8) rfl ok d_rc_eventKind_7 (by decide) ?_
  refine r_iload_n (n := 9) rfl ok d_rc_eventKind_8 rfl 1 rfl ?_
  obtain ⟨r1, hr1, h⟩ := bd_ok h
  refine r_callV (n := 12) rfl ok hG mf_lo_look k_922 k_923 k_921 (C_lo_look (by decide) hr1) ⟨rfl, rfl⟩ (rR hXR ⟨Nat.le_of_ble_eq_true rfl, Nat.le_of_ble_eq_true rfl⟩) rfl rfl (rv_LOG (by decide)) rfl (Nat.le_of_ble_eq_true rfl) d_rc_eventKind_9 ?_
  obtain rfl := Option.some.inj h
  exact fin _ _ ⟨.int, rfl, rfl⟩ d_rc_eventKind_12
set_option maxHeartbeats 4000000 in
set_option maxRecDepth 20000 in
theorem C_rc_eventStation {l : Launch} {G : Gt} {M : Me} {a1 : Int32}  {o : Int32} (h : f_rc_eventStation M a1 = some o) : Ct l G (WC G) (rC G) y_rc_eventStation b_rc_eventStation 2 (some .int) rm_rc_eventStation [.ref (G.1 + oRC), .int a1] M (some (.int o)) M := by
  refine Ct.mk (own := "RetryChains") rfl (by decide) (Nat.le_of_ble_eq_true rfl) ⟨_, rfl⟩ (fun X hXl hXR hXn ok hG fin => ?_)
  subst hXl
  unfold f_rc_eventStation at h
  show Wt X M 0 [(0, .ref (G.1 + oRC)), (1, .int a1)] []
  refine r_aload_n (n := 1) rfl ok d_rc_eventStation_0 rfl 0 rfl ?_
  refine g_RC_now (n := 4) rfl ok hG  k_349 d_rc_eventStation_1 ?_
  refine g_NET_log (n := 7) rfl ok hG (by decide) k_246 d_rc_eventStation_4 ?_
  refine r_iconst (v := 1) (n := 8) rfl ok d_rc_eventStation_7 (by decide) ?_
  refine r_iload_n (n := 9) rfl ok d_rc_eventStation_8 rfl 1 rfl ?_
  obtain ⟨r1, hr1, h⟩ := bd_ok h
  refine r_callV (n := 12) rfl ok hG mf_lo_look k_922 k_923 k_921 (C_lo_look (by decide) hr1) ⟨rfl, rfl⟩ (rR hXR ⟨Nat.le_of_ble_eq_true rfl, Nat.le_of_ble_eq_true rfl⟩) rfl rfl (rv_LOG (by decide)) rfl (Nat.le_of_ble_eq_true rfl) d_rc_eventStation_9 ?_
  obtain rfl := Option.some.inj h
  exact fin _ _ ⟨.int, rfl, rfl⟩ d_rc_eventStation_12
set_option maxHeartbeats 4000000 in
set_option maxRecDepth 20000 in
theorem C_rc_eventRate {l : Launch} {G : Gt} {M : Me} {a1 : Int32}  {o : Int32} (h : f_rc_eventRate M a1 = some o) : Ct l G (WC G) (rC G) y_rc_eventRate b_rc_eventRate 2 (some .int) rm_rc_eventRate [.ref (G.1 + oRC), .int a1] M (some (.int o)) M := by
  refine Ct.mk (own := "RetryChains") rfl (by decide) (Nat.le_of_ble_eq_true rfl) ⟨_, rfl⟩ (fun X hXl hXR hXn ok hG fin => ?_)
  subst hXl
  unfold f_rc_eventRate at h
  show Wt X M 0 [(0, .ref (G.1 + oRC)), (1, .int a1)] []
  refine r_aload_n (n := 1) rfl ok d_rc_eventRate_0 rfl 0 rfl ?_
  refine g_RC_now (n := 4) rfl ok hG  k_349 d_rc_eventRate_1 ?_
  refine g_NET_log (n := 7) rfl ok hG (by decide) k_246 d_rc_eventRate_4 ?_
  refine r_iconst (v := 2) (n := 8) rfl ok d_rc_eventRate_7 (by decide) ?_
  refine r_iload_n (n := 9) rfl ok d_rc_eventRate_8 rfl 1 rfl ?_
  obtain ⟨r1, hr1, h⟩ := bd_ok h
  refine r_callV (n := 12) rfl ok hG mf_lo_look k_922 k_923 k_921 (C_lo_look (by decide) hr1) ⟨rfl, rfl⟩ (rR hXR ⟨Nat.le_of_ble_eq_true rfl, Nat.le_of_ble_eq_true rfl⟩) rfl rfl (rv_LOG (by decide)) rfl (Nat.le_of_ble_eq_true rfl) d_rc_eventRate_9 ?_
  obtain rfl := Option.some.inj h
  exact fin _ _ ⟨.int, rfl, rfl⟩ d_rc_eventRate_12
set_option maxHeartbeats 4000000 in
set_option maxRecDepth 20000 in
theorem C_rc_eventTime {l : Launch} {G : Gt} {M : Me} {a1 : Int32}  {o : Int32} (h : f_rc_eventTime M a1 = some o) : Ct l G (WC G) (rC G) y_rc_eventTime b_rc_eventTime 2 (some .int) rm_rc_eventTime [.ref (G.1 + oRC), .int a1] M (some (.int o)) M := by
  refine Ct.mk (own := "RetryChains") rfl (by decide) (Nat.le_of_ble_eq_true rfl) ⟨_, rfl⟩ (fun X hXl hXR hXn ok hG fin => ?_)
  subst hXl
  unfold f_rc_eventTime at h
  show Wt X M 0 [(0, .ref (G.1 + oRC)), (1, .int a1)] []
  refine r_aload_n (n := 1) rfl ok d_rc_eventTime_0 rfl 0 rfl ?_
  refine g_RC_now (n := 4) rfl ok hG  k_349 d_rc_eventTime_1 ?_
  refine g_NET_log (n := 7) rfl ok hG (by decide) k_246 d_rc_eventTime_4 ?_
  refine r_iconst (v := 3) (n := 8) rfl ok d_rc_eventTime_7 (by decide) ?_
  refine r_iload_n (n := 9) rfl ok d_rc_eventTime_8 rfl 1 rfl ?_
  obtain ⟨r1, hr1, h⟩ := bd_ok h
  refine r_callV (n := 12) rfl ok hG mf_lo_look k_922 k_923 k_921 (C_lo_look (by decide) hr1) ⟨rfl, rfl⟩ (rR hXR ⟨Nat.le_of_ble_eq_true rfl, Nat.le_of_ble_eq_true rfl⟩) rfl rfl (rv_LOG (by decide)) rfl (Nat.le_of_ble_eq_true rfl) d_rc_eventTime_9 ?_
  obtain rfl := Option.some.inj h
  exact fin _ _ ⟨.int, rfl, rfl⟩ d_rc_eventTime_12
set_option maxHeartbeats 4000000 in
set_option maxRecDepth 20000 in
theorem C_rc_save {l : Launch} {G : Gt} {M : Me} {a1 : Int32}  {o : Int32 × Me} (h : f_rc_save M a1 = some o) : Ct l G (WC G) (rC G) y_rc_save b_rc_save 2 (some .int) rm_rc_save [.ref (G.1 + oRC), .int a1] M (some (.int o.1)) o.2 := by
  refine Ct.mk (own := "RetryChains") rfl (by decide) (Nat.le_of_ble_eq_true rfl) ⟨_, rfl⟩ (fun X hXl hXR hXn ok hG fin => ?_)
  subst hXl
  unfold f_rc_save at h
  show Wt X M 0 [(0, .ref (G.1 + oRC)), (1, .int a1)] []
  refine r_iload_n (n := 1) rfl ok d_rc_save_0 rfl 1 rfl ?_
  refine r_if_lt (tgt := 9) (n := 4) rfl ok d_rc_save_1 (by decide) (fun c1 => ?_) (fun c1 => ?_)
  · replace h := if_p c1 h
    refine r_iconst (v := (-1)) (n := 10) rfl ok d_rc_save_9 (by decide) ?_
    obtain rfl := Option.some.inj h
    exact fin _ _ ⟨.int, rfl, rfl⟩ d_rc_save_10
  · replace h := if_n c1 h
    refine r_iload_n (n := 5) rfl ok d_rc_save_4 rfl 1 rfl ?_
    refine r_iconst (v := 2) (n := 6) rfl ok d_rc_save_5 (by decide) ?_
    refine r_icmp_lt (tgt := 11) (n := 9) rfl ok d_rc_save_6 (by decide) (fun c2 => ?_) (fun c2 => ?_)
    · replace h := if_p c2 h
      refine r_aload_n (n := 12) rfl ok d_rc_save_11 rfl 0 rfl ?_
      refine g_RC_slots (n := 15) rfl ok hG  k_351 d_rc_save_12 ?_
      refine r_iload_n (n := 16) rfl ok d_rc_save_15 rfl 1 rfl ?_
      obtain ⟨g3, h⟩ := gd_ok h
      refine al_SLOTS (n := 17) rfl ok hG  g3 d_rc_save_16 ?_
      refine r_aload_n (n := 18) rfl ok d_rc_save_17 rfl 0 rfl ?_
      refine g_RC_now (n := 21) rfl ok hG  k_349 d_rc_save_18 ?_
      obtain ⟨r4, hr4, h⟩ := bd_ok h
      refine r_callV (n := 24) rfl ok hG mf_nt_become k_383 k_384 k_903 (C_nt_become (Nat.lt_of_lt_of_le (Nat.add_lt_add_left (gin_lt g3) 2) (Nat.le_of_ble_eq_true rfl)) (by decide) hr4) ⟨rfl, rfl⟩ (rR hXR ⟨Nat.le_of_ble_eq_true rfl, Nat.le_of_ble_eq_true rfl⟩) rfl rfl (rv_NET (Nat.lt_of_lt_of_le (Nat.add_lt_add_left (gin_lt g3) 2) (Nat.le_of_ble_eq_true rfl))) rfl (Nat.le_of_ble_eq_true rfl) d_rc_save_21 ?_
      refine r_aload_n (n := 25) rfl ok d_rc_save_24 rfl 0 rfl ?_
      refine g_RC_isSaved (n := 28) rfl ok hG  k_352 d_rc_save_25 ?_
      refine r_iload_n (n := 29) rfl ok d_rc_save_28 rfl 1 rfl ?_
      refine r_iconst (v := 1) (n := 30) rfl ok d_rc_save_29 (by decide) ?_
      obtain ⟨g5, h⟩ := gd_ok h
      obtain ⟨M6, eM6, h⟩ := bd_ok h
      refine as_ISSAVED (n := 31) rfl ok hG  (by decide) g5 d_rc_save_30 ?_
      refine r_mem (Option.some.inj eM6) ?_
      refine r_aload_n (n := 32) rfl ok d_rc_save_31 rfl 0 rfl ?_
      refine g_RC_now (n := 35) rfl ok hG  k_349 d_rc_save_32 ?_
      refine g_NET_time (n := 38) rfl ok hG (by decide) k_250 d_rc_save_35 ?_
      obtain rfl := Option.some.inj h
      exact fin _ _ ⟨.int, rfl, rfl⟩ d_rc_save_38
    · replace h := if_n c2 h
      refine r_iconst (v := (-1)) (n := 10) rfl ok d_rc_save_9 (by decide) ?_
      obtain rfl := Option.some.inj h
      exact fin _ _ ⟨.int, rfl, rfl⟩ d_rc_save_10
set_option maxHeartbeats 4000000 in
set_option maxRecDepth 20000 in
theorem C_rc_restore {l : Launch} {G : Gt} {M : Me} {a1 : Int32}  {o : Int32 × Me} (h : f_rc_restore M a1 = some o) : Ct l G (WC G) (rC G) y_rc_restore b_rc_restore 2 (some .int) rm_rc_restore [.ref (G.1 + oRC), .int a1] M (some (.int o.1)) o.2 := by
  refine Ct.mk (own := "RetryChains") rfl (by decide) (Nat.le_of_ble_eq_true rfl) ⟨_, rfl⟩ (fun X hXl hXR hXn ok hG fin => ?_)
  subst hXl
  unfold f_rc_restore at h
  show Wt X M 0 [(0, .ref (G.1 + oRC)), (1, .int a1)] []
  refine r_iload_n (n := 1) rfl ok d_rc_restore_0 rfl 1 rfl ?_
  refine r_if_lt (tgt := 9) (n := 4) rfl ok d_rc_restore_1 (by decide) (fun c1 => ?_) (fun c1 => ?_)
  · replace h := if_p c1 h
    refine r_iconst (v := (-1)) (n := 10) rfl ok d_rc_restore_9 (by decide) ?_
    obtain rfl := Option.some.inj h
    exact fin _ _ ⟨.int, rfl, rfl⟩ d_rc_restore_10
  · replace h := if_n c1 h
    refine r_iload_n (n := 5) rfl ok d_rc_restore_4 rfl 1 rfl ?_
    refine r_iconst (v := 2) (n := 6) rfl ok d_rc_restore_5 (by decide) ?_
    refine r_icmp_lt (tgt := 11) (n := 9) rfl ok d_rc_restore_6 (by decide) (fun c2 => ?_) (fun c2 => ?_)
    · replace h := if_p c2 h
      refine r_aload_n (n := 12) rfl ok d_rc_restore_11 rfl 0 rfl ?_
      refine g_RC_isSaved (n := 15) rfl ok hG  k_352 d_rc_restore_12 ?_
      refine r_iload_n (n := 16) rfl ok d_rc_restore_15 rfl 1 rfl ?_
      obtain ⟨g3, h⟩ := gd_ok h
      refine al_ISSAVED (n := 17) rfl ok hG  g3 d_rc_restore_16 ?_
      refine r_if_ne (tgt := 23) (n := 20) rfl ok d_rc_restore_17 (by decide) (fun c4 => ?_) (fun c4 => ?_)
      · replace h := if_n c4 h
        refine r_aload_n (n := 24) rfl ok d_rc_restore_23 rfl 0 rfl ?_
        refine g_RC_now (n := 27) rfl ok hG  k_349 d_rc_restore_24 ?_
        refine r_aload_n (n := 28) rfl ok d_rc_restore_27 rfl 0 rfl ?_
        refine g_RC_slots (n := 31) rfl ok hG  k_351 d_rc_restore_28 ?_
        refine r_iload_n (n := 32) rfl ok d_rc_restore_31 rfl 1 rfl ?_
        obtain ⟨g5, h⟩ := gd_ok h
        refine al_SLOTS (n := 33) rfl ok hG  g5 d_rc_restore_32 ?_
        obtain ⟨r6, hr6, h⟩ := bd_ok h
        refine r_callV (n := 36) rfl ok hG mf_nt_become k_383 k_384 k_903 (C_nt_become (by decide) (Nat.lt_of_lt_of_le (Nat.add_lt_add_left (gin_lt g5) 2) (Nat.le_of_ble_eq_true rfl)) hr6) ⟨rfl, rfl⟩ (rR hXR ⟨Nat.le_of_ble_eq_true rfl, Nat.le_of_ble_eq_true rfl⟩) rfl rfl (rv_NET (by decide)) rfl (Nat.le_of_ble_eq_true rfl) d_rc_restore_33 ?_
        refine r_aload_n (n := 37) rfl ok d_rc_restore_36 rfl 0 rfl ?_
        refine g_RC_history (n := 40) rfl ok hG  k_353 d_rc_restore_37 ?_
        refine r_iconst (v := 0) (n := 41) rfl ok d_rc_restore_40 (by decide) ?_
        obtain ⟨M7, eM7, h⟩ := bd_ok h
        refine p_HIS_count (n := 44) rfl ok hG  k_296 d_rc_restore_41 ?_
        refine r_mem (Option.some.inj eM7) ?_
        refine r_aload_n (n := 45) rfl ok d_rc_restore_44 rfl 0 rfl ?_
        refine g_RC_now (n := 48) rfl ok hG  k_349 d_rc_restore_45 ?_
        refine g_NET_time (n := 51) rfl ok hG (by decide) k_250 d_rc_restore_48 ?_
        obtain rfl := Option.some.inj h
        exact fin _ _ ⟨.int, rfl, rfl⟩ d_rc_restore_51
      · replace h := if_p c4 h
        refine r_bipush (v := (-2)) (n := 22) rfl ok d_rc_restore_20 (by decide) ?_
        obtain rfl := Option.some.inj h
        exact fin _ _ ⟨.int, rfl, rfl⟩ d_rc_restore_22
    · replace h := if_n c2 h
      refine r_iconst (v := (-1)) (n := 10) rfl ok d_rc_restore_9 (by decide) ?_
      obtain rfl := Option.some.inj h
      exact fin _ _ ⟨.int, rfl, rfl⟩ d_rc_restore_10
set_option maxHeartbeats 4000000 in
set_option maxRecDepth 20000 in
theorem C_rc_undo {l : Launch} {G : Gt} {M : Me}   {o : Int32 × Me} (h : f_rc_undo M = some o) : Ct l G (WC G) (rC G) y_rc_undo b_rc_undo 1 (some .int) rm_rc_undo [.ref (G.1 + oRC)] M (some (.int o.1)) o.2 := by
  refine Ct.mk (own := "RetryChains") rfl (by decide) (Nat.le_of_ble_eq_true rfl) ⟨_, rfl⟩ (fun X hXl hXR hXn ok hG fin => ?_)
  subst hXl
  unfold f_rc_undo at h
  show Wt X M 0 [(0, .ref (G.1 + oRC))] []
  refine r_aload_n (n := 1) rfl ok d_rc_undo_0 rfl 0 rfl ?_
  refine g_RC_history (n := 4) rfl ok hG  k_353 d_rc_undo_1 ?_
  refine g_HIS_count (n := 7) rfl ok hG  k_296 d_rc_undo_4 ?_
  refine r_if_gt (tgt := 13) (n := 10) rfl ok d_rc_undo_7 (by decide) (fun c1 => ?_) (fun c1 => ?_)
  · replace h := if_p c1 h
    refine r_aload_n (n := 14) rfl ok d_rc_undo_13 rfl 0 rfl ?_
    refine g_RC_history (n := 17) rfl ok hG  k_353 d_rc_undo_14 ?_
    refine r_aload_n (n := 18) rfl ok d_rc_undo_17 rfl 0 rfl ?_
    refine g_RC_now (n := 21) rfl ok hG  k_349 d_rc_undo_18 ?_
    obtain ⟨r2, hr2, h⟩ := bd_ok h
    refine r_callV (n := 24) rfl ok hG mf_hi_takeBack k_951 k_952 k_950 (C_hi_takeBack (by decide) hr2) ⟨rfl, rfl⟩ (rR hXR ⟨Nat.le_of_ble_eq_true rfl, Nat.le_of_ble_eq_true rfl⟩) rfl rfl (rv_HIS) rfl (Nat.le_of_ble_eq_true rfl) d_rc_undo_21 ?_
    refine r_aload_n (n := 25) rfl ok d_rc_undo_24 rfl 0 rfl ?_
    refine g_RC_history (n := 28) rfl ok hG  k_353 d_rc_undo_25 ?_
    refine g_HIS_count (n := 31) rfl ok hG  k_296 d_rc_undo_28 ?_
    obtain rfl := Option.some.inj h
    exact fin _ _ ⟨.int, rfl, rfl⟩ d_rc_undo_31
  · replace h := if_n c1 h
    refine r_bipush (v := (-2)) (n := 12) rfl ok d_rc_undo_10 (by decide) ?_
    obtain rfl := Option.some.inj h
    exact fin _ _ ⟨.int, rfl, rfl⟩ d_rc_undo_12
set_option maxHeartbeats 4000000 in
set_option maxRecDepth 20000 in
theorem w_rc_digestOfStation_111 {X : Cx Me} {G : Gt} (ok : Ok X b_rc_digestOfStation "RetryChains") (hG : GC X G) (hXR : X.R = rm_rc_digestOfStation) (hXn : X.nL = 7) {M : Me} {y3 : Int32}  {t : Int64} (kx : ∀ e : Int64, e = t → Wt X M 140 [(0, .ref (G.1 + oRC)), (3, .int y3), (4, .long e)] [])  : ∀ (n : Nat) (x : Int64 × Int32), lp n (b_rc_digestOfStation_111 M y3) x = some t → Wt X M 111 [(0, .ref (G.1 + oRC)), (3, .int y3), (4, .long x.1), (6, .int x.2)] [] := by
  intro n x h
  refine lp_W (P := fun x => Wt X M 111 [(0, .ref (G.1 + oRC)), (3, .int y3), (4, .long x.1), (6, .int x.2)] []) (Z := fun t' => t' = t) (fun x r h hk hz => ?_) n x t h rfl
  unfold b_rc_digestOfStation_111 at h
  refine r_iload (n := 113) rfl ok d_rc_digestOfStation_111 3 rfl ?_
  refine r_iconst (v := 4) (n := 114) rfl ok d_rc_digestOfStation_113 (by decide) ?_
  refine r_icmp_ge (tgt := 140) (n := 117) rfl ok d_rc_digestOfStation_114 (by decide) (fun c15 => ?_) (fun c15 => ?_)
  · replace h := if_p c15 h
    obtain rfl := Option.some.inj h
    exact r_sub [0, 1, 2] rfl (show Wt X M 140 [(0, .ref (G.1 + oRC)), (3, .int y3), (4, .long x.1)] [] from kx _ (hz _ rfl))
  · replace h := if_n c15 h
    refine r_ldc2 (n := 120) rfl ok d_rc_digestOfStation_117 k_961 ?_
    refine r_lload (n := 122) rfl ok d_rc_digestOfStation_120 2 rfl ?_
    refine r_lmul (n := 123) rfl ok d_rc_digestOfStation_122 ?_
    refine r_aload_n (n := 124) rfl ok d_rc_digestOfStation_123 rfl 0 rfl ?_
    refine r_iload_n (n := 125) rfl ok d_rc_digestOfStation_124 rfl 1 rfl ?_
    refine r_iload (n := 127) rfl ok d_rc_digestOfStation_125 3 rfl ?_
    obtain ⟨r16, hr16, h⟩ := bd_ok h
    refine r_callV (n := 130) rfl ok hG mf_rc_role k_776 k_777 k_974 (C_rc_role  hr16) ⟨rfl, rfl⟩ (rR hXR ⟨Nat.le_of_ble_eq_true rfl, Nat.le_of_ble_eq_true rfl⟩) rfl rfl (rv_RC) rfl (Nat.le_of_ble_eq_true rfl) d_rc_digestOfStation_127 ?_
    refine r_i2l (n := 131) rfl ok d_rc_digestOfStation_130 ?_
    refine r_ladd (n := 132) rfl ok d_rc_digestOfStation_131 ?_
    obtain ⟨x17, ex17, h⟩ := bd_ok h
    refine r_tl (Option.some.inj ex17).symm ?_
    refine r_lstore (lv' := [(4, .long x17), (0, .ref (G.1 + oRC)), (3, .int y3), (6, .int x.2)]) (n := 134) rfl ok d_rc_digestOfStation_132 (lt_n hXn (Nat.le_of_ble_eq_true rfl)) rfl ?_
    obtain ⟨x18, ex18, h⟩ := bd_ok h
    refine r_iinc (lv' := [(6, .int x18), (4, .long x17), (0, .ref (G.1 + oRC)), (3, .int y3)]) (n := 137) rfl ok d_rc_digestOfStation_134 3 rfl (Option.some.inj ex18) (lt_n hXn (Nat.le_of_ble_eq_true rfl)) rfl ?_
    refine r_goto (tgt := 111) ok d_rc_digestOfStation_137 (by decide) ?_
    obtain rfl := Option.some.inj h
    exact r_sub [2, 3, 1, 0] rfl (show Wt X M 111 [(0, .ref (G.1 + oRC)), (3, .int y3), (4, .long x17), (6, .int x18)] [] from hk _ rfl)
set_option maxHeartbeats 4000000 in
set_option maxRecDepth 20000 in
theorem w_rc_digestOfStation_143 {X : Cx Me} {G : Gt} (ok : Ok X b_rc_digestOfStation "RetryChains") (hG : GC X G) (hXR : X.R = rm_rc_digestOfStation) (hXn : X.nL = 7) {M : Me} {y3 : Int32}  {t : Int64} (kx : ∀ e : Int64, e = t → Wt X M 215 [(4, .long e)] [])  : ∀ (n : Nat) (x : Int64 × Int32), lp n (b_rc_digestOfStation_143 M y3) x = some t → Wt X M 143 [(0, .ref (G.1 + oRC)), (3, .int y3), (4, .long x.1), (6, .int x.2)] [] := by
  intro n x h
  refine lp_W (P := fun x => Wt X M 143 [(0, .ref (G.1 + oRC)), (3, .int y3), (4, .long x.1), (6, .int x.2)] []) (Z := fun t' => t' = t) (fun x r h hk hz => ?_) n x t h rfl
  unfold b_rc_digestOfStation_143 at h
  refine r_iload (n := 145) rfl ok d_rc_digestOfStation_143 3 rfl ?_
  refine r_aload_n (n := 146) rfl ok d_rc_digestOfStation_145 rfl 0 rfl ?_
  refine g_RC_now (n := 149) rfl ok hG  k_349 d_rc_digestOfStation_146 ?_
  refine g_NET_rates (n := 152) rfl ok hG (by decide) k_241 d_rc_digestOfStation_149 ?_
  refine g_TAB_count (n := 155) rfl ok hG (by decide) k_36 d_rc_digestOfStation_152 ?_
  refine r_icmp_ge (tgt := 215) (n := 158) rfl ok d_rc_digestOfStation_155 (by decide) (fun c21 => ?_) (fun c21 => ?_)
  · replace h := if_p c21 h
    obtain rfl := Option.some.inj h
    exact r_sub [2] rfl (show Wt X M 215 [(4, .long x.1)] [] from kx _ (hz _ rfl))
  · replace h := if_n c21 h
    refine r_ldc2 (n := 161) rfl ok d_rc_digestOfStation_158 k_961 ?_
    refine r_lload (n := 163) rfl ok d_rc_digestOfStation_161 2 rfl ?_
    refine r_lmul (n := 164) rfl ok d_rc_digestOfStation_163 ?_
    refine r_aload_n (n := 165) rfl ok d_rc_digestOfStation_164 rfl 0 rfl ?_
    refine r_iload_n (n := 166) rfl ok d_rc_digestOfStation_165 rfl 1 rfl ?_
    refine r_iload (n := 168) rfl ok d_rc_digestOfStation_166 3 rfl ?_
    obtain ⟨r22, hr22, h⟩ := bd_ok h
    refine r_callV (n := 171) rfl ok hG mf_rc_estimate k_747 k_748 k_975 (C_rc_estimate  hr22) ⟨rfl, rfl⟩ (rR hXR ⟨Nat.le_of_ble_eq_true rfl, Nat.le_of_ble_eq_true rfl⟩) rfl rfl (rv_RC) rfl (Nat.le_of_ble_eq_true rfl) d_rc_digestOfStation_168 ?_
    refine r_i2l (n := 172) rfl ok d_rc_digestOfStation_171 ?_
    refine r_ladd (n := 173) rfl ok d_rc_digestOfStation_172 ?_
    obtain ⟨x23, ex23, h⟩ := bd_ok h
    refine r_tl (Option.some.inj ex23).symm ?_
    refine r_lstore (lv' := [(4, .long x23), (0, .ref (G.1 + oRC)), (3, .int y3), (6, .int x.2)]) (n := 175) rfl ok d_rc_digestOfStation_173 (lt_n hXn (Nat.le_of_ble_eq_true rfl)) rfl ?_
    refine r_ldc2 (n := 178) rfl ok d_rc_digestOfStation_175 k_961 ?_
    refine r_lload (n := 180) rfl ok d_rc_digestOfStation_178 0 rfl ?_
    refine r_lmul (n := 181) rfl ok d_rc_digestOfStation_180 ?_
    refine r_aload_n (n := 182) rfl ok d_rc_digestOfStation_181 rfl 1 rfl ?_
    refine r_iload_n (n := 183) rfl ok d_rc_digestOfStation_182 rfl 2 rfl ?_
    refine r_iload (n := 185) rfl ok d_rc_digestOfStation_183 3 rfl ?_
    obtain ⟨r24, hr24, h⟩ := bd_ok h
    refine r_callV (n := 188) rfl ok hG mf_rc_triesOf k_751 k_752 k_976 (C_rc_triesOf  hr24) ⟨rfl, rfl⟩ (rR hXR ⟨Nat.le_of_ble_eq_true rfl, Nat.le_of_ble_eq_true rfl⟩) rfl rfl (rv_RC) rfl (Nat.le_of_ble_eq_true rfl) d_rc_digestOfStation_185 ?_
    refine r_i2l (n := 189) rfl ok d_rc_digestOfStation_188 ?_
    refine r_ladd (n := 190) rfl ok d_rc_digestOfStation_189 ?_
    obtain ⟨x25, ex25, h⟩ := bd_ok h
    refine r_tl (Option.some.inj ex25).symm ?_
    refine r_lstore (lv' := [(4, .long x25), (0, .ref (G.1 + oRC)), (3, .int y3), (6, .int x.2)]) (n := 192) rfl ok d_rc_digestOfStation_190 (lt_n hXn (Nat.le_of_ble_eq_true rfl)) rfl ?_
    refine r_ldc2 (n := 195) rfl ok d_rc_digestOfStation_192 k_961 ?_
    refine r_lload (n := 197) rfl ok d_rc_digestOfStation_195 0 rfl ?_
    refine r_lmul (n := 198) rfl ok d_rc_digestOfStation_197 ?_
    refine r_aload_n (n := 199) rfl ok d_rc_digestOfStation_198 rfl 1 rfl ?_
    refine r_iload_n (n := 200) rfl ok d_rc_digestOfStation_199 rfl 2 rfl ?_
    refine r_iload (n := 202) rfl ok d_rc_digestOfStation_200 3 rfl ?_
    obtain ⟨r26, hr26, h⟩ := bd_ok h
    refine r_callV (n := 205) rfl ok hG mf_rc_successesOf k_755 k_756 k_977 (C_rc_successesOf  hr26) ⟨rfl, rfl⟩ (rR hXR ⟨Nat.le_of_ble_eq_true rfl, Nat.le_of_ble_eq_true rfl⟩) rfl rfl (rv_RC) rfl (Nat.le_of_ble_eq_true rfl) d_rc_digestOfStation_202 ?_
    refine r_i2l (n := 206) rfl ok d_rc_digestOfStation_205 ?_
    refine r_ladd (n := 207) rfl ok d_rc_digestOfStation_206 ?_
    obtain ⟨x27, ex27, h⟩ := bd_ok h
    refine r_tl (Option.some.inj ex27).symm ?_
    refine r_lstore (lv' := [(4, .long x27), (0, .ref (G.1 + oRC)), (3, .int y3), (6, .int x.2)]) (n := 209) rfl ok d_rc_digestOfStation_207 (lt_n hXn (Nat.le_of_ble_eq_true rfl)) rfl ?_
    obtain ⟨x28, ex28, h⟩ := bd_ok h
    refine r_iinc (lv' := [(6, .int x28), (4, .long x27), (0, .ref (G.1 + oRC)), (3, .int y3)]) (n := 212) rfl ok d_rc_digestOfStation_209 3 rfl (Option.some.inj ex28) (lt_n hXn (Nat.le_of_ble_eq_true rfl)) rfl ?_
    refine r_goto (tgt := 143) ok d_rc_digestOfStation_212 (by decide) ?_
    obtain rfl := Option.some.inj h
    exact r_sub [2, 3, 1, 0] rfl (show Wt X M 143 [(0, .ref (G.1 + oRC)), (3, .int y3), (4, .long x27), (6, .int x28)] [] from hk _ rfl)
set_option maxHeartbeats 4000000 in
set_option maxRecDepth 20000 in
theorem C_rc_digestOfStation {l : Launch} {G : Gt} {M : Me} {a1 : Int64} {a2 : Int32}  {o : Int64} (h : f_rc_digestOfStation M a1 a2 = some o) : Ct l G (WC G) (rC G) y_rc_digestOfStation b_rc_digestOfStation 7 (some .long) rm_rc_digestOfStation [.ref (G.1 + oRC), .long a1, .int a2] M (some (.long o)) M := by
  refine Ct.mk (own := "RetryChains") rfl (by decide) (Nat.le_of_ble_eq_true rfl) rfl (fun X hXl hXR hXn ok hG fin => ?_)
  subst hXl
  unfold f_rc_digestOfStation at h
  show Wt X M 0 [(0, .ref (G.1 + oRC)), (1, .long a1), (3, .int a2)] []
  refine r_lload_n (n := 1) rfl ok d_rc_digestOfStation_0 rfl 1 rfl ?_
  refine r_lstore (lv' := [(4, .long a1), (0, .ref (G.1 + oRC)), (1, .long a1), (3, .int a2)]) (n := 3) rfl ok d_rc_digestOfStation_1 (lt_n hXn (Nat.le_of_ble_eq_true rfl)) rfl ?_
  refine r_ldc2 (n := 6) rfl ok d_rc_digestOfStation_3 k_961 ?_
  refine r_lload (n := 8) rfl ok d_rc_digestOfStation_6 0 rfl ?_
  refine r_lmul (n := 9) rfl ok d_rc_digestOfStation_8 ?_
  refine r_aload_n (n := 10) rfl ok d_rc_digestOfStation_9 rfl 1 rfl ?_
  refine r_iload_n (n := 11) rfl ok d_rc_digestOfStation_10 rfl 3 rfl ?_
  obtain ⟨r1, hr1, h⟩ := bd_ok h
  refine r_callV (n := 14) rfl ok hG mf_rc_chains k_841 k_842 k_967 (C_rc_chains  hr1) ⟨rfl, rfl⟩ (rR hXR ⟨Nat.le_of_ble_eq_true rfl, Nat.le_of_ble_eq_true rfl⟩) rfl rfl (rv_RC) rfl (Nat.le_of_ble_eq_true rfl) d_rc_digestOfStation_11 ?_
  refine r_i2l (n := 15) rfl ok d_rc_digestOfStation_14 ?_
  refine r_ladd (n := 16) rfl ok d_rc_digestOfStation_15 ?_
  obtain ⟨x2, ex2, h⟩ := bd_ok h
  refine r_tl (Option.some.inj ex2).symm ?_
  refine r_lstore (lv' := [(4, .long x2), (0, .ref (G.1 + oRC)), (1, .long a1), (3, .int a2)]) (n := 18) rfl ok d_rc_digestOfStation_16 (lt_n hXn (Nat.le_of_ble_eq_true rfl)) rfl ?_
  refine r_ldc2 (n := 21) rfl ok d_rc_digestOfStation_18 k_961 ?_
  refine r_lload (n := 23) rfl ok d_rc_digestOfStation_21 0 rfl ?_
  refine r_lmul (n := 24) rfl ok d_rc_digestOfStation_23 ?_
  refine r_aload_n (n := 25) rfl ok d_rc_digestOfStation_24 rfl 1 rfl ?_
  refine r_iload_n (n := 26) rfl ok d_rc_digestOfStation_25 rfl 3 rfl ?_
  obtain ⟨r3, hr3, h⟩ := bd_ok h
  refine r_callV (n := 29) rfl ok hG mf_rc_sampled k_845 k_846 k_968 (C_rc_sampled  hr3) ⟨rfl, rfl⟩ (rR hXR ⟨Nat.le_of_ble_eq_true rfl, Nat.le_of_ble_eq_true rfl⟩) rfl rfl (rv_RC) rfl (Nat.le_of_ble_eq_true rfl) d_rc_digestOfStation_26 ?_
  refine r_i2l (n := 30) rfl ok d_rc_digestOfStation_29 ?_
  refine r_ladd (n := 31) rfl ok d_rc_digestOfStation_30 ?_
  obtain ⟨x4, ex4, h⟩ := bd_ok h
  refine r_tl (Option.some.inj ex4).symm ?_
  refine r_lstore (lv' := [(4, .long x4), (0, .ref (G.1 + oRC)), (1, .long a1), (3, .int a2)]) (n := 33) rfl ok d_rc_digestOfStation_31 (lt_n hXn (Nat.le_of_ble_eq_true rfl)) rfl ?_
  refine r_ldc2 (n := 36) rfl ok d_rc_digestOfStation_33 k_961 ?_
  refine r_lload (n := 38) rfl ok d_rc_digestOfStation_36 0 rfl ?_
  refine r_lmul (n := 39) rfl ok d_rc_digestOfStation_38 ?_
  refine r_aload_n (n := 40) rfl ok d_rc_digestOfStation_39 rfl 1 rfl ?_
  refine r_iload_n (n := 41) rfl ok d_rc_digestOfStation_40 rfl 3 rfl ?_
  obtain ⟨r5, hr5, h⟩ := bd_ok h
  refine r_callV (n := 44) rfl ok hG mf_rc_delivered k_849 k_850 k_969 (C_rc_delivered  hr5) ⟨rfl, rfl⟩ (rR hXR ⟨Nat.le_of_ble_eq_true rfl, Nat.le_of_ble_eq_true rfl⟩) rfl rfl (rv_RC) rfl (Nat.le_of_ble_eq_true rfl) d_rc_digestOfStation_41 ?_
  refine r_i2l (n := 45) rfl ok d_rc_digestOfStation_44 ?_
  refine r_ladd (n := 46) rfl ok d_rc_digestOfStation_45 ?_
  obtain ⟨x6, ex6, h⟩ := bd_ok h
  refine r_tl (Option.some.inj ex6).symm ?_
  refine r_lstore (lv' := [(4, .long x6), (0, .ref (G.1 + oRC)), (1, .long a1), (3, .int a2)]) (n := 48) rfl ok d_rc_digestOfStation_46 (lt_n hXn (Nat.le_of_ble_eq_true rfl)) rfl ?_
  refine r_ldc2 (n := 51) rfl ok d_rc_digestOfStation_48 k_961 ?_
  refine r_lload (n := 53) rfl ok d_rc_digestOfStation_51 0 rfl ?_
  refine r_lmul (n := 54) rfl ok d_rc_digestOfStation_53 ?_
  refine r_aload_n (n := 55) rfl ok d_rc_digestOfStation_54 rfl 1 rfl ?_
  refine r_iload_n (n := 56) rfl ok d_rc_digestOfStation_55 rfl 3 rfl ?_
  obtain ⟨r7, hr7, h⟩ := bd_ok h
  refine r_callV (n := 59) rfl ok hG mf_rc_lost k_853 k_854 k_970 (C_rc_lost  hr7) ⟨rfl, rfl⟩ (rR hXR ⟨Nat.le_of_ble_eq_true rfl, Nat.le_of_ble_eq_true rfl⟩) rfl rfl (rv_RC) rfl (Nat.le_of_ble_eq_true rfl) d_rc_digestOfStation_56 ?_
  refine r_i2l (n := 60) rfl ok d_rc_digestOfStation_59 ?_
  refine r_ladd (n := 61) rfl ok d_rc_digestOfStation_60 ?_
  obtain ⟨x8, ex8, h⟩ := bd_ok h
  refine r_tl (Option.some.inj ex8).symm ?_
  refine r_lstore (lv' := [(4, .long x8), (0, .ref (G.1 + oRC)), (1, .long a1), (3, .int a2)]) (n := 63) rfl ok d_rc_digestOfStation_61 (lt_n hXn (Nat.le_of_ble_eq_true rfl)) rfl ?_
  refine r_ldc2 (n := 66) rfl ok d_rc_digestOfStation_63 k_961 ?_
  refine r_lload (n := 68) rfl ok d_rc_digestOfStation_66 0 rfl ?_
  refine r_lmul (n := 69) rfl ok d_rc_digestOfStation_68 ?_
  refine r_aload_n (n := 70) rfl ok d_rc_digestOfStation_69 rfl 1 rfl ?_
  refine r_iload_n (n := 71) rfl ok d_rc_digestOfStation_70 rfl 3 rfl ?_
  obtain ⟨r9, hr9, h⟩ := bd_ok h
  refine r_callV (n := 74) rfl ok hG mf_rc_queued k_857 k_858 k_971 (C_rc_queued  hr9) ⟨rfl, rfl⟩ (rR hXR ⟨Nat.le_of_ble_eq_true rfl, Nat.le_of_ble_eq_true rfl⟩) rfl rfl (rv_RC) rfl (Nat.le_of_ble_eq_true rfl) d_rc_digestOfStation_71 ?_
  refine r_i2l (n := 75) rfl ok d_rc_digestOfStation_74 ?_
  refine r_ladd (n := 76) rfl ok d_rc_digestOfStation_75 ?_
  obtain ⟨x10, ex10, h⟩ := bd_ok h
  refine r_tl (Option.some.inj ex10).symm ?_
  refine r_lstore (lv' := [(4, .long x10), (0, .ref (G.1 + oRC)), (1, .long a1), (3, .int a2)]) (n := 78) rfl ok d_rc_digestOfStation_76 (lt_n hXn (Nat.le_of_ble_eq_true rfl)) rfl ?_
  refine r_ldc2 (n := 81) rfl ok d_rc_digestOfStation_78 k_961 ?_
  refine r_lload (n := 83) rfl ok d_rc_digestOfStation_81 0 rfl ?_
  refine r_lmul (n := 84) rfl ok d_rc_digestOfStation_83 ?_
  refine r_aload_n (n := 85) rfl ok d_rc_digestOfStation_84 rfl 1 rfl ?_
  refine r_iload_n (n := 86) rfl ok d_rc_digestOfStation_85 rfl 3 rfl ?_
  obtain ⟨r11, hr11, h⟩ := bd_ok h
  refine r_callV (n := 89) rfl ok hG mf_rc_deficit k_861 k_862 k_972 (C_rc_deficit  hr11) ⟨rfl, rfl⟩ (rR hXR ⟨Nat.le_of_ble_eq_true rfl, Nat.le_of_ble_eq_true rfl⟩) rfl rfl (rv_RC) rfl (Nat.le_of_ble_eq_true rfl) d_rc_digestOfStation_86 ?_
  refine r_i2l (n := 90) rfl ok d_rc_digestOfStation_89 ?_
  refine r_ladd (n := 91) rfl ok d_rc_digestOfStation_90 ?_
  obtain ⟨x12, ex12, h⟩ := bd_ok h
  refine r_tl (Option.some.inj ex12).symm ?_
  refine r_lstore (lv' := [(4, .long x12), (0, .ref (G.1 + oRC)), (1, .long a1), (3, .int a2)]) (n := 93) rfl ok d_rc_digestOfStation_91 (lt_n hXn (Nat.le_of_ble_eq_true rfl)) rfl ?_
  refine r_ldc2 (n := 96) rfl ok d_rc_digestOfStation_93 k_961 ?_
  refine r_lload (n := 98) rfl ok d_rc_digestOfStation_96 0 rfl ?_
  refine r_lmul (n := 99) rfl ok d_rc_digestOfStation_98 ?_
  refine r_aload_n (n := 100) rfl ok d_rc_digestOfStation_99 rfl 1 rfl ?_
  refine r_iload_n (n := 101) rfl ok d_rc_digestOfStation_100 rfl 3 rfl ?_
  obtain ⟨r13, hr13, h⟩ := bd_ok h
  refine r_callV (n := 104) rfl ok hG mf_rc_inFallback k_866 k_867 k_973 (C_rc_inFallback  hr13) ⟨rfl, rfl⟩ (rR hXR ⟨Nat.le_of_ble_eq_true rfl, Nat.le_of_ble_eq_true rfl⟩) rfl rfl (rv_RC) rfl (Nat.le_of_ble_eq_true rfl) d_rc_digestOfStation_101 ?_
  refine r_i2l (n := 105) rfl ok d_rc_digestOfStation_104 ?_
  refine r_ladd (n := 106) rfl ok d_rc_digestOfStation_105 ?_
  obtain ⟨x14, ex14, h⟩ := bd_ok h
  refine r_tl (Option.some.inj ex14).symm ?_
  refine r_lstore (lv' := [(4, .long x14), (0, .ref (G.1 + oRC)), (1, .long a1), (3, .int a2)]) (n := 108) rfl ok d_rc_digestOfStation_106 (lt_n hXn (Nat.le_of_ble_eq_true rfl)) rfl ?_
  refine r_iconst (v := 0) (n := 109) rfl ok d_rc_digestOfStation_108 (by decide) ?_
  refine r_istore (lv' := [(6, .int 0), (4, .long x14), (0, .ref (G.1 + oRC)), (1, .long a1), (3, .int a2)]) (n := 111) rfl ok d_rc_digestOfStation_109 (lt_n hXn (Nat.le_of_ble_eq_true rfl)) rfl ?_
  obtain ⟨t19, ht19, h⟩ := bd_ok h
  refine r_sub [2, 4, 1, 0] rfl (show Wt X M 111 [(0, .ref (G.1 + oRC)), (3, .int a2), (4, .long x14), (6, .int 0)] [] from w_rc_digestOfStation_111 ok hG hXR hXn  ?_ _ _ ht19)
  · intro e20 he
    subst he
    refine r_iconst (v := 0) (n := 141) rfl ok d_rc_digestOfStation_140 (by decide) ?_
    refine r_istore (lv' := [(6, .int 0), (0, .ref (G.1 + oRC)), (3, .int a2), (4, .long e20)]) (n := 143) rfl ok d_rc_digestOfStation_141 (lt_n hXn (Nat.le_of_ble_eq_true rfl)) rfl ?_
    obtain ⟨t29, ht29, h⟩ := bd_ok h
    refine r_sub [1, 2, 3, 0] rfl (show Wt X M 143 [(0, .ref (G.1 + oRC)), (3, .int a2), (4, .long e20), (6, .int 0)] [] from w_rc_digestOfStation_143 ok hG hXR hXn  ?_ _ _ ht29)
    · intro e30 he
      subst he
      refine r_lload (n := 217) rfl ok d_rc_digestOfStation_215 0 rfl ?_
      obtain rfl := Option.some.inj h
      exact fin _ _ d_rc_digestOfStation_217
