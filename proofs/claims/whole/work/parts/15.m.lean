set_option maxHeartbeats 4000000 in
set_option maxRecDepth 20000 in
theorem C_nt_endFallback {l : Launch} {G : Gt} {M : Me} {i0 : Nat} {i1 : Nat} {s1 : Nat} (hi0 : i0 < 9) (hi1 : i1 < 9) (hs1 : s1 < 4) {o : Me} (h : f_nt_endFallback M i0 i1 s1 = some o) : Ct l G (WC G) (rC G) y_nt_endFallback b_nt_endFallback 2 none rm_nt_endFallback [.ref (G.1 + oNET i0), .ref (G.1 + oSTA i1 s1)] M (none) o := by
  refine Ct.mk (own := "RetryChains$Network") rfl (by decide) (Nat.le_of_ble_eq_true rfl) rfl (fun X hXl hXR hXn ok hG fin => ?_)
  subst hXl
  unfold f_nt_endFallback at h
  show Wt X M 0 [(0, .ref (G.1 + oNET i0)), (1, .ref (G.1 + oSTA i1 s1))] []
  refine r_aload_n (n := 1) rfl ok d_nt_endFallback_0 rfl 1 rfl ?_
  refine g_STA_inFallback (n := 4) rfl ok hG hi1 hs1 k_158 d_nt_endFallback_1 ?_
  refine r_if_eq (tgt := 30) (n := 7) rfl ok d_nt_endFallback_4 (by decide) (fun c1 => ?_) (fun c1 => ?_)
  · replace h := if_p c1 h
    obtain rfl := Option.some.inj h
    exact fin _ _ d_nt_endFallback_30
  · replace h := if_n c1 h
    refine r_aload_n (n := 8) rfl ok d_nt_endFallback_7 rfl 1 rfl ?_
    refine r_iconst (v := 0) (n := 9) rfl ok d_nt_endFallback_8 (by decide) ?_
    obtain ⟨M2, eM2, h⟩ := bd_ok h
    refine p_STA_inFallback (n := 12) rfl ok hG hi1 hs1 (by decide) k_158 d_nt_endFallback_9 ?_
    refine r_mem (Option.some.inj eM2) ?_
    refine r_aload_n (n := 13) rfl ok d_nt_endFallback_12 rfl 0 rfl ?_
    refine g_NET_log (n := 16) rfl ok hG hi0 k_245 d_nt_endFallback_13 ?_
    refine r_iconst (v := 4) (n := 17) rfl ok d_nt_endFallback_16 (by decide) ?_
    refine r_aload_n (n := 18) rfl ok d_nt_endFallback_17 rfl 1 rfl ?_
    refine g_STA_number (n := 21) rfl ok hG hi1 hs1 k_131 d_nt_endFallback_18 ?_
    refine r_bipush (v := (-9)) (n := 23) rfl ok d_nt_endFallback_21 (by decide) ?_
    refine r_aload_n (n := 24) rfl ok d_nt_endFallback_23 rfl 0 rfl ?_
    refine g_NET_time (n := 27) rfl ok hG hi0 k_249 d_nt_endFallback_24 ?_
    obtain ⟨r3, hr3, h⟩ := bd_ok h
    refine r_callV (n := 30) rfl ok hG mf_lo_note k_625 k_626 k_624 (C_lo_note hi0 hr3) ⟨rfl, rfl⟩ (rR hXR ⟨Nat.le_of_ble_eq_true rfl, Nat.le_of_ble_eq_true rfl⟩) rfl rfl (rv_LOG hi0) rfl (Nat.le_of_ble_eq_true rfl) d_nt_endFallback_27 ?_
    obtain rfl := Option.some.inj h
    exact fin _ _ d_nt_endFallback_30
set_option maxHeartbeats 4000000 in
set_option maxRecDepth 20000 in
theorem C_nt_conclude {l : Launch} {G : Gt} {M : Me} {i0 : Nat} {i1 : Nat} {s1 : Nat} {a2 : Int32} {a3 : Int32} (hi0 : i0 < 9) (hi1 : i1 < 9) (hs1 : s1 < 6) {o : Me} (h : f_nt_conclude M i0 i1 s1 a2 a3 = some o) : Ct l G (WC G) (rC G) y_nt_conclude b_nt_conclude 6 none rm_nt_conclude [.ref (G.1 + oNET i0), .ref (G.1 + oCHN i1 s1), .int a2, .int a3] M (none) o := by
  refine Ct.mk (own := "RetryChains$Network") rfl (by decide) (Nat.le_of_ble_eq_true rfl) rfl (fun X hXl hXR hXn ok hG fin => ?_)
  subst hXl
  unfold f_nt_conclude at h
  show Wt X M 0 [(0, .ref (G.1 + oNET i0)), (1, .ref (G.1 + oCHN i1 s1)), (2, .int a2), (3, .int a3)] []
  refine r_aload_n (n := 1) rfl ok d_nt_conclude_0 rfl 0 rfl ?_
  refine r_aload_n (n := 2) rfl ok d_nt_conclude_1 rfl 1 rfl ?_
  refine g_CHN_station (n := 5) rfl ok hG hi1 hs1 k_207 d_nt_conclude_2 ?_
  obtain ⟨r1, hr1, h⟩ := bd_ok h
  refine r_callV (n := 8) rfl ok hG mf_nt_stationAt k_465 k_466 k_472 (C_nt_stationAt hi0 hr1) ⟨rfl, rfl⟩ (rR hXR ⟨Nat.le_of_ble_eq_true rfl, Nat.le_of_ble_eq_true rfl⟩) rfl rfl (rv_NET hi0) rfl (Nat.le_of_ble_eq_true rfl) d_nt_conclude_5 ?_
  rcases er1 : r1 with _ | p2
  · replace h := el_n er1 h
    try rw [er1]
    refine r_astoreN (lv' := [(4, .null), (0, .ref (G.1 + oNET i0)), (1, .ref (G.1 + oCHN i1 s1)), (2, .int a2), (3, .int a3)]) (n := 10) rfl ok d_nt_conclude_8 (lt_n hXn (Nat.le_of_ble_eq_true rfl)) rfl ?_
    refine r_aloadN (n := 12) rfl ok d_nt_conclude_10 0 rfl ?_
    refine r_ifnonnullN (n := 15) rfl ok d_nt_conclude_12 ?_
    obtain rfl := Option.some.inj h
    exact fin _ _ d_nt_conclude_15
  · replace h := el_s er1 h
    try rw [er1]
    have vp2 := v_nt_stationAt hi0 (hr1.trans (congrArg some er1))
    refine r_astore (lv' := [(4, .ref (G.1 + oSTA p2.1 p2.2)), (0, .ref (G.1 + oNET i0)), (1, .ref (G.1 + oCHN i1 s1)), (2, .int a2), (3, .int a3)]) (n := 10) rfl ok d_nt_conclude_8 (lt_n hXn (Nat.le_of_ble_eq_true rfl)) rfl ?_
    refine r_aload (n := 12) rfl ok d_nt_conclude_10 0 rfl ?_
    refine r_ifnonnull (tgt := 16) ok d_nt_conclude_12 (by decide) ?_
    refine r_aload_n (n := 17) rfl ok d_nt_conclude_16 rfl 2 rfl ?_
    refine r_iconst (v := 0) (n := 18) rfl ok d_nt_conclude_17 (by decide) ?_
    obtain ⟨M3, eM3, h⟩ := bd_ok h
    refine p_CHN_isOpen (n := 21) rfl ok hG hi1 hs1 (by decide) k_205 d_nt_conclude_18 ?_
    refine r_mem (Option.some.inj eM3) ?_
    refine r_aload_n (n := 22) rfl ok d_nt_conclude_21 rfl 1 rfl ?_
    refine r_aload (n := 24) rfl ok d_nt_conclude_22 0 rfl ?_
    refine r_aload_n (n := 25) rfl ok d_nt_conclude_24 rfl 2 rfl ?_
    refine r_iload_n (n := 26) rfl ok d_nt_conclude_25 rfl 3 rfl ?_
    refine r_iload_n (n := 27) rfl ok d_nt_conclude_26 rfl 4 rfl ?_
    obtain ⟨r4, hr4, h⟩ := bd_ok h
    refine r_callV (n := 30) rfl ok hG mf_nt_countTries k_612 ks_5 k_610 (C_nt_countTries hi0 vp2.1 vp2.2 hi1 hs1 hr4) ⟨rfl, rfl⟩ (rR hXR ⟨Nat.le_of_ble_eq_true rfl, Nat.le_of_ble_eq_true rfl⟩) rfl rfl (rv_NET hi0) rfl (Nat.le_of_ble_eq_true rfl) d_nt_conclude_27 ?_
    refine r_aload_n (n := 31) rfl ok d_nt_conclude_30 rfl 1 rfl ?_
    refine r_aload_n (n := 32) rfl ok d_nt_conclude_31 rfl 2 rfl ?_
    refine r_iload_n (n := 33) rfl ok d_nt_conclude_32 rfl 3 rfl ?_
    obtain ⟨r5, hr5, h⟩ := bd_ok h
    refine r_callV (n := 36) rfl ok hG mf_nt_timeOfTries k_600 k_601 k_618 (C_nt_timeOfTries hi0 hi1 hs1 hr5) ⟨rfl, rfl⟩ (rR hXR ⟨Nat.le_of_ble_eq_true rfl, Nat.le_of_ble_eq_true rfl⟩) rfl rfl (rv_NET hi0) rfl (Nat.le_of_ble_eq_true rfl) d_nt_conclude_33 ?_
    refine r_istore (lv' := [(5, .int r5), (4, .ref (G.1 + oSTA p2.1 p2.2)), (0, .ref (G.1 + oNET i0)), (1, .ref (G.1 + oCHN i1 s1)), (2, .int a2), (3, .int a3)]) (n := 38) rfl ok d_nt_conclude_36 (lt_n hXn (Nat.le_of_ble_eq_true rfl)) rfl ?_
    refine r_aload_n (n := 39) rfl ok d_nt_conclude_38 rfl 2 rfl ?_
    refine r_dup (n := 40) rfl ok d_nt_conclude_39 rfl ?_
    refine g_NET_time (n := 43) rfl ok hG hi0 k_249 d_nt_conclude_40 ?_
    refine r_iload (n := 45) rfl ok d_nt_conclude_43 0 rfl ?_
    refine r_iadd (n := 46) rfl ok d_nt_conclude_45 ?_
    obtain ⟨M6, eM6, h⟩ := bd_ok h
    refine p_NET_time (n := 49) rfl ok hG hi0 k_249 d_nt_conclude_46 ?_
    refine r_mem (Option.some.inj eM6) ?_
    refine r_aload (n := 51) rfl ok d_nt_conclude_49 1 rfl ?_
    refine r_ldc (n := 53) rfl ok d_nt_conclude_51 k_619 ?_
    refine r_aload (n := 55) rfl ok d_nt_conclude_53 1 rfl ?_
    refine g_STA_deficit (n := 58) rfl ok hG vp2.1 vp2.2 k_161 d_nt_conclude_55 ?_
    refine r_iload (n := 60) rfl ok d_nt_conclude_58 0 rfl ?_
    refine r_isub (n := 61) rfl ok d_nt_conclude_60 ?_
    refine r_mmax (n := 64) rfl ok hG k_524 k_425 k_12 k_426 (rR hXR ⟨Nat.le_of_ble_eq_true rfl, Nat.le_of_ble_eq_true rfl⟩) d_nt_conclude_61 ?_
    obtain ⟨M7, eM7, h⟩ := bd_ok h
    refine p_STA_deficit (n := 67) rfl ok hG vp2.1 vp2.2 k_161 d_nt_conclude_64 ?_
    refine r_mem (Option.some.inj eM7) ?_
    refine r_iload_n (n := 68) rfl ok d_nt_conclude_67 rfl 5 rfl ?_
    refine r_if_eq (tgt := 95) (n := 71) rfl ok d_nt_conclude_68 (by decide) (fun c8 => ?_) (fun c8 => ?_)
    · replace h := if_p c8 h
      refine r_aload (n := 97) rfl ok d_nt_conclude_95 1 rfl ?_
      refine r_dup (n := 98) rfl ok d_nt_conclude_97 rfl ?_
      refine g_STA_lost (n := 101) rfl ok hG vp2.1 vp2.2 k_153 d_nt_conclude_98 ?_
      refine r_iconst (v := 1) (n := 102) rfl ok d_nt_conclude_101 (by decide) ?_
      refine r_iadd (n := 103) rfl ok d_nt_conclude_102 ?_
      obtain ⟨M9, eM9, h⟩ := bd_ok h
      refine p_STA_lost (n := 106) rfl ok hG vp2.1 vp2.2 k_153 d_nt_conclude_103 ?_
      refine r_mem (Option.some.inj eM9) ?_
      refine r_aload (n := 108) rfl ok d_nt_conclude_106 1 rfl ?_
      refine r_dup (n := 109) rfl ok d_nt_conclude_108 rfl ?_
      refine g_STA_losses (n := 112) rfl ok hG vp2.1 vp2.2 k_156 d_nt_conclude_109 ?_
      refine r_iconst (v := 1) (n := 113) rfl ok d_nt_conclude_112 (by decide) ?_
      refine r_iadd (n := 114) rfl ok d_nt_conclude_113 ?_
      obtain ⟨M10, eM10, h⟩ := bd_ok h
      refine p_STA_losses (n := 117) rfl ok hG vp2.1 vp2.2 k_156 d_nt_conclude_114 ?_
      refine r_mem (Option.some.inj eM10) ?_
      refine r_aload (n := 119) rfl ok d_nt_conclude_117 1 rfl ?_
      refine g_STA_losses (n := 122) rfl ok hG vp2.1 vp2.2 k_156 d_nt_conclude_119 ?_
      refine r_iconst (v := 3) (n := 123) rfl ok d_nt_conclude_122 (by decide) ?_
      refine r_icmp_ne (tgt := 132) (n := 126) rfl ok d_nt_conclude_123 (by decide) (fun c11 => ?_) (fun c11 => ?_)
      · replace h := if_n c11 h
        obtain rfl := Option.some.inj h
        exact fin _ _ d_nt_conclude_132
      · replace h := if_p c11 h
        refine r_aload_n (n := 127) rfl ok d_nt_conclude_126 rfl 2 rfl ?_
        refine r_aload (n := 129) rfl ok d_nt_conclude_127 1 rfl ?_
        obtain ⟨r12, hr12, h⟩ := bd_ok h
        refine r_callV (n := 132) rfl ok hG mf_nt_beginFallback k_631 ks_7 k_629 (C_nt_beginFallback hi0 vp2.1 vp2.2 hr12) ⟨rfl, rfl⟩ (rR hXR ⟨Nat.le_of_ble_eq_true rfl, Nat.le_of_ble_eq_true rfl⟩) rfl rfl (rv_NET hi0) rfl (Nat.le_of_ble_eq_true rfl) d_nt_conclude_129 ?_
        obtain rfl := Option.some.inj h
        exact fin _ _ d_nt_conclude_132
    · replace h := if_n c8 h
      refine r_aload (n := 73) rfl ok d_nt_conclude_71 1 rfl ?_
      refine r_dup (n := 74) rfl ok d_nt_conclude_73 rfl ?_
      refine g_STA_delivered (n := 77) rfl ok hG vp2.1 vp2.2 k_150 d_nt_conclude_74 ?_
      refine r_iconst (v := 1) (n := 78) rfl ok d_nt_conclude_77 (by decide) ?_
      refine r_iadd (n := 79) rfl ok d_nt_conclude_78 ?_
      obtain ⟨M13, eM13, h⟩ := bd_ok h
      refine p_STA_delivered (n := 82) rfl ok hG vp2.1 vp2.2 k_150 d_nt_conclude_79 ?_
      refine r_mem (Option.some.inj eM13) ?_
      refine r_aload (n := 84) rfl ok d_nt_conclude_82 1 rfl ?_
      refine r_iconst (v := 0) (n := 85) rfl ok d_nt_conclude_84 (by decide) ?_
      obtain ⟨M14, eM14, h⟩ := bd_ok h
      refine p_STA_losses (n := 88) rfl ok hG vp2.1 vp2.2 k_156 d_nt_conclude_85 ?_
      refine r_mem (Option.some.inj eM14) ?_
      refine r_aload_n (n := 89) rfl ok d_nt_conclude_88 rfl 2 rfl ?_
      refine r_aload (n := 91) rfl ok d_nt_conclude_89 1 rfl ?_
      obtain ⟨r15, hr15, h⟩ := bd_ok h
      refine r_callV (n := 94) rfl ok hG mf_nt_endFallback k_622 ks_6 k_620 (C_nt_endFallback hi0 vp2.1 vp2.2 hr15) ⟨rfl, rfl⟩ (rR hXR ⟨Nat.le_of_ble_eq_true rfl, Nat.le_of_ble_eq_true rfl⟩) rfl rfl (rv_NET hi0) rfl (Nat.le_of_ble_eq_true rfl) d_nt_conclude_91 ?_
      obtain rfl := Option.some.inj h
      exact fin _ _ d_nt_conclude_94
set_option maxHeartbeats 4000000 in
set_option maxRecDepth 20000 in
theorem w_nt_learnAll_2 {X : Cx Me} {G : Gt} (ok : Ok X b_nt_learnAll "RetryChains$Network") (hG : GC X G) (hXR : X.R = rm_nt_learnAll) (hXn : X.nL = 4) {j0a : Nat} {j1a : Nat} {j1b : Nat} (hj0a : j0a < 9) (hj1a : j1a < 9) (hj1b : j1b < 4) {t : Me} (kx : ∀ e : Me, e = t → Wt X e 61 [] [])  : ∀ (n : Nat) (x : Int32 × Me), lp n (b_nt_learnAll_2 j0a j1a j1b) x = some t → Wt X x.2 2 [(0, .ref (G.1 + oNET j0a)), (1, .ref (G.1 + oSTA j1a j1b)), (2, .int x.1)] [] := by
  intro n x h
  refine lp_W (P := fun x => Wt X x.2 2 [(0, .ref (G.1 + oNET j0a)), (1, .ref (G.1 + oSTA j1a j1b)), (2, .int x.1)] []) (Z := fun t' => t' = t) (fun x r h hk hz => ?_) n x t h rfl
  unfold b_nt_learnAll_2 at h
  refine r_iload_n (n := 3) rfl ok d_nt_learnAll_2 rfl 2 rfl ?_
  refine r_aload_n (n := 4) rfl ok d_nt_learnAll_3 rfl 0 rfl ?_
  refine g_NET_rates (n := 7) rfl ok hG hj0a k_239 d_nt_learnAll_4 ?_
  refine g_TAB_count (n := 10) rfl ok hG hj0a k_38 d_nt_learnAll_7 ?_
  refine r_icmp_ge (tgt := 61) (n := 13) rfl ok d_nt_learnAll_10 (by decide) (fun c1 => ?_) (fun c1 => ?_)
  · replace h := if_p c1 h
    obtain rfl := Option.some.inj h
    exact r_sub [] rfl (show Wt X x.2 61 [] [] from kx _ (hz _ rfl))
  · replace h := if_n c1 h
    refine r_aload_n (n := 14) rfl ok d_nt_learnAll_13 rfl 1 rfl ?_
    refine g_STA_links (n := 17) rfl ok hG hj1a hj1b k_134 d_nt_learnAll_14 ?_
    refine r_iload_n (n := 18) rfl ok d_nt_learnAll_17 rfl 2 rfl ?_
    obtain ⟨g2, h⟩ := gd_ok h
    refine al_LINKS (n := 19) rfl ok hG hj1a hj1b g2 d_nt_learnAll_18 ?_
    refine r_astore_n (lv' := [(3, .ref (G.1 + oLNK j1a j1b (tN x.1))), (0, .ref (G.1 + oNET j0a)), (1, .ref (G.1 + oSTA j1a j1b)), (2, .int x.1)]) (n := 20) rfl ok d_nt_learnAll_19 rfl (lt_n hXn (Nat.le_of_ble_eq_true rfl)) rfl ?_
    refine r_aload_n (n := 21) rfl ok d_nt_learnAll_20 rfl 0 rfl ?_
    refine g_LNK_tries (n := 24) rfl ok hG hj1a hj1b (gin_lt g2) k_97 d_nt_learnAll_21 ?_
    refine r_if_le (tgt := 55) (n := 27) rfl ok d_nt_learnAll_24 (by decide) (fun c3 => ?_) (fun c3 => ?_)
    · replace h := if_p c3 h
      obtain ⟨x4, ex4, h⟩ := bd_ok h
      refine r_iinc (lv' := [(2, .int x4), (3, .ref (G.1 + oLNK j1a j1b (tN x.1))), (0, .ref (G.1 + oNET j0a)), (1, .ref (G.1 + oSTA j1a j1b))]) (n := 58) rfl ok d_nt_learnAll_55 3 rfl (Option.some.inj ex4) (lt_n hXn (Nat.le_of_ble_eq_true rfl)) rfl ?_
      refine r_goto (tgt := 2) ok d_nt_learnAll_58 (by decide) ?_
      obtain rfl := Option.some.inj h
      exact r_sub [2, 3, 0] rfl (show Wt X x.2 2 [(0, .ref (G.1 + oNET j0a)), (1, .ref (G.1 + oSTA j1a j1b)), (2, .int x4)] [] from hk _ rfl)
    · replace h := if_n c3 h
      refine r_aload_n (n := 28) rfl ok d_nt_learnAll_27 rfl 0 rfl ?_
      refine r_aload_n (n := 29) rfl ok d_nt_learnAll_28 rfl 1 rfl ?_
      refine g_NET_weight (n := 32) rfl ok hG hj0a k_253 d_nt_learnAll_29 ?_
      obtain ⟨r5, hr5, h⟩ := bd_ok h
      refine r_callV (n := 35) rfl ok hG mf_lk_learn k_675 k_676 k_674 (C_lk_learn hj1a hj1b (gin_lt g2) hr5) ⟨rfl, rfl⟩ (rR hXR ⟨Nat.le_of_ble_eq_true rfl, Nat.le_of_ble_eq_true rfl⟩) rfl rfl (rv_LNK hj1a hj1b (gin_lt g2)) rfl (Nat.le_of_ble_eq_true rfl) d_nt_learnAll_32 ?_
      refine r_if_eq (tgt := 55) (n := 38) rfl ok d_nt_learnAll_35 (by decide) (fun c6 => ?_) (fun c6 => ?_)
      · replace h := if_p c6 h
        obtain ⟨x7, ex7, h⟩ := bd_ok h
        refine r_iinc (lv' := [(2, .int x7), (3, .ref (G.1 + oLNK j1a j1b (tN x.1))), (0, .ref (G.1 + oNET j0a)), (1, .ref (G.1 + oSTA j1a j1b))]) (n := 58) rfl ok d_nt_learnAll_55 3 rfl (Option.some.inj ex7) (lt_n hXn (Nat.le_of_ble_eq_true rfl)) rfl ?_
        refine r_goto (tgt := 2) ok d_nt_learnAll_58 (by decide) ?_
        obtain rfl := Option.some.inj h
        exact r_sub [2, 3, 0] rfl (show Wt X r5.2 2 [(0, .ref (G.1 + oNET j0a)), (1, .ref (G.1 + oSTA j1a j1b)), (2, .int x7)] [] from hk _ rfl)
      · replace h := if_n c6 h
        refine r_aload_n (n := 39) rfl ok d_nt_learnAll_38 rfl 1 rfl ?_
        refine g_NET_log (n := 42) rfl ok hG hj0a k_245 d_nt_learnAll_39 ?_
        refine r_iconst (v := 1) (n := 43) rfl ok d_nt_learnAll_42 (by decide) ?_
        refine r_aload_n (n := 44) rfl ok d_nt_learnAll_43 rfl 2 rfl ?_
        refine g_STA_number (n := 47) rfl ok hG hj1a hj1b k_131 d_nt_learnAll_44 ?_
        refine r_iload_n (n := 48) rfl ok d_nt_learnAll_47 rfl 3 rfl ?_
        refine r_aload_n (n := 49) rfl ok d_nt_learnAll_48 rfl 1 rfl ?_
        refine g_NET_time (n := 52) rfl ok hG hj0a k_249 d_nt_learnAll_49 ?_
        obtain ⟨r8, hr8, h⟩ := bd_ok h
        refine r_callV (n := 55) rfl ok hG mf_lo_note k_625 k_626 k_624 (C_lo_note hj0a hr8) ⟨rfl, rfl⟩ (rR hXR ⟨Nat.le_of_ble_eq_true rfl, Nat.le_of_ble_eq_true rfl⟩) rfl rfl (rv_LOG hj0a) rfl (Nat.le_of_ble_eq_true rfl) d_nt_learnAll_52 ?_
        obtain ⟨x9, ex9, h⟩ := bd_ok h
        refine r_iinc (lv' := [(2, .int x9), (3, .ref (G.1 + oLNK j1a j1b (tN x.1))), (0, .ref (G.1 + oNET j0a)), (1, .ref (G.1 + oSTA j1a j1b))]) (n := 58) rfl ok d_nt_learnAll_55 3 rfl (Option.some.inj ex9) (lt_n hXn (Nat.le_of_ble_eq_true rfl)) rfl ?_
        refine r_goto (tgt := 2) ok d_nt_learnAll_58 (by decide) ?_
        obtain rfl := Option.some.inj h
        exact r_sub [2, 3, 0] rfl (show Wt X r8 2 [(0, .ref (G.1 + oNET j0a)), (1, .ref (G.1 + oSTA j1a j1b)), (2, .int x9)] [] from hk _ rfl)
set_option maxHeartbeats 4000000 in
set_option maxRecDepth 20000 in
theorem C_nt_learnAll {l : Launch} {G : Gt} {M : Me} {i0 : Nat} {i1 : Nat} {s1 : Nat} (hi0 : i0 < 9) (hi1 : i1 < 9) (hs1 : s1 < 4) {o : Me} (h : f_nt_learnAll M i0 i1 s1 = some o) : Ct l G (WC G) (rC G) y_nt_learnAll b_nt_learnAll 4 none rm_nt_learnAll [.ref (G.1 + oNET i0), .ref (G.1 + oSTA i1 s1)] M (none) o := by
  refine Ct.mk (own := "RetryChains$Network") rfl (by decide) (Nat.le_of_ble_eq_true rfl) rfl (fun X hXl hXR hXn ok hG fin => ?_)
  subst hXl
  unfold f_nt_learnAll at h
  show Wt X M 0 [(0, .ref (G.1 + oNET i0)), (1, .ref (G.1 + oSTA i1 s1))] []
  refine r_iconst (v := 0) (n := 1) rfl ok d_nt_learnAll_0 (by decide) ?_
  refine r_istore_n (lv' := [(2, .int 0), (0, .ref (G.1 + oNET i0)), (1, .ref (G.1 + oSTA i1 s1))]) (n := 2) rfl ok d_nt_learnAll_1 rfl (lt_n hXn (Nat.le_of_ble_eq_true rfl)) rfl ?_
  obtain ⟨t10, ht10, h⟩ := bd_ok h
  refine r_sub [1, 2, 0] rfl (show Wt X M 2 [(0, .ref (G.1 + oNET i0)), (1, .ref (G.1 + oSTA i1 s1)), (2, .int 0)] [] from w_nt_learnAll_2 ok hG hXR hXn hi0 hi1 hs1 ?_ _ _ ht10)
  · intro e11 he
    subst he
    obtain rfl := Option.some.inj h
    exact fin _ _ d_nt_learnAll_61
set_option maxHeartbeats 4000000 in
set_option maxRecDepth 20000 in
theorem w_st_beginInterval_3 {X : Cx Me} {G : Gt} (ok : Ok X b_st_beginInterval "RetryChains$Station") (hG : GC X G) (hXR : X.R = rm_st_beginInterval) (hXn : X.nL = 5) {j0a : Nat} {j0b : Nat} {j1a : Nat} {y2 : Int64} (hj0a : j0a < 9) (hj0b : j0b < 4) (hj1a : j1a < 9) {t : Me} (kx : ∀ e : Me, e = t → Wt X e 40 [(0, .ref (G.1 + oSTA j0a j0b)), (2, .long y2)] [])  : ∀ (n : Nat) (x : Int32 × Me), lp n (b_st_beginInterval_3 j0a j0b j1a y2) x = some t → Wt X x.2 3 [(0, .ref (G.1 + oSTA j0a j0b)), (1, .ref (G.1 + oTAB j1a)), (2, .long y2), (4, .int x.1)] [] := by
  intro n x h
  refine lp_W (P := fun x => Wt X x.2 3 [(0, .ref (G.1 + oSTA j0a j0b)), (1, .ref (G.1 + oTAB j1a)), (2, .long y2), (4, .int x.1)] []) (Z := fun t' => t' = t) (fun x r h hk hz => ?_) n x t h rfl
  unfold b_st_beginInterval_3 at h
  refine r_iload (n := 5) rfl ok d_st_beginInterval_3 3 rfl ?_
  refine r_aload_n (n := 6) rfl ok d_st_beginInterval_5 rfl 1 rfl ?_
  refine g_TAB_count (n := 9) rfl ok hG hj1a k_37 d_st_beginInterval_6 ?_
  refine r_icmp_ge (tgt := 40) (n := 12) rfl ok d_st_beginInterval_9 (by decide) (fun c1 => ?_) (fun c1 => ?_)
  · replace h := if_p c1 h
    obtain rfl := Option.some.inj h
    exact r_sub [0, 2] rfl (show Wt X x.2 40 [(0, .ref (G.1 + oSTA j0a j0b)), (2, .long y2)] [] from kx _ (hz _ rfl))
  · replace h := if_n c1 h
    refine r_aload_n (n := 13) rfl ok d_st_beginInterval_12 rfl 0 rfl ?_
    refine g_STA_links (n := 16) rfl ok hG hj0a hj0b k_132 d_st_beginInterval_13 ?_
    refine r_iload (n := 18) rfl ok d_st_beginInterval_16 3 rfl ?_
    obtain ⟨g2, h⟩ := gd_ok h
    refine al_LINKS (n := 19) rfl ok hG hj0a hj0b g2 d_st_beginInterval_18 ?_
    refine r_iconst (v := 0) (n := 20) rfl ok d_st_beginInterval_19 (by decide) ?_
    obtain ⟨M3, eM3, h⟩ := bd_ok h
    refine p_LNK_tries (n := 23) rfl ok hG hj0a hj0b (gin_lt g2) k_98 d_st_beginInterval_20 ?_
    refine r_mem (Option.some.inj eM3) ?_
    refine r_aload_n (n := 24) rfl ok d_st_beginInterval_23 rfl 0 rfl ?_
    refine g_STA_links (n := 27) rfl ok hG hj0a hj0b k_132 d_st_beginInterval_24 ?_
    refine r_iload (n := 29) rfl ok d_st_beginInterval_27 3 rfl ?_
    obtain ⟨g4, h⟩ := gd_ok h
    refine al_LINKS (n := 30) rfl ok hG hj0a hj0b g4 d_st_beginInterval_29 ?_
    refine r_iconst (v := 0) (n := 31) rfl ok d_st_beginInterval_30 (by decide) ?_
    obtain ⟨M5, eM5, h⟩ := bd_ok h
    refine p_LNK_successes (n := 34) rfl ok hG hj0a hj0b (gin_lt g4) k_100 d_st_beginInterval_31 ?_
    refine r_mem (Option.some.inj eM5) ?_
    obtain ⟨x6, ex6, h⟩ := bd_ok h
    refine r_iinc (lv' := [(4, .int x6), (0, .ref (G.1 + oSTA j0a j0b)), (1, .ref (G.1 + oTAB j1a)), (2, .long y2)]) (n := 37) rfl ok d_st_beginInterval_34 3 rfl (Option.some.inj ex6) (lt_n hXn (Nat.le_of_ble_eq_true rfl)) rfl ?_
    refine r_goto (tgt := 3) ok d_st_beginInterval_37 (by decide) ?_
    obtain rfl := Option.some.inj h
    exact r_sub [1, 2, 3, 0] rfl (show Wt X M5 3 [(0, .ref (G.1 + oSTA j0a j0b)), (1, .ref (G.1 + oTAB j1a)), (2, .long y2), (4, .int x6)] [] from hk _ rfl)
set_option maxHeartbeats 4000000 in
set_option maxRecDepth 20000 in
theorem C_st_beginInterval {l : Launch} {G : Gt} {M : Me} {i0 : Nat} {s0 : Nat} {i1 : Nat} {a2 : Int64} (hi0 : i0 < 9) (hs0 : s0 < 4) (hi1 : i1 < 9) {o : Me} (h : f_st_beginInterval M i0 s0 i1 a2 = some o) : Ct l G (WC G) (rC G) y_st_beginInterval b_st_beginInterval 5 none rm_st_beginInterval [.ref (G.1 + oSTA i0 s0), .ref (G.1 + oTAB i1), .long a2] M (none) o := by
  refine Ct.mk (own := "RetryChains$Station") rfl (by decide) (Nat.le_of_ble_eq_true rfl) rfl (fun X hXl hXR hXn ok hG fin => ?_)
  subst hXl
  unfold f_st_beginInterval at h
  show Wt X M 0 [(0, .ref (G.1 + oSTA i0 s0)), (1, .ref (G.1 + oTAB i1)), (2, .long a2)] []
  refine r_iconst (v := 0) (n := 1) rfl ok d_st_beginInterval_0 (by decide) ?_
  refine r_istore (lv' := [(4, .int 0), (0, .ref (G.1 + oSTA i0 s0)), (1, .ref (G.1 + oTAB i1)), (2, .long a2)]) (n := 3) rfl ok d_st_beginInterval_1 (lt_n hXn (Nat.le_of_ble_eq_true rfl)) rfl ?_
  obtain ⟨t7, ht7, h⟩ := bd_ok h
  refine r_sub [1, 2, 3, 0] rfl (show Wt X M 3 [(0, .ref (G.1 + oSTA i0 s0)), (1, .ref (G.1 + oTAB i1)), (2, .long a2), (4, .int 0)] [] from w_st_beginInterval_3 ok hG hXR hXn hi0 hs0 hi1 ?_ _ _ ht7)
  · intro e8 he
    subst he
    refine r_aload_n (n := 41) rfl ok d_st_beginInterval_40 rfl 0 rfl ?_
    refine r_iconst (v := 0) (n := 42) rfl ok d_st_beginInterval_41 (by decide) ?_
    obtain ⟨M9, eM9, h⟩ := bd_ok h
    refine p_STA_losses (n := 45) rfl ok hG hi0 hs0 k_155 d_st_beginInterval_42 ?_
    refine r_mem (Option.some.inj eM9) ?_
    refine r_aload_n (n := 46) rfl ok d_st_beginInterval_45 rfl 0 rfl ?_
    refine r_lload_n (n := 47) rfl ok d_st_beginInterval_46 rfl 1 rfl ?_
    obtain ⟨M10, eM10, h⟩ := bd_ok h
    refine p_STA_intervalEnd (n := 50) rfl ok hG hi0 hs0 k_163 d_st_beginInterval_47 ?_
    refine r_mem (Option.some.inj eM10) ?_
    obtain rfl := Option.some.inj h
    exact fin _ _ d_st_beginInterval_50
set_option maxHeartbeats 4000000 in
set_option maxRecDepth 20000 in
theorem w_st_collapse_2 {X : Cx Me} {G : Gt} (ok : Ok X b_st_collapse "RetryChains$Station") (hG : GC X G) (hXR : X.R = rm_st_collapse) (hXn : X.nL = 4) {j0a : Nat} {j0b : Nat} {j1a : Nat} (hj0a : j0a < 9) (hj0b : j0b < 4) (hj1a : j1a < 9) {t : Me} (kx : ∀ e : Me, e = t → Wt X e 58 [] [])  : ∀ (n : Nat) (x : Int32 × Me), lp n (b_st_collapse_2 j0a j0b j1a) x = some t → Wt X x.2 2 [(0, .ref (G.1 + oSTA j0a j0b)), (1, .ref (G.1 + oTAB j1a)), (2, .int x.1)] [] := by
  intro n x h
  refine lp_W (P := fun x => Wt X x.2 2 [(0, .ref (G.1 + oSTA j0a j0b)), (1, .ref (G.1 + oTAB j1a)), (2, .int x.1)] []) (Z := fun t' => t' = t) (fun x r h hk hz => ?_) n x t h rfl
  unfold b_st_collapse_2 at h
  refine r_iload_n (n := 3) rfl ok d_st_collapse_2 rfl 2 rfl ?_
  refine r_aload_n (n := 4) rfl ok d_st_collapse_3 rfl 1 rfl ?_
  refine g_TAB_count (n := 7) rfl ok hG hj1a k_37 d_st_collapse_4 ?_
  refine r_icmp_ge (tgt := 58) (n := 10) rfl ok d_st_collapse_7 (by decide) (fun c1 => ?_) (fun c1 => ?_)
  · replace h := if_p c1 h
    obtain rfl := Option.some.inj h
    exact r_sub [] rfl (show Wt X x.2 58 [] [] from kx _ (hz _ rfl))
  · replace h := if_n c1 h
    refine r_aload_n (n := 11) rfl ok d_st_collapse_10 rfl 0 rfl ?_
    refine g_STA_links (n := 14) rfl ok hG hj0a hj0b k_132 d_st_collapse_11 ?_
    refine r_iload_n (n := 15) rfl ok d_st_collapse_14 rfl 2 rfl ?_
    obtain ⟨g2, h⟩ := gd_ok h
    refine al_LINKS (n := 16) rfl ok hG hj0a hj0b g2 d_st_collapse_15 ?_
    refine r_astore_n (lv' := [(3, .ref (G.1 + oLNK j0a j0b (tN x.1))), (0, .ref (G.1 + oSTA j0a j0b)), (1, .ref (G.1 + oTAB j1a)), (2, .int x.1)]) (n := 17) rfl ok d_st_collapse_16 rfl (lt_n hXn (Nat.le_of_ble_eq_true rfl)) rfl ?_
    refine r_aload_n (n := 18) rfl ok d_st_collapse_17 rfl 0 rfl ?_
    refine g_LNK_tries (n := 21) rfl ok hG hj0a hj0b (gin_lt g2) k_98 d_st_collapse_18 ?_
    refine r_if_le (tgt := 35) (n := 24) rfl ok d_st_collapse_21 (by decide) (fun c3 => ?_) (fun c3 => ?_)
    · replace h := if_p c3 h
      refine r_aload_n (n := 36) rfl ok d_st_collapse_35 rfl 0 rfl ?_
      obtain ⟨r4, hr4, h⟩ := bd_ok h
      refine r_callV (n := 39) rfl ok hG mf_lk_isEstimated k_650 k_651 k_649 (C_lk_isEstimated hj0a hj0b (gin_lt g2) hr4) ⟨rfl, rfl⟩ (rR hXR ⟨Nat.le_of_ble_eq_true rfl, Nat.le_of_ble_eq_true rfl⟩) rfl rfl (rv_LNK hj0a hj0b (gin_lt g2)) rfl (Nat.le_of_ble_eq_true rfl) d_st_collapse_36 ?_
      refine r_if_eq (tgt := 52) (n := 42) rfl ok d_st_collapse_39 (by decide) (fun c5 => ?_) (fun c5 => ?_)
      · replace h := if_p c5 h
        obtain ⟨x6, ex6, h⟩ := bd_ok h
        refine r_iinc (lv' := [(2, .int x6), (3, .ref (G.1 + oLNK j0a j0b (tN x.1))), (0, .ref (G.1 + oSTA j0a j0b)), (1, .ref (G.1 + oTAB j1a))]) (n := 55) rfl ok d_st_collapse_52 3 rfl (Option.some.inj ex6) (lt_n hXn (Nat.le_of_ble_eq_true rfl)) rfl ?_
        refine r_goto (tgt := 2) ok d_st_collapse_55 (by decide) ?_
        obtain rfl := Option.some.inj h
        exact r_sub [2, 3, 0] rfl (show Wt X x.2 2 [(0, .ref (G.1 + oSTA j0a j0b)), (1, .ref (G.1 + oTAB j1a)), (2, .int x6)] [] from hk _ rfl)
      · replace h := if_n c5 h
        refine r_aload_n (n := 43) rfl ok d_st_collapse_42 rfl 0 rfl ?_
        refine r_dup (n := 44) rfl ok d_st_collapse_43 rfl ?_
        refine g_LNK_estimate (n := 47) rfl ok hG hj0a hj0b (gin_lt g2) k_93 d_st_collapse_44 ?_
        refine r_iconst (v := 2) (n := 48) rfl ok d_st_collapse_47 (by decide) ?_
        refine r_idiv (n := 49) rfl ok d_st_collapse_48 (by decide) ?_
        obtain ⟨M7, eM7, h⟩ := bd_ok h
        refine p_LNK_estimate (n := 52) rfl ok hG hj0a hj0b (gin_lt g2) k_93 d_st_collapse_49 ?_
        refine r_mem (Option.some.inj eM7) ?_
        obtain ⟨x8, ex8, h⟩ := bd_ok h
        refine r_iinc (lv' := [(2, .int x8), (3, .ref (G.1 + oLNK j0a j0b (tN x.1))), (0, .ref (G.1 + oSTA j0a j0b)), (1, .ref (G.1 + oTAB j1a))]) (n := 55) rfl ok d_st_collapse_52 3 rfl (Option.some.inj ex8) (lt_n hXn (Nat.le_of_ble_eq_true rfl)) rfl ?_
        refine r_goto (tgt := 2) ok d_st_collapse_55 (by decide) ?_
        obtain rfl := Option.some.inj h
        exact r_sub [2, 3, 0] rfl (show Wt X M7 2 [(0, .ref (G.1 + oSTA j0a j0b)), (1, .ref (G.1 + oTAB j1a)), (2, .int x8)] [] from hk _ rfl)
    · replace h := if_n c3 h
      refine r_aload_n (n := 25) rfl ok d_st_collapse_24 rfl 0 rfl ?_
      refine r_aload_n (n := 26) rfl ok d_st_collapse_25 rfl 0 rfl ?_
      obtain ⟨r9, hr9, h⟩ := bd_ok h
      refine r_callV (n := 29) rfl ok hG mf_lk_sample k_654 k_655 k_653 (C_lk_sample hj0a hj0b (gin_lt g2) hr9) ⟨rfl, rfl⟩ (rR hXR ⟨Nat.le_of_ble_eq_true rfl, Nat.le_of_ble_eq_true rfl⟩) rfl rfl (rv_LNK hj0a hj0b (gin_lt g2)) rfl (Nat.le_of_ble_eq_true rfl) d_st_collapse_26 ?_
      obtain ⟨r10, hr10, h⟩ := bd_ok h
      refine r_callV (n := 32) rfl ok hG mf_lk_startFrom k_667 k_668 k_666 (C_lk_startFrom hj0a hj0b (gin_lt g2) hr10) ⟨rfl, rfl⟩ (rR hXR ⟨Nat.le_of_ble_eq_true rfl, Nat.le_of_ble_eq_true rfl⟩) rfl rfl (rv_LNK hj0a hj0b (gin_lt g2)) rfl (Nat.le_of_ble_eq_true rfl) d_st_collapse_29 ?_
      refine r_goto (tgt := 52) ok d_st_collapse_32 (by decide) ?_
      obtain ⟨x11, ex11, h⟩ := bd_ok h
      refine r_iinc (lv' := [(2, .int x11), (3, .ref (G.1 + oLNK j0a j0b (tN x.1))), (0, .ref (G.1 + oSTA j0a j0b)), (1, .ref (G.1 + oTAB j1a))]) (n := 55) rfl ok d_st_collapse_52 3 rfl (Option.some.inj ex11) (lt_n hXn (Nat.le_of_ble_eq_true rfl)) rfl ?_
      refine r_goto (tgt := 2) ok d_st_collapse_55 (by decide) ?_
      obtain rfl := Option.some.inj h
      exact r_sub [2, 3, 0] rfl (show Wt X r10 2 [(0, .ref (G.1 + oSTA j0a j0b)), (1, .ref (G.1 + oTAB j1a)), (2, .int x11)] [] from hk _ rfl)
set_option maxHeartbeats 4000000 in
set_option maxRecDepth 20000 in
theorem C_st_collapse {l : Launch} {G : Gt} {M : Me} {i0 : Nat} {s0 : Nat} {i1 : Nat} (hi0 : i0 < 9) (hs0 : s0 < 4) (hi1 : i1 < 9) {o : Me} (h : f_st_collapse M i0 s0 i1 = some o) : Ct l G (WC G) (rC G) y_st_collapse b_st_collapse 4 none rm_st_collapse [.ref (G.1 + oSTA i0 s0), .ref (G.1 + oTAB i1)] M (none) o := by
  refine Ct.mk (own := "RetryChains$Station") rfl (by decide) (Nat.le_of_ble_eq_true rfl) rfl (fun X hXl hXR hXn ok hG fin => ?_)
  subst hXl
  unfold f_st_collapse at h
  show Wt X M 0 [(0, .ref (G.1 + oSTA i0 s0)), (1, .ref (G.1 + oTAB i1))] []
  refine r_iconst (v := 0) (n := 1) rfl ok d_st_collapse_0 (by decide) ?_
  refine r_istore_n (lv' := [(2, .int 0), (0, .ref (G.1 + oSTA i0 s0)), (1, .ref (G.1 + oTAB i1))]) (n := 2) rfl ok d_st_collapse_1 rfl (lt_n hXn (Nat.le_of_ble_eq_true rfl)) rfl ?_
  obtain ⟨t12, ht12, h⟩ := bd_ok h
  refine r_sub [1, 2, 0] rfl (show Wt X M 2 [(0, .ref (G.1 + oSTA i0 s0)), (1, .ref (G.1 + oTAB i1)), (2, .int 0)] [] from w_st_collapse_2 ok hG hXR hXn hi0 hs0 hi1 ?_ _ _ ht12)
  · intro e13 he
    subst he
    obtain rfl := Option.some.inj h
    exact fin _ _ d_st_collapse_58
set_option maxHeartbeats 4000000 in
set_option maxRecDepth 20000 in
theorem w_st_highest_10 {X : Cx Me} {G : Gt} (ok : Ok X b_st_highest "RetryChains$Station") (hG : GC X G) (hXR : X.R = rm_st_highest) (hXn : X.nL = 15) {M : Me} {j0a : Nat} {j0b : Nat} {j1a : Nat} {y2 : Int32} {y3 : Int32} {y4 : Int32} (hj0a : j0a < 9) (hj0b : j0b < 4) (hj1a : j1a < 9) {t : Int32} (kx : ∀ e : Int32, e = t → Wt X M 130 [(5, .int e)] [])  : ∀ (n : Nat) (x : Int32 × Int64 × Int32), lp n (b_st_highest_10 M j0a j0b j1a y2 y3 y4) x = some t → Wt X M 10 [(0, .ref (G.1 + oSTA j0a j0b)), (1, .ref (G.1 + oTAB j1a)), (2, .int y2), (3, .int y3), (4, .int y4), (5, .int x.1), (6, .long x.2.1), (8, .int x.2.2)] [] := by
  intro n x h
  refine lp_W (P := fun x => Wt X M 10 [(0, .ref (G.1 + oSTA j0a j0b)), (1, .ref (G.1 + oTAB j1a)), (2, .int y2), (3, .int y3), (4, .int y4), (5, .int x.1), (6, .long x.2.1), (8, .int x.2.2)] []) (Z := fun t' => t' = t) (fun x r h hk hz => ?_) n x t h rfl
  unfold b_st_highest_10 at h
  refine r_iload (n := 12) rfl ok d_st_highest_10 7 rfl ?_
  refine r_aload_n (n := 13) rfl ok d_st_highest_12 rfl 1 rfl ?_
  refine g_TAB_count (n := 16) rfl ok hG hj1a k_37 d_st_highest_13 ?_
  refine r_icmp_ge (tgt := 130) (n := 19) rfl ok d_st_highest_16 (by decide) (fun c1 => ?_) (fun c1 => ?_)
  · replace h := if_p c1 h
    obtain rfl := Option.some.inj h
    exact r_sub [5] rfl (show Wt X M 130 [(5, .int x.1)] [] from kx _ (hz _ rfl))
  · replace h := if_n c1 h
    refine r_aload_n (n := 20) rfl ok d_st_highest_19 rfl 0 rfl ?_
    refine g_STA_links (n := 23) rfl ok hG hj0a hj0b k_132 d_st_highest_20 ?_
    refine r_iload (n := 25) rfl ok d_st_highest_23 7 rfl ?_
    obtain ⟨g2, h⟩ := gd_ok h
    refine al_LINKS (n := 26) rfl ok hG hj0a hj0b g2 d_st_highest_25 ?_
    refine r_astore (lv' := [(9, .ref (G.1 + oLNK j0a j0b (tN x.2.2))), (0, .ref (G.1 + oSTA j0a j0b)), (1, .ref (G.1 + oTAB j1a)), (2, .int y2), (3, .int y3), (4, .int y4), (5, .int x.1), (6, .long x.2.1), (8, .int x.2.2)]) (n := 28) rfl ok d_st_highest_26 (lt_n hXn (Nat.le_of_ble_eq_true rfl)) rfl ?_
    refine r_aload (n := 30) rfl ok d_st_highest_28 0 rfl ?_
    obtain ⟨r3, hr3, h⟩ := bd_ok h
    refine r_callV (n := 33) rfl ok hG mf_lk_estimateOrZero k_439 k_440 k_438 (C_lk_estimateOrZero hj0a hj0b (gin_lt g2) hr3) ⟨rfl, rfl⟩ (rR hXR ⟨Nat.le_of_ble_eq_true rfl, Nat.le_of_ble_eq_true rfl⟩) rfl rfl (rv_LNK hj0a hj0b (gin_lt g2)) rfl (Nat.le_of_ble_eq_true rfl) d_st_highest_30 ?_
    refine r_istore (lv' := [(10, .int r3), (9, .ref (G.1 + oLNK j0a j0b (tN x.2.2))), (0, .ref (G.1 + oSTA j0a j0b)), (1, .ref (G.1 + oTAB j1a)), (2, .int y2), (3, .int y3), (4, .int y4), (5, .int x.1), (6, .long x.2.1), (8, .int x.2.2)]) (n := 35) rfl ok d_st_highest_33 (lt_n hXn (Nat.le_of_ble_eq_true rfl)) rfl ?_
    refine r_aload (n := 37) rfl ok d_st_highest_35 1 rfl ?_
    refine g_LNK_isAllowed (n := 40) rfl ok hG hj0a hj0b (gin_lt g2) k_88 d_st_highest_37 ?_
    refine r_if_eq (tgt := 124) (n := 43) rfl ok d_st_highest_40 (by decide) (fun c4 => ?_) (fun c4 => ?_)
    · replace h := if_p c4 h
      obtain ⟨x5, ex5, h⟩ := bd_ok h
      refine r_iinc (lv' := [(8, .int x5), (10, .int r3), (9, .ref (G.1 + oLNK j0a j0b (tN x.2.2))), (0, .ref (G.1 + oSTA j0a j0b)), (1, .ref (G.1 + oTAB j1a)), (2, .int y2), (3, .int y3), (4, .int y4), (5, .int x.1), (6, .long x.2.1)]) (n := 127) rfl ok d_st_highest_124 9 rfl (Option.some.inj ex5) (lt_n hXn (Nat.le_of_ble_eq_true rfl)) rfl ?_
      refine r_goto (tgt := 10) ok d_st_highest_127 (by decide) ?_
      obtain rfl := Option.some.inj h
      exact r_sub [3, 4, 5, 6, 7, 8, 9, 0] rfl (show Wt X M 10 [(0, .ref (G.1 + oSTA j0a j0b)), (1, .ref (G.1 + oTAB j1a)), (2, .int y2), (3, .int y3), (4, .int y4), (5, .int x.1), (6, .long x.2.1), (8, .int x5)] [] from hk _ rfl)
    · replace h := if_n c4 h
      refine r_iload (n := 45) rfl ok d_st_highest_43 9 rfl ?_
      refine r_iload_n (n := 46) rfl ok d_st_highest_45 rfl 5 rfl ?_
      refine r_icmp_eq (tgt := 124) (n := 49) rfl ok d_st_highest_46 (by decide) (fun c6 => ?_) (fun c6 => ?_)
      · replace h := if_p c6 h
        obtain ⟨x7, ex7, h⟩ := bd_ok h
        refine r_iinc (lv' := [(8, .int x7), (10, .int r3), (9, .ref (G.1 + oLNK j0a j0b (tN x.2.2))), (0, .ref (G.1 + oSTA j0a j0b)), (1, .ref (G.1 + oTAB j1a)), (2, .int y2), (3, .int y3), (4, .int y4), (5, .int x.1), (6, .long x.2.1)]) (n := 127) rfl ok d_st_highest_124 9 rfl (Option.some.inj ex7) (lt_n hXn (Nat.le_of_ble_eq_true rfl)) rfl ?_
        refine r_goto (tgt := 10) ok d_st_highest_127 (by decide) ?_
        obtain rfl := Option.some.inj h
        exact r_sub [3, 4, 5, 6, 7, 8, 9, 0] rfl (show Wt X M 10 [(0, .ref (G.1 + oSTA j0a j0b)), (1, .ref (G.1 + oTAB j1a)), (2, .int y2), (3, .int y3), (4, .int y4), (5, .int x.1), (6, .long x.2.1), (8, .int x7)] [] from hk _ rfl)
      · replace h := if_n c6 h
        refine r_iload (n := 51) rfl ok d_st_highest_49 0 rfl ?_
        refine r_iload_n (n := 52) rfl ok d_st_highest_51 rfl 4 rfl ?_
        refine r_icmp_ge (tgt := 58) (n := 55) rfl ok d_st_highest_52 (by decide) (fun c8 => ?_) (fun c8 => ?_)
        · replace h := if_p c8 h
          refine r_aload (n := 60) rfl ok d_st_highest_58 1 rfl ?_
          refine r_aload_n (n := 61) rfl ok d_st_highest_60 rfl 3 rfl ?_
          refine g_TAB_nominals (n := 64) rfl ok hG hj1a k_42 d_st_highest_61 ?_
          refine r_iload (n := 66) rfl ok d_st_highest_64 9 rfl ?_
          obtain ⟨g9, h⟩ := gd_ok h
          refine al_NOMS (n := 67) rfl ok hG hj1a g9 d_st_highest_66 ?_
          obtain ⟨r10, hr10, h⟩ := bd_ok h
          refine r_callV (n := 70) rfl ok hG mf_lk_value k_443 k_444 k_442 (C_lk_value hj0a hj0b (gin_lt g2) hr10) ⟨rfl, rfl⟩ (rR hXR ⟨Nat.le_of_ble_eq_true rfl, Nat.le_of_ble_eq_true rfl⟩) rfl rfl (rv_LNK hj0a hj0b (gin_lt g2)) rfl (Nat.le_of_ble_eq_true rfl) d_st_highest_67 ?_
          refine r_i2l (n := 71) rfl ok d_st_highest_70 ?_
          obtain ⟨x11, ex11, h⟩ := bd_ok h
          refine r_tl (Option.some.inj ex11).symm ?_
          refine r_lstore (lv' := [(11, .long x11), (10, .int r3), (9, .ref (G.1 + oLNK j0a j0b (tN x.2.2))), (0, .ref (G.1 + oSTA j0a j0b)), (1, .ref (G.1 + oTAB j1a)), (2, .int y2), (3, .int y3), (4, .int y4), (5, .int x.1), (6, .long x.2.1), (8, .int x.2.2)]) (n := 73) rfl ok d_st_highest_71 (lt_n hXn (Nat.le_of_ble_eq_true rfl)) rfl ?_
          refine r_iload (n := 75) rfl ok d_st_highest_73 7 rfl ?_
          refine r_if_eq (tgt := 90) (n := 78) rfl ok d_st_highest_75 (by decide) (fun c12 => ?_) (fun c12 => ?_)
          · replace h := if_p c12 h
            refine r_lload (n := 92) rfl ok d_st_highest_90 0 rfl ?_
            refine r_bipush (v := 32) (n := 94) rfl ok d_st_highest_92 (by decide) ?_
            refine r_lshl (n := 95) rfl ok d_st_highest_94 ?_
            refine r_iload (n := 97) rfl ok d_st_highest_95 1 rfl ?_
            refine r_i2l (n := 98) rfl ok d_st_highest_97 ?_
            refine r_ladd (n := 99) rfl ok d_st_highest_98 ?_
            obtain ⟨x13, ex13, h⟩ := bd_ok h
            refine r_tl (Option.some.inj ex13).symm ?_
            refine r_lstore (lv' := [(13, .long x13), (11, .long x11), (10, .int r3), (9, .ref (G.1 + oLNK j0a j0b (tN x.2.2))), (0, .ref (G.1 + oSTA j0a j0b)), (1, .ref (G.1 + oTAB j1a)), (2, .int y2), (3, .int y3), (4, .int y4), (5, .int x.1), (6, .long x.2.1), (8, .int x.2.2)]) (n := 101) rfl ok d_st_highest_99 (lt_n hXn (Nat.le_of_ble_eq_true rfl)) rfl ?_
            refine r_iload (n := 103) rfl ok d_st_highest_101 9 rfl ?_
            refine r_bipush (v := (-9)) (n := 105) rfl ok d_st_highest_103 (by decide) ?_
            refine r_icmp_eq (tgt := 116) (n := 108) rfl ok d_st_highest_105 (by decide) (fun c14 => ?_) (fun c14 => ?_)
            · replace h := if_p c14 h
              refine r_iload (n := 118) rfl ok d_st_highest_116 11 rfl ?_
              refine r_istore (lv' := [(5, .int x.2.2), (13, .long x13), (11, .long x11), (10, .int r3), (9, .ref (G.1 + oLNK j0a j0b (tN x.2.2))), (0, .ref (G.1 + oSTA j0a j0b)), (1, .ref (G.1 + oTAB j1a)), (2, .int y2), (3, .int y3), (4, .int y4), (6, .long x.2.1), (8, .int x.2.2)]) (n := 120) rfl ok d_st_highest_118 (lt_n hXn (Nat.le_of_ble_eq_true rfl)) rfl ?_
              refine r_lload (n := 122) rfl ok d_st_highest_120 1 rfl ?_
              refine r_lstore (lv' := [(6, .long x13), (5, .int x.2.2), (13, .long x13), (11, .long x11), (10, .int r3), (9, .ref (G.1 + oLNK j0a j0b (tN x.2.2))), (0, .ref (G.1 + oSTA j0a j0b)), (1, .ref (G.1 + oTAB j1a)), (2, .int y2), (3, .int y3), (4, .int y4), (8, .int x.2.2)]) (n := 124) rfl ok d_st_highest_122 (lt_n hXn (Nat.le_of_ble_eq_true rfl)) rfl ?_
              obtain ⟨x15, ex15, h⟩ := bd_ok h
              refine r_iinc (lv' := [(8, .int x15), (6, .long x13), (5, .int x.2.2), (13, .long x13), (11, .long x11), (10, .int r3), (9, .ref (G.1 + oLNK j0a j0b (tN x.2.2))), (0, .ref (G.1 + oSTA j0a j0b)), (1, .ref (G.1 + oTAB j1a)), (2, .int y2), (3, .int y3), (4, .int y4)]) (n := 127) rfl ok d_st_highest_124 11 rfl (Option.some.inj ex15) (lt_n hXn (Nat.le_of_ble_eq_true rfl)) rfl ?_
              refine r_goto (tgt := 10) ok d_st_highest_127 (by decide) ?_
              obtain rfl := Option.some.inj h
              exact r_sub [7, 8, 9, 10, 11, 2, 1, 0] rfl (show Wt X M 10 [(0, .ref (G.1 + oSTA j0a j0b)), (1, .ref (G.1 + oTAB j1a)), (2, .int y2), (3, .int y3), (4, .int y4), (5, .int x.2.2), (6, .long x13), (8, .int x15)] [] from hk _ rfl)
            · replace h := if_n c14 h
              refine r_lload (n := 110) rfl ok d_st_highest_108 0 rfl ?_
              refine r_lload (n := 112) rfl ok d_st_highest_110 10 rfl ?_
              refine r_lcmp (n := 113) rfl ok d_st_highest_112 ?_
              refine r_if_le (tgt := 124) (n := 116) rfl ok d_st_highest_113 (by decide) (fun c16 => ?_) (fun c16 => ?_)
              · replace h := if_p c16 h
                obtain ⟨x17, ex17, h⟩ := bd_ok h
                refine r_iinc (lv' := [(8, .int x17), (13, .long x13), (11, .long x11), (10, .int r3), (9, .ref (G.1 + oLNK j0a j0b (tN x.2.2))), (0, .ref (G.1 + oSTA j0a j0b)), (1, .ref (G.1 + oTAB j1a)), (2, .int y2), (3, .int y3), (4, .int y4), (5, .int x.1), (6, .long x.2.1)]) (n := 127) rfl ok d_st_highest_124 11 rfl (Option.some.inj ex17) (lt_n hXn (Nat.le_of_ble_eq_true rfl)) rfl ?_
                refine r_goto (tgt := 10) ok d_st_highest_127 (by decide) ?_
                obtain rfl := Option.some.inj h
                exact r_sub [5, 6, 7, 8, 9, 10, 11, 0] rfl (show Wt X M 10 [(0, .ref (G.1 + oSTA j0a j0b)), (1, .ref (G.1 + oTAB j1a)), (2, .int y2), (3, .int y3), (4, .int y4), (5, .int x.1), (6, .long x.2.1), (8, .int x17)] [] from hk _ rfl)
              · replace h := if_n c16 h
                refine r_iload (n := 118) rfl ok d_st_highest_116 11 rfl ?_
                refine r_istore (lv' := [(5, .int x.2.2), (13, .long x13), (11, .long x11), (10, .int r3), (9, .ref (G.1 + oLNK j0a j0b (tN x.2.2))), (0, .ref (G.1 + oSTA j0a j0b)), (1, .ref (G.1 + oTAB j1a)), (2, .int y2), (3, .int y3), (4, .int y4), (6, .long x.2.1), (8, .int x.2.2)]) (n := 120) rfl ok d_st_highest_118 (lt_n hXn (Nat.le_of_ble_eq_true rfl)) rfl ?_
                refine r_lload (n := 122) rfl ok d_st_highest_120 1 rfl ?_
                refine r_lstore (lv' := [(6, .long x13), (5, .int x.2.2), (13, .long x13), (11, .long x11), (10, .int r3), (9, .ref (G.1 + oLNK j0a j0b (tN x.2.2))), (0, .ref (G.1 + oSTA j0a j0b)), (1, .ref (G.1 + oTAB j1a)), (2, .int y2), (3, .int y3), (4, .int y4), (8, .int x.2.2)]) (n := 124) rfl ok d_st_highest_122 (lt_n hXn (Nat.le_of_ble_eq_true rfl)) rfl ?_
                obtain ⟨x18, ex18, h⟩ := bd_ok h
                refine r_iinc (lv' := [(8, .int x18), (6, .long x13), (5, .int x.2.2), (13, .long x13), (11, .long x11), (10, .int r3), (9, .ref (G.1 + oLNK j0a j0b (tN x.2.2))), (0, .ref (G.1 + oSTA j0a j0b)), (1, .ref (G.1 + oTAB j1a)), (2, .int y2), (3, .int y3), (4, .int y4)]) (n := 127) rfl ok d_st_highest_124 11 rfl (Option.some.inj ex18) (lt_n hXn (Nat.le_of_ble_eq_true rfl)) rfl ?_
                refine r_goto (tgt := 10) ok d_st_highest_127 (by decide) ?_
                obtain rfl := Option.some.inj h
                exact r_sub [7, 8, 9, 10, 11, 2, 1, 0] rfl (show Wt X M 10 [(0, .ref (G.1 + oSTA j0a j0b)), (1, .ref (G.1 + oTAB j1a)), (2, .int y2), (3, .int y3), (4, .int y4), (5, .int x.2.2), (6, .long x13), (8, .int x18)] [] from hk _ rfl)
          · replace h := if_n c12 h
            refine r_iload (n := 80) rfl ok d_st_highest_78 1 rfl ?_
            refine r_i2l (n := 81) rfl ok d_st_highest_80 ?_
            refine r_bipush (v := 32) (n := 83) rfl ok d_st_highest_81 (by decide) ?_
            refine r_lshl (n := 84) rfl ok d_st_highest_83 ?_
            refine r_lload (n := 86) rfl ok d_st_highest_84 0 rfl ?_
            refine r_ladd (n := 87) rfl ok d_st_highest_86 ?_
            refine r_goto (tgt := 99) ok d_st_highest_87 (by decide) ?_
            obtain ⟨x19, ex19, h⟩ := bd_ok h
            refine r_tl (Option.some.inj ex19).symm ?_
            refine r_lstore (lv' := [(13, .long x19), (11, .long x11), (10, .int r3), (9, .ref (G.1 + oLNK j0a j0b (tN x.2.2))), (0, .ref (G.1 + oSTA j0a j0b)), (1, .ref (G.1 + oTAB j1a)), (2, .int y2), (3, .int y3), (4, .int y4), (5, .int x.1), (6, .long x.2.1), (8, .int x.2.2)]) (n := 101) rfl ok d_st_highest_99 (lt_n hXn (Nat.le_of_ble_eq_true rfl)) rfl ?_
            refine r_iload (n := 103) rfl ok d_st_highest_101 9 rfl ?_
            refine r_bipush (v := (-9)) (n := 105) rfl ok d_st_highest_103 (by decide) ?_
            refine r_icmp_eq (tgt := 116) (n := 108) rfl ok d_st_highest_105 (by decide) (fun c20 => ?_) (fun c20 => ?_)
            · replace h := if_p c20 h
              refine r_iload (n := 118) rfl ok d_st_highest_116 11 rfl ?_
              refine r_istore (lv' := [(5, .int x.2.2), (13, .long x19), (11, .long x11), (10, .int r3), (9, .ref (G.1 + oLNK j0a j0b (tN x.2.2))), (0, .ref (G.1 + oSTA j0a j0b)), (1, .ref (G.1 + oTAB j1a)), (2, .int y2), (3, .int y3), (4, .int y4), (6, .long x.2.1), (8, .int x.2.2)]) (n := 120) rfl ok d_st_highest_118 (lt_n hXn (Nat.le_of_ble_eq_true rfl)) rfl ?_
              refine r_lload (n := 122) rfl ok d_st_highest_120 1 rfl ?_
              refine r_lstore (lv' := [(6, .long x19), (5, .int x.2.2), (13, .long x19), (11, .long x11), (10, .int r3), (9, .ref (G.1 + oLNK j0a j0b (tN x.2.2))), (0, .ref (G.1 + oSTA j0a j0b)), (1, .ref (G.1 + oTAB j1a)), (2, .int y2), (3, .int y3), (4, .int y4), (8, .int x.2.2)]) (n := 124) rfl ok d_st_highest_122 (lt_n hXn (Nat.le_of_ble_eq_true rfl)) rfl ?_
              obtain ⟨x21, ex21, h⟩ := bd_ok h
              refine r_iinc (lv' := [(8, .int x21), (6, .long x19), (5, .int x.2.2), (13, .long x19), (11, .long x11), (10, .int r3), (9, .ref (G.1 + oLNK j0a j0b (tN x.2.2))), (0, .ref (G.1 + oSTA j0a j0b)), (1, .ref (G.1 + oTAB j1a)), (2, .int y2), (3, .int y3), (4, .int y4)]) (n := 127) rfl ok d_st_highest_124 11 rfl (Option.some.inj ex21) (lt_n hXn (Nat.le_of_ble_eq_true rfl)) rfl ?_
              refine r_goto (tgt := 10) ok d_st_highest_127 (by decide) ?_
              obtain rfl := Option.some.inj h
              exact r_sub [7, 8, 9, 10, 11, 2, 1, 0] rfl (show Wt X M 10 [(0, .ref (G.1 + oSTA j0a j0b)), (1, .ref (G.1 + oTAB j1a)), (2, .int y2), (3, .int y3), (4, .int y4), (5, .int x.2.2), (6, .long x19), (8, .int x21)] [] from hk _ rfl)
            · replace h := if_n c20 h
              refine r_lload (n := 110) rfl ok d_st_highest_108 0 rfl ?_
              refine r_lload (n := 112) rfl ok d_st_highest_110 10 rfl ?_
              refine r_lcmp (n := 113) rfl ok d_st_highest_112 ?_
              refine r_if_le (tgt := 124) (n := 116) rfl ok d_st_highest_113 (by decide) (fun c22 => ?_) (fun c22 => ?_)
              · replace h := if_p c22 h
                obtain ⟨x23, ex23, h⟩ := bd_ok h
                refine r_iinc (lv' := [(8, .int x23), (13, .long x19), (11, .long x11), (10, .int r3), (9, .ref (G.1 + oLNK j0a j0b (tN x.2.2))), (0, .ref (G.1 + oSTA j0a j0b)), (1, .ref (G.1 + oTAB j1a)), (2, .int y2), (3, .int y3), (4, .int y4), (5, .int x.1), (6, .long x.2.1)]) (n := 127) rfl ok d_st_highest_124 11 rfl (Option.some.inj ex23) (lt_n hXn (Nat.le_of_ble_eq_true rfl)) rfl ?_
                refine r_goto (tgt := 10) ok d_st_highest_127 (by decide) ?_
                obtain rfl := Option.some.inj h
                exact r_sub [5, 6, 7, 8, 9, 10, 11, 0] rfl (show Wt X M 10 [(0, .ref (G.1 + oSTA j0a j0b)), (1, .ref (G.1 + oTAB j1a)), (2, .int y2), (3, .int y3), (4, .int y4), (5, .int x.1), (6, .long x.2.1), (8, .int x23)] [] from hk _ rfl)
              · replace h := if_n c22 h
                refine r_iload (n := 118) rfl ok d_st_highest_116 11 rfl ?_
                refine r_istore (lv' := [(5, .int x.2.2), (13, .long x19), (11, .long x11), (10, .int r3), (9, .ref (G.1 + oLNK j0a j0b (tN x.2.2))), (0, .ref (G.1 + oSTA j0a j0b)), (1, .ref (G.1 + oTAB j1a)), (2, .int y2), (3, .int y3), (4, .int y4), (6, .long x.2.1), (8, .int x.2.2)]) (n := 120) rfl ok d_st_highest_118 (lt_n hXn (Nat.le_of_ble_eq_true rfl)) rfl ?_
                refine r_lload (n := 122) rfl ok d_st_highest_120 1 rfl ?_
                refine r_lstore (lv' := [(6, .long x19), (5, .int x.2.2), (13, .long x19), (11, .long x11), (10, .int r3), (9, .ref (G.1 + oLNK j0a j0b (tN x.2.2))), (0, .ref (G.1 + oSTA j0a j0b)), (1, .ref (G.1 + oTAB j1a)), (2, .int y2), (3, .int y3), (4, .int y4), (8, .int x.2.2)]) (n := 124) rfl ok d_st_highest_122 (lt_n hXn (Nat.le_of_ble_eq_true rfl)) rfl ?_
                obtain ⟨x24, ex24, h⟩ := bd_ok h
                refine r_iinc (lv' := [(8, .int x24), (6, .long x19), (5, .int x.2.2), (13, .long x19), (11, .long x11), (10, .int r3), (9, .ref (G.1 + oLNK j0a j0b (tN x.2.2))), (0, .ref (G.1 + oSTA j0a j0b)), (1, .ref (G.1 + oTAB j1a)), (2, .int y2), (3, .int y3), (4, .int y4)]) (n := 127) rfl ok d_st_highest_124 11 rfl (Option.some.inj ex24) (lt_n hXn (Nat.le_of_ble_eq_true rfl)) rfl ?_
                refine r_goto (tgt := 10) ok d_st_highest_127 (by decide) ?_
                obtain rfl := Option.some.inj h
                exact r_sub [7, 8, 9, 10, 11, 2, 1, 0] rfl (show Wt X M 10 [(0, .ref (G.1 + oSTA j0a j0b)), (1, .ref (G.1 + oTAB j1a)), (2, .int y2), (3, .int y3), (4, .int y4), (5, .int x.2.2), (6, .long x19), (8, .int x24)] [] from hk _ rfl)
        · replace h := if_n c8 h
          refine r_goto (tgt := 124) ok d_st_highest_55 (by decide) ?_
          obtain ⟨x25, ex25, h⟩ := bd_ok h
          refine r_iinc (lv' := [(8, .int x25), (10, .int r3), (9, .ref (G.1 + oLNK j0a j0b (tN x.2.2))), (0, .ref (G.1 + oSTA j0a j0b)), (1, .ref (G.1 + oTAB j1a)), (2, .int y2), (3, .int y3), (4, .int y4), (5, .int x.1), (6, .long x.2.1)]) (n := 127) rfl ok d_st_highest_124 9 rfl (Option.some.inj ex25) (lt_n hXn (Nat.le_of_ble_eq_true rfl)) rfl ?_
          refine r_goto (tgt := 10) ok d_st_highest_127 (by decide) ?_
          obtain rfl := Option.some.inj h
          exact r_sub [3, 4, 5, 6, 7, 8, 9, 0] rfl (show Wt X M 10 [(0, .ref (G.1 + oSTA j0a j0b)), (1, .ref (G.1 + oTAB j1a)), (2, .int y2), (3, .int y3), (4, .int y4), (5, .int x.1), (6, .long x.2.1), (8, .int x25)] [] from hk _ rfl)
set_option maxHeartbeats 4000000 in
set_option maxRecDepth 20000 in
theorem C_st_highest {l : Launch} {G : Gt} {M : Me} {i0 : Nat} {s0 : Nat} {i1 : Nat} {a2 : Int32} {a3 : Int32} {a4 : Int32} (hi0 : i0 < 9) (hs0 : s0 < 4) (hi1 : i1 < 9) {o : Int32} (h : f_st_highest M i0 s0 i1 a2 a3 a4 = some o) : Ct l G (WC G) (rC G) y_st_highest b_st_highest 15 (some .int) rm_st_highest [.ref (G.1 + oSTA i0 s0), .ref (G.1 + oTAB i1), .int a2, .int a3, .int a4] M (some (.int o)) M := by
  refine Ct.mk (own := "RetryChains$Station") rfl (by decide) (Nat.le_of_ble_eq_true rfl) ⟨_, rfl⟩ (fun X hXl hXR hXn ok hG fin => ?_)
  subst hXl
  unfold f_st_highest at h
  show Wt X M 0 [(0, .ref (G.1 + oSTA i0 s0)), (1, .ref (G.1 + oTAB i1)), (2, .int a2), (3, .int a3), (4, .int a4)] []
  refine r_bipush (v := (-9)) (n := 2) rfl ok d_st_highest_0 (by decide) ?_
  refine r_istore (lv' := [(5, .int (-9)), (0, .ref (G.1 + oSTA i0 s0)), (1, .ref (G.1 + oTAB i1)), (2, .int a2), (3, .int a3), (4, .int a4)]) (n := 4) rfl ok d_st_highest_2 (lt_n hXn (Nat.le_of_ble_eq_true rfl)) rfl ?_
  refine r_lconst (v := 0) (n := 5) rfl ok d_st_highest_4 (by decide) ?_
  refine r_lstore (lv' := [(6, .long 0), (5, .int (-9)), (0, .ref (G.1 + oSTA i0 s0)), (1, .ref (G.1 + oTAB i1)), (2, .int a2), (3, .int a3), (4, .int a4)]) (n := 7) rfl ok d_st_highest_5 (lt_n hXn (Nat.le_of_ble_eq_true rfl)) rfl ?_
  refine r_iconst (v := 0) (n := 8) rfl ok d_st_highest_7 (by decide) ?_
  refine r_istore (lv' := [(8, .int 0), (6, .long 0), (5, .int (-9)), (0, .ref (G.1 + oSTA i0 s0)), (1, .ref (G.1 + oTAB i1)), (2, .int a2), (3, .int a3), (4, .int a4)]) (n := 10) rfl ok d_st_highest_8 (lt_n hXn (Nat.le_of_ble_eq_true rfl)) rfl ?_
  obtain ⟨t26, ht26, h⟩ := bd_ok h
  refine r_sub [3, 4, 5, 6, 7, 2, 1, 0] rfl (show Wt X M 10 [(0, .ref (G.1 + oSTA i0 s0)), (1, .ref (G.1 + oTAB i1)), (2, .int a2), (3, .int a3), (4, .int a4), (5, .int (-9)), (6, .long 0), (8, .int 0)] [] from w_st_highest_10 ok hG hXR hXn hi0 hs0 hi1 ?_ _ _ ht26)
  · intro e27 he
    subst he
    refine r_iload (n := 132) rfl ok d_st_highest_130 0 rfl ?_
    obtain rfl := Option.some.inj h
    exact fin _ _ ⟨.int, rfl, rfl⟩ d_st_highest_132
set_option maxHeartbeats 4000000 in
set_option maxRecDepth 20000 in
theorem w_st_slowestAllowed_8 {X : Cx Me} {G : Gt} (ok : Ok X b_st_slowestAllowed "RetryChains$Station") (hG : GC X G) (hXR : X.R = rm_st_slowestAllowed) (hXn : X.nL = 5) {M : Me} {j0a : Nat} {j0b : Nat} {j1a : Nat} (hj0a : j0a < 9) (hj0b : j0b < 4) (hj1a : j1a < 9) {t : Int32} (kx : ∀ e : Int32, e = t → Wt X M 58 [(2, .int e)] [])  : ∀ (n : Nat) (x : Int32 × Int32 × Int32), lp n (b_st_slowestAllowed_8 M j0a j0b j1a) x = some t → Wt X M 8 [(0, .ref (G.1 + oSTA j0a j0b)), (1, .ref (G.1 + oTAB j1a)), (2, .int x.1), (3, .int x.2.1), (4, .int x.2.2)] [] := by
  intro n x h
  refine lp_W (P := fun x => Wt X M 8 [(0, .ref (G.1 + oSTA j0a j0b)), (1, .ref (G.1 + oTAB j1a)), (2, .int x.1), (3, .int x.2.1), (4, .int x.2.2)] []) (Z := fun t' => t' = t) (fun x r h hk hz => ?_) n x t h rfl
  unfold b_st_slowestAllowed_8 at h
  refine r_iload (n := 10) rfl ok d_st_slowestAllowed_8 4 rfl ?_
  refine r_aload_n (n := 11) rfl ok d_st_slowestAllowed_10 rfl 1 rfl ?_
  refine g_TAB_count (n := 14) rfl ok hG hj1a k_37 d_st_slowestAllowed_11 ?_
  refine r_icmp_ge (tgt := 58) (n := 17) rfl ok d_st_slowestAllowed_14 (by decide) (fun c1 => ?_) (fun c1 => ?_)
  · replace h := if_p c1 h
    obtain rfl := Option.some.inj h
    exact r_sub [2] rfl (show Wt X M 58 [(2, .int x.1)] [] from kx _ (hz _ rfl))
  · replace h := if_n c1 h
    refine r_aload_n (n := 18) rfl ok d_st_slowestAllowed_17 rfl 0 rfl ?_
    refine g_STA_links (n := 21) rfl ok hG hj0a hj0b k_132 d_st_slowestAllowed_18 ?_
    refine r_iload (n := 23) rfl ok d_st_slowestAllowed_21 4 rfl ?_
    obtain ⟨g2, h⟩ := gd_ok h
    refine al_LINKS (n := 24) rfl ok hG hj0a hj0b g2 d_st_slowestAllowed_23 ?_
    refine g_LNK_isAllowed (n := 27) rfl ok hG hj0a hj0b (gin_lt g2) k_88 d_st_slowestAllowed_24 ?_
    refine r_if_eq (tgt := 52) (n := 30) rfl ok d_st_slowestAllowed_27 (by decide) (fun c3 => ?_) (fun c3 => ?_)
    · replace h := if_p c3 h
      obtain ⟨x4, ex4, h⟩ := bd_ok h
      refine r_iinc (lv' := [(4, .int x4), (0, .ref (G.1 + oSTA j0a j0b)), (1, .ref (G.1 + oTAB j1a)), (2, .int x.1), (3, .int x.2.1)]) (n := 55) rfl ok d_st_slowestAllowed_52 4 rfl (Option.some.inj ex4) (lt_n hXn (Nat.le_of_ble_eq_true rfl)) rfl ?_
      refine r_goto (tgt := 8) ok d_st_slowestAllowed_55 (by decide) ?_
      obtain rfl := Option.some.inj h
      exact r_sub [1, 2, 3, 4, 0] rfl (show Wt X M 8 [(0, .ref (G.1 + oSTA j0a j0b)), (1, .ref (G.1 + oTAB j1a)), (2, .int x.1), (3, .int x.2.1), (4, .int x4)] [] from hk _ rfl)
    · replace h := if_n c3 h
      refine r_aload_n (n := 31) rfl ok d_st_slowestAllowed_30 rfl 1 rfl ?_
      refine g_TAB_nominals (n := 34) rfl ok hG hj1a k_42 d_st_slowestAllowed_31 ?_
      refine r_iload (n := 36) rfl ok d_st_slowestAllowed_34 4 rfl ?_
      obtain ⟨g5, h⟩ := gd_ok h
      refine al_NOMS (n := 37) rfl ok hG hj1a g5 d_st_slowestAllowed_36 ?_
      refine r_iload_n (n := 38) rfl ok d_st_slowestAllowed_37 rfl 3 rfl ?_
      refine r_icmp_le (tgt := 52) (n := 41) rfl ok d_st_slowestAllowed_38 (by decide) (fun c6 => ?_) (fun c6 => ?_)
      · replace h := if_p c6 h
        obtain ⟨x7, ex7, h⟩ := bd_ok h
        refine r_iinc (lv' := [(4, .int x7), (0, .ref (G.1 + oSTA j0a j0b)), (1, .ref (G.1 + oTAB j1a)), (2, .int x.1), (3, .int x.2.1)]) (n := 55) rfl ok d_st_slowestAllowed_52 4 rfl (Option.some.inj ex7) (lt_n hXn (Nat.le_of_ble_eq_true rfl)) rfl ?_
        refine r_goto (tgt := 8) ok d_st_slowestAllowed_55 (by decide) ?_
        obtain rfl := Option.some.inj h
        exact r_sub [1, 2, 3, 4, 0] rfl (show Wt X M 8 [(0, .ref (G.1 + oSTA j0a j0b)), (1, .ref (G.1 + oTAB j1a)), (2, .int x.1), (3, .int x.2.1), (4, .int x7)] [] from hk _ rfl)
      · replace h := if_n c6 h
        refine r_iload (n := 43) rfl ok d_st_slowestAllowed_41 4 rfl ?_
        refine r_istore_n (lv' := [(2, .int x.2.2), (0, .ref (G.1 + oSTA j0a j0b)), (1, .ref (G.1 + oTAB j1a)), (3, .int x.2.1), (4, .int x.2.2)]) (n := 44) rfl ok d_st_slowestAllowed_43 rfl (lt_n hXn (Nat.le_of_ble_eq_true rfl)) rfl ?_
        refine r_aload_n (n := 45) rfl ok d_st_slowestAllowed_44 rfl 2 rfl ?_
        refine g_TAB_nominals (n := 48) rfl ok hG hj1a k_42 d_st_slowestAllowed_45 ?_
        refine r_iload (n := 50) rfl ok d_st_slowestAllowed_48 4 rfl ?_
        obtain ⟨g8, h⟩ := gd_ok h
        refine al_NOMS (n := 51) rfl ok hG hj1a g8 d_st_slowestAllowed_50 ?_
        refine r_istore_n (lv' := [(3, .int (M.1 13 j1a 0 (tN x.2.2))), (2, .int x.2.2), (0, .ref (G.1 + oSTA j0a j0b)), (1, .ref (G.1 + oTAB j1a)), (4, .int x.2.2)]) (n := 52) rfl ok d_st_slowestAllowed_51 rfl (lt_n hXn (Nat.le_of_ble_eq_true rfl)) rfl ?_
        obtain ⟨x9, ex9, h⟩ := bd_ok h
        refine r_iinc (lv' := [(4, .int x9), (3, .int (M.1 13 j1a 0 (tN x.2.2))), (2, .int x.2.2), (0, .ref (G.1 + oSTA j0a j0b)), (1, .ref (G.1 + oTAB j1a))]) (n := 55) rfl ok d_st_slowestAllowed_52 4 rfl (Option.some.inj ex9) (lt_n hXn (Nat.le_of_ble_eq_true rfl)) rfl ?_
        refine r_goto (tgt := 8) ok d_st_slowestAllowed_55 (by decide) ?_
        obtain rfl := Option.some.inj h
        exact r_sub [3, 4, 2, 1, 0] rfl (show Wt X M 8 [(0, .ref (G.1 + oSTA j0a j0b)), (1, .ref (G.1 + oTAB j1a)), (2, .int x.2.2), (3, .int (M.1 13 j1a 0 (tN x.2.2))), (4, .int x9)] [] from hk _ rfl)
set_option maxHeartbeats 4000000 in
set_option maxRecDepth 20000 in
theorem C_st_slowestAllowed {l : Launch} {G : Gt} {M : Me} {i0 : Nat} {s0 : Nat} {i1 : Nat} (hi0 : i0 < 9) (hs0 : s0 < 4) (hi1 : i1 < 9) {o : Int32} (h : f_st_slowestAllowed M i0 s0 i1 = some o) : Ct l G (WC G) (rC G) y_st_slowestAllowed b_st_slowestAllowed 5 (some .int) rm_st_slowestAllowed [.ref (G.1 + oSTA i0 s0), .ref (G.1 + oTAB i1)] M (some (.int o)) M := by
  refine Ct.mk (own := "RetryChains$Station") rfl (by decide) (Nat.le_of_ble_eq_true rfl) ⟨_, rfl⟩ (fun X hXl hXR hXn ok hG fin => ?_)
  subst hXl
  unfold f_st_slowestAllowed at h
  show Wt X M 0 [(0, .ref (G.1 + oSTA i0 s0)), (1, .ref (G.1 + oTAB i1))] []
  refine r_bipush (v := (-9)) (n := 2) rfl ok d_st_slowestAllowed_0 (by decide) ?_
  refine r_istore_n (lv' := [(2, .int (-9)), (0, .ref (G.1 + oSTA i0 s0)), (1, .ref (G.1 + oTAB i1))]) (n := 3) rfl ok d_st_slowestAllowed_2 rfl (lt_n hXn (Nat.le_of_ble_eq_true rfl)) rfl ?_
  refine r_iconst (v := 0) (n := 4) rfl ok d_st_slowestAllowed_3 (by decide) ?_
  refine r_istore_n (lv' := [(3, .int 0), (2, .int (-9)), (0, .ref (G.1 + oSTA i0 s0)), (1, .ref (G.1 + oTAB i1))]) (n := 5) rfl ok d_st_slowestAllowed_4 rfl (lt_n hXn (Nat.le_of_ble_eq_true rfl)) rfl ?_
  refine r_iconst (v := 0) (n := 6) rfl ok d_st_slowestAllowed_5 (by decide) ?_
  refine r_istore (lv' := [(4, .int 0), (3, .int 0), (2, .int (-9)), (0, .ref (G.1 + oSTA i0 s0)), (1, .ref (G.1 + oTAB i1))]) (n := 8) rfl ok d_st_slowestAllowed_6 (lt_n hXn (Nat.le_of_ble_eq_true rfl)) rfl ?_
  obtain ⟨t10, ht10, h⟩ := bd_ok h
  refine r_sub [3, 4, 2, 1, 0] rfl (show Wt X M 8 [(0, .ref (G.1 + oSTA i0 s0)), (1, .ref (G.1 + oTAB i1)), (2, .int (-9)), (3, .int 0), (4, .int 0)] [] from w_st_slowestAllowed_8 ok hG hXR hXn hi0 hs0 hi1 ?_ _ _ ht10)
  · intro e11 he
    subst he
    refine r_iload_n (n := 59) rfl ok d_st_slowestAllowed_58 rfl 0 rfl ?_
    obtain rfl := Option.some.inj h
    exact fin _ _ ⟨.int, rfl, rfl⟩ d_st_slowestAllowed_59
set_option maxHeartbeats 4000000 in
set_option maxRecDepth 20000 in
theorem C_st_fillRoles {l : Launch} {G : Gt} {M : Me} {i0 : Nat} {s0 : Nat} {i1 : Nat} (hi0 : i0 < 9) (hs0 : s0 < 4) (hi1 : i1 < 9) {o : Me} (h : f_st_fillRoles M i0 s0 i1 = some o) : Ct l G (WC G) (rC G) y_st_fillRoles b_st_fillRoles 4 none rm_st_fillRoles [.ref (G.1 + oSTA i0 s0), .ref (G.1 + oTAB i1)] M (none) o := by
  refine Ct.mk (own := "RetryChains$Station") rfl (by decide) (Nat.le_of_ble_eq_true rfl) rfl (fun X hXl hXR hXn ok hG fin => ?_)
  subst hXl
  unfold f_st_fillRoles at h
  show Wt X M 0 [(0, .ref (G.1 + oSTA i0 s0)), (1, .ref (G.1 + oTAB i1))] []
  refine r_aload_n (n := 1) rfl ok d_st_fillRoles_0 rfl 0 rfl ?_
  refine g_STA_roles (n := 4) rfl ok hG hi0 hs0 k_135 d_st_fillRoles_1 ?_
  refine r_iconst (v := 0) (n := 5) rfl ok d_st_fillRoles_4 (by decide) ?_
  refine r_aload_n (n := 6) rfl ok d_st_fillRoles_5 rfl 0 rfl ?_
  refine r_aload_n (n := 7) rfl ok d_st_fillRoles_6 rfl 1 rfl ?_
  refine r_iconst (v := 0) (n := 8) rfl ok d_st_fillRoles_7 (by decide) ?_
  refine r_bipush (v := (-9)) (n := 10) rfl ok d_st_fillRoles_8 (by decide) ?_
  refine r_iconst (v := 0) (n := 11) rfl ok d_st_fillRoles_10 (by decide) ?_
  obtain ⟨r1, hr1, h⟩ := bd_ok h
  refine r_callV (n := 14) rfl ok hG mf_st_highest k_436 ks_0 k_434 (C_st_highest hi0 hs0 hi1 hr1) ⟨rfl, rfl⟩ (rR hXR ⟨Nat.le_of_ble_eq_true rfl, Nat.le_of_ble_eq_true rfl⟩) rfl rfl (rv_STA hi0 hs0) rfl (Nat.le_of_ble_eq_true rfl) d_st_fillRoles_11 ?_
  obtain ⟨M2, eM2, h⟩ := bd_ok h
  refine as_ROLES (n := 15) rfl ok hG hi0 hs0 (show gin 0 4 by decide) d_st_fillRoles_14 ?_
  refine r_mem (Option.some.inj eM2) ?_
  refine r_aload_n (n := 16) rfl ok d_st_fillRoles_15 rfl 0 rfl ?_
  refine r_aload_n (n := 17) rfl ok d_st_fillRoles_16 rfl 1 rfl ?_
  refine r_iconst (v := 0) (n := 18) rfl ok d_st_fillRoles_17 (by decide) ?_
  refine r_aload_n (n := 19) rfl ok d_st_fillRoles_18 rfl 0 rfl ?_
  refine g_STA_roles (n := 22) rfl ok hG hi0 hs0 k_135 d_st_fillRoles_19 ?_
  refine r_iconst (v := 0) (n := 23) rfl ok d_st_fillRoles_22 (by decide) ?_
  refine al_ROLES (n := 24) rfl ok hG hi0 hs0 (show gin 0 4 by decide) d_st_fillRoles_23 ?_
  refine r_iconst (v := 0) (n := 25) rfl ok d_st_fillRoles_24 (by decide) ?_
  obtain ⟨r3, hr3, h⟩ := bd_ok h
  refine r_callV (n := 28) rfl ok hG mf_st_highest k_436 ks_0 k_434 (C_st_highest hi0 hs0 hi1 hr3) ⟨rfl, rfl⟩ (rR hXR ⟨Nat.le_of_ble_eq_true rfl, Nat.le_of_ble_eq_true rfl⟩) rfl rfl (rv_STA hi0 hs0) rfl (Nat.le_of_ble_eq_true rfl) d_st_fillRoles_25 ?_
  refine r_istore_n (lv' := [(2, .int r3), (0, .ref (G.1 + oSTA i0 s0)), (1, .ref (G.1 + oTAB i1))]) (n := 29) rfl ok d_st_fillRoles_28 rfl (lt_n hXn (Nat.le_of_ble_eq_true rfl)) rfl ?_
  refine r_aload_n (n := 30) rfl ok d_st_fillRoles_29 rfl 1 rfl ?_
  refine g_STA_roles (n := 33) rfl ok hG hi0 hs0 k_135 d_st_fillRoles_30 ?_
  refine r_iconst (v := 1) (n := 34) rfl ok d_st_fillRoles_33 (by decide) ?_
  refine r_iload_n (n := 35) rfl ok d_st_fillRoles_34 rfl 0 rfl ?_
  refine r_bipush (v := (-9)) (n := 37) rfl ok d_st_fillRoles_35 (by decide) ?_
  refine r_icmp_ne (tgt := 49) (n := 40) rfl ok d_st_fillRoles_37 (by decide) (fun c4 => ?_) (fun c4 => ?_)
  · replace h := if_n c4 h
    refine r_iload_n (n := 50) rfl ok d_st_fillRoles_49 rfl 0 rfl ?_
    obtain ⟨M5, eM5, h⟩ := bd_ok h
    refine as_ROLES (n := 51) rfl ok hG hi0 hs0 (show gin 1 4 by decide) d_st_fillRoles_50 ?_
    refine r_mem (Option.some.inj eM5) ?_
    refine r_aload_n (n := 52) rfl ok d_st_fillRoles_51 rfl 1 rfl ?_
    refine r_aload_n (n := 53) rfl ok d_st_fillRoles_52 rfl 2 rfl ?_
    refine r_ldc (n := 55) rfl ok d_st_fillRoles_53 k_447 ?_
    refine r_bipush (v := (-9)) (n := 57) rfl ok d_st_fillRoles_55 (by decide) ?_
    refine r_iconst (v := 0) (n := 58) rfl ok d_st_fillRoles_57 (by decide) ?_
    obtain ⟨r6, hr6, h⟩ := bd_ok h
    refine r_callV (n := 61) rfl ok hG mf_st_highest k_436 ks_0 k_434 (C_st_highest hi0 hs0 hi1 hr6) ⟨rfl, rfl⟩ (rR hXR ⟨Nat.le_of_ble_eq_true rfl, Nat.le_of_ble_eq_true rfl⟩) rfl rfl (rv_STA hi0 hs0) rfl (Nat.le_of_ble_eq_true rfl) d_st_fillRoles_58 ?_
    refine r_istore_n (lv' := [(3, .int r6), (2, .int r3), (0, .ref (G.1 + oSTA i0 s0)), (1, .ref (G.1 + oTAB i1))]) (n := 62) rfl ok d_st_fillRoles_61 rfl (lt_n hXn (Nat.le_of_ble_eq_true rfl)) rfl ?_
    refine r_aload_n (n := 63) rfl ok d_st_fillRoles_62 rfl 2 rfl ?_
    refine g_STA_roles (n := 66) rfl ok hG hi0 hs0 k_135 d_st_fillRoles_63 ?_
    refine r_iconst (v := 2) (n := 67) rfl ok d_st_fillRoles_66 (by decide) ?_
    refine r_iload_n (n := 68) rfl ok d_st_fillRoles_67 rfl 0 rfl ?_
    refine r_bipush (v := (-9)) (n := 70) rfl ok d_st_fillRoles_68 (by decide) ?_
    refine r_icmp_ne (tgt := 85) (n := 73) rfl ok d_st_fillRoles_70 (by decide) (fun c7 => ?_) (fun c7 => ?_)
    · replace h := if_n c7 h
      refine r_iload_n (n := 86) rfl ok d_st_fillRoles_85 rfl 0 rfl ?_
      obtain ⟨M8, eM8, h⟩ := bd_ok h
      refine as_ROLES (n := 87) rfl ok hG hi0 hs0 (show gin 2 4 by decide) d_st_fillRoles_86 ?_
      refine r_mem (Option.some.inj eM8) ?_
      refine r_aload_n (n := 88) rfl ok d_st_fillRoles_87 rfl 2 rfl ?_
      refine g_STA_roles (n := 91) rfl ok hG hi0 hs0 k_135 d_st_fillRoles_88 ?_
      refine r_iconst (v := 3) (n := 92) rfl ok d_st_fillRoles_91 (by decide) ?_
      refine r_aload_n (n := 93) rfl ok d_st_fillRoles_92 rfl 2 rfl ?_
      refine r_aload_n (n := 94) rfl ok d_st_fillRoles_93 rfl 3 rfl ?_
      obtain ⟨r9, hr9, h⟩ := bd_ok h
      refine r_callV (n := 97) rfl ok hG mf_st_slowestAllowed k_450 ks_1 k_448 (C_st_slowestAllowed hi0 hs0 hi1 hr9) ⟨rfl, rfl⟩ (rR hXR ⟨Nat.le_of_ble_eq_true rfl, Nat.le_of_ble_eq_true rfl⟩) rfl rfl (rv_STA hi0 hs0) rfl (Nat.le_of_ble_eq_true rfl) d_st_fillRoles_94 ?_
      obtain ⟨M10, eM10, h⟩ := bd_ok h
      refine as_ROLES (n := 98) rfl ok hG hi0 hs0 (show gin 3 4 by decide) d_st_fillRoles_97 ?_
      refine r_mem (Option.some.inj eM10) ?_
      obtain rfl := Option.some.inj h
      exact fin _ _ d_st_fillRoles_98
    · replace h := if_p c7 h
      refine r_aload_n (n := 74) rfl ok d_st_fillRoles_73 rfl 2 rfl ?_
      refine r_aload_n (n := 75) rfl ok d_st_fillRoles_74 rfl 3 rfl ?_
      refine r_iconst (v := 0) (n := 76) rfl ok d_st_fillRoles_75 (by decide) ?_
      refine r_bipush (v := (-9)) (n := 78) rfl ok d_st_fillRoles_76 (by decide) ?_
      refine r_iconst (v := 1) (n := 79) rfl ok d_st_fillRoles_78 (by decide) ?_
      obtain ⟨r11, hr11, h⟩ := bd_ok h
      refine r_callV (n := 82) rfl ok hG mf_st_highest k_436 ks_0 k_434 (C_st_highest hi0 hs0 hi1 hr11) ⟨rfl, rfl⟩ (rR hXR ⟨Nat.le_of_ble_eq_true rfl, Nat.le_of_ble_eq_true rfl⟩) rfl rfl (rv_STA hi0 hs0) rfl (Nat.le_of_ble_eq_true rfl) d_st_fillRoles_79 ?_
      refine r_goto (tgt := 86) ok d_st_fillRoles_82 (by decide) ?_
      obtain ⟨M12, eM12, h⟩ := bd_ok h
      refine as_ROLES (n := 87) rfl ok hG hi0 hs0 (show gin 2 4 by decide) d_st_fillRoles_86 ?_
      refine r_mem (Option.some.inj eM12) ?_
      refine r_aload_n (n := 88) rfl ok d_st_fillRoles_87 rfl 2 rfl ?_
      refine g_STA_roles (n := 91) rfl ok hG hi0 hs0 k_135 d_st_fillRoles_88 ?_
      refine r_iconst (v := 3) (n := 92) rfl ok d_st_fillRoles_91 (by decide) ?_
      refine r_aload_n (n := 93) rfl ok d_st_fillRoles_92 rfl 2 rfl ?_
      refine r_aload_n (n := 94) rfl ok d_st_fillRoles_93 rfl 3 rfl ?_
      obtain ⟨r13, hr13, h⟩ := bd_ok h
      refine r_callV (n := 97) rfl ok hG mf_st_slowestAllowed k_450 ks_1 k_448 (C_st_slowestAllowed hi0 hs0 hi1 hr13) ⟨rfl, rfl⟩ (rR hXR ⟨Nat.le_of_ble_eq_true rfl, Nat.le_of_ble_eq_true rfl⟩) rfl rfl (rv_STA hi0 hs0) rfl (Nat.le_of_ble_eq_true rfl) d_st_fillRoles_94 ?_
      obtain ⟨M14, eM14, h⟩ := bd_ok h
      refine as_ROLES (n := 98) rfl ok hG hi0 hs0 (show gin 3 4 by decide) d_st_fillRoles_97 ?_
      refine r_mem (Option.some.inj eM14) ?_
      obtain rfl := Option.some.inj h
      exact fin _ _ d_st_fillRoles_98
  · replace h := if_p c4 h
    refine r_aload_n (n := 41) rfl ok d_st_fillRoles_40 rfl 1 rfl ?_
    refine g_STA_roles (n := 44) rfl ok hG hi0 hs0 k_135 d_st_fillRoles_41 ?_
    refine r_iconst (v := 0) (n := 45) rfl ok d_st_fillRoles_44 (by decide) ?_
    refine al_ROLES (n := 46) rfl ok hG hi0 hs0 (show gin 0 4 by decide) d_st_fillRoles_45 ?_
    refine r_goto (tgt := 50) ok d_st_fillRoles_46 (by decide) ?_
    obtain ⟨M15, eM15, h⟩ := bd_ok h
    refine as_ROLES (n := 51) rfl ok hG hi0 hs0 (show gin 1 4 by decide) d_st_fillRoles_50 ?_
    refine r_mem (Option.some.inj eM15) ?_
    refine r_aload_n (n := 52) rfl ok d_st_fillRoles_51 rfl 1 rfl ?_
    refine r_aload_n (n := 53) rfl ok d_st_fillRoles_52 rfl 2 rfl ?_
    refine r_ldc (n := 55) rfl ok d_st_fillRoles_53 k_447 ?_
    refine r_bipush (v := (-9)) (n := 57) rfl ok d_st_fillRoles_55 (by decide) ?_
    refine r_iconst (v := 0) (n := 58) rfl ok d_st_fillRoles_57 (by decide) ?_
    obtain ⟨r16, hr16, h⟩ := bd_ok h
    refine r_callV (n := 61) rfl ok hG mf_st_highest k_436 ks_0 k_434 (C_st_highest hi0 hs0 hi1 hr16) ⟨rfl, rfl⟩ (rR hXR ⟨Nat.le_of_ble_eq_true rfl, Nat.le_of_ble_eq_true rfl⟩) rfl rfl (rv_STA hi0 hs0) rfl (Nat.le_of_ble_eq_true rfl) d_st_fillRoles_58 ?_
    refine r_istore_n (lv' := [(3, .int r16), (2, .int r3), (0, .ref (G.1 + oSTA i0 s0)), (1, .ref (G.1 + oTAB i1))]) (n := 62) rfl ok d_st_fillRoles_61 rfl (lt_n hXn (Nat.le_of_ble_eq_true rfl)) rfl ?_
    refine r_aload_n (n := 63) rfl ok d_st_fillRoles_62 rfl 2 rfl ?_
    refine g_STA_roles (n := 66) rfl ok hG hi0 hs0 k_135 d_st_fillRoles_63 ?_
    refine r_iconst (v := 2) (n := 67) rfl ok d_st_fillRoles_66 (by decide) ?_
    refine r_iload_n (n := 68) rfl ok d_st_fillRoles_67 rfl 0 rfl ?_
    refine r_bipush (v := (-9)) (n := 70) rfl ok d_st_fillRoles_68 (by decide) ?_
    refine r_icmp_ne (tgt := 85) (n := 73) rfl ok d_st_fillRoles_70 (by decide) (fun c17 => ?_) (fun c17 => ?_)
    · replace h := if_n c17 h
      refine r_iload_n (n := 86) rfl ok d_st_fillRoles_85 rfl 0 rfl ?_
      obtain ⟨M18, eM18, h⟩ := bd_ok h
      refine as_ROLES (n := 87) rfl ok hG hi0 hs0 (show gin 2 4 by decide) d_st_fillRoles_86 ?_
      refine r_mem (Option.some.inj eM18) ?_
      refine r_aload_n (n := 88) rfl ok d_st_fillRoles_87 rfl 2 rfl ?_
      refine g_STA_roles (n := 91) rfl ok hG hi0 hs0 k_135 d_st_fillRoles_88 ?_
      refine r_iconst (v := 3) (n := 92) rfl ok d_st_fillRoles_91 (by decide) ?_
      refine r_aload_n (n := 93) rfl ok d_st_fillRoles_92 rfl 2 rfl ?_
      refine r_aload_n (n := 94) rfl ok d_st_fillRoles_93 rfl 3 rfl ?_
      obtain ⟨r19, hr19, h⟩ := bd_ok h
      refine r_callV (n := 97) rfl ok hG mf_st_slowestAllowed k_450 ks_1 k_448 (C_st_slowestAllowed hi0 hs0 hi1 hr19) ⟨rfl, rfl⟩ (rR hXR ⟨Nat.le_of_ble_eq_true rfl, Nat.le_of_ble_eq_true rfl⟩) rfl rfl (rv_STA hi0 hs0) rfl (Nat.le_of_ble_eq_true rfl) d_st_fillRoles_94 ?_
      obtain ⟨M20, eM20, h⟩ := bd_ok h
      refine as_ROLES (n := 98) rfl ok hG hi0 hs0 (show gin 3 4 by decide) d_st_fillRoles_97 ?_
      refine r_mem (Option.some.inj eM20) ?_
      obtain rfl := Option.some.inj h
      exact fin _ _ d_st_fillRoles_98
    · replace h := if_p c17 h
      refine r_aload_n (n := 74) rfl ok d_st_fillRoles_73 rfl 2 rfl ?_
      refine r_aload_n (n := 75) rfl ok d_st_fillRoles_74 rfl 3 rfl ?_
      refine r_iconst (v := 0) (n := 76) rfl ok d_st_fillRoles_75 (by decide) ?_
      refine r_bipush (v := (-9)) (n := 78) rfl ok d_st_fillRoles_76 (by decide) ?_
      refine r_iconst (v := 1) (n := 79) rfl ok d_st_fillRoles_78 (by decide) ?_
      obtain ⟨r21, hr21, h⟩ := bd_ok h
      refine r_callV (n := 82) rfl ok hG mf_st_highest k_436 ks_0 k_434 (C_st_highest hi0 hs0 hi1 hr21) ⟨rfl, rfl⟩ (rR hXR ⟨Nat.le_of_ble_eq_true rfl, Nat.le_of_ble_eq_true rfl⟩) rfl rfl (rv_STA hi0 hs0) rfl (Nat.le_of_ble_eq_true rfl) d_st_fillRoles_79 ?_
      refine r_goto (tgt := 86) ok d_st_fillRoles_82 (by decide) ?_
      obtain ⟨M22, eM22, h⟩ := bd_ok h
      refine as_ROLES (n := 87) rfl ok hG hi0 hs0 (show gin 2 4 by decide) d_st_fillRoles_86 ?_
      refine r_mem (Option.some.inj eM22) ?_
      refine r_aload_n (n := 88) rfl ok d_st_fillRoles_87 rfl 2 rfl ?_
      refine g_STA_roles (n := 91) rfl ok hG hi0 hs0 k_135 d_st_fillRoles_88 ?_
      refine r_iconst (v := 3) (n := 92) rfl ok d_st_fillRoles_91 (by decide) ?_
      refine r_aload_n (n := 93) rfl ok d_st_fillRoles_92 rfl 2 rfl ?_
      refine r_aload_n (n := 94) rfl ok d_st_fillRoles_93 rfl 3 rfl ?_
      obtain ⟨r23, hr23, h⟩ := bd_ok h
      refine r_callV (n := 97) rfl ok hG mf_st_slowestAllowed k_450 ks_1 k_448 (C_st_slowestAllowed hi0 hs0 hi1 hr23) ⟨rfl, rfl⟩ (rR hXR ⟨Nat.le_of_ble_eq_true rfl, Nat.le_of_ble_eq_true rfl⟩) rfl rfl (rv_STA hi0 hs0) rfl (Nat.le_of_ble_eq_true rfl) d_st_fillRoles_94 ?_
      obtain ⟨M24, eM24, h⟩ := bd_ok h
      refine as_ROLES (n := 98) rfl ok hG hi0 hs0 (show gin 3 4 by decide) d_st_fillRoles_97 ?_
      refine r_mem (Option.some.inj eM24) ?_
      obtain rfl := Option.some.inj h
      exact fin _ _ d_st_fillRoles_98
set_option maxHeartbeats 4000000 in
set_option maxRecDepth 20000 in
theorem w_st_isCollapse_4 {X : Cx Me} {G : Gt} (ok : Ok X b_st_isCollapse "RetryChains$Station") (hG : GC X G) (hXR : X.R = rm_st_isCollapse) (hXn : X.nL = 5) {M : Me} {j0a : Nat} {j0b : Nat} {j1a : Nat} (hj0a : j0a < 9) (hj0b : j0b < 4) (hj1a : j1a < 9) {t : (Int32) ⊕ (Int32)} (kx : ∀ e : Int32, (Sum.inl e : (Int32) ⊕ (Int32)) = t → Wt X M 61 [(2, .int e)] []) (kr : ∀ o : Int32, (Sum.inr o : (Int32) ⊕ (Int32)) = t → Fin X b_st_isCollapse (some .boolean) (some (.int o)) M) : ∀ (n : Nat) (x : Int32 × Int32), lp n (b_st_isCollapse_4 M j0a j0b j1a) x = some t → Wt X M 4 [(0, .ref (G.1 + oSTA j0a j0b)), (1, .ref (G.1 + oTAB j1a)), (2, .int x.1), (3, .int x.2)] [] := by
  intro n x h
  refine lp_W (P := fun x => Wt X M 4 [(0, .ref (G.1 + oSTA j0a j0b)), (1, .ref (G.1 + oTAB j1a)), (2, .int x.1), (3, .int x.2)] []) (Z := fun t' => t' = t) (fun x r h hk hz => ?_) n x t h rfl
  unfold b_st_isCollapse_4 at h
  refine r_iload_n (n := 5) rfl ok d_st_isCollapse_4 rfl 3 rfl ?_
  refine r_aload_n (n := 6) rfl ok d_st_isCollapse_5 rfl 1 rfl ?_
  refine g_TAB_count (n := 9) rfl ok hG hj1a k_37 d_st_isCollapse_6 ?_
  refine r_icmp_ge (tgt := 61) (n := 12) rfl ok d_st_isCollapse_9 (by decide) (fun c1 => ?_) (fun c1 => ?_)
  · replace h := if_p c1 h
    obtain rfl := Option.some.inj h
    exact r_sub [2] rfl (show Wt X M 61 [(2, .int x.1)] [] from kx _ (hz _ rfl))
  · replace h := if_n c1 h
    refine r_aload_n (n := 13) rfl ok d_st_isCollapse_12 rfl 0 rfl ?_
    refine g_STA_links (n := 16) rfl ok hG hj0a hj0b k_132 d_st_isCollapse_13 ?_
    refine r_iload_n (n := 17) rfl ok d_st_isCollapse_16 rfl 3 rfl ?_
    obtain ⟨g2, h⟩ := gd_ok h
    refine al_LINKS (n := 18) rfl ok hG hj0a hj0b g2 d_st_isCollapse_17 ?_
    refine r_astore (lv' := [(4, .ref (G.1 + oLNK j0a j0b (tN x.2))), (0, .ref (G.1 + oSTA j0a j0b)), (1, .ref (G.1 + oTAB j1a)), (2, .int x.1), (3, .int x.2)]) (n := 20) rfl ok d_st_isCollapse_18 (lt_n hXn (Nat.le_of_ble_eq_true rfl)) rfl ?_
    refine r_aload (n := 22) rfl ok d_st_isCollapse_20 0 rfl ?_
    refine g_LNK_tries (n := 25) rfl ok hG hj0a hj0b (gin_lt g2) k_98 d_st_isCollapse_22 ?_
    refine r_if_le (tgt := 55) (n := 28) rfl ok d_st_isCollapse_25 (by decide) (fun c3 => ?_) (fun c3 => ?_)
    · replace h := if_p c3 h
      obtain ⟨x4, ex4, h⟩ := bd_ok h
      refine r_iinc (lv' := [(3, .int x4), (4, .ref (G.1 + oLNK j0a j0b (tN x.2))), (0, .ref (G.1 + oSTA j0a j0b)), (1, .ref (G.1 + oTAB j1a)), (2, .int x.1)]) (n := 58) rfl ok d_st_isCollapse_55 4 rfl (Option.some.inj ex4) (lt_n hXn (Nat.le_of_ble_eq_true rfl)) rfl ?_
      refine r_goto (tgt := 4) ok d_st_isCollapse_58 (by decide) ?_
      obtain rfl := Option.some.inj h
      exact r_sub [2, 3, 4, 0] rfl (show Wt X M 4 [(0, .ref (G.1 + oSTA j0a j0b)), (1, .ref (G.1 + oTAB j1a)), (2, .int x.1), (3, .int x4)] [] from hk _ rfl)
    · replace h := if_n c3 h
      refine r_aload (n := 30) rfl ok d_st_isCollapse_28 0 rfl ?_
      obtain ⟨r5, hr5, h⟩ := bd_ok h
      refine r_callV (n := 33) rfl ok hG mf_lk_isEstimated k_650 k_651 k_649 (C_lk_isEstimated hj0a hj0b (gin_lt g2) hr5) ⟨rfl, rfl⟩ (rR hXR ⟨Nat.le_of_ble_eq_true rfl, Nat.le_of_ble_eq_true rfl⟩) rfl rfl (rv_LNK hj0a hj0b (gin_lt g2)) rfl (Nat.le_of_ble_eq_true rfl) d_st_isCollapse_30 ?_
      refine r_if_eq (tgt := 55) (n := 36) rfl ok d_st_isCollapse_33 (by decide) (fun c6 => ?_) (fun c6 => ?_)
      · replace h := if_p c6 h
        obtain ⟨x7, ex7, h⟩ := bd_ok h
        refine r_iinc (lv' := [(3, .int x7), (4, .ref (G.1 + oLNK j0a j0b (tN x.2))), (0, .ref (G.1 + oSTA j0a j0b)), (1, .ref (G.1 + oTAB j1a)), (2, .int x.1)]) (n := 58) rfl ok d_st_isCollapse_55 4 rfl (Option.some.inj ex7) (lt_n hXn (Nat.le_of_ble_eq_true rfl)) rfl ?_
        refine r_goto (tgt := 4) ok d_st_isCollapse_58 (by decide) ?_
        obtain rfl := Option.some.inj h
        exact r_sub [2, 3, 4, 0] rfl (show Wt X M 4 [(0, .ref (G.1 + oSTA j0a j0b)), (1, .ref (G.1 + oTAB j1a)), (2, .int x.1), (3, .int x7)] [] from hk _ rfl)
      · replace h := if_n c6 h
        refine r_aload (n := 38) rfl ok d_st_isCollapse_36 0 rfl ?_
        refine r_aload (n := 40) rfl ok d_st_isCollapse_38 0 rfl ?_
        obtain ⟨r8, hr8, h⟩ := bd_ok h
        refine r_callV (n := 43) rfl ok hG mf_lk_sample k_654 k_655 k_653 (C_lk_sample hj0a hj0b (gin_lt g2) hr8) ⟨rfl, rfl⟩ (rR hXR ⟨Nat.le_of_ble_eq_true rfl, Nat.le_of_ble_eq_true rfl⟩) rfl rfl (rv_LNK hj0a hj0b (gin_lt g2)) rfl (Nat.le_of_ble_eq_true rfl) d_st_isCollapse_40 ?_
        obtain ⟨r9, hr9, h⟩ := bd_ok h
        refine r_callV (n := 46) rfl ok hG mf_lk_swing k_659 k_660 k_658 (C_lk_swing hj0a hj0b (gin_lt g2) hr9) ⟨rfl, rfl⟩ (rR hXR ⟨Nat.le_of_ble_eq_true rfl, Nat.le_of_ble_eq_true rfl⟩) rfl rfl (rv_LNK hj0a hj0b (gin_lt g2)) rfl (Nat.le_of_ble_eq_true rfl) d_st_isCollapse_43 ?_
        refine r_iconst (v := (-1)) (n := 47) rfl ok d_st_isCollapse_46 (by decide) ?_
        refine r_icmp_eq (tgt := 52) (n := 50) rfl ok d_st_isCollapse_47 (by decide) (fun c10 => ?_) (fun c10 => ?_)
        · replace h := if_p c10 h
          obtain ⟨x11, ex11, h⟩ := bd_ok h
          refine r_iinc (lv' := [(2, .int x11), (4, .ref (G.1 + oLNK j0a j0b (tN x.2))), (0, .ref (G.1 + oSTA j0a j0b)), (1, .ref (G.1 + oTAB j1a)), (3, .int x.2)]) (n := 55) rfl ok d_st_isCollapse_52 3 rfl (Option.some.inj ex11) (lt_n hXn (Nat.le_of_ble_eq_true rfl)) rfl ?_
          obtain ⟨x12, ex12, h⟩ := bd_ok h
          refine r_iinc (lv' := [(3, .int x12), (2, .int x11), (4, .ref (G.1 + oLNK j0a j0b (tN x.2))), (0, .ref (G.1 + oSTA j0a j0b)), (1, .ref (G.1 + oTAB j1a))]) (n := 58) rfl ok d_st_isCollapse_55 4 rfl (Option.some.inj ex12) (lt_n hXn (Nat.le_of_ble_eq_true rfl)) rfl ?_
          refine r_goto (tgt := 4) ok d_st_isCollapse_58 (by decide) ?_
          obtain rfl := Option.some.inj h
          exact r_sub [3, 4, 1, 0] rfl (show Wt X M 4 [(0, .ref (G.1 + oSTA j0a j0b)), (1, .ref (G.1 + oTAB j1a)), (2, .int x11), (3, .int x12)] [] from hk _ rfl)
        · replace h := if_n c10 h
          refine r_iconst (v := 0) (n := 51) rfl ok d_st_isCollapse_50 (by decide) ?_
          obtain rfl := Option.some.inj h
          exact kr _ (hz _ rfl) _ _ ⟨.boolean, rfl, nz0⟩ d_st_isCollapse_51
set_option maxHeartbeats 4000000 in
set_option maxRecDepth 20000 in
theorem C_st_isCollapse {l : Launch} {G : Gt} {M : Me} {i0 : Nat} {s0 : Nat} {i1 : Nat} (hi0 : i0 < 9) (hs0 : s0 < 4) (hi1 : i1 < 9) {o : Int32} (h : f_st_isCollapse M i0 s0 i1 = some o) : Ct l G (WC G) (rC G) y_st_isCollapse b_st_isCollapse 5 (some .boolean) rm_st_isCollapse [.ref (G.1 + oSTA i0 s0), .ref (G.1 + oTAB i1)] M (some (.int o)) M := by
  refine Ct.mk (own := "RetryChains$Station") rfl (by decide) (Nat.le_of_ble_eq_true rfl) ⟨_, rfl⟩ (fun X hXl hXR hXn ok hG fin => ?_)
  subst hXl
  unfold f_st_isCollapse at h
  show Wt X M 0 [(0, .ref (G.1 + oSTA i0 s0)), (1, .ref (G.1 + oTAB i1))] []
  refine r_iconst (v := 0) (n := 1) rfl ok d_st_isCollapse_0 (by decide) ?_
  refine r_istore_n (lv' := [(2, .int 0), (0, .ref (G.1 + oSTA i0 s0)), (1, .ref (G.1 + oTAB i1))]) (n := 2) rfl ok d_st_isCollapse_1 rfl (lt_n hXn (Nat.le_of_ble_eq_true rfl)) rfl ?_
  refine r_iconst (v := 0) (n := 3) rfl ok d_st_isCollapse_2 (by decide) ?_
  refine r_istore_n (lv' := [(3, .int 0), (2, .int 0), (0, .ref (G.1 + oSTA i0 s0)), (1, .ref (G.1 + oTAB i1))]) (n := 4) rfl ok d_st_isCollapse_3 rfl (lt_n hXn (Nat.le_of_ble_eq_true rfl)) rfl ?_
  obtain ⟨t13, ht13, h⟩ := bd_ok h
  refine r_sub [2, 3, 1, 0] rfl (show Wt X M 4 [(0, .ref (G.1 + oSTA i0 s0)), (1, .ref (G.1 + oTAB i1)), (2, .int 0), (3, .int 0)] [] from w_st_isCollapse_4 ok hG hXR hXn hi0 hs0 hi1 ?_ ?_ _ _ ht13)
  · intro e14 he
    subst he
    replace h := su_l h
    refine r_iload_n (n := 62) rfl ok d_st_isCollapse_61 rfl 0 rfl ?_
    refine r_iconst (v := 2) (n := 63) rfl ok d_st_isCollapse_62 (by decide) ?_
    refine r_icmp_lt (tgt := 70) (n := 66) rfl ok d_st_isCollapse_63 (by decide) (fun c15 => ?_) (fun c15 => ?_)
    · replace h := if_p c15 h
      refine r_iconst (v := 0) (n := 71) rfl ok d_st_isCollapse_70 (by decide) ?_
      obtain rfl := Option.some.inj h
      exact fin _ _ ⟨.boolean, rfl, nz0⟩ d_st_isCollapse_71
    · replace h := if_n c15 h
      refine r_iconst (v := 1) (n := 67) rfl ok d_st_isCollapse_66 (by decide) ?_
      refine r_goto (tgt := 71) ok d_st_isCollapse_67 (by decide) ?_
      obtain rfl := Option.some.inj h
      exact fin _ _ ⟨.boolean, rfl, nz1⟩ d_st_isCollapse_71
  · intro o he
    subst he
    replace h := su_r h
    obtain rfl := Option.some.inj h
    exact fin
set_option maxHeartbeats 4000000 in
set_option maxRecDepth 20000 in
theorem w_st_ratesTried_4 {X : Cx Me} {G : Gt} (ok : Ok X b_st_ratesTried "RetryChains$Station") (hG : GC X G) (hXR : X.R = rm_st_ratesTried) (hXn : X.nL = 4) {M : Me} {j0a : Nat} {j0b : Nat} {j1a : Nat} (hj0a : j0a < 9) (hj0b : j0b < 4) (hj1a : j1a < 9) {t : Int32} (kx : ∀ e : Int32, e = t → Wt X M 33 [(2, .int e)] [])  : ∀ (n : Nat) (x : Int32 × Int32), lp n (b_st_ratesTried_4 M j0a j0b j1a) x = some t → Wt X M 4 [(0, .ref (G.1 + oSTA j0a j0b)), (1, .ref (G.1 + oTAB j1a)), (2, .int x.1), (3, .int x.2)] [] := by
  intro n x h
  refine lp_W (P := fun x => Wt X M 4 [(0, .ref (G.1 + oSTA j0a j0b)), (1, .ref (G.1 + oTAB j1a)), (2, .int x.1), (3, .int x.2)] []) (Z := fun t' => t' = t) (fun x r h hk hz => ?_) n x t h rfl
  unfold b_st_ratesTried_4 at h
  refine r_iload_n (n := 5) rfl ok d_st_ratesTried_4 rfl 3 rfl ?_
  refine r_aload_n (n := 6) rfl ok d_st_ratesTried_5 rfl 1 rfl ?_
  refine g_TAB_count (n := 9) rfl ok hG hj1a k_37 d_st_ratesTried_6 ?_
  refine r_icmp_ge (tgt := 33) (n := 12) rfl ok d_st_ratesTried_9 (by decide) (fun c1 => ?_) (fun c1 => ?_)
  · replace h := if_p c1 h
    obtain rfl := Option.some.inj h
    exact r_sub [2] rfl (show Wt X M 33 [(2, .int x.1)] [] from kx _ (hz _ rfl))
  · replace h := if_n c1 h
    refine r_aload_n (n := 13) rfl ok d_st_ratesTried_12 rfl 0 rfl ?_
    refine g_STA_links (n := 16) rfl ok hG hj0a hj0b k_132 d_st_ratesTried_13 ?_
    refine r_iload_n (n := 17) rfl ok d_st_ratesTried_16 rfl 3 rfl ?_
    obtain ⟨g2, h⟩ := gd_ok h
    refine al_LINKS (n := 18) rfl ok hG hj0a hj0b g2 d_st_ratesTried_17 ?_
    refine g_LNK_tries (n := 21) rfl ok hG hj0a hj0b (gin_lt g2) k_98 d_st_ratesTried_18 ?_
    refine r_if_le (tgt := 27) (n := 24) rfl ok d_st_ratesTried_21 (by decide) (fun c3 => ?_) (fun c3 => ?_)
    · replace h := if_p c3 h
      obtain ⟨x4, ex4, h⟩ := bd_ok h
      refine r_iinc (lv' := [(3, .int x4), (0, .ref (G.1 + oSTA j0a j0b)), (1, .ref (G.1 + oTAB j1a)), (2, .int x.1)]) (n := 30) rfl ok d_st_ratesTried_27 3 rfl (Option.some.inj ex4) (lt_n hXn (Nat.le_of_ble_eq_true rfl)) rfl ?_
      refine r_goto (tgt := 4) ok d_st_ratesTried_30 (by decide) ?_
      obtain rfl := Option.some.inj h
      exact r_sub [1, 2, 3, 0] rfl (show Wt X M 4 [(0, .ref (G.1 + oSTA j0a j0b)), (1, .ref (G.1 + oTAB j1a)), (2, .int x.1), (3, .int x4)] [] from hk _ rfl)
    · replace h := if_n c3 h
      obtain ⟨x5, ex5, h⟩ := bd_ok h
      refine r_iinc (lv' := [(2, .int x5), (0, .ref (G.1 + oSTA j0a j0b)), (1, .ref (G.1 + oTAB j1a)), (3, .int x.2)]) (n := 27) rfl ok d_st_ratesTried_24 2 rfl (Option.some.inj ex5) (lt_n hXn (Nat.le_of_ble_eq_true rfl)) rfl ?_
      obtain ⟨x6, ex6, h⟩ := bd_ok h
      refine r_iinc (lv' := [(3, .int x6), (2, .int x5), (0, .ref (G.1 + oSTA j0a j0b)), (1, .ref (G.1 + oTAB j1a))]) (n := 30) rfl ok d_st_ratesTried_27 3 rfl (Option.some.inj ex6) (lt_n hXn (Nat.le_of_ble_eq_true rfl)) rfl ?_
      refine r_goto (tgt := 4) ok d_st_ratesTried_30 (by decide) ?_
      obtain rfl := Option.some.inj h
      exact r_sub [2, 3, 1, 0] rfl (show Wt X M 4 [(0, .ref (G.1 + oSTA j0a j0b)), (1, .ref (G.1 + oTAB j1a)), (2, .int x5), (3, .int x6)] [] from hk _ rfl)
set_option maxHeartbeats 4000000 in
set_option maxRecDepth 20000 in
theorem C_st_ratesTried {l : Launch} {G : Gt} {M : Me} {i0 : Nat} {s0 : Nat} {i1 : Nat} (hi0 : i0 < 9) (hs0 : s0 < 4) (hi1 : i1 < 9) {o : Int32} (h : f_st_ratesTried M i0 s0 i1 = some o) : Ct l G (WC G) (rC G) y_st_ratesTried b_st_ratesTried 4 (some .int) rm_st_ratesTried [.ref (G.1 + oSTA i0 s0), .ref (G.1 + oTAB i1)] M (some (.int o)) M := by
  refine Ct.mk (own := "RetryChains$Station") rfl (by decide) (Nat.le_of_ble_eq_true rfl) ⟨_, rfl⟩ (fun X hXl hXR hXn ok hG fin => ?_)
  subst hXl
  unfold f_st_ratesTried at h
  show Wt X M 0 [(0, .ref (G.1 + oSTA i0 s0)), (1, .ref (G.1 + oTAB i1))] []
  refine r_iconst (v := 0) (n := 1) rfl ok d_st_ratesTried_0 (by decide) ?_
  refine r_istore_n (lv' := [(2, .int 0), (0, .ref (G.1 + oSTA i0 s0)), (1, .ref (G.1 + oTAB i1))]) (n := 2) rfl ok d_st_ratesTried_1 rfl (lt_n hXn (Nat.le_of_ble_eq_true rfl)) rfl ?_
  refine r_iconst (v := 0) (n := 3) rfl ok d_st_ratesTried_2 (by decide) ?_
  refine r_istore_n (lv' := [(3, .int 0), (2, .int 0), (0, .ref (G.1 + oSTA i0 s0)), (1, .ref (G.1 + oTAB i1))]) (n := 4) rfl ok d_st_ratesTried_3 rfl (lt_n hXn (Nat.le_of_ble_eq_true rfl)) rfl ?_
  obtain ⟨t7, ht7, h⟩ := bd_ok h
  refine r_sub [2, 3, 1, 0] rfl (show Wt X M 4 [(0, .ref (G.1 + oSTA i0 s0)), (1, .ref (G.1 + oTAB i1)), (2, .int 0), (3, .int 0)] [] from w_st_ratesTried_4 ok hG hXR hXn hi0 hs0 hi1 ?_ _ _ ht7)
  · intro e8 he
    subst he
    refine r_iload_n (n := 34) rfl ok d_st_ratesTried_33 rfl 0 rfl ?_
    obtain rfl := Option.some.inj h
    exact fin _ _ ⟨.int, rfl, rfl⟩ d_st_ratesTried_34
set_option maxHeartbeats 4000000 in
set_option maxRecDepth 20000 in
theorem wj_nt_refresh_71 {X : Cx Me} {G : Gt} (ok : Ok X b_nt_refresh "RetryChains$Network") (hG : GC X G) (hXR : X.R = rm_nt_refresh) (hXn : X.nL = 4) {M : Me} {j0a : Nat} {j1a : Nat} {j1b : Nat} {y2 : Int32} {y3 : Int32} (hj0a : j0a < 9) (hj1a : j1a < 9) (hj1b : j1b < 4) {o : Int32 × Me} (fin : Fin X b_nt_refresh (some .int) (some (.int o.1)) o.2) (h : j_nt_refresh_71 M j0a j1a j1b y2 y3 = some o) : Wt X M 71 [(0, .ref (G.1 + oNET j0a)), (1, .ref (G.1 + oSTA j1a j1b)), (2, .int y2), (3, .int y3)] [] := by
  unfold j_nt_refresh_71 at h
  refine r_aload_n (n := 72) rfl ok d_nt_refresh_71 rfl 1 rfl ?_
  refine r_aload_n (n := 73) rfl ok d_nt_refresh_72 rfl 0 rfl ?_
  refine g_NET_rates (n := 76) rfl ok hG hj0a k_239 d_nt_refresh_73 ?_
  refine r_aload_n (n := 77) rfl ok d_nt_refresh_76 rfl 0 rfl ?_
  obtain ⟨r6, hr6, h⟩ := bd_ok h
  refine r_callV (n := 80) rfl ok hG mf_nt_endOfNewInterval k_457 k_458 k_682 (C_nt_endOfNewInterval hj0a hr6) ⟨rfl, rfl⟩ (rR hXR ⟨Nat.le_of_ble_eq_true rfl, Nat.le_of_ble_eq_true rfl⟩) rfl rfl (rv_NET hj0a) rfl (Nat.le_of_ble_eq_true rfl) d_nt_refresh_77 ?_
  obtain ⟨r7, hr7, h⟩ := bd_ok h
  refine r_callV (n := 83) rfl ok hG mf_st_beginInterval k_684 k_685 k_683 (C_st_beginInterval hj1a hj1b hj0a hr7) ⟨rfl, rfl⟩ (rR hXR ⟨Nat.le_of_ble_eq_true rfl, Nat.le_of_ble_eq_true rfl⟩) rfl rfl (rv_STA hj1a hj1b) rfl (Nat.le_of_ble_eq_true rfl) d_nt_refresh_80 ?_
  refine r_aload_n (n := 84) rfl ok d_nt_refresh_83 rfl 1 rfl ?_
  refine r_aload_n (n := 85) rfl ok d_nt_refresh_84 rfl 0 rfl ?_
  refine g_NET_rates (n := 88) rfl ok hG hj0a k_239 d_nt_refresh_85 ?_
  obtain ⟨r8, hr8, h⟩ := bd_ok h
  refine r_callV (n := 91) rfl ok hG mf_st_fillRoles k_431 k_432 k_687 (C_st_fillRoles hj1a hj1b hj0a hr8) ⟨rfl, rfl⟩ (rR hXR ⟨Nat.le_of_ble_eq_true rfl, Nat.le_of_ble_eq_true rfl⟩) rfl rfl (rv_STA hj1a hj1b) rfl (Nat.le_of_ble_eq_true rfl) d_nt_refresh_88 ?_
  refine r_aload_n (n := 92) rfl ok d_nt_refresh_91 rfl 1 rfl ?_
  refine g_STA_roles (n := 95) rfl ok hG hj1a hj1b k_136 d_nt_refresh_92 ?_
  refine r_iconst (v := 0) (n := 96) rfl ok d_nt_refresh_95 (by decide) ?_
  refine al_ROLES (n := 97) rfl ok hG hj1a hj1b (show gin 0 4 by decide) d_nt_refresh_96 ?_
  refine r_iload_n (n := 98) rfl ok d_nt_refresh_97 rfl 2 rfl ?_
  refine r_icmp_eq (tgt := 123) (n := 101) rfl ok d_nt_refresh_98 (by decide) (fun c9 => ?_) (fun c9 => ?_)
  · replace h := if_p c9 h
    refine r_iload_n (n := 124) rfl ok d_nt_refresh_123 rfl 3 rfl ?_
    obtain rfl := Option.some.inj h
    exact fin _ _ ⟨.int, rfl, rfl⟩ d_nt_refresh_124
  · replace h := if_n c9 h
    refine r_aload_n (n := 102) rfl ok d_nt_refresh_101 rfl 0 rfl ?_
    refine g_NET_log (n := 105) rfl ok hG hj0a k_245 d_nt_refresh_102 ?_
    refine r_iconst (v := 5) (n := 106) rfl ok d_nt_refresh_105 (by decide) ?_
    refine r_aload_n (n := 107) rfl ok d_nt_refresh_106 rfl 1 rfl ?_
    refine g_STA_number (n := 110) rfl ok hG hj1a hj1b k_131 d_nt_refresh_107 ?_
    refine r_aload_n (n := 111) rfl ok d_nt_refresh_110 rfl 1 rfl ?_
    refine g_STA_roles (n := 114) rfl ok hG hj1a hj1b k_136 d_nt_refresh_111 ?_
    refine r_iconst (v := 0) (n := 115) rfl ok d_nt_refresh_114 (by decide) ?_
    refine al_ROLES (n := 116) rfl ok hG hj1a hj1b (show gin 0 4 by decide) d_nt_refresh_115 ?_
    refine r_aload_n (n := 117) rfl ok d_nt_refresh_116 rfl 0 rfl ?_
    refine g_NET_time (n := 120) rfl ok hG hj0a k_249 d_nt_refresh_117 ?_
    obtain ⟨r10, hr10, h⟩ := bd_ok h
    refine r_callV (n := 123) rfl ok hG mf_lo_note k_625 k_626 k_624 (C_lo_note hj0a hr10) ⟨rfl, rfl⟩ (rR hXR ⟨Nat.le_of_ble_eq_true rfl, Nat.le_of_ble_eq_true rfl⟩) rfl rfl (rv_LOG hj0a) rfl (Nat.le_of_ble_eq_true rfl) d_nt_refresh_120 ?_
    refine r_iload_n (n := 124) rfl ok d_nt_refresh_123 rfl 3 rfl ?_
    obtain rfl := Option.some.inj h
    exact fin _ _ ⟨.int, rfl, rfl⟩ d_nt_refresh_124
set_option maxHeartbeats 4000000 in
set_option maxRecDepth 20000 in
theorem C_nt_refresh {l : Launch} {G : Gt} {M : Me} {i0 : Nat} {i1 : Nat} {s1 : Nat} (hi0 : i0 < 9) (hi1 : i1 < 9) (hs1 : s1 < 4) {o : Int32 × Me} (h : f_nt_refresh M i0 i1 s1 = some o) : Ct l G (WC G) (rC G) y_nt_refresh b_nt_refresh 4 (some .int) rm_nt_refresh [.ref (G.1 + oNET i0), .ref (G.1 + oSTA i1 s1)] M (some (.int o.1)) o.2 := by
  refine Ct.mk (own := "RetryChains$Network") rfl (by decide) (Nat.le_of_ble_eq_true rfl) ⟨_, rfl⟩ (fun X hXl hXR hXn ok hG fin => ?_)
  subst hXl
  unfold f_nt_refresh at h
  show Wt X M 0 [(0, .ref (G.1 + oNET i0)), (1, .ref (G.1 + oSTA i1 s1))] []
  refine r_aload_n (n := 1) rfl ok d_nt_refresh_0 rfl 1 rfl ?_
  refine g_STA_roles (n := 4) rfl ok hG hi1 hs1 k_136 d_nt_refresh_1 ?_
  refine r_iconst (v := 0) (n := 5) rfl ok d_nt_refresh_4 (by decide) ?_
  refine al_ROLES (n := 6) rfl ok hG hi1 hs1 (show gin 0 4 by decide) d_nt_refresh_5 ?_
  refine r_istore_n (lv' := [(2, .int (M.1 41 i1 s1 (tN 0))), (0, .ref (G.1 + oNET i0)), (1, .ref (G.1 + oSTA i1 s1))]) (n := 7) rfl ok d_nt_refresh_6 rfl (lt_n hXn (Nat.le_of_ble_eq_true rfl)) rfl ?_
  refine r_aload_n (n := 8) rfl ok d_nt_refresh_7 rfl 2 rfl ?_
  refine r_aload_n (n := 9) rfl ok d_nt_refresh_8 rfl 1 rfl ?_
  refine g_NET_rates (n := 12) rfl ok hG hi0 k_239 d_nt_refresh_9 ?_
  obtain ⟨r1, hr1, h⟩ := bd_ok h
  refine r_callV (n := 15) rfl ok hG mf_st_ratesTried k_642 k_643 k_641 (C_st_ratesTried hi1 hs1 hi0 hr1) ⟨rfl, rfl⟩ (rR hXR ⟨Nat.le_of_ble_eq_true rfl, Nat.le_of_ble_eq_true rfl⟩) rfl rfl (rv_STA hi1 hs1) rfl (Nat.le_of_ble_eq_true rfl) d_nt_refresh_12 ?_
  refine r_istore_n (lv' := [(3, .int r1), (2, .int (M.1 41 i1 s1 (tN 0))), (0, .ref (G.1 + oNET i0)), (1, .ref (G.1 + oSTA i1 s1))]) (n := 16) rfl ok d_nt_refresh_15 rfl (lt_n hXn (Nat.le_of_ble_eq_true rfl)) rfl ?_
  refine r_aload_n (n := 17) rfl ok d_nt_refresh_16 rfl 3 rfl ?_
  refine r_aload_n (n := 18) rfl ok d_nt_refresh_17 rfl 2 rfl ?_
  refine g_NET_rates (n := 21) rfl ok hG hi0 k_239 d_nt_refresh_18 ?_
  obtain ⟨r2, hr2, h⟩ := bd_ok h
  refine r_callV (n := 24) rfl ok hG mf_st_isCollapse k_646 k_647 k_645 (C_st_isCollapse hi1 hs1 hi0 hr2) ⟨rfl, rfl⟩ (rR hXR ⟨Nat.le_of_ble_eq_true rfl, Nat.le_of_ble_eq_true rfl⟩) rfl rfl (rv_STA hi1 hs1) rfl (Nat.le_of_ble_eq_true rfl) d_nt_refresh_21 ?_
  refine r_if_eq (tgt := 61) (n := 27) rfl ok d_nt_refresh_24 (by decide) (fun c3 => ?_) (fun c3 => ?_)
  · replace h := if_p c3 h
    refine r_aload_n (n := 62) rfl ok d_nt_refresh_61 rfl 2 rfl ?_
    refine r_aload_n (n := 63) rfl ok d_nt_refresh_62 rfl 3 rfl ?_
    obtain ⟨r4, hr4, h⟩ := bd_ok h
    refine r_callV (n := 66) rfl ok hG mf_nt_learnAll k_672 ks_8 k_670 (C_nt_learnAll hi0 hi1 hs1 hr4) ⟨rfl, rfl⟩ (rR hXR ⟨Nat.le_of_ble_eq_true rfl, Nat.le_of_ble_eq_true rfl⟩) rfl rfl (rv_NET hi0) rfl (Nat.le_of_ble_eq_true rfl) d_nt_refresh_63 ?_
    refine r_aload_n (n := 67) rfl ok d_nt_refresh_66 rfl 2 rfl ?_
    refine r_aload_n (n := 68) rfl ok d_nt_refresh_67 rfl 3 rfl ?_
    obtain ⟨r5, hr5, h⟩ := bd_ok h
    refine r_callV (n := 71) rfl ok hG mf_nt_endFallback k_622 ks_6 k_620 (C_nt_endFallback hi0 hi1 hs1 hr5) ⟨rfl, rfl⟩ (rR hXR ⟨Nat.le_of_ble_eq_true rfl, Nat.le_of_ble_eq_true rfl⟩) rfl rfl (rv_NET hi0) rfl (Nat.le_of_ble_eq_true rfl) d_nt_refresh_68 ?_
    exact r_sub [2, 3, 1, 0] rfl (wj_nt_refresh_71 ok hG hXR hXn hi0 hi1 hs1 fin h)
  · replace h := if_n c3 h
    refine r_aload_n (n := 28) rfl ok d_nt_refresh_27 rfl 3 rfl ?_
    refine r_aload_n (n := 29) rfl ok d_nt_refresh_28 rfl 2 rfl ?_
    refine g_NET_rates (n := 32) rfl ok hG hi0 k_239 d_nt_refresh_29 ?_
    obtain ⟨r11, hr11, h⟩ := bd_ok h
    refine r_callV (n := 35) rfl ok hG mf_st_collapse k_663 k_664 k_662 (C_st_collapse hi1 hs1 hi0 hr11) ⟨rfl, rfl⟩ (rR hXR ⟨Nat.le_of_ble_eq_true rfl, Nat.le_of_ble_eq_true rfl⟩) rfl rfl (rv_STA hi1 hs1) rfl (Nat.le_of_ble_eq_true rfl) d_nt_refresh_32 ?_
    refine r_aload_n (n := 36) rfl ok d_nt_refresh_35 rfl 2 rfl ?_
    refine g_NET_log (n := 39) rfl ok hG hi0 k_245 d_nt_refresh_36 ?_
    refine r_iconst (v := 2) (n := 40) rfl ok d_nt_refresh_39 (by decide) ?_
    refine r_aload_n (n := 41) rfl ok d_nt_refresh_40 rfl 3 rfl ?_
    refine g_STA_number (n := 44) rfl ok hG hi1 hs1 k_131 d_nt_refresh_41 ?_
    refine r_bipush (v := (-9)) (n := 46) rfl ok d_nt_refresh_44 (by decide) ?_
    refine r_aload_n (n := 47) rfl ok d_nt_refresh_46 rfl 2 rfl ?_
    refine g_NET_time (n := 50) rfl ok hG hi0 k_249 d_nt_refresh_47 ?_
    obtain ⟨r12, hr12, h⟩ := bd_ok h
    refine r_callV (n := 53) rfl ok hG mf_lo_note k_625 k_626 k_624 (C_lo_note hi0 hr12) ⟨rfl, rfl⟩ (rR hXR ⟨Nat.le_of_ble_eq_true rfl, Nat.le_of_ble_eq_true rfl⟩) rfl rfl (rv_LOG hi0) rfl (Nat.le_of_ble_eq_true rfl) d_nt_refresh_50 ?_
    refine r_aload_n (n := 54) rfl ok d_nt_refresh_53 rfl 2 rfl ?_
    refine r_aload_n (n := 55) rfl ok d_nt_refresh_54 rfl 3 rfl ?_
    obtain ⟨r13, hr13, h⟩ := bd_ok h
    refine r_callV (n := 58) rfl ok hG mf_nt_beginFallback k_631 ks_7 k_629 (C_nt_beginFallback hi0 hi1 hs1 hr13) ⟨rfl, rfl⟩ (rR hXR ⟨Nat.le_of_ble_eq_true rfl, Nat.le_of_ble_eq_true rfl⟩) rfl rfl (rv_NET hi0) rfl (Nat.le_of_ble_eq_true rfl) d_nt_refresh_55 ?_
    refine r_goto (tgt := 71) ok d_nt_refresh_58 (by decide) ?_
    exact r_sub [2, 3, 1, 0] rfl (wj_nt_refresh_71 ok hG hXR hXn hi0 hi1 hs1 fin h)
set_option maxHeartbeats 4000000 in
set_option maxRecDepth 20000 in
theorem w_nt_updateEnded_2 {X : Cx Me} {G : Gt} (ok : Ok X b_nt_updateEnded "RetryChains$Network") (hG : GC X G) (hXR : X.R = rm_nt_updateEnded) (hXn : X.nL = 2) {j0a : Nat} (hj0a : j0a < 9) {t : Me} (kx : ∀ e : Me, e = t → Wt X e 45 [] [])  : ∀ (n : Nat) (x : Int32 × Me), lp n (b_nt_updateEnded_2 j0a) x = some t → Wt X x.2 2 [(0, .ref (G.1 + oNET j0a)), (1, .int x.1)] [] := by
  intro n x h
  refine lp_W (P := fun x => Wt X x.2 2 [(0, .ref (G.1 + oNET j0a)), (1, .int x.1)] []) (Z := fun t' => t' = t) (fun x r h hk hz => ?_) n x t h rfl
  unfold b_nt_updateEnded_2 at h
  refine r_iload_n (n := 3) rfl ok d_nt_updateEnded_2 rfl 1 rfl ?_
  refine r_aload_n (n := 4) rfl ok d_nt_updateEnded_3 rfl 0 rfl ?_
  refine g_NET_stationCount (n := 7) rfl ok hG hj0a k_248 d_nt_updateEnded_4 ?_
  refine r_icmp_ge (tgt := 45) (n := 10) rfl ok d_nt_updateEnded_7 (by decide) (fun c1 => ?_) (fun c1 => ?_)
  · replace h := if_p c1 h
    obtain rfl := Option.some.inj h
    exact r_sub [] rfl (show Wt X x.2 45 [] [] from kx _ (hz _ rfl))
  · replace h := if_n c1 h
    refine r_aload_n (n := 11) rfl ok d_nt_updateEnded_10 rfl 0 rfl ?_
    refine g_NET_stations (n := 14) rfl ok hG hj0a k_242 d_nt_updateEnded_11 ?_
    refine r_iload_n (n := 15) rfl ok d_nt_updateEnded_14 rfl 1 rfl ?_
    obtain ⟨g2, h⟩ := gd_ok h
    refine al_STAS (n := 16) rfl ok hG hj0a g2 d_nt_updateEnded_15 ?_
    refine g_STA_intervalEnd (n := 19) rfl ok hG hj0a (gin_lt g2) k_165 d_nt_updateEnded_16 ?_
    refine r_aload_n (n := 20) rfl ok d_nt_updateEnded_19 rfl 0 rfl ?_
    refine g_NET_time (n := 23) rfl ok hG hj0a k_249 d_nt_updateEnded_20 ?_
    refine r_i2l (n := 24) rfl ok d_nt_updateEnded_23 ?_
    refine r_lcmp (n := 25) rfl ok d_nt_updateEnded_24 ?_
    refine r_if_gt (tgt := 39) (n := 28) rfl ok d_nt_updateEnded_25 (by decide) (fun c3 => ?_) (fun c3 => ?_)
    · replace h := if_p c3 h
      obtain ⟨x4, ex4, h⟩ := bd_ok h
      refine r_iinc (lv' := [(1, .int x4), (0, .ref (G.1 + oNET j0a))]) (n := 42) rfl ok d_nt_updateEnded_39 1 rfl (Option.some.inj ex4) (lt_n hXn (Nat.le_of_ble_eq_true rfl)) rfl ?_
      refine r_goto (tgt := 2) ok d_nt_updateEnded_42 (by decide) ?_
      obtain rfl := Option.some.inj h
      exact r_sub [1, 0] rfl (show Wt X x.2 2 [(0, .ref (G.1 + oNET j0a)), (1, .int x4)] [] from hk _ rfl)
    · replace h := if_n c3 h
      refine r_aload_n (n := 29) rfl ok d_nt_updateEnded_28 rfl 0 rfl ?_
      refine r_aload_n (n := 30) rfl ok d_nt_updateEnded_29 rfl 0 rfl ?_
      refine g_NET_stations (n := 33) rfl ok hG hj0a k_242 d_nt_updateEnded_30 ?_
      refine r_iload_n (n := 34) rfl ok d_nt_updateEnded_33 rfl 1 rfl ?_
      obtain ⟨g5, h⟩ := gd_ok h
      refine al_STAS (n := 35) rfl ok hG hj0a g5 d_nt_updateEnded_34 ?_
      obtain ⟨r6, hr6, h⟩ := bd_ok h
      refine r_callV (n := 38) rfl ok hG mf_nt_refresh k_638 k_639 k_637 (C_nt_refresh hj0a hj0a (gin_lt g5) hr6) ⟨rfl, rfl⟩ (rR hXR ⟨Nat.le_of_ble_eq_true rfl, Nat.le_of_ble_eq_true rfl⟩) rfl rfl (rv_NET hj0a) rfl (Nat.le_of_ble_eq_true rfl) d_nt_updateEnded_35 ?_
      refine r_pop (n := 39) rfl ok d_nt_updateEnded_38 rfl ?_
      obtain ⟨x7, ex7, h⟩ := bd_ok h
      refine r_iinc (lv' := [(1, .int x7), (0, .ref (G.1 + oNET j0a))]) (n := 42) rfl ok d_nt_updateEnded_39 1 rfl (Option.some.inj ex7) (lt_n hXn (Nat.le_of_ble_eq_true rfl)) rfl ?_
      refine r_goto (tgt := 2) ok d_nt_updateEnded_42 (by decide) ?_
      obtain rfl := Option.some.inj h
      exact r_sub [1, 0] rfl (show Wt X r6.2 2 [(0, .ref (G.1 + oNET j0a)), (1, .int x7)] [] from hk _ rfl)
set_option maxHeartbeats 4000000 in
set_option maxRecDepth 20000 in
theorem C_nt_updateEnded {l : Launch} {G : Gt} {M : Me} {i0 : Nat} (hi0 : i0 < 9) {o : Me} (h : f_nt_updateEnded M i0 = some o) : Ct l G (WC G) (rC G) y_nt_updateEnded b_nt_updateEnded 2 none rm_nt_updateEnded [.ref (G.1 + oNET i0)] M (none) o := by
  refine Ct.mk (own := "RetryChains$Network") rfl (by decide) (Nat.le_of_ble_eq_true rfl) rfl (fun X hXl hXR hXn ok hG fin => ?_)
  subst hXl
  unfold f_nt_updateEnded at h
  show Wt X M 0 [(0, .ref (G.1 + oNET i0))] []
  refine r_iconst (v := 0) (n := 1) rfl ok d_nt_updateEnded_0 (by decide) ?_
  refine r_istore_n (lv' := [(1, .int 0), (0, .ref (G.1 + oNET i0))]) (n := 2) rfl ok d_nt_updateEnded_1 rfl (lt_n hXn (Nat.le_of_ble_eq_true rfl)) rfl ?_
  obtain ⟨t8, ht8, h⟩ := bd_ok h
  refine r_sub [1, 0] rfl (show Wt X M 2 [(0, .ref (G.1 + oNET i0)), (1, .int 0)] [] from w_nt_updateEnded_2 ok hG hXR hXn hi0 ?_ _ _ ht8)
  · intro e9 he
    subst he
    obtain rfl := Option.some.inj h
    exact fin _ _ d_nt_updateEnded_45
set_option maxHeartbeats 4000000 in
set_option maxRecDepth 20000 in
theorem C_nt_reachAfter {l : Launch} {G : Gt} {M : Me} {i0 : Nat} {a1 : Int64} {i2 : Nat} {s2 : Nat} {a3 : Int32} (hi0 : i0 < 9) (hi2 : i2 < 9) (hs2 : s2 < 6) {o : Int64} (h : f_nt_reachAfter M i0 a1 i2 s2 a3 = some o) : Ct l G (WC G) (rC G) y_nt_reachAfter b_nt_reachAfter 6 (some .long) rm_nt_reachAfter [.ref (G.1 + oNET i0), .long a1, .ref (G.1 + oCHN i2 s2), .int a3] M (some (.long o)) M := by
  refine Ct.mk (own := "RetryChains$Network") rfl (by decide) (Nat.le_of_ble_eq_true rfl) rfl (fun X hXl hXR hXn ok hG fin => ?_)
  subst hXl
  unfold f_nt_reachAfter at h
  show Wt X M 0 [(0, .ref (G.1 + oNET i0)), (1, .long a1), (3, .ref (G.1 + oCHN i2 s2)), (4, .int a3)] []
  refine r_aload_n (n := 1) rfl ok d_nt_reachAfter_0 rfl 0 rfl ?_
  refine r_aload_n (n := 2) rfl ok d_nt_reachAfter_1 rfl 2 rfl ?_
  refine g_CHN_station (n := 5) rfl ok hG hi2 hs2 k_207 d_nt_reachAfter_2 ?_
  refine r_aload_n (n := 6) rfl ok d_nt_reachAfter_5 rfl 2 rfl ?_
  refine g_CHN_rates (n := 9) rfl ok hG hi2 hs2 k_219 d_nt_reachAfter_6 ?_
  refine r_iload (n := 11) rfl ok d_nt_reachAfter_9 3 rfl ?_
  obtain ⟨g1, h⟩ := gd_ok h
  refine al_CRATES (n := 12) rfl ok hG hi2 hs2 g1 d_nt_reachAfter_11 ?_
  obtain ⟨r2, hr2, h⟩ := bd_ok h
  refine r_callV (n := 15) rfl ok hG mf_nt_linkAt k_469 k_470 k_734 (C_nt_linkAt hi0 hr2) ⟨rfl, rfl⟩ (rR hXR ⟨Nat.le_of_ble_eq_true rfl, Nat.le_of_ble_eq_true rfl⟩) rfl rfl (rv_NET hi0) rfl (Nat.le_of_ble_eq_true rfl) d_nt_reachAfter_12 ?_
  rcases er2 : r2 with _ | p3
  · replace h := el_n er2 h
    try rw [er2]
    refine r_astoreN (lv' := [(5, .null), (0, .ref (G.1 + oNET i0)), (1, .long a1), (3, .ref (G.1 + oCHN i2 s2)), (4, .int a3)]) (n := 17) rfl ok d_nt_reachAfter_15 (lt_n hXn (Nat.le_of_ble_eq_true rfl)) rfl ?_
    refine r_aloadN (n := 19) rfl ok d_nt_reachAfter_17 0 rfl ?_
    refine r_ifnonnullN (n := 22) rfl ok d_nt_reachAfter_19 ?_
    refine r_lload_n (n := 23) rfl ok d_nt_reachAfter_22 rfl 2 rfl ?_
    refine r_goto (tgt := 42) ok d_nt_reachAfter_23 (by decide) ?_
    obtain rfl := Option.some.inj h
    exact fin _ _ d_nt_reachAfter_42
  · replace h := el_s er2 h
    try rw [er2]
    have vp3 := v_nt_linkAt hi0 (hr2.trans (congrArg some er2))
    refine r_astore (lv' := [(5, .ref (G.1 + oLNK p3.1 p3.2.1 p3.2.2)), (0, .ref (G.1 + oNET i0)), (1, .long a1), (3, .ref (G.1 + oCHN i2 s2)), (4, .int a3)]) (n := 17) rfl ok d_nt_reachAfter_15 (lt_n hXn (Nat.le_of_ble_eq_true rfl)) rfl ?_
    refine r_aload (n := 19) rfl ok d_nt_reachAfter_17 0 rfl ?_
    refine r_ifnonnull (tgt := 26) ok d_nt_reachAfter_19 (by decide) ?_
    refine r_lload_n (n := 27) rfl ok d_nt_reachAfter_26 rfl 2 rfl ?_
    refine r_ldcw (n := 30) rfl ok d_nt_reachAfter_27 k_735 ?_
    refine r_aload (n := 32) rfl ok d_nt_reachAfter_30 0 rfl ?_
    obtain ⟨r4, hr4, h⟩ := bd_ok h
    refine r_callV (n := 35) rfl ok hG mf_lk_estimateOrZero k_439 k_440 k_736 (C_lk_estimateOrZero vp3.1 vp3.2.1 vp3.2.2 hr4) ⟨rfl, rfl⟩ (rR hXR ⟨Nat.le_of_ble_eq_true rfl, Nat.le_of_ble_eq_true rfl⟩) rfl rfl (rv_LNK vp3.1 vp3.2.1 vp3.2.2) rfl (Nat.le_of_ble_eq_true rfl) d_nt_reachAfter_32 ?_
    refine r_isub (n := 36) rfl ok d_nt_reachAfter_35 ?_
    refine r_i2l (n := 37) rfl ok d_nt_reachAfter_36 ?_
    refine r_lmul (n := 38) rfl ok d_nt_reachAfter_37 ?_
    refine r_ldc2 (n := 41) rfl ok d_nt_reachAfter_38 k_729 ?_
    refine r_ldiv (n := 42) rfl ok d_nt_reachAfter_41 (by decide) ?_
    obtain rfl := Option.some.inj h
    exact fin _ _ d_nt_reachAfter_42
set_option maxHeartbeats 4000000 in
set_option maxRecDepth 20000 in
theorem w_nt_reachOfEnd_16 {X : Cx Me} {G : Gt} (ok : Ok X b_nt_reachOfEnd "RetryChains$Network") (hG : GC X G) (hXR : X.R = rm_nt_reachOfEnd) (hXn : X.nL = 6) {M : Me} {j0a : Nat} {j1a : Nat} {j1b : Nat} {y4 : Int32} (hj0a : j0a < 9) (hj1a : j1a < 9) (hj1b : j1b < 6) {t : Int64} (kx : ∀ e : Int64, e = t → Wt X M 43 [(0, .ref (G.1 + oNET j0a)), (1, .ref (G.1 + oCHN j1a j1b)), (2, .long e), (4, .int y4)] [])  : ∀ (n : Nat) (x : Int64 × Int32), lp n (b_nt_reachOfEnd_16 M j0a j1a j1b y4) x = some t → Wt X M 16 [(0, .ref (G.1 + oNET j0a)), (1, .ref (G.1 + oCHN j1a j1b)), (2, .long x.1), (4, .int y4), (5, .int x.2)] [] := by
  intro n x h
  refine lp_W (P := fun x => Wt X M 16 [(0, .ref (G.1 + oNET j0a)), (1, .ref (G.1 + oCHN j1a j1b)), (2, .long x.1), (4, .int y4), (5, .int x.2)] []) (Z := fun t' => t' = t) (fun x r h hk hz => ?_) n x t h rfl
  unfold b_nt_reachOfEnd_16 at h
  refine r_iload (n := 18) rfl ok d_nt_reachOfEnd_16 4 rfl ?_
  refine r_aload_n (n := 19) rfl ok d_nt_reachOfEnd_18 rfl 1 rfl ?_
  refine g_CHN_tries (n := 22) rfl ok hG hj1a hj1b k_222 d_nt_reachOfEnd_19 ?_
  refine r_iload (n := 24) rfl ok d_nt_reachOfEnd_22 3 rfl ?_
  obtain ⟨g2, h⟩ := gd_ok h
  refine al_CTRIES (n := 25) rfl ok hG hj1a hj1b g2 d_nt_reachOfEnd_24 ?_
  refine r_icmp_ge (tgt := 43) (n := 28) rfl ok d_nt_reachOfEnd_25 (by decide) (fun c3 => ?_) (fun c3 => ?_)
  · replace h := if_p c3 h
    obtain rfl := Option.some.inj h
    exact r_sub [0, 1, 2, 3] rfl (show Wt X M 43 [(0, .ref (G.1 + oNET j0a)), (1, .ref (G.1 + oCHN j1a j1b)), (2, .long x.1), (4, .int y4)] [] from kx _ (hz _ rfl))
  · replace h := if_n c3 h
    refine r_aload_n (n := 29) rfl ok d_nt_reachOfEnd_28 rfl 0 rfl ?_
    refine r_lload_n (n := 30) rfl ok d_nt_reachOfEnd_29 rfl 2 rfl ?_
    refine r_aload_n (n := 31) rfl ok d_nt_reachOfEnd_30 rfl 1 rfl ?_
    refine r_iload (n := 33) rfl ok d_nt_reachOfEnd_31 3 rfl ?_
    obtain ⟨r4, hr4, h⟩ := bd_ok h
    refine r_callV (n := 36) rfl ok hG mf_nt_reachAfter k_732 ks_9 k_730 (C_nt_reachAfter hj0a hj1a hj1b hr4) ⟨rfl, rfl⟩ (rR hXR ⟨Nat.le_of_ble_eq_true rfl, Nat.le_of_ble_eq_true rfl⟩) rfl rfl (rv_NET hj0a) rfl (Nat.le_of_ble_eq_true rfl) d_nt_reachOfEnd_33 ?_
    refine r_lstore_n (lv' := [(2, .long r4), (0, .ref (G.1 + oNET j0a)), (1, .ref (G.1 + oCHN j1a j1b)), (4, .int y4), (5, .int x.2)]) (n := 37) rfl ok d_nt_reachOfEnd_36 rfl (lt_n hXn (Nat.le_of_ble_eq_true rfl)) rfl ?_
    obtain ⟨x5, ex5, h⟩ := bd_ok h
    refine r_iinc (lv' := [(5, .int x5), (2, .long r4), (0, .ref (G.1 + oNET j0a)), (1, .ref (G.1 + oCHN j1a j1b)), (4, .int y4)]) (n := 40) rfl ok d_nt_reachOfEnd_37 4 rfl (Option.some.inj ex5) (lt_n hXn (Nat.le_of_ble_eq_true rfl)) rfl ?_
    refine r_goto (tgt := 16) ok d_nt_reachOfEnd_40 (by decide) ?_
    obtain rfl := Option.some.inj h
    exact r_sub [2, 3, 1, 4, 0] rfl (show Wt X M 16 [(0, .ref (G.1 + oNET j0a)), (1, .ref (G.1 + oCHN j1a j1b)), (2, .long r4), (4, .int y4), (5, .int x5)] [] from hk _ rfl)
set_option maxHeartbeats 4000000 in
set_option maxRecDepth 20000 in
theorem w_nt_reachOfEnd_7 {X : Cx Me} {G : Gt} (ok : Ok X b_nt_reachOfEnd "RetryChains$Network") (hG : GC X G) (hXR : X.R = rm_nt_reachOfEnd) (hXn : X.nL = 6) {M : Me} {j0a : Nat} {j1a : Nat} {j1b : Nat} (hj0a : j0a < 9) (hj1a : j1a < 9) (hj1b : j1b < 6) {t : Int64} (kx : ∀ e : Int64, e = t → Wt X M 49 [(2, .long e)] [])  : ∀ (n : Nat) (x : Int64 × Int32), lp n (b_nt_reachOfEnd_7 M j0a j1a j1b) x = some t → Wt X M 7 [(0, .ref (G.1 + oNET j0a)), (1, .ref (G.1 + oCHN j1a j1b)), (2, .long x.1), (4, .int x.2)] [] := by
  intro n x h
  refine lp_W (P := fun x => Wt X M 7 [(0, .ref (G.1 + oNET j0a)), (1, .ref (G.1 + oCHN j1a j1b)), (2, .long x.1), (4, .int x.2)] []) (Z := fun t' => t' = t) (fun x r h hk hz => ?_) n x t h rfl
  unfold b_nt_reachOfEnd_7 at h
  refine r_iload (n := 9) rfl ok d_nt_reachOfEnd_7 3 rfl ?_
  refine r_iconst (v := 4) (n := 10) rfl ok d_nt_reachOfEnd_9 (by decide) ?_
  refine r_icmp_ge (tgt := 49) (n := 13) rfl ok d_nt_reachOfEnd_10 (by decide) (fun c1 => ?_) (fun c1 => ?_)
  · replace h := if_p c1 h
    obtain rfl := Option.some.inj h
    exact r_sub [2] rfl (show Wt X M 49 [(2, .long x.1)] [] from kx _ (hz _ rfl))
  · replace h := if_n c1 h
    refine r_iconst (v := 0) (n := 14) rfl ok d_nt_reachOfEnd_13 (by decide) ?_
    refine r_istore (lv' := [(5, .int 0), (0, .ref (G.1 + oNET j0a)), (1, .ref (G.1 + oCHN j1a j1b)), (2, .long x.1), (4, .int x.2)]) (n := 16) rfl ok d_nt_reachOfEnd_14 (lt_n hXn (Nat.le_of_ble_eq_true rfl)) rfl ?_
    obtain ⟨t6, ht6, h⟩ := bd_ok h
    refine r_sub [1, 2, 3, 4, 0] rfl (show Wt X M 16 [(0, .ref (G.1 + oNET j0a)), (1, .ref (G.1 + oCHN j1a j1b)), (2, .long x.1), (4, .int x.2), (5, .int 0)] [] from w_nt_reachOfEnd_16 ok hG hXR hXn hj0a hj1a hj1b ?_ _ _ ht6)
    · intro e7 he
      subst he
      obtain ⟨x8, ex8, h⟩ := bd_ok h
      refine r_iinc (lv' := [(4, .int x8), (0, .ref (G.1 + oNET j0a)), (1, .ref (G.1 + oCHN j1a j1b)), (2, .long e7)]) (n := 46) rfl ok d_nt_reachOfEnd_43 3 rfl (Option.some.inj ex8) (lt_n hXn (Nat.le_of_ble_eq_true rfl)) rfl ?_
      refine r_goto (tgt := 7) ok d_nt_reachOfEnd_46 (by decide) ?_
      obtain rfl := Option.some.inj h
      exact r_sub [1, 2, 3, 0] rfl (show Wt X M 7 [(0, .ref (G.1 + oNET j0a)), (1, .ref (G.1 + oCHN j1a j1b)), (2, .long e7), (4, .int x8)] [] from hk _ rfl)
set_option maxHeartbeats 4000000 in
set_option maxRecDepth 20000 in
theorem C_nt_reachOfEnd {l : Launch} {G : Gt} {M : Me} {i0 : Nat} {i1 : Nat} {s1 : Nat} (hi0 : i0 < 9) (hi1 : i1 < 9) (hs1 : s1 < 6) {o : Int32} (h : f_nt_reachOfEnd M i0 i1 s1 = some o) : Ct l G (WC G) (rC G) y_nt_reachOfEnd b_nt_reachOfEnd 6 (some .int) rm_nt_reachOfEnd [.ref (G.1 + oNET i0), .ref (G.1 + oCHN i1 s1)] M (some (.int o)) M := by
  refine Ct.mk (own := "RetryChains$Network") rfl (by decide) (Nat.le_of_ble_eq_true rfl) ⟨_, rfl⟩ (fun X hXl hXR hXn ok hG fin => ?_)
  subst hXl
  unfold f_nt_reachOfEnd at h
  show Wt X M 0 [(0, .ref (G.1 + oNET i0)), (1, .ref (G.1 + oCHN i1 s1))] []
  refine r_ldc2 (n := 3) rfl ok d_nt_reachOfEnd_0 k_729 ?_
  refine r_lstore_n (lv' := [(2, .long 65536), (0, .ref (G.1 + oNET i0)), (1, .ref (G.1 + oCHN i1 s1))]) (n := 4) rfl ok d_nt_reachOfEnd_3 rfl (lt_n hXn (Nat.le_of_ble_eq_true rfl)) rfl ?_
  refine r_iconst (v := 0) (n := 5) rfl ok d_nt_reachOfEnd_4 (by decide) ?_
  refine r_istore (lv' := [(4, .int 0), (2, .long 65536), (0, .ref (G.1 + oNET i0)), (1, .ref (G.1 + oCHN i1 s1))]) (n := 7) rfl ok d_nt_reachOfEnd_5 (lt_n hXn (Nat.le_of_ble_eq_true rfl)) rfl ?_
  obtain ⟨t9, ht9, h⟩ := bd_ok h
  refine r_sub [2, 3, 1, 0] rfl (show Wt X M 7 [(0, .ref (G.1 + oNET i0)), (1, .ref (G.1 + oCHN i1 s1)), (2, .long 65536), (4, .int 0)] [] from w_nt_reachOfEnd_7 ok hG hXR hXn hi0 hi1 hs1 ?_ _ _ ht9)
  · intro e10 he
    subst he
    refine r_lload_n (n := 50) rfl ok d_nt_reachOfEnd_49 rfl 0 rfl ?_
    refine r_l2i (n := 51) rfl ok d_nt_reachOfEnd_50 ?_
    obtain rfl := Option.some.inj h
    exact fin _ _ ⟨.int, rfl, rfl⟩ d_nt_reachOfEnd_51
set_option maxHeartbeats 4000000 in
set_option maxRecDepth 20000 in
theorem w_nt_weightedTime_19 {X : Cx Me} {G : Gt} (ok : Ok X b_nt_weightedTime "RetryChains$Network") (hG : GC X G) (hXR : X.R = rm_nt_weightedTime) (hXn : X.nL = 8) {M : Me} {j0a : Nat} {j1a : Nat} {j1b : Nat} {y6 : Int32} (hj0a : j0a < 9) (hj1a : j1a < 9) (hj1b : j1b < 6) {t : Int64 × Int64} (kx : ∀ e : Int64 × Int64, e = t → Wt X M 74 [(0, .ref (G.1 + oNET j0a)), (1, .ref (G.1 + oCHN j1a j1b)), (2, .long e.1), (4, .long e.2), (6, .int y6)] [])  : ∀ (n : Nat) (x : Int64 × Int64 × Int32), lp n (b_nt_weightedTime_19 M j0a j1a j1b y6) x = some t → Wt X M 19 [(0, .ref (G.1 + oNET j0a)), (1, .ref (G.1 + oCHN j1a j1b)), (2, .long x.1), (4, .long x.2.1), (6, .int y6), (7, .int x.2.2)] [] := by
  intro n x h
  refine lp_W (P := fun x => Wt X M 19 [(0, .ref (G.1 + oNET j0a)), (1, .ref (G.1 + oCHN j1a j1b)), (2, .long x.1), (4, .long x.2.1), (6, .int y6), (7, .int x.2.2)] []) (Z := fun t' => t' = t) (fun x r h hk hz => ?_) n x t h rfl
  unfold b_nt_weightedTime_19 at h
  refine r_iload (n := 21) rfl ok d_nt_weightedTime_19 5 rfl ?_
  refine r_aload_n (n := 22) rfl ok d_nt_weightedTime_21 rfl 1 rfl ?_
  refine g_CHN_tries (n := 25) rfl ok hG hj1a hj1b k_222 d_nt_weightedTime_22 ?_
  refine r_iload (n := 27) rfl ok d_nt_weightedTime_25 4 rfl ?_
  obtain ⟨g2, h⟩ := gd_ok h
  refine al_CTRIES (n := 28) rfl ok hG hj1a hj1b g2 d_nt_weightedTime_27 ?_
  refine r_icmp_ge (tgt := 74) (n := 31) rfl ok d_nt_weightedTime_28 (by decide) (fun c3 => ?_) (fun c3 => ?_)
  · replace h := if_p c3 h
    obtain rfl := Option.some.inj h
    exact r_sub [0, 1, 2, 3, 4] rfl (show Wt X M 74 [(0, .ref (G.1 + oNET j0a)), (1, .ref (G.1 + oCHN j1a j1b)), (2, .long x.1), (4, .long x.2.1), (6, .int y6)] [] from kx _ (hz _ rfl))
  · replace h := if_n c3 h
    refine r_lload (n := 33) rfl ok d_nt_weightedTime_31 3 rfl ?_
    refine r_lload_n (n := 34) rfl ok d_nt_weightedTime_33 rfl 2 rfl ?_
    refine r_aload_n (n := 35) rfl ok d_nt_weightedTime_34 rfl 0 rfl ?_
    refine g_NET_rates (n := 38) rfl ok hG hj0a k_239 d_nt_weightedTime_35 ?_
    refine r_aload_n (n := 39) rfl ok d_nt_weightedTime_38 rfl 1 rfl ?_
    refine g_CHN_rates (n := 42) rfl ok hG hj1a hj1b k_219 d_nt_weightedTime_39 ?_
    refine r_iload (n := 44) rfl ok d_nt_weightedTime_42 4 rfl ?_
    obtain ⟨g4, h⟩ := gd_ok h
    refine al_CRATES (n := 45) rfl ok hG hj1a hj1b g4 d_nt_weightedTime_44 ?_
    refine r_aload_n (n := 46) rfl ok d_nt_weightedTime_45 rfl 1 rfl ?_
    refine g_CHN_size (n := 49) rfl ok hG hj1a hj1b k_210 d_nt_weightedTime_46 ?_
    refine r_iload (n := 51) rfl ok d_nt_weightedTime_49 5 rfl ?_
    obtain ⟨r5, hr5, h⟩ := bd_ok h
    refine r_callV (n := 54) rfl ok hG mf_tb_timeOfTry k_550 k_551 k_604 (C_tb_timeOfTry hj0a hr5) ⟨rfl, rfl⟩ (rR hXR ⟨Nat.le_of_ble_eq_true rfl, Nat.le_of_ble_eq_true rfl⟩) rfl rfl (rv_TAB hj0a) rfl (Nat.le_of_ble_eq_true rfl) d_nt_weightedTime_51 ?_
    refine r_i2l (n := 55) rfl ok d_nt_weightedTime_54 ?_
    refine r_lmul (n := 56) rfl ok d_nt_weightedTime_55 ?_
    refine r_ladd (n := 57) rfl ok d_nt_weightedTime_56 ?_
    obtain ⟨x6, ex6, h⟩ := bd_ok h
    refine r_tl (Option.some.inj ex6).symm ?_
    refine r_lstore (lv' := [(4, .long x6), (0, .ref (G.1 + oNET j0a)), (1, .ref (G.1 + oCHN j1a j1b)), (2, .long x.1), (6, .int y6), (7, .int x.2.2)]) (n := 59) rfl ok d_nt_weightedTime_57 (lt_n hXn (Nat.le_of_ble_eq_true rfl)) rfl ?_
    refine r_aload_n (n := 60) rfl ok d_nt_weightedTime_59 rfl 1 rfl ?_
    refine r_lload_n (n := 61) rfl ok d_nt_weightedTime_60 rfl 3 rfl ?_
    refine r_aload_n (n := 62) rfl ok d_nt_weightedTime_61 rfl 2 rfl ?_
    refine r_iload (n := 64) rfl ok d_nt_weightedTime_62 4 rfl ?_
    obtain ⟨r7, hr7, h⟩ := bd_ok h
    refine r_callV (n := 67) rfl ok hG mf_nt_reachAfter k_732 ks_9 k_730 (C_nt_reachAfter hj0a hj1a hj1b hr7) ⟨rfl, rfl⟩ (rR hXR ⟨Nat.le_of_ble_eq_true rfl, Nat.le_of_ble_eq_true rfl⟩) rfl rfl (rv_NET hj0a) rfl (Nat.le_of_ble_eq_true rfl) d_nt_weightedTime_64 ?_
    refine r_lstore_n (lv' := [(2, .long r7), (4, .long x6), (0, .ref (G.1 + oNET j0a)), (1, .ref (G.1 + oCHN j1a j1b)), (6, .int y6), (7, .int x.2.2)]) (n := 68) rfl ok d_nt_weightedTime_67 rfl (lt_n hXn (Nat.le_of_ble_eq_true rfl)) rfl ?_
    obtain ⟨x8, ex8, h⟩ := bd_ok h
    refine r_iinc (lv' := [(7, .int x8), (2, .long r7), (4, .long x6), (0, .ref (G.1 + oNET j0a)), (1, .ref (G.1 + oCHN j1a j1b)), (6, .int y6)]) (n := 71) rfl ok d_nt_weightedTime_68 5 rfl (Option.some.inj ex8) (lt_n hXn (Nat.le_of_ble_eq_true rfl)) rfl ?_
    refine r_goto (tgt := 19) ok d_nt_weightedTime_71 (by decide) ?_
    obtain rfl := Option.some.inj h
    exact r_sub [3, 4, 1, 2, 5, 0] rfl (show Wt X M 19 [(0, .ref (G.1 + oNET j0a)), (1, .ref (G.1 + oCHN j1a j1b)), (2, .long r7), (4, .long x6), (6, .int y6), (7, .int x8)] [] from hk _ rfl)
set_option maxHeartbeats 4000000 in
set_option maxRecDepth 20000 in
theorem w_nt_weightedTime_10 {X : Cx Me} {G : Gt} (ok : Ok X b_nt_weightedTime "RetryChains$Network") (hG : GC X G) (hXR : X.R = rm_nt_weightedTime) (hXn : X.nL = 8) {M : Me} {j0a : Nat} {j1a : Nat} {j1b : Nat} (hj0a : j0a < 9) (hj1a : j1a < 9) (hj1b : j1b < 6) {t : Int64} (kx : ∀ e : Int64, e = t → Wt X M 80 [(4, .long e)] [])  : ∀ (n : Nat) (x : Int64 × Int64 × Int32), lp n (b_nt_weightedTime_10 M j0a j1a j1b) x = some t → Wt X M 10 [(0, .ref (G.1 + oNET j0a)), (1, .ref (G.1 + oCHN j1a j1b)), (2, .long x.1), (4, .long x.2.1), (6, .int x.2.2)] [] := by
  intro n x h
  refine lp_W (P := fun x => Wt X M 10 [(0, .ref (G.1 + oNET j0a)), (1, .ref (G.1 + oCHN j1a j1b)), (2, .long x.1), (4, .long x.2.1), (6, .int x.2.2)] []) (Z := fun t' => t' = t) (fun x r h hk hz => ?_) n x t h rfl
  unfold b_nt_weightedTime_10 at h
  refine r_iload (n := 12) rfl ok d_nt_weightedTime_10 4 rfl ?_
  refine r_iconst (v := 4) (n := 13) rfl ok d_nt_weightedTime_12 (by decide) ?_
  refine r_icmp_ge (tgt := 80) (n := 16) rfl ok d_nt_weightedTime_13 (by decide) (fun c1 => ?_) (fun c1 => ?_)
  · replace h := if_p c1 h
    obtain rfl := Option.some.inj h
    exact r_sub [3] rfl (show Wt X M 80 [(4, .long x.2.1)] [] from kx _ (hz _ rfl))
  · replace h := if_n c1 h
    refine r_iconst (v := 0) (n := 17) rfl ok d_nt_weightedTime_16 (by decide) ?_
    refine r_istore (lv' := [(7, .int 0), (0, .ref (G.1 + oNET j0a)), (1, .ref (G.1 + oCHN j1a j1b)), (2, .long x.1), (4, .long x.2.1), (6, .int x.2.2)]) (n := 19) rfl ok d_nt_weightedTime_17 (lt_n hXn (Nat.le_of_ble_eq_true rfl)) rfl ?_
    obtain ⟨t9, ht9, h⟩ := bd_ok h
    refine r_sub [1, 2, 3, 4, 5, 0] rfl (show Wt X M 19 [(0, .ref (G.1 + oNET j0a)), (1, .ref (G.1 + oCHN j1a j1b)), (2, .long x.1), (4, .long x.2.1), (6, .int x.2.2), (7, .int 0)] [] from w_nt_weightedTime_19 ok hG hXR hXn hj0a hj1a hj1b ?_ _ _ ht9)
    · intro e10 he
      subst he
      obtain ⟨x11, ex11, h⟩ := bd_ok h
      refine r_iinc (lv' := [(6, .int x11), (0, .ref (G.1 + oNET j0a)), (1, .ref (G.1 + oCHN j1a j1b)), (2, .long e10.1), (4, .long e10.2)]) (n := 77) rfl ok d_nt_weightedTime_74 4 rfl (Option.some.inj ex11) (lt_n hXn (Nat.le_of_ble_eq_true rfl)) rfl ?_
      refine r_goto (tgt := 10) ok d_nt_weightedTime_77 (by decide) ?_
      obtain rfl := Option.some.inj h
      exact r_sub [1, 2, 3, 4, 0] rfl (show Wt X M 10 [(0, .ref (G.1 + oNET j0a)), (1, .ref (G.1 + oCHN j1a j1b)), (2, .long e10.1), (4, .long e10.2), (6, .int x11)] [] from hk _ rfl)
set_option maxHeartbeats 4000000 in
set_option maxRecDepth 20000 in
theorem C_nt_weightedTime {l : Launch} {G : Gt} {M : Me} {i0 : Nat} {i1 : Nat} {s1 : Nat} (hi0 : i0 < 9) (hi1 : i1 < 9) (hs1 : s1 < 6) {o : Int64} (h : f_nt_weightedTime M i0 i1 s1 = some o) : Ct l G (WC G) (rC G) y_nt_weightedTime b_nt_weightedTime 8 (some .long) rm_nt_weightedTime [.ref (G.1 + oNET i0), .ref (G.1 + oCHN i1 s1)] M (some (.long o)) M := by
  refine Ct.mk (own := "RetryChains$Network") rfl (by decide) (Nat.le_of_ble_eq_true rfl) rfl (fun X hXl hXR hXn ok hG fin => ?_)
  subst hXl
  unfold f_nt_weightedTime at h
  show Wt X M 0 [(0, .ref (G.1 + oNET i0)), (1, .ref (G.1 + oCHN i1 s1))] []
  refine r_ldc2 (n := 3) rfl ok d_nt_weightedTime_0 k_729 ?_
  refine r_lstore_n (lv' := [(2, .long 65536), (0, .ref (G.1 + oNET i0)), (1, .ref (G.1 + oCHN i1 s1))]) (n := 4) rfl ok d_nt_weightedTime_3 rfl (lt_n hXn (Nat.le_of_ble_eq_true rfl)) rfl ?_
  refine r_lconst (v := 0) (n := 5) rfl ok d_nt_weightedTime_4 (by decide) ?_
  refine r_lstore (lv' := [(4, .long 0), (2, .long 65536), (0, .ref (G.1 + oNET i0)), (1, .ref (G.1 + oCHN i1 s1))]) (n := 7) rfl ok d_nt_weightedTime_5 (lt_n hXn (Nat.le_of_ble_eq_true rfl)) rfl ?_
  refine r_iconst (v := 0) (n := 8) rfl ok d_nt_weightedTime_7 (by decide) ?_
  refine r_istore (lv' := [(6, .int 0), (4, .long 0), (2, .long 65536), (0, .ref (G.1 + oNET i0)), (1, .ref (G.1 + oCHN i1 s1))]) (n := 10) rfl ok d_nt_weightedTime_8 (lt_n hXn (Nat.le_of_ble_eq_true rfl)) rfl ?_
  obtain ⟨t12, ht12, h⟩ := bd_ok h
  refine r_sub [3, 4, 2, 1, 0] rfl (show Wt X M 10 [(0, .ref (G.1 + oNET i0)), (1, .ref (G.1 + oCHN i1 s1)), (2, .long 65536), (4, .long 0), (6, .int 0)] [] from w_nt_weightedTime_10 ok hG hXR hXn hi0 hi1 hs1 ?_ _ _ ht12)
  · intro e13 he
    subst he
    refine r_lload (n := 82) rfl ok d_nt_weightedTime_80 0 rfl ?_
    obtain rfl := Option.some.inj h
    exact fin _ _ d_nt_weightedTime_82
set_option maxHeartbeats 4000000 in
set_option maxRecDepth 20000 in
theorem w_nt_sendFrames_66 {X : Cx Me} {G : Gt} (ok : Ok X b_nt_sendFrames "RetryChains$Network") (hG : GC X G) (hXR : X.R = rm_nt_sendFrames) (hXn : X.nL = 14) {M : Me} {j0a : Nat} {y1 : Int32} {y2 : Int32} {y3 : Int32} {y6 : Int32} {y7 : Int32} {j9a : Nat} {j9b : Nat} {y10 : Int32} (hj0a : j0a < 9) (hj9a : j9a < 9) (hj9b : j9b < 6) {t : Int32 × Int32 × Int32} (kx : ∀ e : Int32 × Int32 × Int32, e = t → Wt X M 134 [(0, .ref (G.1 + oNET j0a)), (1, .int y1), (2, .int y2), (3, .int y3), (5, .int e.1), (6, .int y6), (7, .int y7), (9, .ref (G.1 + oCHN j9a j9b)), (11, .int e.2.1), (12, .int e.2.2)] [])  : ∀ (n : Nat) (x : Int32 × Int32 × Int32), lp n (b_nt_sendFrames_66 M j0a y1 y2 y3 y6 y7 j9a j9b y10) x = some t → Wt X M 66 [(0, .ref (G.1 + oNET j0a)), (1, .int y1), (2, .int y2), (3, .int y3), (5, .int x.1), (6, .int y6), (7, .int y7), (9, .ref (G.1 + oCHN j9a j9b)), (10, .int y10), (11, .int x.2.1), (12, .int x.2.2)] [] := by
  intro n x h
  refine lp_W (P := fun x => Wt X M 66 [(0, .ref (G.1 + oNET j0a)), (1, .int y1), (2, .int y2), (3, .int y3), (5, .int x.1), (6, .int y6), (7, .int y7), (9, .ref (G.1 + oCHN j9a j9b)), (10, .int y10), (11, .int x.2.1), (12, .int x.2.2)] []) (Z := fun t' => t' = t) (fun x r h hk hz => ?_) n x t h rfl
  unfold b_nt_sendFrames_66 at h
  refine r_iload (n := 68) rfl ok d_nt_sendFrames_66 9 rfl ?_
  refine r_iload (n := 70) rfl ok d_nt_sendFrames_68 8 rfl ?_
  refine r_icmp_ge (tgt := 134) (n := 73) rfl ok d_nt_sendFrames_70 (by decide) (fun c8 => ?_) (fun c8 => ?_)
  · replace h := if_p c8 h
    obtain rfl := Option.some.inj h
    exact r_sub [0, 1, 2, 3, 4, 5, 6, 7, 9, 10] rfl (show Wt X M 134 [(0, .ref (G.1 + oNET j0a)), (1, .int y1), (2, .int y2), (3, .int y3), (5, .int x.1), (6, .int y6), (7, .int y7), (9, .ref (G.1 + oCHN j9a j9b)), (11, .int x.2.1), (12, .int x.2.2)] [] from kx _ (hz _ rfl))
  · replace h := if_n c8 h
    refine r_iload (n := 75) rfl ok d_nt_sendFrames_73 10 rfl ?_
    refine r_if_ne (tgt := 134) (n := 78) rfl ok d_nt_sendFrames_75 (by decide) (fun c9 => ?_) (fun c9 => ?_)
    · replace h := if_n c9 h
      obtain rfl := Option.some.inj h
      exact r_sub [0, 1, 2, 3, 4, 5, 6, 7, 9, 10] rfl (show Wt X M 134 [(0, .ref (G.1 + oNET j0a)), (1, .int y1), (2, .int y2), (3, .int y3), (5, .int x.1), (6, .int y6), (7, .int y7), (9, .ref (G.1 + oCHN j9a j9b)), (11, .int x.2.1), (12, .int x.2.2)] [] from kx _ (hz _ rfl))
    · replace h := if_p c9 h
      refine r_aload_n (n := 79) rfl ok d_nt_sendFrames_78 rfl 0 rfl ?_
      refine r_iload_n (n := 80) rfl ok d_nt_sendFrames_79 rfl 1 rfl ?_
      refine r_aload (n := 82) rfl ok d_nt_sendFrames_80 7 rfl ?_
      refine r_iload (n := 84) rfl ok d_nt_sendFrames_82 9 rfl ?_
      obtain ⟨r10, hr10, h⟩ := bd_ok h
      refine r_callV (n := 87) rfl ok hG mf_ch_rateOfTry k_894 k_895 k_893 (C_ch_rateOfTry hj9a hj9b hr10) ⟨rfl, rfl⟩ (rR hXR ⟨Nat.le_of_ble_eq_true rfl, Nat.le_of_ble_eq_true rfl⟩) rfl rfl (rv_CHN hj9a hj9b) rfl (Nat.le_of_ble_eq_true rfl) d_nt_sendFrames_84 ?_
      obtain ⟨r11, hr11, h⟩ := bd_ok h
      refine r_callV (n := 90) rfl ok hG mf_nt_linkAt k_469 k_470 k_734 (C_nt_linkAt hj0a hr11) ⟨rfl, rfl⟩ (rR hXR ⟨Nat.le_of_ble_eq_true rfl, Nat.le_of_ble_eq_true rfl⟩) rfl rfl (rv_NET hj0a) rfl (Nat.le_of_ble_eq_true rfl) d_nt_sendFrames_87 ?_
      rcases er11 : r11 with _ | p12
      · replace h := el_n er11 h
        try rw [er11]
        refine r_astoreN (lv' := [(13, .null), (0, .ref (G.1 + oNET j0a)), (1, .int y1), (2, .int y2), (3, .int y3), (5, .int x.1), (6, .int y6), (7, .int y7), (9, .ref (G.1 + oCHN j9a j9b)), (10, .int y10), (11, .int x.2.1), (12, .int x.2.2)]) (n := 92) rfl ok d_nt_sendFrames_90 (lt_n hXn (Nat.le_of_ble_eq_true rfl)) rfl ?_
        refine r_iload (n := 94) rfl ok d_nt_sendFrames_92 5 rfl ?_
        obtain ⟨r13, hr13, h⟩ := bd_ok h
        refine r_callSN (fun _ hk => hk.2) (n := 97) rfl ok hG mf_rc_nextDraw k_521 (C_rc_nextDraw  hr13) ⟨rfl, rfl⟩ (rR hXR ⟨Nat.le_of_ble_eq_true rfl, Nat.le_of_ble_eq_true rfl⟩) rfl rfl (Nat.le_of_ble_eq_true rfl) d_nt_sendFrames_94 ?_
        refine r_istore (lv' := [(5, .int r13), (13, .null), (0, .ref (G.1 + oNET j0a)), (1, .int y1), (2, .int y2), (3, .int y3), (6, .int y6), (7, .int y7), (9, .ref (G.1 + oCHN j9a j9b)), (10, .int y10), (11, .int x.2.1), (12, .int x.2.2)]) (n := 99) rfl ok d_nt_sendFrames_97 (lt_n hXn (Nat.le_of_ble_eq_true rfl)) rfl ?_
        refine r_aloadN (n := 101) rfl ok d_nt_sendFrames_99 1 rfl ?_
        refine r_ifnullN (tgt := 125) ok d_nt_sendFrames_101 (by decide) ?_
        refine r_iconst (v := 0) (n := 126) rfl ok d_nt_sendFrames_125 (by decide) ?_
        refine r_istore (lv' := [(12, .int 0), (5, .int r13), (13, .null), (0, .ref (G.1 + oNET j0a)), (1, .int y1), (2, .int y2), (3, .int y3), (6, .int y6), (7, .int y7), (9, .ref (G.1 + oCHN j9a j9b)), (10, .int y10), (11, .int x.2.1)]) (n := 128) rfl ok d_nt_sendFrames_126 (lt_n hXn (Nat.le_of_ble_eq_true rfl)) rfl ?_
        obtain ⟨x14, ex14, h⟩ := bd_ok h
        refine r_iinc (lv' := [(11, .int x14), (12, .int 0), (5, .int r13), (13, .null), (0, .ref (G.1 + oNET j0a)), (1, .int y1), (2, .int y2), (3, .int y3), (6, .int y6), (7, .int y7), (9, .ref (G.1 + oCHN j9a j9b)), (10, .int y10)]) (n := 131) rfl ok d_nt_sendFrames_128 11 rfl (Option.some.inj ex14) (lt_n hXn (Nat.le_of_ble_eq_true rfl)) rfl ?_
        refine r_goto (tgt := 66) ok d_nt_sendFrames_131 (by decide) ?_
        obtain rfl := Option.some.inj h
        exact r_sub [4, 5, 6, 7, 2, 8, 9, 10, 11, 0, 1] rfl (show Wt X M 66 [(0, .ref (G.1 + oNET j0a)), (1, .int y1), (2, .int y2), (3, .int y3), (5, .int r13), (6, .int y6), (7, .int y7), (9, .ref (G.1 + oCHN j9a j9b)), (10, .int y10), (11, .int x14), (12, .int 0)] [] from hk _ rfl)
      · replace h := el_s er11 h
        try rw [er11]
        have vp12 := v_nt_linkAt hj0a (hr11.trans (congrArg some er11))
        refine r_astore (lv' := [(13, .ref (G.1 + oLNK p12.1 p12.2.1 p12.2.2)), (0, .ref (G.1 + oNET j0a)), (1, .int y1), (2, .int y2), (3, .int y3), (5, .int x.1), (6, .int y6), (7, .int y7), (9, .ref (G.1 + oCHN j9a j9b)), (10, .int y10), (11, .int x.2.1), (12, .int x.2.2)]) (n := 92) rfl ok d_nt_sendFrames_90 (lt_n hXn (Nat.le_of_ble_eq_true rfl)) rfl ?_
        refine r_iload (n := 94) rfl ok d_nt_sendFrames_92 5 rfl ?_
        obtain ⟨r15, hr15, h⟩ := bd_ok h
        refine r_callSN (fun _ hk => hk.2) (n := 97) rfl ok hG mf_rc_nextDraw k_521 (C_rc_nextDraw  hr15) ⟨rfl, rfl⟩ (rR hXR ⟨Nat.le_of_ble_eq_true rfl, Nat.le_of_ble_eq_true rfl⟩) rfl rfl (Nat.le_of_ble_eq_true rfl) d_nt_sendFrames_94 ?_
        refine r_istore (lv' := [(5, .int r15), (13, .ref (G.1 + oLNK p12.1 p12.2.1 p12.2.2)), (0, .ref (G.1 + oNET j0a)), (1, .int y1), (2, .int y2), (3, .int y3), (6, .int y6), (7, .int y7), (9, .ref (G.1 + oCHN j9a j9b)), (10, .int y10), (11, .int x.2.1), (12, .int x.2.2)]) (n := 99) rfl ok d_nt_sendFrames_97 (lt_n hXn (Nat.le_of_ble_eq_true rfl)) rfl ?_
        refine r_aload (n := 101) rfl ok d_nt_sendFrames_99 1 rfl ?_
        refine r_ifnull (n := 104) rfl ok d_nt_sendFrames_101 ?_
        refine r_iload (n := 106) rfl ok d_nt_sendFrames_104 0 rfl ?_
        refine r_bipush (v := 16) (n := 108) rfl ok d_nt_sendFrames_106 (by decide) ?_
        refine r_iushr (n := 109) rfl ok d_nt_sendFrames_108 ?_
        refine r_sipush (v := 1000) (n := 112) rfl ok d_nt_sendFrames_109 (by decide) ?_
        refine r_irem (n := 113) rfl ok d_nt_sendFrames_112 (by decide) ?_
        refine r_aload (n := 115) rfl ok d_nt_sendFrames_113 1 rfl ?_
        refine g_LNK_quality (n := 118) rfl ok hG vp12.1 vp12.2.1 vp12.2.2 k_108 d_nt_sendFrames_115 ?_
        refine r_icmp_ge (tgt := 125) (n := 121) rfl ok d_nt_sendFrames_118 (by decide) (fun c16 => ?_) (fun c16 => ?_)
        · replace h := if_p c16 h
          refine r_iconst (v := 0) (n := 126) rfl ok d_nt_sendFrames_125 (by decide) ?_
          refine r_istore (lv' := [(12, .int 0), (5, .int r15), (13, .ref (G.1 + oLNK p12.1 p12.2.1 p12.2.2)), (0, .ref (G.1 + oNET j0a)), (1, .int y1), (2, .int y2), (3, .int y3), (6, .int y6), (7, .int y7), (9, .ref (G.1 + oCHN j9a j9b)), (10, .int y10), (11, .int x.2.1)]) (n := 128) rfl ok d_nt_sendFrames_126 (lt_n hXn (Nat.le_of_ble_eq_true rfl)) rfl ?_
          obtain ⟨x17, ex17, h⟩ := bd_ok h
          refine r_iinc (lv' := [(11, .int x17), (12, .int 0), (5, .int r15), (13, .ref (G.1 + oLNK p12.1 p12.2.1 p12.2.2)), (0, .ref (G.1 + oNET j0a)), (1, .int y1), (2, .int y2), (3, .int y3), (6, .int y6), (7, .int y7), (9, .ref (G.1 + oCHN j9a j9b)), (10, .int y10)]) (n := 131) rfl ok d_nt_sendFrames_128 11 rfl (Option.some.inj ex17) (lt_n hXn (Nat.le_of_ble_eq_true rfl)) rfl ?_
          refine r_goto (tgt := 66) ok d_nt_sendFrames_131 (by decide) ?_
          obtain rfl := Option.some.inj h
          exact r_sub [4, 5, 6, 7, 2, 8, 9, 10, 11, 0, 1] rfl (show Wt X M 66 [(0, .ref (G.1 + oNET j0a)), (1, .int y1), (2, .int y2), (3, .int y3), (5, .int r15), (6, .int y6), (7, .int y7), (9, .ref (G.1 + oCHN j9a j9b)), (10, .int y10), (11, .int x17), (12, .int 0)] [] from hk _ rfl)
        · replace h := if_n c16 h
          refine r_iconst (v := 1) (n := 122) rfl ok d_nt_sendFrames_121 (by decide) ?_
          refine r_goto (tgt := 126) ok d_nt_sendFrames_122 (by decide) ?_
          refine r_istore (lv' := [(12, .int 1), (5, .int r15), (13, .ref (G.1 + oLNK p12.1 p12.2.1 p12.2.2)), (0, .ref (G.1 + oNET j0a)), (1, .int y1), (2, .int y2), (3, .int y3), (6, .int y6), (7, .int y7), (9, .ref (G.1 + oCHN j9a j9b)), (10, .int y10), (11, .int x.2.1)]) (n := 128) rfl ok d_nt_sendFrames_126 (lt_n hXn (Nat.le_of_ble_eq_true rfl)) rfl ?_
          obtain ⟨x18, ex18, h⟩ := bd_ok h
          refine r_iinc (lv' := [(11, .int x18), (12, .int 1), (5, .int r15), (13, .ref (G.1 + oLNK p12.1 p12.2.1 p12.2.2)), (0, .ref (G.1 + oNET j0a)), (1, .int y1), (2, .int y2), (3, .int y3), (6, .int y6), (7, .int y7), (9, .ref (G.1 + oCHN j9a j9b)), (10, .int y10)]) (n := 131) rfl ok d_nt_sendFrames_128 11 rfl (Option.some.inj ex18) (lt_n hXn (Nat.le_of_ble_eq_true rfl)) rfl ?_
          refine r_goto (tgt := 66) ok d_nt_sendFrames_131 (by decide) ?_
          obtain rfl := Option.some.inj h
          exact r_sub [4, 5, 6, 7, 2, 8, 9, 10, 11, 0, 1] rfl (show Wt X M 66 [(0, .ref (G.1 + oNET j0a)), (1, .int y1), (2, .int y2), (3, .int y3), (5, .int r15), (6, .int y6), (7, .int y7), (9, .ref (G.1 + oCHN j9a j9b)), (10, .int y10), (11, .int x18), (12, .int 1)] [] from hk _ rfl)
set_option maxHeartbeats 4000000 in
set_option maxRecDepth 20000 in
theorem w_nt_sendFrames_10 {X : Cx Me} {G : Gt} (ok : Ok X b_nt_sendFrames "RetryChains$Network") (hG : GC X G) (hXR : X.R = rm_nt_sendFrames) (hXn : X.nL = 14) {j0a : Nat} {y1 : Int32} {y2 : Int32} {y3 : Int32} (hj0a : j0a < 9) {t : (Int32 × Me) ⊕ (Int32 × Me)} (kx : ∀ e : Int32 × Me, (Sum.inl e : (Int32 × Me) ⊕ (Int32 × Me)) = t → Wt X e.2 169 [(6, .int e.1)] []) (kr : ∀ o : Int32 × Me, (Sum.inr o : (Int32 × Me) ⊕ (Int32 × Me)) = t → Fin X b_nt_sendFrames (some .int) (some (.int o.1)) o.2) : ∀ (n : Nat) (x : Int32 × Int32 × Int32 × Me), lp n (b_nt_sendFrames_10 j0a y1 y2 y3) x = some t → Wt X x.2.2.2 10 [(0, .ref (G.1 + oNET j0a)), (1, .int y1), (2, .int y2), (3, .int y3), (5, .int x.1), (6, .int x.2.1), (7, .int x.2.2.1)] [] := by
  intro n x h
  refine lp_W (P := fun x => Wt X x.2.2.2 10 [(0, .ref (G.1 + oNET j0a)), (1, .int y1), (2, .int y2), (3, .int y3), (5, .int x.1), (6, .int x.2.1), (7, .int x.2.2.1)] []) (Z := fun t' => t' = t) (fun x r h hk hz => ?_) n x t h rfl
  unfold b_nt_sendFrames_10 at h
  refine r_iload (n := 12) rfl ok d_nt_sendFrames_10 6 rfl ?_
  refine r_iload_n (n := 13) rfl ok d_nt_sendFrames_12 rfl 2 rfl ?_
  refine r_icmp_ge (tgt := 169) (n := 16) rfl ok d_nt_sendFrames_13 (by decide) (fun c1 => ?_) (fun c1 => ?_)
  · replace h := if_p c1 h
    obtain rfl := Option.some.inj h
    exact r_sub [5] rfl (show Wt X x.2.2.2 169 [(6, .int x.2.1)] [] from kx _ (hz _ rfl))
  · replace h := if_n c1 h
    refine r_aload_n (n := 17) rfl ok d_nt_sendFrames_16 rfl 0 rfl ?_
    refine r_iload_n (n := 18) rfl ok d_nt_sendFrames_17 rfl 1 rfl ?_
    obtain ⟨r2, hr2, h⟩ := bd_ok h
    refine r_callV (n := 21) rfl ok hG mf_nt_stationAt k_465 k_466 k_472 (C_nt_stationAt hj0a hr2) ⟨rfl, rfl⟩ (rR hXR ⟨Nat.le_of_ble_eq_true rfl, Nat.le_of_ble_eq_true rfl⟩) rfl rfl (rv_NET hj0a) rfl (Nat.le_of_ble_eq_true rfl) d_nt_sendFrames_18 ?_
    rcases er2 : r2 with _ | p3
    · replace h := el_n er2 h
      try rw [er2]
      refine r_astoreN (lv' := [(8, .null), (0, .ref (G.1 + oNET j0a)), (1, .int y1), (2, .int y2), (3, .int y3), (5, .int x.1), (6, .int x.2.1), (7, .int x.2.2.1)]) (n := 23) rfl ok d_nt_sendFrames_21 (lt_n hXn (Nat.le_of_ble_eq_true rfl)) rfl ?_
      refine r_aloadN (n := 25) rfl ok d_nt_sendFrames_23 0 rfl ?_
      refine r_ifnonnullN (n := 28) rfl ok d_nt_sendFrames_25 ?_
      refine r_null (n := 29) rfl ok d_nt_sendFrames_28 ?_
      refine r_goto (tgt := 43) ok d_nt_sendFrames_29 (by decide) ?_
      refine r_astoreN (lv' := [(9, .null), (8, .null), (0, .ref (G.1 + oNET j0a)), (1, .int y1), (2, .int y2), (3, .int y3), (5, .int x.1), (6, .int x.2.1), (7, .int x.2.2.1)]) (n := 45) rfl ok d_nt_sendFrames_43 (lt_n hXn (Nat.le_of_ble_eq_true rfl)) rfl ?_
      refine r_aloadN (n := 47) rfl ok d_nt_sendFrames_45 0 rfl ?_
      refine r_ifnonnullN (n := 50) rfl ok d_nt_sendFrames_47 ?_
      refine r_iload (n := 52) rfl ok d_nt_sendFrames_50 7 rfl ?_
      obtain rfl := Option.some.inj h
      exact kr _ (hz _ rfl) _ _ ⟨.int, rfl, rfl⟩ d_nt_sendFrames_52
    · replace h := el_s er2 h
      try rw [er2]
      have vp3 := v_nt_stationAt hj0a (hr2.trans (congrArg some er2))
      refine r_astore (lv' := [(8, .ref (G.1 + oSTA p3.1 p3.2)), (0, .ref (G.1 + oNET j0a)), (1, .int y1), (2, .int y2), (3, .int y3), (5, .int x.1), (6, .int x.2.1), (7, .int x.2.2.1)]) (n := 23) rfl ok d_nt_sendFrames_21 (lt_n hXn (Nat.le_of_ble_eq_true rfl)) rfl ?_
      refine r_aload (n := 25) rfl ok d_nt_sendFrames_23 0 rfl ?_
      refine r_ifnonnull (tgt := 32) ok d_nt_sendFrames_25 (by decide) ?_
      refine r_aload_n (n := 33) rfl ok d_nt_sendFrames_32 rfl 1 rfl ?_
      refine r_aload_n (n := 34) rfl ok d_nt_sendFrames_33 rfl 1 rfl ?_
      refine r_aload (n := 36) rfl ok d_nt_sendFrames_34 0 rfl ?_
      refine r_iload_n (n := 37) rfl ok d_nt_sendFrames_36 rfl 4 rfl ?_
      obtain ⟨r4, hr4, h⟩ := bd_ok h
      refine r_callV (n := 40) rfl ok hG mf_nt_openChain k_508 k_509 k_890 (C_nt_openChain hj0a vp3.1 vp3.2 hr4) ⟨rfl, rfl⟩ (rR hXR ⟨Nat.le_of_ble_eq_true rfl, Nat.le_of_ble_eq_true rfl⟩) rfl rfl (rv_NET hj0a) rfl (Nat.le_of_ble_eq_true rfl) d_nt_sendFrames_37 ?_
      obtain ⟨r5, hr5, h⟩ := bd_ok h
      refine r_callV (n := 43) rfl ok hG mf_nt_chainAt k_592 k_593 k_891 (C_nt_chainAt hj0a hr5) ⟨rfl, rfl⟩ (rR hXR ⟨Nat.le_of_ble_eq_true rfl, Nat.le_of_ble_eq_true rfl⟩) rfl rfl (rv_NET hj0a) rfl (Nat.le_of_ble_eq_true rfl) d_nt_sendFrames_40 ?_
      rcases er5 : r5 with _ | p6
      · replace h := el_n er5 h
        try rw [er5]
        refine r_astoreN (lv' := [(9, .null), (8, .ref (G.1 + oSTA p3.1 p3.2)), (0, .ref (G.1 + oNET j0a)), (1, .int y1), (2, .int y2), (3, .int y3), (5, .int x.1), (6, .int x.2.1), (7, .int x.2.2.1)]) (n := 45) rfl ok d_nt_sendFrames_43 (lt_n hXn (Nat.le_of_ble_eq_true rfl)) rfl ?_
        refine r_aloadN (n := 47) rfl ok d_nt_sendFrames_45 0 rfl ?_
        refine r_ifnonnullN (n := 50) rfl ok d_nt_sendFrames_47 ?_
        refine r_iload (n := 52) rfl ok d_nt_sendFrames_50 7 rfl ?_
        obtain rfl := Option.some.inj h
        exact kr _ (hz _ rfl) _ _ ⟨.int, rfl, rfl⟩ d_nt_sendFrames_52
      · replace h := el_s er5 h
        try rw [er5]
        have vp6 := v_nt_chainAt hj0a (hr5.trans (congrArg some er5))
        refine r_astore (lv' := [(9, .ref (G.1 + oCHN p6.1 p6.2)), (8, .ref (G.1 + oSTA p3.1 p3.2)), (0, .ref (G.1 + oNET j0a)), (1, .int y1), (2, .int y2), (3, .int y3), (5, .int x.1), (6, .int x.2.1), (7, .int x.2.2.1)]) (n := 45) rfl ok d_nt_sendFrames_43 (lt_n hXn (Nat.le_of_ble_eq_true rfl)) rfl ?_
        refine r_aload (n := 47) rfl ok d_nt_sendFrames_45 0 rfl ?_
        refine r_ifnonnull (tgt := 53) ok d_nt_sendFrames_47 (by decide) ?_
        refine r_aload (n := 55) rfl ok d_nt_sendFrames_53 0 rfl ?_
        obtain ⟨r7, hr7, h⟩ := bd_ok h
        refine r_callV (n := 58) rfl ok hG mf_ch_allTries k_596 k_597 k_892 (C_ch_allTries vp6.1 vp6.2 hr7) ⟨rfl, rfl⟩ (rR hXR ⟨Nat.le_of_ble_eq_true rfl, Nat.le_of_ble_eq_true rfl⟩) rfl rfl (rv_CHN vp6.1 vp6.2) rfl (Nat.le_of_ble_eq_true rfl) d_nt_sendFrames_55 ?_
        refine r_istore (lv' := [(10, .int r7), (9, .ref (G.1 + oCHN p6.1 p6.2)), (8, .ref (G.1 + oSTA p3.1 p3.2)), (0, .ref (G.1 + oNET j0a)), (1, .int y1), (2, .int y2), (3, .int y3), (5, .int x.1), (6, .int x.2.1), (7, .int x.2.2.1)]) (n := 60) rfl ok d_nt_sendFrames_58 (lt_n hXn (Nat.le_of_ble_eq_true rfl)) rfl ?_
        refine r_iconst (v := 0) (n := 61) rfl ok d_nt_sendFrames_60 (by decide) ?_
        refine r_istore (lv' := [(11, .int 0), (10, .int r7), (9, .ref (G.1 + oCHN p6.1 p6.2)), (8, .ref (G.1 + oSTA p3.1 p3.2)), (0, .ref (G.1 + oNET j0a)), (1, .int y1), (2, .int y2), (3, .int y3), (5, .int x.1), (6, .int x.2.1), (7, .int x.2.2.1)]) (n := 63) rfl ok d_nt_sendFrames_61 (lt_n hXn (Nat.le_of_ble_eq_true rfl)) rfl ?_
        refine r_iconst (v := 0) (n := 64) rfl ok d_nt_sendFrames_63 (by decide) ?_
        refine r_istore (lv' := [(12, .int 0), (11, .int 0), (10, .int r7), (9, .ref (G.1 + oCHN p6.1 p6.2)), (8, .ref (G.1 + oSTA p3.1 p3.2)), (0, .ref (G.1 + oNET j0a)), (1, .int y1), (2, .int y2), (3, .int y3), (5, .int x.1), (6, .int x.2.1), (7, .int x.2.2.1)]) (n := 66) rfl ok d_nt_sendFrames_64 (lt_n hXn (Nat.le_of_ble_eq_true rfl)) rfl ?_
        obtain ⟨t19, ht19, h⟩ := bd_ok h
        refine r_sub [5, 6, 7, 8, 9, 10, 11, 3, 2, 1, 0] rfl (show Wt X r4.2 66 [(0, .ref (G.1 + oNET j0a)), (1, .int y1), (2, .int y2), (3, .int y3), (5, .int x.1), (6, .int x.2.1), (7, .int x.2.2.1), (9, .ref (G.1 + oCHN p6.1 p6.2)), (10, .int r7), (11, .int 0), (12, .int 0)] [] from w_nt_sendFrames_66 ok hG hXR hXn hj0a vp6.1 vp6.2 ?_ _ _ ht19)
        · intro e20 he
          subst he
          refine r_aload_n (n := 135) rfl ok d_nt_sendFrames_134 rfl 0 rfl ?_
          refine r_aload (n := 137) rfl ok d_nt_sendFrames_135 7 rfl ?_
          refine r_iload (n := 139) rfl ok d_nt_sendFrames_137 8 rfl ?_
          refine r_iload (n := 141) rfl ok d_nt_sendFrames_139 9 rfl ?_
          obtain ⟨r21, hr21, h⟩ := bd_ok h
          refine r_callV (n := 144) rfl ok hG mf_nt_conclude k_607 k_608 k_897 (C_nt_conclude hj0a vp6.1 vp6.2 hr21) ⟨rfl, rfl⟩ (rR hXR ⟨Nat.le_of_ble_eq_true rfl, Nat.le_of_ble_eq_true rfl⟩) rfl rfl (rv_NET hj0a) rfl (Nat.le_of_ble_eq_true rfl) d_nt_sendFrames_141 ?_
          refine r_iload (n := 146) rfl ok d_nt_sendFrames_144 5 rfl ?_
          refine r_iload (n := 148) rfl ok d_nt_sendFrames_146 9 rfl ?_
          refine r_if_eq (tgt := 155) (n := 151) rfl ok d_nt_sendFrames_148 (by decide) (fun c22 => ?_) (fun c22 => ?_)
          · replace h := if_p c22 h
            refine r_iconst (v := 0) (n := 156) rfl ok d_nt_sendFrames_155 (by decide) ?_
            refine r_iadd (n := 157) rfl ok d_nt_sendFrames_156 ?_
            obtain ⟨x23, ex23, h⟩ := bd_ok h
            refine r_ti (Option.some.inj ex23).symm ?_
            refine r_istore (lv' := [(6, .int x23), (0, .ref (G.1 + oNET j0a)), (1, .int y1), (2, .int y2), (3, .int y3), (5, .int e20.1), (7, .int x.2.2.1), (9, .ref (G.1 + oCHN p6.1 p6.2)), (11, .int e20.2.1), (12, .int e20.2.2)]) (n := 159) rfl ok d_nt_sendFrames_157 (lt_n hXn (Nat.le_of_ble_eq_true rfl)) rfl ?_
            refine r_aload_n (n := 160) rfl ok d_nt_sendFrames_159 rfl 1 rfl ?_
            obtain ⟨r24, hr24, h⟩ := bd_ok h
            refine r_callV (n := 163) rfl ok hG mf_nt_updateEnded k_634 k_635 k_898 (C_nt_updateEnded hj0a hr24) ⟨rfl, rfl⟩ (rR hXR ⟨Nat.le_of_ble_eq_true rfl, Nat.le_of_ble_eq_true rfl⟩) rfl rfl (rv_NET hj0a) rfl (Nat.le_of_ble_eq_true rfl) d_nt_sendFrames_160 ?_
            obtain ⟨x25, ex25, h⟩ := bd_ok h
            refine r_iinc (lv' := [(7, .int x25), (6, .int x23), (0, .ref (G.1 + oNET j0a)), (1, .int y1), (2, .int y2), (3, .int y3), (5, .int e20.1), (9, .ref (G.1 + oCHN p6.1 p6.2)), (11, .int e20.2.1), (12, .int e20.2.2)]) (n := 166) rfl ok d_nt_sendFrames_163 6 rfl (Option.some.inj ex25) (lt_n hXn (Nat.le_of_ble_eq_true rfl)) rfl ?_
            refine r_goto (tgt := 10) ok d_nt_sendFrames_166 (by decide) ?_
            obtain rfl := Option.some.inj h
            exact r_sub [2, 3, 4, 5, 6, 1, 0] rfl (show Wt X r24 10 [(0, .ref (G.1 + oNET j0a)), (1, .int y1), (2, .int y2), (3, .int y3), (5, .int e20.1), (6, .int x23), (7, .int x25)] [] from hk _ rfl)
          · replace h := if_n c22 h
            refine r_iconst (v := 1) (n := 152) rfl ok d_nt_sendFrames_151 (by decide) ?_
            refine r_goto (tgt := 156) ok d_nt_sendFrames_152 (by decide) ?_
            refine r_iadd (n := 157) rfl ok d_nt_sendFrames_156 ?_
            obtain ⟨x26, ex26, h⟩ := bd_ok h
            refine r_ti (Option.some.inj ex26).symm ?_
            refine r_istore (lv' := [(6, .int x26), (0, .ref (G.1 + oNET j0a)), (1, .int y1), (2, .int y2), (3, .int y3), (5, .int e20.1), (7, .int x.2.2.1), (9, .ref (G.1 + oCHN p6.1 p6.2)), (11, .int e20.2.1), (12, .int e20.2.2)]) (n := 159) rfl ok d_nt_sendFrames_157 (lt_n hXn (Nat.le_of_ble_eq_true rfl)) rfl ?_
            refine r_aload_n (n := 160) rfl ok d_nt_sendFrames_159 rfl 1 rfl ?_
            obtain ⟨r27, hr27, h⟩ := bd_ok h
            refine r_callV (n := 163) rfl ok hG mf_nt_updateEnded k_634 k_635 k_898 (C_nt_updateEnded hj0a hr27) ⟨rfl, rfl⟩ (rR hXR ⟨Nat.le_of_ble_eq_true rfl, Nat.le_of_ble_eq_true rfl⟩) rfl rfl (rv_NET hj0a) rfl (Nat.le_of_ble_eq_true rfl) d_nt_sendFrames_160 ?_
            obtain ⟨x28, ex28, h⟩ := bd_ok h
            refine r_iinc (lv' := [(7, .int x28), (6, .int x26), (0, .ref (G.1 + oNET j0a)), (1, .int y1), (2, .int y2), (3, .int y3), (5, .int e20.1), (9, .ref (G.1 + oCHN p6.1 p6.2)), (11, .int e20.2.1), (12, .int e20.2.2)]) (n := 166) rfl ok d_nt_sendFrames_163 6 rfl (Option.some.inj ex28) (lt_n hXn (Nat.le_of_ble_eq_true rfl)) rfl ?_
            refine r_goto (tgt := 10) ok d_nt_sendFrames_166 (by decide) ?_
            obtain rfl := Option.some.inj h
            exact r_sub [2, 3, 4, 5, 6, 1, 0] rfl (show Wt X r27 10 [(0, .ref (G.1 + oNET j0a)), (1, .int y1), (2, .int y2), (3, .int y3), (5, .int e20.1), (6, .int x26), (7, .int x28)] [] from hk _ rfl)
set_option maxHeartbeats 4000000 in
set_option maxRecDepth 20000 in
theorem C_nt_sendFrames {l : Launch} {G : Gt} {M : Me} {i0 : Nat} {a1 : Int32} {a2 : Int32} {a3 : Int32} {a4 : Int32} (hi0 : i0 < 9) {o : Int32 × Me} (h : f_nt_sendFrames M i0 a1 a2 a3 a4 = some o) : Ct l G (WC G) (rC G) y_nt_sendFrames b_nt_sendFrames 14 (some .int) rm_nt_sendFrames [.ref (G.1 + oNET i0), .int a1, .int a2, .int a3, .int a4] M (some (.int o.1)) o.2 := by
  refine Ct.mk (own := "RetryChains$Network") rfl (by decide) (Nat.le_of_ble_eq_true rfl) ⟨_, rfl⟩ (fun X hXl hXR hXn ok hG fin => ?_)
  subst hXl
  unfold f_nt_sendFrames at h
  show Wt X M 0 [(0, .ref (G.1 + oNET i0)), (1, .int a1), (2, .int a2), (3, .int a3), (4, .int a4)] []
  refine r_iload (n := 2) rfl ok d_nt_sendFrames_0 4 rfl ?_
  refine r_istore (lv' := [(5, .int a4), (0, .ref (G.1 + oNET i0)), (1, .int a1), (2, .int a2), (3, .int a3), (4, .int a4)]) (n := 4) rfl ok d_nt_sendFrames_2 (lt_n hXn (Nat.le_of_ble_eq_true rfl)) rfl ?_
  refine r_iconst (v := 0) (n := 5) rfl ok d_nt_sendFrames_4 (by decide) ?_
  refine r_istore (lv' := [(6, .int 0), (5, .int a4), (0, .ref (G.1 + oNET i0)), (1, .int a1), (2, .int a2), (3, .int a3), (4, .int a4)]) (n := 7) rfl ok d_nt_sendFrames_5 (lt_n hXn (Nat.le_of_ble_eq_true rfl)) rfl ?_
  refine r_iconst (v := 0) (n := 8) rfl ok d_nt_sendFrames_7 (by decide) ?_
  refine r_istore (lv' := [(7, .int 0), (6, .int 0), (5, .int a4), (0, .ref (G.1 + oNET i0)), (1, .int a1), (2, .int a2), (3, .int a3), (4, .int a4)]) (n := 10) rfl ok d_nt_sendFrames_8 (lt_n hXn (Nat.le_of_ble_eq_true rfl)) rfl ?_
  obtain ⟨t29, ht29, h⟩ := bd_ok h
  refine r_sub [3, 4, 5, 6, 2, 1, 0] rfl (show Wt X M 10 [(0, .ref (G.1 + oNET i0)), (1, .int a1), (2, .int a2), (3, .int a3), (5, .int a4), (6, .int 0), (7, .int 0)] [] from w_nt_sendFrames_10 ok hG hXR hXn hi0 ?_ ?_ _ _ ht29)
  · intro e30 he
    subst he
    replace h := su_l h
    refine r_iload (n := 171) rfl ok d_nt_sendFrames_169 0 rfl ?_
    obtain rfl := Option.some.inj h
    exact fin _ _ ⟨.int, rfl, rfl⟩ d_nt_sendFrames_171
  · intro o he
    subst he
    replace h := su_r h
    obtain rfl := Option.some.inj h
    exact fin
set_option maxHeartbeats 4000000 in
set_option maxRecDepth 20000 in
theorem C_tb_append {l : Launch} {G : Gt} {M : Me} {i0 : Nat} {a1 : Int32} {a2 : Int32} (hi0 : i0 < 9) {o : Int32 × Me} (h : f_tb_append M i0 a1 a2 = some o) : Ct l G (WC G) (rC G) y_tb_append b_tb_append 4 (some .int) rm_tb_append [.ref (G.1 + oTAB i0), .int a1, .int a2] M (some (.int o.1)) o.2 := by
  refine Ct.mk (own := "RetryChains$RateTable") rfl (by decide) (Nat.le_of_ble_eq_true rfl) ⟨_, rfl⟩ (fun X hXl hXR hXn ok hG fin => ?_)
  subst hXl
  unfold f_tb_append at h
  show Wt X M 0 [(0, .ref (G.1 + oTAB i0)), (1, .int a1), (2, .int a2)] []
  refine r_aload_n (n := 1) rfl ok d_tb_append_0 rfl 0 rfl ?_
  refine g_TAB_count (n := 4) rfl ok hG hi0 k_34 d_tb_append_1 ?_
  refine r_istore_n (lv' := [(3, .int (M.1 10 i0 0 0)), (0, .ref (G.1 + oTAB i0)), (1, .int a1), (2, .int a2)]) (n := 5) rfl ok d_tb_append_4 rfl (lt_n hXn (Nat.le_of_ble_eq_true rfl)) rfl ?_
  refine r_iload_n (n := 6) rfl ok d_tb_append_5 rfl 0 rfl ?_
  refine r_if_lt (tgt := 15) (n := 9) rfl ok d_tb_append_6 (by decide) (fun c1 => ?_) (fun c1 => ?_)
  · replace h := if_p c1 h
    refine r_bipush (v := (-3)) (n := 17) rfl ok d_tb_append_15 (by decide) ?_
    obtain rfl := Option.some.inj h
    exact fin _ _ ⟨.int, rfl, rfl⟩ d_tb_append_17
  · replace h := if_n c1 h
    refine r_iload_n (n := 10) rfl ok d_tb_append_9 rfl 0 rfl ?_
    refine r_bipush (v := 8) (n := 12) rfl ok d_tb_append_10 (by decide) ?_
    refine r_icmp_lt (tgt := 18) (n := 15) rfl ok d_tb_append_12 (by decide) (fun c2 => ?_) (fun c2 => ?_)
    · replace h := if_p c2 h
      refine r_aload_n (n := 19) rfl ok d_tb_append_18 rfl 1 rfl ?_
      refine r_iload_n (n := 20) rfl ok d_tb_append_19 rfl 0 rfl ?_
      refine r_iconst (v := 1) (n := 21) rfl ok d_tb_append_20 (by decide) ?_
      refine r_iadd (n := 22) rfl ok d_tb_append_21 ?_
      obtain ⟨M3, eM3, h⟩ := bd_ok h
      refine p_TAB_count (n := 25) rfl ok hG hi0 k_34 d_tb_append_22 ?_
      refine r_mem (Option.some.inj eM3) ?_
      refine r_aload_n (n := 26) rfl ok d_tb_append_25 rfl 1 rfl ?_
      refine g_TAB_modes (n := 29) rfl ok hG hi0 k_39 d_tb_append_26 ?_
      refine r_iload_n (n := 30) rfl ok d_tb_append_29 rfl 0 rfl ?_
      refine r_iload_n (n := 31) rfl ok d_tb_append_30 rfl 2 rfl ?_
      obtain ⟨g4, h⟩ := gd_ok h
      obtain ⟨M5, eM5, h⟩ := bd_ok h
      refine as_MODES (n := 32) rfl ok hG hi0 g4 d_tb_append_31 ?_
      refine r_mem (Option.some.inj eM5) ?_
      refine r_aload_n (n := 33) rfl ok d_tb_append_32 rfl 1 rfl ?_
      refine g_TAB_speeds (n := 36) rfl ok hG hi0 k_40 d_tb_append_33 ?_
      refine r_iload_n (n := 37) rfl ok d_tb_append_36 rfl 0 rfl ?_
      refine r_iload_n (n := 38) rfl ok d_tb_append_37 rfl 3 rfl ?_
      obtain ⟨g6, h⟩ := gd_ok h
      obtain ⟨M7, eM7, h⟩ := bd_ok h
      refine as_SPEEDS (n := 39) rfl ok hG hi0 g6 d_tb_append_38 ?_
      refine r_mem (Option.some.inj eM7) ?_
      refine r_aload_n (n := 40) rfl ok d_tb_append_39 rfl 1 rfl ?_
      refine g_TAB_nominals (n := 43) rfl ok hG hi0 k_41 d_tb_append_40 ?_
      refine r_iload_n (n := 44) rfl ok d_tb_append_43 rfl 0 rfl ?_
      refine r_aload_n (n := 45) rfl ok d_tb_append_44 rfl 1 rfl ?_
      refine r_iload_n (n := 46) rfl ok d_tb_append_45 rfl 0 rfl ?_
      refine r_sipush (v := 1200) (n := 49) rfl ok d_tb_append_46 (by decide) ?_
      obtain ⟨r8, hr8, h⟩ := bd_ok h
      refine r_callV (n := 52) rfl ok hG mf_tb_timeInAir k_417 k_418 k_416 (C_tb_timeInAir hi0 hr8) ⟨rfl, rfl⟩ (rR hXR ⟨Nat.le_of_ble_eq_true rfl, Nat.le_of_ble_eq_true rfl⟩) rfl rfl (rv_TAB hi0) rfl (Nat.le_of_ble_eq_true rfl) d_tb_append_49 ?_
      obtain ⟨g9, h⟩ := gd_ok h
      obtain ⟨M10, eM10, h⟩ := bd_ok h
      refine as_NOMS (n := 53) rfl ok hG hi0 g9 d_tb_append_52 ?_
      refine r_mem (Option.some.inj eM10) ?_
      refine r_iload_n (n := 54) rfl ok d_tb_append_53 rfl 0 rfl ?_
      obtain rfl := Option.some.inj h
      exact fin _ _ ⟨.int, rfl, rfl⟩ d_tb_append_54
    · replace h := if_n c2 h
      refine r_bipush (v := (-3)) (n := 17) rfl ok d_tb_append_15 (by decide) ?_
      obtain rfl := Option.some.inj h
      exact fin _ _ ⟨.int, rfl, rfl⟩ d_tb_append_17
