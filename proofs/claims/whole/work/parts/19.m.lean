set_option maxHeartbeats 4000000 in
set_option maxRecDepth 20000 in
theorem C_m_learn {l : Launch} {G : Gt} {M : Me} {a1 : Int32} {a2 : Int32}  {o : Me} (h : f_m_learn M a1 a2 = some o) : Ct l G (WM G) (rM G) y_m_learn b_m_learn 6 none rm_m_learn [.ref (G.1 + 0), .int a1, .int a2] M (none) o := by
  refine Ct.mk (own := "RetryChainsModel") rfl (by decide) (Nat.le_of_ble_eq_true rfl) rfl (fun X hXl hXR hXn ok hG fin => ?_)
  subst hXl
  unfold f_m_learn at h
  show Wt X M 0 [(0, .ref (G.1 + 0)), (1, .int a1), (2, .int a2)] []
  refine r_iload_n (n := 1) rfl ok d_m_learn_0 rfl 1 rfl ?_
  refine r_iload_n (n := 2) rfl ok d_m_learn_1 rfl 2 rfl ?_
  obtain ⟨r1, hr1, h⟩ := bd_ok h
  refine r_callS (n := 5) rfl ok hG mf_m_pair k_1027 k_1026 (C_m_pair  hr1) ⟨rfl, rfl⟩ (rR hXR ⟨Nat.le_of_ble_eq_true rfl, Nat.le_of_ble_eq_true rfl⟩) rfl rfl (Nat.le_of_ble_eq_true rfl) d_m_learn_2 ?_
  refine r_istore_n (lv' := [(3, .int r1), (0, .ref (G.1 + 0)), (1, .int a1), (2, .int a2)]) (n := 6) rfl ok d_m_learn_5 rfl (lt_n hXn (Nat.le_of_ble_eq_true rfl)) rfl ?_
  refine r_aload_n (n := 7) rfl ok d_m_learn_6 rfl 1 rfl ?_
  refine r_iload_n (n := 8) rfl ok d_m_learn_7 rfl 0 rfl ?_
  obtain ⟨r2, hr2, h⟩ := bd_ok h
  refine r_callV (n := 11) rfl ok hG mf_m_sampleOf k_1273 ks_63 k_1271 (C_m_sampleOf  hr2) ⟨rfl, rfl⟩ (rR hXR ⟨Nat.le_of_ble_eq_true rfl, Nat.le_of_ble_eq_true rfl⟩) rfl rfl (rv_MOD) rfl (Nat.le_of_ble_eq_true rfl) d_m_learn_8 ?_
  refine r_istore (lv' := [(4, .int r2), (3, .int r1), (0, .ref (G.1 + 0)), (1, .int a1), (2, .int a2)]) (n := 13) rfl ok d_m_learn_11 (lt_n hXn (Nat.le_of_ble_eq_true rfl)) rfl ?_
  refine r_aload_n (n := 14) rfl ok d_m_learn_13 rfl 2 rfl ?_
  refine g_MOD_v (n := 17) rfl ok hG  k_986 d_m_learn_14 ?_
  refine r_iload_n (n := 18) rfl ok d_m_learn_17 rfl 1 rfl ?_
  refine r_iconst (v := 1) (n := 19) rfl ok d_m_learn_18 (by decide) ?_
  refine r_iadd (n := 20) rfl ok d_m_learn_19 ?_
  obtain ⟨g3, h⟩ := gd_ok h
  refine al_V (n := 21) rfl ok hG  g3 d_m_learn_20 ?_
  refine r_if_ge (tgt := 35) (n := 24) rfl ok d_m_learn_21 (by decide) (fun c4 => ?_) (fun c4 => ?_)
  · replace h := if_p c4 h
    refine r_aload_n (n := 36) rfl ok d_m_learn_35 rfl 2 rfl ?_
    refine r_iload_n (n := 37) rfl ok d_m_learn_36 rfl 1 rfl ?_
    obtain ⟨r5, hr5, h⟩ := bd_ok h
    refine r_callV (n := 40) rfl ok hG mf_m_change k_1269 ks_62 k_1267 (C_m_change  hr5) ⟨rfl, rfl⟩ (rR hXR ⟨Nat.le_of_ble_eq_true rfl, Nat.le_of_ble_eq_true rfl⟩) rfl rfl (rv_MOD) rfl (Nat.le_of_ble_eq_true rfl) d_m_learn_37 ?_
    refine r_istore (lv' := [(5, .int r5), (4, .int r2), (3, .int r1), (0, .ref (G.1 + 0)), (1, .int a1), (2, .int a2)]) (n := 42) rfl ok d_m_learn_40 (lt_n hXn (Nat.le_of_ble_eq_true rfl)) rfl ?_
    refine r_iload (n := 44) rfl ok d_m_learn_42 0 rfl ?_
    refine r_if_eq (tgt := 91) (n := 47) rfl ok d_m_learn_44 (by decide) (fun c6 => ?_) (fun c6 => ?_)
    · replace h := if_p c6 h
      refine r_aload_n (n := 92) rfl ok d_m_learn_91 rfl 3 rfl ?_
      refine g_MOD_v (n := 95) rfl ok hG  k_986 d_m_learn_92 ?_
      refine r_iload_n (n := 96) rfl ok d_m_learn_95 rfl 2 rfl ?_
      refine r_iconst (v := 1) (n := 97) rfl ok d_m_learn_96 (by decide) ?_
      refine r_iadd (n := 98) rfl ok d_m_learn_97 ?_
      refine r_aload_n (n := 99) rfl ok d_m_learn_98 rfl 3 rfl ?_
      refine g_MOD_v (n := 102) rfl ok hG  k_986 d_m_learn_99 ?_
      refine r_iload_n (n := 103) rfl ok d_m_learn_102 rfl 2 rfl ?_
      refine r_iconst (v := 1) (n := 104) rfl ok d_m_learn_103 (by decide) ?_
      refine r_iadd (n := 105) rfl ok d_m_learn_104 ?_
      obtain ⟨g7, h⟩ := gd_ok h
      refine al_V (n := 106) rfl ok hG  g7 d_m_learn_105 ?_
      refine r_bipush (v := 100) (n := 108) rfl ok d_m_learn_106 (by decide) ?_
      refine r_aload_n (n := 109) rfl ok d_m_learn_108 rfl 3 rfl ?_
      refine g_MOD_v (n := 112) rfl ok hG  k_986 d_m_learn_109 ?_
      refine r_iconst (v := 4) (n := 113) rfl ok d_m_learn_112 (by decide) ?_
      refine al_V (n := 114) rfl ok hG  (show gin 4 600 by decide) d_m_learn_113 ?_
      refine r_isub (n := 115) rfl ok d_m_learn_114 ?_
      refine r_imul (n := 116) rfl ok d_m_learn_115 ?_
      refine r_iload (n := 118) rfl ok d_m_learn_116 1 rfl ?_
      refine r_aload_n (n := 119) rfl ok d_m_learn_118 rfl 3 rfl ?_
      refine g_MOD_v (n := 122) rfl ok hG  k_986 d_m_learn_119 ?_
      refine r_iconst (v := 4) (n := 123) rfl ok d_m_learn_122 (by decide) ?_
      refine al_V (n := 124) rfl ok hG  (show gin 4 600 by decide) d_m_learn_123 ?_
      refine r_imul (n := 125) rfl ok d_m_learn_124 ?_
      refine r_iadd (n := 126) rfl ok d_m_learn_125 ?_
      refine r_bipush (v := 100) (n := 128) rfl ok d_m_learn_126 (by decide) ?_
      refine r_idiv (n := 129) rfl ok d_m_learn_128 (by decide) ?_
      obtain ⟨g8, h⟩ := gd_ok h
      obtain ⟨M9, eM9, h⟩ := bd_ok h
      refine as_V (n := 130) rfl ok hG  g8 d_m_learn_129 ?_
      refine r_mem (Option.some.inj eM9) ?_
      refine r_aload_n (n := 131) rfl ok d_m_learn_130 rfl 3 rfl ?_
      refine g_MOD_v (n := 134) rfl ok hG  k_986 d_m_learn_131 ?_
      refine r_iload_n (n := 135) rfl ok d_m_learn_134 rfl 2 rfl ?_
      refine r_bipush (v := 6) (n := 137) rfl ok d_m_learn_135 (by decide) ?_
      refine r_iadd (n := 138) rfl ok d_m_learn_137 ?_
      refine r_iload (n := 140) rfl ok d_m_learn_138 0 rfl ?_
      obtain ⟨g10, h⟩ := gd_ok h
      obtain ⟨M11, eM11, h⟩ := bd_ok h
      refine as_V (n := 141) rfl ok hG  g10 d_m_learn_140 ?_
      refine r_mem (Option.some.inj eM11) ?_
      obtain rfl := Option.some.inj h
      exact fin _ _ d_m_learn_141
    · replace h := if_n c6 h
      refine r_iload (n := 49) rfl ok d_m_learn_47 0 rfl ?_
      refine r_aload_n (n := 50) rfl ok d_m_learn_49 rfl 3 rfl ?_
      refine g_MOD_v (n := 53) rfl ok hG  k_986 d_m_learn_50 ?_
      refine r_iload_n (n := 54) rfl ok d_m_learn_53 rfl 2 rfl ?_
      refine r_bipush (v := 6) (n := 56) rfl ok d_m_learn_54 (by decide) ?_
      refine r_iadd (n := 57) rfl ok d_m_learn_56 ?_
      obtain ⟨g12, h⟩ := gd_ok h
      refine al_V (n := 58) rfl ok hG  g12 d_m_learn_57 ?_
      refine r_icmp_ne (tgt := 91) (n := 61) rfl ok d_m_learn_58 (by decide) (fun c13 => ?_) (fun c13 => ?_)
      · replace h := if_n c13 h
        refine r_aload_n (n := 92) rfl ok d_m_learn_91 rfl 3 rfl ?_
        refine g_MOD_v (n := 95) rfl ok hG  k_986 d_m_learn_92 ?_
        refine r_iload_n (n := 96) rfl ok d_m_learn_95 rfl 2 rfl ?_
        refine r_iconst (v := 1) (n := 97) rfl ok d_m_learn_96 (by decide) ?_
        refine r_iadd (n := 98) rfl ok d_m_learn_97 ?_
        refine r_aload_n (n := 99) rfl ok d_m_learn_98 rfl 3 rfl ?_
        refine g_MOD_v (n := 102) rfl ok hG  k_986 d_m_learn_99 ?_
        refine r_iload_n (n := 103) rfl ok d_m_learn_102 rfl 2 rfl ?_
        refine r_iconst (v := 1) (n := 104) rfl ok d_m_learn_103 (by decide) ?_
        refine r_iadd (n := 105) rfl ok d_m_learn_104 ?_
        obtain ⟨g14, h⟩ := gd_ok h
        refine al_V (n := 106) rfl ok hG  g14 d_m_learn_105 ?_
        refine r_bipush (v := 100) (n := 108) rfl ok d_m_learn_106 (by decide) ?_
        refine r_aload_n (n := 109) rfl ok d_m_learn_108 rfl 3 rfl ?_
        refine g_MOD_v (n := 112) rfl ok hG  k_986 d_m_learn_109 ?_
        refine r_iconst (v := 4) (n := 113) rfl ok d_m_learn_112 (by decide) ?_
        refine al_V (n := 114) rfl ok hG  (show gin 4 600 by decide) d_m_learn_113 ?_
        refine r_isub (n := 115) rfl ok d_m_learn_114 ?_
        refine r_imul (n := 116) rfl ok d_m_learn_115 ?_
        refine r_iload (n := 118) rfl ok d_m_learn_116 1 rfl ?_
        refine r_aload_n (n := 119) rfl ok d_m_learn_118 rfl 3 rfl ?_
        refine g_MOD_v (n := 122) rfl ok hG  k_986 d_m_learn_119 ?_
        refine r_iconst (v := 4) (n := 123) rfl ok d_m_learn_122 (by decide) ?_
        refine al_V (n := 124) rfl ok hG  (show gin 4 600 by decide) d_m_learn_123 ?_
        refine r_imul (n := 125) rfl ok d_m_learn_124 ?_
        refine r_iadd (n := 126) rfl ok d_m_learn_125 ?_
        refine r_bipush (v := 100) (n := 128) rfl ok d_m_learn_126 (by decide) ?_
        refine r_idiv (n := 129) rfl ok d_m_learn_128 (by decide) ?_
        obtain ⟨g15, h⟩ := gd_ok h
        obtain ⟨M16, eM16, h⟩ := bd_ok h
        refine as_V (n := 130) rfl ok hG  g15 d_m_learn_129 ?_
        refine r_mem (Option.some.inj eM16) ?_
        refine r_aload_n (n := 131) rfl ok d_m_learn_130 rfl 3 rfl ?_
        refine g_MOD_v (n := 134) rfl ok hG  k_986 d_m_learn_131 ?_
        refine r_iload_n (n := 135) rfl ok d_m_learn_134 rfl 2 rfl ?_
        refine r_bipush (v := 6) (n := 137) rfl ok d_m_learn_135 (by decide) ?_
        refine r_iadd (n := 138) rfl ok d_m_learn_137 ?_
        refine r_iload (n := 140) rfl ok d_m_learn_138 0 rfl ?_
        obtain ⟨g17, h⟩ := gd_ok h
        obtain ⟨M18, eM18, h⟩ := bd_ok h
        refine as_V (n := 141) rfl ok hG  g17 d_m_learn_140 ?_
        refine r_mem (Option.some.inj eM18) ?_
        obtain rfl := Option.some.inj h
        exact fin _ _ d_m_learn_141
      · replace h := if_p c13 h
        refine r_aload_n (n := 62) rfl ok d_m_learn_61 rfl 3 rfl ?_
        refine g_MOD_v (n := 65) rfl ok hG  k_986 d_m_learn_62 ?_
        refine r_iload_n (n := 66) rfl ok d_m_learn_65 rfl 2 rfl ?_
        refine r_iconst (v := 1) (n := 67) rfl ok d_m_learn_66 (by decide) ?_
        refine r_iadd (n := 68) rfl ok d_m_learn_67 ?_
        refine r_iload (n := 70) rfl ok d_m_learn_68 1 rfl ?_
        obtain ⟨g19, h⟩ := gd_ok h
        obtain ⟨M20, eM20, h⟩ := bd_ok h
        refine as_V (n := 71) rfl ok hG  g19 d_m_learn_70 ?_
        refine r_mem (Option.some.inj eM20) ?_
        refine r_aload_n (n := 72) rfl ok d_m_learn_71 rfl 3 rfl ?_
        refine g_MOD_v (n := 75) rfl ok hG  k_986 d_m_learn_72 ?_
        refine r_iload_n (n := 76) rfl ok d_m_learn_75 rfl 2 rfl ?_
        refine r_bipush (v := 6) (n := 78) rfl ok d_m_learn_76 (by decide) ?_
        refine r_iadd (n := 79) rfl ok d_m_learn_78 ?_
        refine r_iconst (v := 0) (n := 80) rfl ok d_m_learn_79 (by decide) ?_
        obtain ⟨g21, h⟩ := gd_ok h
        obtain ⟨M22, eM22, h⟩ := bd_ok h
        refine as_V (n := 81) rfl ok hG  g21 d_m_learn_80 ?_
        refine r_mem (Option.some.inj eM22) ?_
        refine r_aload_n (n := 82) rfl ok d_m_learn_81 rfl 3 rfl ?_
        refine r_iconst (v := 1) (n := 83) rfl ok d_m_learn_82 (by decide) ?_
        refine r_iload_n (n := 84) rfl ok d_m_learn_83 rfl 4 rfl ?_
        refine r_iload_n (n := 85) rfl ok d_m_learn_84 rfl 5 rfl ?_
        obtain ⟨r23, hr23, h⟩ := bd_ok h
        refine r_callV (n := 88) rfl ok hG mf_m_log k_1253 ks_58 k_1251 (C_m_log  hr23) ⟨rfl, rfl⟩ (rR hXR ⟨Nat.le_of_ble_eq_true rfl, Nat.le_of_ble_eq_true rfl⟩) rfl rfl (rv_MOD) rfl (Nat.le_of_ble_eq_true rfl) d_m_learn_85 ?_
        refine r_goto (tgt := 141) ok d_m_learn_88 (by decide) ?_
        obtain rfl := Option.some.inj h
        exact fin _ _ d_m_learn_141
  · replace h := if_n c4 h
    refine r_aload_n (n := 25) rfl ok d_m_learn_24 rfl 2 rfl ?_
    refine g_MOD_v (n := 28) rfl ok hG  k_986 d_m_learn_25 ?_
    refine r_iload_n (n := 29) rfl ok d_m_learn_28 rfl 1 rfl ?_
    refine r_iconst (v := 1) (n := 30) rfl ok d_m_learn_29 (by decide) ?_
    refine r_iadd (n := 31) rfl ok d_m_learn_30 ?_
    refine r_iload (n := 33) rfl ok d_m_learn_31 0 rfl ?_
    obtain ⟨g24, h⟩ := gd_ok h
    obtain ⟨M25, eM25, h⟩ := bd_ok h
    refine as_V (n := 34) rfl ok hG  g24 d_m_learn_33 ?_
    refine r_mem (Option.some.inj eM25) ?_
    obtain rfl := Option.some.inj h
    exact fin _ _ d_m_learn_34
set_option maxHeartbeats 4000000 in
set_option maxRecDepth 20000 in
theorem w_m_follow_2 {X : Cx Me} {G : Gt} (ok : Ok X b_m_follow "RetryChainsModel") (hG : GM X G) (hXR : X.R = rm_m_follow) (hXn : X.nL = 3) {y1 : Int32}  {t : Me} (kx : ∀ e : Me, e = t → Wt X e 39 [(0, .ref (G.1 + 0)), (1, .int y1)] [])  : ∀ (n : Nat) (x : Int32 × Me), lp n (b_m_follow_2 y1) x = some t → Wt X x.2 2 [(0, .ref (G.1 + 0)), (1, .int y1), (2, .int x.1)] [] := by
  intro n x h
  refine lp_W (P := fun x => Wt X x.2 2 [(0, .ref (G.1 + 0)), (1, .int y1), (2, .int x.1)] []) (Z := fun t' => t' = t) (fun x r h hk hz => ?_) n x t h rfl
  unfold b_m_follow_2 at h
  refine r_iload_n (n := 3) rfl ok d_m_follow_2 rfl 2 rfl ?_
  refine r_aload_n (n := 4) rfl ok d_m_follow_3 rfl 0 rfl ?_
  refine g_MOD_v (n := 7) rfl ok hG  k_986 d_m_follow_4 ?_
  refine r_iconst (v := 1) (n := 8) rfl ok d_m_follow_7 (by decide) ?_
  refine al_V (n := 9) rfl ok hG  (show gin 1 600 by decide) d_m_follow_8 ?_
  refine r_icmp_ge (tgt := 39) (n := 12) rfl ok d_m_follow_9 (by decide) (fun c1 => ?_) (fun c1 => ?_)
  · replace h := if_p c1 h
    obtain rfl := Option.some.inj h
    exact r_sub [0, 1] rfl (show Wt X x.2 39 [(0, .ref (G.1 + 0)), (1, .int y1)] [] from kx _ (hz _ rfl))
  · replace h := if_n c1 h
    refine r_aload_n (n := 13) rfl ok d_m_follow_12 rfl 0 rfl ?_
    refine g_MOD_v (n := 16) rfl ok hG  k_986 d_m_follow_13 ?_
    refine r_iload_n (n := 17) rfl ok d_m_follow_16 rfl 1 rfl ?_
    refine r_iload_n (n := 18) rfl ok d_m_follow_17 rfl 2 rfl ?_
    obtain ⟨r2, hr2, h⟩ := bd_ok h
    refine r_callS (n := 21) rfl ok hG mf_m_pair k_1027 k_1026 (C_m_pair  hr2) ⟨rfl, rfl⟩ (rR hXR ⟨Nat.le_of_ble_eq_true rfl, Nat.le_of_ble_eq_true rfl⟩) rfl rfl (Nat.le_of_ble_eq_true rfl) d_m_follow_18 ?_
    refine r_iconst (v := 2) (n := 22) rfl ok d_m_follow_21 (by decide) ?_
    refine r_iadd (n := 23) rfl ok d_m_follow_22 ?_
    obtain ⟨g3, h⟩ := gd_ok h
    refine al_V (n := 24) rfl ok hG  g3 d_m_follow_23 ?_
    refine r_if_le (tgt := 33) (n := 27) rfl ok d_m_follow_24 (by decide) (fun c4 => ?_) (fun c4 => ?_)
    · replace h := if_p c4 h
      obtain ⟨x5, ex5, h⟩ := bd_ok h
      refine r_iinc (lv' := [(2, .int x5), (0, .ref (G.1 + 0)), (1, .int y1)]) (n := 36) rfl ok d_m_follow_33 2 rfl (Option.some.inj ex5) (lt_n hXn (Nat.le_of_ble_eq_true rfl)) rfl ?_
      refine r_goto (tgt := 2) ok d_m_follow_36 (by decide) ?_
      obtain rfl := Option.some.inj h
      exact r_sub [1, 2, 0] rfl (show Wt X x.2 2 [(0, .ref (G.1 + 0)), (1, .int y1), (2, .int x5)] [] from hk _ rfl)
    · replace h := if_n c4 h
      refine r_aload_n (n := 28) rfl ok d_m_follow_27 rfl 0 rfl ?_
      refine r_iload_n (n := 29) rfl ok d_m_follow_28 rfl 1 rfl ?_
      refine r_iload_n (n := 30) rfl ok d_m_follow_29 rfl 2 rfl ?_
      obtain ⟨r6, hr6, h⟩ := bd_ok h
      refine r_callV (n := 33) rfl ok hG mf_m_learn k_1286 ks_66 k_1284 (C_m_learn  hr6) ⟨rfl, rfl⟩ (rR hXR ⟨Nat.le_of_ble_eq_true rfl, Nat.le_of_ble_eq_true rfl⟩) rfl rfl (rv_MOD) rfl (Nat.le_of_ble_eq_true rfl) d_m_follow_30 ?_
      obtain ⟨x7, ex7, h⟩ := bd_ok h
      refine r_iinc (lv' := [(2, .int x7), (0, .ref (G.1 + 0)), (1, .int y1)]) (n := 36) rfl ok d_m_follow_33 2 rfl (Option.some.inj ex7) (lt_n hXn (Nat.le_of_ble_eq_true rfl)) rfl ?_
      refine r_goto (tgt := 2) ok d_m_follow_36 (by decide) ?_
      obtain rfl := Option.some.inj h
      exact r_sub [1, 2, 0] rfl (show Wt X r6 2 [(0, .ref (G.1 + 0)), (1, .int y1), (2, .int x7)] [] from hk _ rfl)
set_option maxHeartbeats 4000000 in
set_option maxRecDepth 20000 in
theorem C_m_follow {l : Launch} {G : Gt} {M : Me} {a1 : Int32}  {o : Me} (h : f_m_follow M a1 = some o) : Ct l G (WM G) (rM G) y_m_follow b_m_follow 3 none rm_m_follow [.ref (G.1 + 0), .int a1] M (none) o := by
  refine Ct.mk (own := "RetryChainsModel") rfl (by decide) (Nat.le_of_ble_eq_true rfl) rfl (fun X hXl hXR hXn ok hG fin => ?_)
  subst hXl
  unfold f_m_follow at h
  show Wt X M 0 [(0, .ref (G.1 + 0)), (1, .int a1)] []
  refine r_iconst (v := 0) (n := 1) rfl ok d_m_follow_0 (by decide) ?_
  refine r_istore_n (lv' := [(2, .int 0), (0, .ref (G.1 + 0)), (1, .int a1)]) (n := 2) rfl ok d_m_follow_1 rfl (lt_n hXn (Nat.le_of_ble_eq_true rfl)) rfl ?_
  obtain ⟨t8, ht8, h⟩ := bd_ok h
  refine r_sub [1, 2, 0] rfl (show Wt X M 2 [(0, .ref (G.1 + 0)), (1, .int a1), (2, .int 0)] [] from w_m_follow_2 ok hG hXR hXn  ?_ _ _ ht8)
  · intro e9 he
    subst he
    refine r_aload_n (n := 40) rfl ok d_m_follow_39 rfl 0 rfl ?_
    refine g_MOD_v (n := 43) rfl ok hG  k_986 d_m_follow_40 ?_
    refine r_iload_n (n := 44) rfl ok d_m_follow_43 rfl 1 rfl ?_
    obtain ⟨r10, hr10, h⟩ := bd_ok h
    refine r_callS (n := 47) rfl ok hG mf_m_side k_1034 k_1033 (C_m_side  hr10) ⟨rfl, rfl⟩ (rR hXR ⟨Nat.le_of_ble_eq_true rfl, Nat.le_of_ble_eq_true rfl⟩) rfl rfl (Nat.le_of_ble_eq_true rfl) d_m_follow_44 ?_
    refine r_iconst (v := 5) (n := 48) rfl ok d_m_follow_47 (by decide) ?_
    refine r_iadd (n := 49) rfl ok d_m_follow_48 ?_
    obtain ⟨g11, h⟩ := gd_ok h
    refine al_V (n := 50) rfl ok hG  g11 d_m_follow_49 ?_
    refine r_iconst (v := 1) (n := 51) rfl ok d_m_follow_50 (by decide) ?_
    refine r_icmp_ne (tgt := 74) (n := 54) rfl ok d_m_follow_51 (by decide) (fun c12 => ?_) (fun c12 => ?_)
    · replace h := if_n c12 h
      obtain rfl := Option.some.inj h
      exact fin _ _ d_m_follow_74
    · replace h := if_p c12 h
      refine r_aload_n (n := 55) rfl ok d_m_follow_54 rfl 0 rfl ?_
      refine g_MOD_v (n := 58) rfl ok hG  k_986 d_m_follow_55 ?_
      refine r_iload_n (n := 59) rfl ok d_m_follow_58 rfl 1 rfl ?_
      obtain ⟨r13, hr13, h⟩ := bd_ok h
      refine r_callS (n := 62) rfl ok hG mf_m_side k_1034 k_1033 (C_m_side  hr13) ⟨rfl, rfl⟩ (rR hXR ⟨Nat.le_of_ble_eq_true rfl, Nat.le_of_ble_eq_true rfl⟩) rfl rfl (Nat.le_of_ble_eq_true rfl) d_m_follow_59 ?_
      refine r_iconst (v := 5) (n := 63) rfl ok d_m_follow_62 (by decide) ?_
      refine r_iadd (n := 64) rfl ok d_m_follow_63 ?_
      refine r_iconst (v := 0) (n := 65) rfl ok d_m_follow_64 (by decide) ?_
      obtain ⟨g14, h⟩ := gd_ok h
      obtain ⟨M15, eM15, h⟩ := bd_ok h
      refine as_V (n := 66) rfl ok hG  g14 d_m_follow_65 ?_
      refine r_mem (Option.some.inj eM15) ?_
      refine r_aload_n (n := 67) rfl ok d_m_follow_66 rfl 0 rfl ?_
      refine r_iconst (v := 4) (n := 68) rfl ok d_m_follow_67 (by decide) ?_
      refine r_iload_n (n := 69) rfl ok d_m_follow_68 rfl 1 rfl ?_
      refine r_bipush (v := (-9)) (n := 71) rfl ok d_m_follow_69 (by decide) ?_
      obtain ⟨r16, hr16, h⟩ := bd_ok h
      refine r_callV (n := 74) rfl ok hG mf_m_log k_1253 ks_58 k_1251 (C_m_log  hr16) ⟨rfl, rfl⟩ (rR hXR ⟨Nat.le_of_ble_eq_true rfl, Nat.le_of_ble_eq_true rfl⟩) rfl rfl (rv_MOD) rfl (Nat.le_of_ble_eq_true rfl) d_m_follow_71 ?_
      obtain rfl := Option.some.inj h
      exact fin _ _ d_m_follow_74
set_option maxHeartbeats 4000000 in
set_option maxRecDepth 20000 in
theorem w_m_updates_25 {X : Cx Me} {G : Gt} (ok : Ok X b_m_updates "RetryChainsModel") (hG : GM X G) (hXR : X.R = rm_m_updates) (hXn : X.nL = 5) {y1 : Int32}  {t : Int32 × Me} (kx : ∀ e : Int32 × Me, e = t → Wt X e.2 88 [(0, .ref (G.1 + 0)), (1, .int y1), (2, .int e.1)] [])  : ∀ (n : Nat) (x : Int32 × Int32 × Me), lp n (b_m_updates_25 y1) x = some t → Wt X x.2.2 25 [(0, .ref (G.1 + 0)), (1, .int y1), (2, .int x.1), (3, .int x.2.1)] [] := by
  intro n x h
  refine lp_W (P := fun x => Wt X x.2.2 25 [(0, .ref (G.1 + 0)), (1, .int y1), (2, .int x.1), (3, .int x.2.1)] []) (Z := fun t' => t' = t) (fun x r h hk hz => ?_) n x t h rfl
  unfold b_m_updates_25 at h
  refine r_iload_n (n := 26) rfl ok d_m_updates_25 rfl 3 rfl ?_
  refine r_aload_n (n := 27) rfl ok d_m_updates_26 rfl 0 rfl ?_
  refine g_MOD_v (n := 30) rfl ok hG  k_986 d_m_updates_27 ?_
  refine r_iconst (v := 1) (n := 31) rfl ok d_m_updates_30 (by decide) ?_
  refine al_V (n := 32) rfl ok hG  (show gin 1 600 by decide) d_m_updates_31 ?_
  refine r_icmp_ge (tgt := 88) (n := 35) rfl ok d_m_updates_32 (by decide) (fun c4 => ?_) (fun c4 => ?_)
  · replace h := if_p c4 h
    obtain rfl := Option.some.inj h
    exact r_sub [0, 1, 2] rfl (show Wt X x.2.2 88 [(0, .ref (G.1 + 0)), (1, .int y1), (2, .int x.1)] [] from kx _ (hz _ rfl))
  · replace h := if_n c4 h
    refine r_iload_n (n := 36) rfl ok d_m_updates_35 rfl 1 rfl ?_
    refine r_iload_n (n := 37) rfl ok d_m_updates_36 rfl 3 rfl ?_
    obtain ⟨r5, hr5, h⟩ := bd_ok h
    refine r_callS (n := 40) rfl ok hG mf_m_pair k_1027 k_1026 (C_m_pair  hr5) ⟨rfl, rfl⟩ (rR hXR ⟨Nat.le_of_ble_eq_true rfl, Nat.le_of_ble_eq_true rfl⟩) rfl rfl (Nat.le_of_ble_eq_true rfl) d_m_updates_37 ?_
    refine r_istore (lv' := [(4, .int r5), (0, .ref (G.1 + 0)), (1, .int y1), (2, .int x.1), (3, .int x.2.1)]) (n := 42) rfl ok d_m_updates_40 (lt_n hXn (Nat.le_of_ble_eq_true rfl)) rfl ?_
    refine r_iload_n (n := 43) rfl ok d_m_updates_42 rfl 3 rfl ?_
    refine r_aload_n (n := 44) rfl ok d_m_updates_43 rfl 1 rfl ?_
    refine g_MOD_v (n := 47) rfl ok hG  k_986 d_m_updates_44 ?_
    refine r_iload (n := 49) rfl ok d_m_updates_47 0 rfl ?_
    refine r_iconst (v := 2) (n := 50) rfl ok d_m_updates_49 (by decide) ?_
    refine r_iadd (n := 51) rfl ok d_m_updates_50 ?_
    obtain ⟨g6, h⟩ := gd_ok h
    refine al_V (n := 52) rfl ok hG  g6 d_m_updates_51 ?_
    refine r_if_le (tgt := 59) (n := 55) rfl ok d_m_updates_52 (by decide) (fun c7 => ?_) (fun c7 => ?_)
    · replace h := if_p c7 h
      refine r_iconst (v := 0) (n := 60) rfl ok d_m_updates_59 (by decide) ?_
      refine r_iadd (n := 61) rfl ok d_m_updates_60 ?_
      obtain ⟨x8, ex8, h⟩ := bd_ok h
      refine r_ti (Option.some.inj ex8).symm ?_
      refine r_istore_n (lv' := [(2, .int x8), (4, .int r5), (0, .ref (G.1 + 0)), (1, .int y1), (3, .int x.2.1)]) (n := 62) rfl ok d_m_updates_61 rfl (lt_n hXn (Nat.le_of_ble_eq_true rfl)) rfl ?_
      refine r_aload_n (n := 63) rfl ok d_m_updates_62 rfl 2 rfl ?_
      refine g_MOD_v (n := 66) rfl ok hG  k_986 d_m_updates_63 ?_
      refine r_iload (n := 68) rfl ok d_m_updates_66 1 rfl ?_
      refine r_iconst (v := 2) (n := 69) rfl ok d_m_updates_68 (by decide) ?_
      refine r_iadd (n := 70) rfl ok d_m_updates_69 ?_
      refine r_iconst (v := 0) (n := 71) rfl ok d_m_updates_70 (by decide) ?_
      obtain ⟨g9, h⟩ := gd_ok h
      obtain ⟨M10, eM10, h⟩ := bd_ok h
      refine as_V (n := 72) rfl ok hG  g9 d_m_updates_71 ?_
      refine r_mem (Option.some.inj eM10) ?_
      refine r_aload_n (n := 73) rfl ok d_m_updates_72 rfl 2 rfl ?_
      refine g_MOD_v (n := 76) rfl ok hG  k_986 d_m_updates_73 ?_
      refine r_iload (n := 78) rfl ok d_m_updates_76 1 rfl ?_
      refine r_iconst (v := 3) (n := 79) rfl ok d_m_updates_78 (by decide) ?_
      refine r_iadd (n := 80) rfl ok d_m_updates_79 ?_
      refine r_iconst (v := 0) (n := 81) rfl ok d_m_updates_80 (by decide) ?_
      obtain ⟨g11, h⟩ := gd_ok h
      obtain ⟨M12, eM12, h⟩ := bd_ok h
      refine as_V (n := 82) rfl ok hG  g11 d_m_updates_81 ?_
      refine r_mem (Option.some.inj eM12) ?_
      obtain ⟨x13, ex13, h⟩ := bd_ok h
      refine r_iinc (lv' := [(3, .int x13), (2, .int x8), (4, .int r5), (0, .ref (G.1 + 0)), (1, .int y1)]) (n := 85) rfl ok d_m_updates_82 4 rfl (Option.some.inj ex13) (lt_n hXn (Nat.le_of_ble_eq_true rfl)) rfl ?_
      refine r_goto (tgt := 25) ok d_m_updates_85 (by decide) ?_
      obtain rfl := Option.some.inj h
      exact r_sub [3, 4, 1, 0] rfl (show Wt X M12 25 [(0, .ref (G.1 + 0)), (1, .int y1), (2, .int x8), (3, .int x13)] [] from hk _ rfl)
    · replace h := if_n c7 h
      refine r_iconst (v := 1) (n := 56) rfl ok d_m_updates_55 (by decide) ?_
      refine r_goto (tgt := 60) ok d_m_updates_56 (by decide) ?_
      refine r_iadd (n := 61) rfl ok d_m_updates_60 ?_
      obtain ⟨x14, ex14, h⟩ := bd_ok h
      refine r_ti (Option.some.inj ex14).symm ?_
      refine r_istore_n (lv' := [(2, .int x14), (4, .int r5), (0, .ref (G.1 + 0)), (1, .int y1), (3, .int x.2.1)]) (n := 62) rfl ok d_m_updates_61 rfl (lt_n hXn (Nat.le_of_ble_eq_true rfl)) rfl ?_
      refine r_aload_n (n := 63) rfl ok d_m_updates_62 rfl 2 rfl ?_
      refine g_MOD_v (n := 66) rfl ok hG  k_986 d_m_updates_63 ?_
      refine r_iload (n := 68) rfl ok d_m_updates_66 1 rfl ?_
      refine r_iconst (v := 2) (n := 69) rfl ok d_m_updates_68 (by decide) ?_
      refine r_iadd (n := 70) rfl ok d_m_updates_69 ?_
      refine r_iconst (v := 0) (n := 71) rfl ok d_m_updates_70 (by decide) ?_
      obtain ⟨g15, h⟩ := gd_ok h
      obtain ⟨M16, eM16, h⟩ := bd_ok h
      refine as_V (n := 72) rfl ok hG  g15 d_m_updates_71 ?_
      refine r_mem (Option.some.inj eM16) ?_
      refine r_aload_n (n := 73) rfl ok d_m_updates_72 rfl 2 rfl ?_
      refine g_MOD_v (n := 76) rfl ok hG  k_986 d_m_updates_73 ?_
      refine r_iload (n := 78) rfl ok d_m_updates_76 1 rfl ?_
      refine r_iconst (v := 3) (n := 79) rfl ok d_m_updates_78 (by decide) ?_
      refine r_iadd (n := 80) rfl ok d_m_updates_79 ?_
      refine r_iconst (v := 0) (n := 81) rfl ok d_m_updates_80 (by decide) ?_
      obtain ⟨g17, h⟩ := gd_ok h
      obtain ⟨M18, eM18, h⟩ := bd_ok h
      refine as_V (n := 82) rfl ok hG  g17 d_m_updates_81 ?_
      refine r_mem (Option.some.inj eM18) ?_
      obtain ⟨x19, ex19, h⟩ := bd_ok h
      refine r_iinc (lv' := [(3, .int x19), (2, .int x14), (4, .int r5), (0, .ref (G.1 + 0)), (1, .int y1)]) (n := 85) rfl ok d_m_updates_82 4 rfl (Option.some.inj ex19) (lt_n hXn (Nat.le_of_ble_eq_true rfl)) rfl ?_
      refine r_goto (tgt := 25) ok d_m_updates_85 (by decide) ?_
      obtain rfl := Option.some.inj h
      exact r_sub [3, 4, 1, 0] rfl (show Wt X M18 25 [(0, .ref (G.1 + 0)), (1, .int y1), (2, .int x14), (3, .int x19)] [] from hk _ rfl)
set_option maxHeartbeats 4000000 in
set_option maxRecDepth 20000 in
theorem wj_m_updates_23 {X : Cx Me} {G : Gt} (ok : Ok X b_m_updates "RetryChainsModel") (hG : GM X G) (hXR : X.R = rm_m_updates) (hXn : X.nL = 5) {M : Me} {y1 : Int32} {y2 : Int32}  {o : Int32 × Me} (fin : Fin X b_m_updates (some .int) (some (.int o.1)) o.2) (h : j_m_updates_23 M y1 y2 = some o) : Wt X M 23 [(0, .ref (G.1 + 0)), (1, .int y1), (2, .int y2)] [] := by
  unfold j_m_updates_23 at h
  refine r_iconst (v := 0) (n := 24) rfl ok d_m_updates_23 (by decide) ?_
  refine r_istore_n (lv' := [(3, .int 0), (0, .ref (G.1 + 0)), (1, .int y1), (2, .int y2)]) (n := 25) rfl ok d_m_updates_24 rfl (lt_n hXn (Nat.le_of_ble_eq_true rfl)) rfl ?_
  obtain ⟨t20, ht20, h⟩ := bd_ok h
  refine r_sub [1, 2, 3, 0] rfl (show Wt X M 25 [(0, .ref (G.1 + 0)), (1, .int y1), (2, .int y2), (3, .int 0)] [] from w_m_updates_25 ok hG hXR hXn  ?_ _ _ ht20)
  · intro e21 he
    subst he
    refine r_aload_n (n := 89) rfl ok d_m_updates_88 rfl 0 rfl ?_
    refine g_MOD_v (n := 92) rfl ok hG  k_986 d_m_updates_89 ?_
    refine r_iload_n (n := 93) rfl ok d_m_updates_92 rfl 1 rfl ?_
    obtain ⟨r22, hr22, h⟩ := bd_ok h
    refine r_callS (n := 96) rfl ok hG mf_m_side k_1034 k_1033 (C_m_side  hr22) ⟨rfl, rfl⟩ (rR hXR ⟨Nat.le_of_ble_eq_true rfl, Nat.le_of_ble_eq_true rfl⟩) rfl rfl (Nat.le_of_ble_eq_true rfl) d_m_updates_93 ?_
    refine r_iconst (v := 4) (n := 97) rfl ok d_m_updates_96 (by decide) ?_
    refine r_iadd (n := 98) rfl ok d_m_updates_97 ?_
    refine r_iconst (v := 0) (n := 99) rfl ok d_m_updates_98 (by decide) ?_
    obtain ⟨g23, h⟩ := gd_ok h
    obtain ⟨M24, eM24, h⟩ := bd_ok h
    refine as_V (n := 100) rfl ok hG  g23 d_m_updates_99 ?_
    refine r_mem (Option.some.inj eM24) ?_
    refine r_aload_n (n := 101) rfl ok d_m_updates_100 rfl 0 rfl ?_
    refine g_MOD_v (n := 104) rfl ok hG  k_986 d_m_updates_101 ?_
    refine r_iload_n (n := 105) rfl ok d_m_updates_104 rfl 1 rfl ?_
    obtain ⟨r25, hr25, h⟩ := bd_ok h
    refine r_callS (n := 108) rfl ok hG mf_m_side k_1034 k_1033 (C_m_side  hr25) ⟨rfl, rfl⟩ (rR hXR ⟨Nat.le_of_ble_eq_true rfl, Nat.le_of_ble_eq_true rfl⟩) rfl rfl (Nat.le_of_ble_eq_true rfl) d_m_updates_105 ?_
    refine r_bipush (v := 18) (n := 110) rfl ok d_m_updates_108 (by decide) ?_
    refine r_iadd (n := 111) rfl ok d_m_updates_110 ?_
    obtain ⟨g26, h⟩ := gd_ok h
    refine al_V (n := 112) rfl ok hG  g26 d_m_updates_111 ?_
    refine r_istore_n (lv' := [(3, .int (M24.1 100 0 0 (tN (r25 + (18 : Int32))))), (0, .ref (G.1 + 0)), (1, .int y1), (2, .int e21.1)]) (n := 113) rfl ok d_m_updates_112 rfl (lt_n hXn (Nat.le_of_ble_eq_true rfl)) rfl ?_
    refine r_aload_n (n := 114) rfl ok d_m_updates_113 rfl 1 rfl ?_
    refine r_iload_n (n := 115) rfl ok d_m_updates_114 rfl 2 rfl ?_
    obtain ⟨r27, hr27, h⟩ := bd_ok h
    refine r_callV (n := 118) rfl ok hG mf_m_fillRoles k_1031 ks_17 k_1029 (C_m_fillRoles  hr27) ⟨rfl, rfl⟩ (rR hXR ⟨Nat.le_of_ble_eq_true rfl, Nat.le_of_ble_eq_true rfl⟩) rfl rfl (rv_MOD) rfl (Nat.le_of_ble_eq_true rfl) d_m_updates_115 ?_
    refine r_aload_n (n := 119) rfl ok d_m_updates_118 rfl 1 rfl ?_
    refine g_MOD_v (n := 122) rfl ok hG  k_986 d_m_updates_119 ?_
    refine r_iload_n (n := 123) rfl ok d_m_updates_122 rfl 2 rfl ?_
    obtain ⟨r28, hr28, h⟩ := bd_ok h
    refine r_callS (n := 126) rfl ok hG mf_m_side k_1034 k_1033 (C_m_side  hr28) ⟨rfl, rfl⟩ (rR hXR ⟨Nat.le_of_ble_eq_true rfl, Nat.le_of_ble_eq_true rfl⟩) rfl rfl (Nat.le_of_ble_eq_true rfl) d_m_updates_123 ?_
    refine r_bipush (v := 18) (n := 128) rfl ok d_m_updates_126 (by decide) ?_
    refine r_iadd (n := 129) rfl ok d_m_updates_128 ?_
    obtain ⟨g29, h⟩ := gd_ok h
    refine al_V (n := 130) rfl ok hG  g29 d_m_updates_129 ?_
    refine r_iload_n (n := 131) rfl ok d_m_updates_130 rfl 0 rfl ?_
    refine r_icmp_eq (tgt := 152) (n := 134) rfl ok d_m_updates_131 (by decide) (fun c30 => ?_) (fun c30 => ?_)
    · replace h := if_p c30 h
      refine r_aload_n (n := 153) rfl ok d_m_updates_152 rfl 1 rfl ?_
      refine g_MOD_v (n := 156) rfl ok hG  k_986 d_m_updates_153 ?_
      refine r_iload_n (n := 157) rfl ok d_m_updates_156 rfl 2 rfl ?_
      obtain ⟨r31, hr31, h⟩ := bd_ok h
      refine r_callS (n := 160) rfl ok hG mf_m_side k_1034 k_1033 (C_m_side  hr31) ⟨rfl, rfl⟩ (rR hXR ⟨Nat.le_of_ble_eq_true rfl, Nat.le_of_ble_eq_true rfl⟩) rfl rfl (Nat.le_of_ble_eq_true rfl) d_m_updates_157 ?_
      refine r_bipush (v := 16) (n := 162) rfl ok d_m_updates_160 (by decide) ?_
      refine r_iadd (n := 163) rfl ok d_m_updates_162 ?_
      refine r_aload_n (n := 164) rfl ok d_m_updates_163 rfl 1 rfl ?_
      obtain ⟨r32, hr32, h⟩ := bd_ok h
      refine r_callV (n := 167) rfl ok hG mf_m_endFromNow k_1083 ks_27 k_1081 (C_m_endFromNow  hr32) ⟨rfl, rfl⟩ (rR hXR ⟨Nat.le_of_ble_eq_true rfl, Nat.le_of_ble_eq_true rfl⟩) rfl rfl (rv_MOD) rfl (Nat.le_of_ble_eq_true rfl) d_m_updates_164 ?_
      obtain ⟨g33, h⟩ := gd_ok h
      obtain ⟨M34, eM34, h⟩ := bd_ok h
      refine as_V (n := 168) rfl ok hG  g33 d_m_updates_167 ?_
      refine r_mem (Option.some.inj eM34) ?_
      refine r_iload_n (n := 169) rfl ok d_m_updates_168 rfl 3 rfl ?_
      obtain rfl := Option.some.inj h
      exact fin _ _ ⟨.int, rfl, rfl⟩ d_m_updates_169
    · replace h := if_n c30 h
      refine r_aload_n (n := 135) rfl ok d_m_updates_134 rfl 1 rfl ?_
      refine r_iconst (v := 5) (n := 136) rfl ok d_m_updates_135 (by decide) ?_
      refine r_iload_n (n := 137) rfl ok d_m_updates_136 rfl 2 rfl ?_
      refine r_aload_n (n := 138) rfl ok d_m_updates_137 rfl 1 rfl ?_
      refine g_MOD_v (n := 141) rfl ok hG  k_986 d_m_updates_138 ?_
      refine r_iload_n (n := 142) rfl ok d_m_updates_141 rfl 2 rfl ?_
      obtain ⟨r35, hr35, h⟩ := bd_ok h
      refine r_callS (n := 145) rfl ok hG mf_m_side k_1034 k_1033 (C_m_side  hr35) ⟨rfl, rfl⟩ (rR hXR ⟨Nat.le_of_ble_eq_true rfl, Nat.le_of_ble_eq_true rfl⟩) rfl rfl (Nat.le_of_ble_eq_true rfl) d_m_updates_142 ?_
      refine r_bipush (v := 18) (n := 147) rfl ok d_m_updates_145 (by decide) ?_
      refine r_iadd (n := 148) rfl ok d_m_updates_147 ?_
      obtain ⟨g36, h⟩ := gd_ok h
      refine al_V (n := 149) rfl ok hG  g36 d_m_updates_148 ?_
      obtain ⟨r37, hr37, h⟩ := bd_ok h
      refine r_callV (n := 152) rfl ok hG mf_m_log k_1253 ks_58 k_1251 (C_m_log  hr37) ⟨rfl, rfl⟩ (rR hXR ⟨Nat.le_of_ble_eq_true rfl, Nat.le_of_ble_eq_true rfl⟩) rfl rfl (rv_MOD) rfl (Nat.le_of_ble_eq_true rfl) d_m_updates_149 ?_
      refine r_aload_n (n := 153) rfl ok d_m_updates_152 rfl 1 rfl ?_
      refine g_MOD_v (n := 156) rfl ok hG  k_986 d_m_updates_153 ?_
      refine r_iload_n (n := 157) rfl ok d_m_updates_156 rfl 2 rfl ?_
      obtain ⟨r38, hr38, h⟩ := bd_ok h
      refine r_callS (n := 160) rfl ok hG mf_m_side k_1034 k_1033 (C_m_side  hr38) ⟨rfl, rfl⟩ (rR hXR ⟨Nat.le_of_ble_eq_true rfl, Nat.le_of_ble_eq_true rfl⟩) rfl rfl (Nat.le_of_ble_eq_true rfl) d_m_updates_157 ?_
      refine r_bipush (v := 16) (n := 162) rfl ok d_m_updates_160 (by decide) ?_
      refine r_iadd (n := 163) rfl ok d_m_updates_162 ?_
      refine r_aload_n (n := 164) rfl ok d_m_updates_163 rfl 1 rfl ?_
      obtain ⟨r39, hr39, h⟩ := bd_ok h
      refine r_callV (n := 167) rfl ok hG mf_m_endFromNow k_1083 ks_27 k_1081 (C_m_endFromNow  hr39) ⟨rfl, rfl⟩ (rR hXR ⟨Nat.le_of_ble_eq_true rfl, Nat.le_of_ble_eq_true rfl⟩) rfl rfl (rv_MOD) rfl (Nat.le_of_ble_eq_true rfl) d_m_updates_164 ?_
      obtain ⟨g40, h⟩ := gd_ok h
      obtain ⟨M41, eM41, h⟩ := bd_ok h
      refine as_V (n := 168) rfl ok hG  g40 d_m_updates_167 ?_
      refine r_mem (Option.some.inj eM41) ?_
      refine r_iload_n (n := 169) rfl ok d_m_updates_168 rfl 3 rfl ?_
      obtain rfl := Option.some.inj h
      exact fin _ _ ⟨.int, rfl, rfl⟩ d_m_updates_169
set_option maxHeartbeats 4000000 in
set_option maxRecDepth 20000 in
theorem C_m_updates {l : Launch} {G : Gt} {M : Me} {a1 : Int32}  {o : Int32 × Me} (h : f_m_updates M a1 = some o) : Ct l G (WM G) (rM G) y_m_updates b_m_updates 5 (some .int) rm_m_updates [.ref (G.1 + 0), .int a1] M (some (.int o.1)) o.2 := by
  refine Ct.mk (own := "RetryChainsModel") rfl (by decide) (Nat.le_of_ble_eq_true rfl) ⟨_, rfl⟩ (fun X hXl hXR hXn ok hG fin => ?_)
  subst hXl
  unfold f_m_updates at h
  show Wt X M 0 [(0, .ref (G.1 + 0)), (1, .int a1)] []
  refine r_iconst (v := 0) (n := 1) rfl ok d_m_updates_0 (by decide) ?_
  refine r_istore_n (lv' := [(2, .int 0), (0, .ref (G.1 + 0)), (1, .int a1)]) (n := 2) rfl ok d_m_updates_1 rfl (lt_n hXn (Nat.le_of_ble_eq_true rfl)) rfl ?_
  refine r_aload_n (n := 3) rfl ok d_m_updates_2 rfl 1 rfl ?_
  refine r_iload_n (n := 4) rfl ok d_m_updates_3 rfl 2 rfl ?_
  obtain ⟨r1, hr1, h⟩ := bd_ok h
  refine r_callV (n := 7) rfl ok hG mf_m_collapses k_1265 ks_61 k_1263 (C_m_collapses  hr1) ⟨rfl, rfl⟩ (rR hXR ⟨Nat.le_of_ble_eq_true rfl, Nat.le_of_ble_eq_true rfl⟩) rfl rfl (rv_MOD) rfl (Nat.le_of_ble_eq_true rfl) d_m_updates_4 ?_
  refine r_if_eq (tgt := 18) (n := 10) rfl ok d_m_updates_7 (by decide) (fun c2 => ?_) (fun c2 => ?_)
  · replace h := if_p c2 h
    refine r_aload_n (n := 19) rfl ok d_m_updates_18 rfl 1 rfl ?_
    refine r_iload_n (n := 20) rfl ok d_m_updates_19 rfl 2 rfl ?_
    obtain ⟨r3, hr3, h⟩ := bd_ok h
    refine r_callV (n := 23) rfl ok hG mf_m_follow k_1282 ks_65 k_1280 (C_m_follow  hr3) ⟨rfl, rfl⟩ (rR hXR ⟨Nat.le_of_ble_eq_true rfl, Nat.le_of_ble_eq_true rfl⟩) rfl rfl (rv_MOD) rfl (Nat.le_of_ble_eq_true rfl) d_m_updates_20 ?_
    exact r_sub [1, 2, 0] rfl (wj_m_updates_23 ok hG hXR hXn  fin h)
  · replace h := if_n c2 h
    refine r_aload_n (n := 11) rfl ok d_m_updates_10 rfl 1 rfl ?_
    refine r_iload_n (n := 12) rfl ok d_m_updates_11 rfl 2 rfl ?_
    obtain ⟨r42, hr42, h⟩ := bd_ok h
    refine r_callV (n := 15) rfl ok hG mf_m_collapse k_1278 ks_64 k_1276 (C_m_collapse  hr42) ⟨rfl, rfl⟩ (rR hXR ⟨Nat.le_of_ble_eq_true rfl, Nat.le_of_ble_eq_true rfl⟩) rfl rfl (rv_MOD) rfl (Nat.le_of_ble_eq_true rfl) d_m_updates_12 ?_
    refine r_goto (tgt := 23) ok d_m_updates_15 (by decide) ?_
    exact r_sub [1, 2, 0] rfl (wj_m_updates_23 ok hG hXR hXn  fin h)
set_option maxHeartbeats 4000000 in
set_option maxRecDepth 20000 in
theorem w_m_updatesDue_2 {X : Cx Me} {G : Gt} (ok : Ok X b_m_updatesDue "RetryChainsModel") (hG : GM X G) (hXR : X.R = rm_m_updatesDue) (hXn : X.nL = 4)   {t : Me} (kx : ∀ e : Me, e = t → Wt X e 53 [] [])  : ∀ (n : Nat) (x : Int32 × Me), lp n b_m_updatesDue_2 x = some t → Wt X x.2 2 [(0, .ref (G.1 + 0)), (1, .int x.1)] [] := by
  intro n x h
  refine lp_W (P := fun x => Wt X x.2 2 [(0, .ref (G.1 + 0)), (1, .int x.1)] []) (Z := fun t' => t' = t) (fun x r h hk hz => ?_) n x t h rfl
  unfold b_m_updatesDue_2 at h
  refine r_iload_n (n := 3) rfl ok d_m_updatesDue_2 rfl 1 rfl ?_
  refine r_aload_n (n := 4) rfl ok d_m_updatesDue_3 rfl 0 rfl ?_
  refine g_MOD_v (n := 7) rfl ok hG  k_986 d_m_updatesDue_4 ?_
  refine r_iconst (v := 2) (n := 8) rfl ok d_m_updatesDue_7 (by decide) ?_
  refine al_V (n := 9) rfl ok hG  (show gin 2 600 by decide) d_m_updatesDue_8 ?_
  refine r_icmp_ge (tgt := 53) (n := 12) rfl ok d_m_updatesDue_9 (by decide) (fun c1 => ?_) (fun c1 => ?_)
  · replace h := if_p c1 h
    obtain rfl := Option.some.inj h
    exact r_sub [] rfl (show Wt X x.2 53 [] [] from kx _ (hz _ rfl))
  · replace h := if_n c1 h
    refine r_aload_n (n := 13) rfl ok d_m_updatesDue_12 rfl 0 rfl ?_
    refine g_MOD_v (n := 16) rfl ok hG  k_986 d_m_updatesDue_13 ?_
    refine r_iload_n (n := 17) rfl ok d_m_updatesDue_16 rfl 1 rfl ?_
    obtain ⟨r2, hr2, h⟩ := bd_ok h
    refine r_callS (n := 20) rfl ok hG mf_m_side k_1034 k_1033 (C_m_side  hr2) ⟨rfl, rfl⟩ (rR hXR ⟨Nat.le_of_ble_eq_true rfl, Nat.le_of_ble_eq_true rfl⟩) rfl rfl (Nat.le_of_ble_eq_true rfl) d_m_updatesDue_17 ?_
    refine r_bipush (v := 16) (n := 22) rfl ok d_m_updatesDue_20 (by decide) ?_
    refine r_iadd (n := 23) rfl ok d_m_updatesDue_22 ?_
    obtain ⟨g3, h⟩ := gd_ok h
    refine al_V (n := 24) rfl ok hG  g3 d_m_updatesDue_23 ?_
    refine r_istore_n (lv' := [(2, .int (x.2.1 100 0 0 (tN (r2 + (16 : Int32))))), (0, .ref (G.1 + 0)), (1, .int x.1)]) (n := 25) rfl ok d_m_updatesDue_24 rfl (lt_n hXn (Nat.le_of_ble_eq_true rfl)) rfl ?_
    refine r_iload_n (n := 26) rfl ok d_m_updatesDue_25 rfl 0 rfl ?_
    refine r_bipush (v := (-9)) (n := 28) rfl ok d_m_updatesDue_26 (by decide) ?_
    refine r_icmp_eq (tgt := 47) (n := 31) rfl ok d_m_updatesDue_28 (by decide) (fun c4 => ?_) (fun c4 => ?_)
    · replace h := if_p c4 h
      obtain ⟨x5, ex5, h⟩ := bd_ok h
      refine r_iinc (lv' := [(1, .int x5), (2, .int (x.2.1 100 0 0 (tN (r2 + (16 : Int32))))), (0, .ref (G.1 + 0))]) (n := 50) rfl ok d_m_updatesDue_47 2 rfl (Option.some.inj ex5) (lt_n hXn (Nat.le_of_ble_eq_true rfl)) rfl ?_
      refine r_goto (tgt := 2) ok d_m_updatesDue_50 (by decide) ?_
      obtain rfl := Option.some.inj h
      exact r_sub [2, 0] rfl (show Wt X x.2 2 [(0, .ref (G.1 + 0)), (1, .int x5)] [] from hk _ rfl)
    · replace h := if_n c4 h
      refine r_iload_n (n := 32) rfl ok d_m_updatesDue_31 rfl 0 rfl ?_
      refine r_aload_n (n := 33) rfl ok d_m_updatesDue_32 rfl 1 rfl ?_
      refine g_MOD_v (n := 36) rfl ok hG  k_986 d_m_updatesDue_33 ?_
      refine r_iconst (v := 0) (n := 37) rfl ok d_m_updatesDue_36 (by decide) ?_
      refine al_V (n := 38) rfl ok hG  (show gin 0 600 by decide) d_m_updatesDue_37 ?_
      refine r_icmp_gt (tgt := 47) (n := 41) rfl ok d_m_updatesDue_38 (by decide) (fun c6 => ?_) (fun c6 => ?_)
      · replace h := if_p c6 h
        obtain ⟨x7, ex7, h⟩ := bd_ok h
        refine r_iinc (lv' := [(1, .int x7), (2, .int (x.2.1 100 0 0 (tN (r2 + (16 : Int32))))), (0, .ref (G.1 + 0))]) (n := 50) rfl ok d_m_updatesDue_47 2 rfl (Option.some.inj ex7) (lt_n hXn (Nat.le_of_ble_eq_true rfl)) rfl ?_
        refine r_goto (tgt := 2) ok d_m_updatesDue_50 (by decide) ?_
        obtain rfl := Option.some.inj h
        exact r_sub [2, 0] rfl (show Wt X x.2 2 [(0, .ref (G.1 + 0)), (1, .int x7)] [] from hk _ rfl)
      · replace h := if_n c6 h
        refine r_aload_n (n := 42) rfl ok d_m_updatesDue_41 rfl 1 rfl ?_
        refine r_iload_n (n := 43) rfl ok d_m_updatesDue_42 rfl 2 rfl ?_
        obtain ⟨r8, hr8, h⟩ := bd_ok h
        refine r_callV (n := 46) rfl ok hG mf_m_updates k_1261 ks_60 k_1259 (C_m_updates  hr8) ⟨rfl, rfl⟩ (rR hXR ⟨Nat.le_of_ble_eq_true rfl, Nat.le_of_ble_eq_true rfl⟩) rfl rfl (rv_MOD) rfl (Nat.le_of_ble_eq_true rfl) d_m_updatesDue_43 ?_
        refine r_istore_n (lv' := [(3, .int r8.1), (2, .int (x.2.1 100 0 0 (tN (r2 + (16 : Int32))))), (0, .ref (G.1 + 0)), (1, .int x.1)]) (n := 47) rfl ok d_m_updatesDue_46 rfl (lt_n hXn (Nat.le_of_ble_eq_true rfl)) rfl ?_
        obtain ⟨x9, ex9, h⟩ := bd_ok h
        refine r_iinc (lv' := [(1, .int x9), (3, .int r8.1), (2, .int (x.2.1 100 0 0 (tN (r2 + (16 : Int32))))), (0, .ref (G.1 + 0))]) (n := 50) rfl ok d_m_updatesDue_47 3 rfl (Option.some.inj ex9) (lt_n hXn (Nat.le_of_ble_eq_true rfl)) rfl ?_
        refine r_goto (tgt := 2) ok d_m_updatesDue_50 (by decide) ?_
        obtain rfl := Option.some.inj h
        exact r_sub [3, 0] rfl (show Wt X r8.2 2 [(0, .ref (G.1 + 0)), (1, .int x9)] [] from hk _ rfl)
set_option maxHeartbeats 4000000 in
set_option maxRecDepth 20000 in
theorem C_m_updatesDue {l : Launch} {G : Gt} {M : Me}   {o : Me} (h : f_m_updatesDue M = some o) : Ct l G (WM G) (rM G) y_m_updatesDue b_m_updatesDue 4 none rm_m_updatesDue [.ref (G.1 + 0)] M (none) o := by
  refine Ct.mk (own := "RetryChainsModel") rfl (by decide) (Nat.le_of_ble_eq_true rfl) rfl (fun X hXl hXR hXn ok hG fin => ?_)
  subst hXl
  unfold f_m_updatesDue at h
  show Wt X M 0 [(0, .ref (G.1 + 0))] []
  refine r_iconst (v := 0) (n := 1) rfl ok d_m_updatesDue_0 (by decide) ?_
  refine r_istore_n (lv' := [(1, .int 0), (0, .ref (G.1 + 0))]) (n := 2) rfl ok d_m_updatesDue_1 rfl (lt_n hXn (Nat.le_of_ble_eq_true rfl)) rfl ?_
  obtain ⟨t10, ht10, h⟩ := bd_ok h
  refine r_sub [1, 0] rfl (show Wt X M 2 [(0, .ref (G.1 + 0)), (1, .int 0)] [] from w_m_updatesDue_2 ok hG hXR hXn  ?_ _ _ ht10)
  · intro e11 he
    subst he
    obtain rfl := Option.some.inj h
    exact fin _ _ d_m_updatesDue_53
set_option maxHeartbeats 4000000 in
set_option maxRecDepth 20000 in
theorem C_m_begins {l : Launch} {G : Gt} {M : Me} {a1 : Int32} {a2 : Int32}  {o : Me} (h : f_m_begins M a1 a2 = some o) : Ct l G (WM G) (rM G) y_m_begins b_m_begins 4 none rm_m_begins [.ref (G.1 + 0), .int a1, .int a2] M (none) o := by
  refine Ct.mk (own := "RetryChainsModel") rfl (by decide) (Nat.le_of_ble_eq_true rfl) rfl (fun X hXl hXR hXn ok hG fin => ?_)
  subst hXl
  unfold f_m_begins at h
  show Wt X M 0 [(0, .ref (G.1 + 0)), (1, .int a1), (2, .int a2)] []
  refine r_iload_n (n := 1) rfl ok d_m_begins_0 rfl 1 rfl ?_
  refine r_iload_n (n := 2) rfl ok d_m_begins_1 rfl 2 rfl ?_
  obtain ⟨r1, hr1, h⟩ := bd_ok h
  refine r_callS (n := 5) rfl ok hG mf_m_pair k_1027 k_1026 (C_m_pair  hr1) ⟨rfl, rfl⟩ (rR hXR ⟨Nat.le_of_ble_eq_true rfl, Nat.le_of_ble_eq_true rfl⟩) rfl rfl (Nat.le_of_ble_eq_true rfl) d_m_begins_2 ?_
  refine r_istore_n (lv' := [(3, .int r1), (0, .ref (G.1 + 0)), (1, .int a1), (2, .int a2)]) (n := 6) rfl ok d_m_begins_5 rfl (lt_n hXn (Nat.le_of_ble_eq_true rfl)) rfl ?_
  refine r_aload_n (n := 7) rfl ok d_m_begins_6 rfl 1 rfl ?_
  refine g_MOD_v (n := 10) rfl ok hG  k_986 d_m_begins_7 ?_
  refine r_iload_n (n := 11) rfl ok d_m_begins_10 rfl 0 rfl ?_
  refine r_iconst (v := 0) (n := 12) rfl ok d_m_begins_11 (by decide) ?_
  refine r_iadd (n := 13) rfl ok d_m_begins_12 ?_
  refine r_iconst (v := 1) (n := 14) rfl ok d_m_begins_13 (by decide) ?_
  obtain ⟨g2, h⟩ := gd_ok h
  obtain ⟨M3, eM3, h⟩ := bd_ok h
  refine as_V (n := 15) rfl ok hG  g2 d_m_begins_14 ?_
  refine r_mem (Option.some.inj eM3) ?_
  refine r_aload_n (n := 16) rfl ok d_m_begins_15 rfl 1 rfl ?_
  refine g_MOD_v (n := 19) rfl ok hG  k_986 d_m_begins_16 ?_
  refine r_iload_n (n := 20) rfl ok d_m_begins_19 rfl 0 rfl ?_
  refine r_iconst (v := 1) (n := 21) rfl ok d_m_begins_20 (by decide) ?_
  refine r_iadd (n := 22) rfl ok d_m_begins_21 ?_
  refine r_iconst (v := (-1)) (n := 23) rfl ok d_m_begins_22 (by decide) ?_
  obtain ⟨g4, h⟩ := gd_ok h
  obtain ⟨M5, eM5, h⟩ := bd_ok h
  refine as_V (n := 24) rfl ok hG  g4 d_m_begins_23 ?_
  refine r_mem (Option.some.inj eM5) ?_
  refine r_aload_n (n := 25) rfl ok d_m_begins_24 rfl 1 rfl ?_
  refine g_MOD_v (n := 28) rfl ok hG  k_986 d_m_begins_25 ?_
  refine r_iload_n (n := 29) rfl ok d_m_begins_28 rfl 0 rfl ?_
  refine r_bipush (v := 7) (n := 31) rfl ok d_m_begins_29 (by decide) ?_
  refine r_iadd (n := 32) rfl ok d_m_begins_31 ?_
  refine r_sipush (v := 500) (n := 35) rfl ok d_m_begins_32 (by decide) ?_
  obtain ⟨g6, h⟩ := gd_ok h
  obtain ⟨M7, eM7, h⟩ := bd_ok h
  refine as_V (n := 36) rfl ok hG  g6 d_m_begins_35 ?_
  refine r_mem (Option.some.inj eM7) ?_
  obtain rfl := Option.some.inj h
  exact fin _ _ d_m_begins_36
set_option maxHeartbeats 4000000 in
set_option maxRecDepth 20000 in
theorem w_m_addRate_81 {X : Cx Me} {G : Gt} (ok : Ok X b_m_addRate "RetryChainsModel") (hG : GM X G) (hXR : X.R = rm_m_addRate) (hXn : X.nL = 5) {y3 : Int32}  {t : Me} (kx : ∀ e : Me, e = t → Wt X e 111 [(3, .int y3)] [])  : ∀ (n : Nat) (x : Int32 × Me), lp n (b_m_addRate_81 y3) x = some t → Wt X x.2 81 [(0, .ref (G.1 + 0)), (3, .int y3), (4, .int x.1)] [] := by
  intro n x h
  refine lp_W (P := fun x => Wt X x.2 81 [(0, .ref (G.1 + 0)), (3, .int y3), (4, .int x.1)] []) (Z := fun t' => t' = t) (fun x r h hk hz => ?_) n x t h rfl
  unfold b_m_addRate_81 at h
  refine r_iload (n := 83) rfl ok d_m_addRate_81 2 rfl ?_
  refine r_aload_n (n := 84) rfl ok d_m_addRate_83 rfl 0 rfl ?_
  refine g_MOD_v (n := 87) rfl ok hG  k_986 d_m_addRate_84 ?_
  refine r_iconst (v := 2) (n := 88) rfl ok d_m_addRate_87 (by decide) ?_
  refine al_V (n := 89) rfl ok hG  (show gin 2 600 by decide) d_m_addRate_88 ?_
  refine r_icmp_ge (tgt := 111) (n := 92) rfl ok d_m_addRate_89 (by decide) (fun c12 => ?_) (fun c12 => ?_)
  · replace h := if_p c12 h
    obtain rfl := Option.some.inj h
    exact r_sub [1] rfl (show Wt X x.2 111 [(3, .int y3)] [] from kx _ (hz _ rfl))
  · replace h := if_n c12 h
    refine r_aload_n (n := 93) rfl ok d_m_addRate_92 rfl 0 rfl ?_
    refine r_iload (n := 95) rfl ok d_m_addRate_93 2 rfl ?_
    refine r_iload_n (n := 96) rfl ok d_m_addRate_95 rfl 1 rfl ?_
    obtain ⟨r13, hr13, h⟩ := bd_ok h
    refine r_callV (n := 99) rfl ok hG mf_m_begins k_1024 ks_16 k_1022 (C_m_begins  hr13) ⟨rfl, rfl⟩ (rR hXR ⟨Nat.le_of_ble_eq_true rfl, Nat.le_of_ble_eq_true rfl⟩) rfl rfl (rv_MOD) rfl (Nat.le_of_ble_eq_true rfl) d_m_addRate_96 ?_
    refine r_aload_n (n := 100) rfl ok d_m_addRate_99 rfl 0 rfl ?_
    refine r_iload (n := 102) rfl ok d_m_addRate_100 2 rfl ?_
    obtain ⟨r14, hr14, h⟩ := bd_ok h
    refine r_callV (n := 105) rfl ok hG mf_m_fillRoles k_1031 ks_17 k_1029 (C_m_fillRoles  hr14) ⟨rfl, rfl⟩ (rR hXR ⟨Nat.le_of_ble_eq_true rfl, Nat.le_of_ble_eq_true rfl⟩) rfl rfl (rv_MOD) rfl (Nat.le_of_ble_eq_true rfl) d_m_addRate_102 ?_
    obtain ⟨x15, ex15, h⟩ := bd_ok h
    refine r_iinc (lv' := [(4, .int x15), (0, .ref (G.1 + 0)), (3, .int y3)]) (n := 108) rfl ok d_m_addRate_105 2 rfl (Option.some.inj ex15) (lt_n hXn (Nat.le_of_ble_eq_true rfl)) rfl ?_
    refine r_goto (tgt := 81) ok d_m_addRate_108 (by decide) ?_
    obtain rfl := Option.some.inj h
    exact r_sub [1, 2, 0] rfl (show Wt X r14 81 [(0, .ref (G.1 + 0)), (3, .int y3), (4, .int x15)] [] from hk _ rfl)
set_option maxHeartbeats 4000000 in
set_option maxRecDepth 20000 in
theorem C_m_addRate {l : Launch} {G : Gt} {M : Me} {a1 : Int32} {a2 : Int32}  {o : Int32 × Me} (h : f_m_addRate M a1 a2 = some o) : Ct l G (WM G) (rM G) y_m_addRate b_m_addRate 5 (some .int) rm_m_addRate [.ref (G.1 + 0), .int a1, .int a2] M (some (.int o.1)) o.2 := by
  refine Ct.mk (own := "RetryChainsModel") rfl (by decide) (Nat.le_of_ble_eq_true rfl) ⟨_, rfl⟩ (fun X hXl hXR hXn ok hG fin => ?_)
  subst hXl
  unfold f_m_addRate at h
  show Wt X M 0 [(0, .ref (G.1 + 0)), (1, .int a1), (2, .int a2)] []
  refine r_iload_n (n := 1) rfl ok d_m_addRate_0 rfl 1 rfl ?_
  refine r_iconst (v := 0) (n := 2) rfl ok d_m_addRate_1 (by decide) ?_
  refine r_iconst (v := 2) (n := 3) rfl ok d_m_addRate_2 (by decide) ?_
  obtain ⟨r1, hr1, h⟩ := bd_ok h
  refine r_callS (n := 6) rfl ok hG mf_m_in k_1016 k_1015 (C_m_in  hr1) ⟨rfl, rfl⟩ (rR hXR ⟨Nat.le_of_ble_eq_true rfl, Nat.le_of_ble_eq_true rfl⟩) rfl rfl (Nat.le_of_ble_eq_true rfl) d_m_addRate_3 ?_
  refine r_if_eq (tgt := 21) (n := 9) rfl ok d_m_addRate_6 (by decide) (fun c2 => ?_) (fun c2 => ?_)
  · replace h := if_p c2 h
    refine r_iconst (v := (-1)) (n := 22) rfl ok d_m_addRate_21 (by decide) ?_
    obtain rfl := Option.some.inj h
    exact fin _ _ ⟨.int, rfl, rfl⟩ d_m_addRate_22
  · replace h := if_n c2 h
    refine r_iload_n (n := 10) rfl ok d_m_addRate_9 rfl 2 rfl ?_
    refine r_bipush (v := 10) (n := 12) rfl ok d_m_addRate_10 (by decide) ?_
    refine r_sipush (v := 10000) (n := 15) rfl ok d_m_addRate_12 (by decide) ?_
    obtain ⟨r3, hr3, h⟩ := bd_ok h
    refine r_callS (n := 18) rfl ok hG mf_m_in k_1016 k_1015 (C_m_in  hr3) ⟨rfl, rfl⟩ (rR hXR ⟨Nat.le_of_ble_eq_true rfl, Nat.le_of_ble_eq_true rfl⟩) rfl rfl (Nat.le_of_ble_eq_true rfl) d_m_addRate_15 ?_
    refine r_if_ne (tgt := 23) (n := 21) rfl ok d_m_addRate_18 (by decide) (fun c4 => ?_) (fun c4 => ?_)
    · replace h := if_n c4 h
      refine r_aload_n (n := 24) rfl ok d_m_addRate_23 rfl 0 rfl ?_
      refine g_MOD_v (n := 27) rfl ok hG  k_986 d_m_addRate_24 ?_
      refine r_iconst (v := 1) (n := 28) rfl ok d_m_addRate_27 (by decide) ?_
      refine al_V (n := 29) rfl ok hG  (show gin 1 600 by decide) d_m_addRate_28 ?_
      refine r_bipush (v := 8) (n := 31) rfl ok d_m_addRate_29 (by decide) ?_
      refine r_icmp_ne (tgt := 37) (n := 34) rfl ok d_m_addRate_31 (by decide) (fun c5 => ?_) (fun c5 => ?_)
      · replace h := if_n c5 h
        refine r_aload_n (n := 38) rfl ok d_m_addRate_37 rfl 0 rfl ?_
        obtain ⟨r6, hr6, h⟩ := bd_ok h
        refine r_callV (n := 41) rfl ok hG mf_m_act k_1020 ks_15 k_1018 (C_m_act  hr6) ⟨rfl, rfl⟩ (rR hXR ⟨Nat.le_of_ble_eq_true rfl, Nat.le_of_ble_eq_true rfl⟩) rfl rfl (rv_MOD) rfl (Nat.le_of_ble_eq_true rfl) d_m_addRate_38 ?_
        refine r_aload_n (n := 42) rfl ok d_m_addRate_41 rfl 0 rfl ?_
        refine g_MOD_v (n := 45) rfl ok hG  k_986 d_m_addRate_42 ?_
        refine r_iconst (v := 1) (n := 46) rfl ok d_m_addRate_45 (by decide) ?_
        refine al_V (n := 47) rfl ok hG  (show gin 1 600 by decide) d_m_addRate_46 ?_
        refine r_istore_n (lv' := [(3, .int (r6.1 100 0 0 (tN 1))), (0, .ref (G.1 + 0)), (1, .int a1), (2, .int a2)]) (n := 48) rfl ok d_m_addRate_47 rfl (lt_n hXn (Nat.le_of_ble_eq_true rfl)) rfl ?_
        refine r_aload_n (n := 49) rfl ok d_m_addRate_48 rfl 1 rfl ?_
        refine g_MOD_v (n := 52) rfl ok hG  k_986 d_m_addRate_49 ?_
        refine r_bipush (v := 10) (n := 54) rfl ok d_m_addRate_52 (by decide) ?_
        refine r_iload_n (n := 55) rfl ok d_m_addRate_54 rfl 0 rfl ?_
        refine r_iadd (n := 56) rfl ok d_m_addRate_55 ?_
        refine r_iload_n (n := 57) rfl ok d_m_addRate_56 rfl 2 rfl ?_
        obtain ⟨g7, h⟩ := gd_ok h
        obtain ⟨M8, eM8, h⟩ := bd_ok h
        refine as_V (n := 58) rfl ok hG  g7 d_m_addRate_57 ?_
        refine r_mem (Option.some.inj eM8) ?_
        refine r_aload_n (n := 59) rfl ok d_m_addRate_58 rfl 1 rfl ?_
        refine g_MOD_v (n := 62) rfl ok hG  k_986 d_m_addRate_59 ?_
        refine r_bipush (v := 18) (n := 64) rfl ok d_m_addRate_62 (by decide) ?_
        refine r_iload_n (n := 65) rfl ok d_m_addRate_64 rfl 0 rfl ?_
        refine r_iadd (n := 66) rfl ok d_m_addRate_65 ?_
        refine r_iload_n (n := 67) rfl ok d_m_addRate_66 rfl 3 rfl ?_
        obtain ⟨g9, h⟩ := gd_ok h
        obtain ⟨M10, eM10, h⟩ := bd_ok h
        refine as_V (n := 68) rfl ok hG  g9 d_m_addRate_67 ?_
        refine r_mem (Option.some.inj eM10) ?_
        refine r_aload_n (n := 69) rfl ok d_m_addRate_68 rfl 1 rfl ?_
        refine g_MOD_v (n := 72) rfl ok hG  k_986 d_m_addRate_69 ?_
        refine r_iconst (v := 1) (n := 73) rfl ok d_m_addRate_72 (by decide) ?_
        refine r_dup2 (n := 74) rfl ok d_m_addRate_73 rfl rfl ?_
        refine al_V (n := 75) rfl ok hG  (show gin 1 600 by decide) d_m_addRate_74 ?_
        refine r_iconst (v := 1) (n := 76) rfl ok d_m_addRate_75 (by decide) ?_
        refine r_iadd (n := 77) rfl ok d_m_addRate_76 ?_
        obtain ⟨M11, eM11, h⟩ := bd_ok h
        refine as_V (n := 78) rfl ok hG  (show gin 1 600 by decide) d_m_addRate_77 ?_
        refine r_mem (Option.some.inj eM11) ?_
        refine r_iconst (v := 0) (n := 79) rfl ok d_m_addRate_78 (by decide) ?_
        refine r_istore (lv' := [(4, .int 0), (3, .int (r6.1 100 0 0 (tN 1))), (0, .ref (G.1 + 0)), (1, .int a1), (2, .int a2)]) (n := 81) rfl ok d_m_addRate_79 (lt_n hXn (Nat.le_of_ble_eq_true rfl)) rfl ?_
        obtain ⟨t16, ht16, h⟩ := bd_ok h
        refine r_sub [2, 1, 0] rfl (show Wt X M11 81 [(0, .ref (G.1 + 0)), (3, .int (r6.1 100 0 0 (tN 1))), (4, .int 0)] [] from w_m_addRate_81 ok hG hXR hXn  ?_ _ _ ht16)
        · intro e17 he
          subst he
          refine r_iload_n (n := 112) rfl ok d_m_addRate_111 rfl 0 rfl ?_
          obtain rfl := Option.some.inj h
          exact fin _ _ ⟨.int, rfl, rfl⟩ d_m_addRate_112
      · replace h := if_p c5 h
        refine r_bipush (v := (-3)) (n := 36) rfl ok d_m_addRate_34 (by decide) ?_
        obtain rfl := Option.some.inj h
        exact fin _ _ ⟨.int, rfl, rfl⟩ d_m_addRate_36
    · replace h := if_p c4 h
      refine r_iconst (v := (-1)) (n := 22) rfl ok d_m_addRate_21 (by decide) ?_
      obtain rfl := Option.some.inj h
      exact fin _ _ ⟨.int, rfl, rfl⟩ d_m_addRate_22
set_option maxHeartbeats 4000000 in
set_option maxRecDepth 20000 in
theorem w_m_addStation_36 {X : Cx Me} {G : Gt} (ok : Ok X b_m_addStation "RetryChainsModel") (hG : GM X G) (hXR : X.R = rm_m_addStation) (hXn : X.nL = 3) {y1 : Int32}  {t : Me} (kx : ∀ e : Me, e = t → Wt X e 58 [(0, .ref (G.1 + 0)), (1, .int y1)] [])  : ∀ (n : Nat) (x : Int32 × Me), lp n (b_m_addStation_36 y1) x = some t → Wt X x.2 36 [(0, .ref (G.1 + 0)), (1, .int y1), (2, .int x.1)] [] := by
  intro n x h
  refine lp_W (P := fun x => Wt X x.2 36 [(0, .ref (G.1 + 0)), (1, .int y1), (2, .int x.1)] []) (Z := fun t' => t' = t) (fun x r h hk hz => ?_) n x t h rfl
  unfold b_m_addStation_36 at h
  refine r_iload_n (n := 37) rfl ok d_m_addStation_36 rfl 2 rfl ?_
  refine r_aload_n (n := 38) rfl ok d_m_addStation_37 rfl 0 rfl ?_
  refine g_MOD_v (n := 41) rfl ok hG  k_986 d_m_addStation_38 ?_
  refine r_iconst (v := 1) (n := 42) rfl ok d_m_addStation_41 (by decide) ?_
  refine al_V (n := 43) rfl ok hG  (show gin 1 600 by decide) d_m_addStation_42 ?_
  refine r_icmp_ge (tgt := 58) (n := 46) rfl ok d_m_addStation_43 (by decide) (fun c4 => ?_) (fun c4 => ?_)
  · replace h := if_p c4 h
    obtain rfl := Option.some.inj h
    exact r_sub [0, 1] rfl (show Wt X x.2 58 [(0, .ref (G.1 + 0)), (1, .int y1)] [] from kx _ (hz _ rfl))
  · replace h := if_n c4 h
    refine r_aload_n (n := 47) rfl ok d_m_addStation_46 rfl 0 rfl ?_
    refine r_iload_n (n := 48) rfl ok d_m_addStation_47 rfl 1 rfl ?_
    refine r_iload_n (n := 49) rfl ok d_m_addStation_48 rfl 2 rfl ?_
    obtain ⟨r5, hr5, h⟩ := bd_ok h
    refine r_callV (n := 52) rfl ok hG mf_m_begins k_1024 ks_16 k_1022 (C_m_begins  hr5) ⟨rfl, rfl⟩ (rR hXR ⟨Nat.le_of_ble_eq_true rfl, Nat.le_of_ble_eq_true rfl⟩) rfl rfl (rv_MOD) rfl (Nat.le_of_ble_eq_true rfl) d_m_addStation_49 ?_
    obtain ⟨x6, ex6, h⟩ := bd_ok h
    refine r_iinc (lv' := [(2, .int x6), (0, .ref (G.1 + 0)), (1, .int y1)]) (n := 55) rfl ok d_m_addStation_52 2 rfl (Option.some.inj ex6) (lt_n hXn (Nat.le_of_ble_eq_true rfl)) rfl ?_
    refine r_goto (tgt := 36) ok d_m_addStation_55 (by decide) ?_
    obtain rfl := Option.some.inj h
    exact r_sub [1, 2, 0] rfl (show Wt X r5 36 [(0, .ref (G.1 + 0)), (1, .int y1), (2, .int x6)] [] from hk _ rfl)
set_option maxHeartbeats 4000000 in
set_option maxRecDepth 20000 in
theorem w_m_addStation_94 {X : Cx Me} {G : Gt} (ok : Ok X b_m_addStation "RetryChainsModel") (hG : GM X G) (hXR : X.R = rm_m_addStation) (hXn : X.nL = 3) {y1 : Int32}  {t : Me} (kx : ∀ e : Me, e = t → Wt X e 121 [(0, .ref (G.1 + 0)), (1, .int y1)] [])  : ∀ (n : Nat) (x : Int32 × Me), lp n (b_m_addStation_94 y1) x = some t → Wt X x.2 94 [(0, .ref (G.1 + 0)), (1, .int y1), (2, .int x.1)] [] := by
  intro n x h
  refine lp_W (P := fun x => Wt X x.2 94 [(0, .ref (G.1 + 0)), (1, .int y1), (2, .int x.1)] []) (Z := fun t' => t' = t) (fun x r h hk hz => ?_) n x t h rfl
  unfold b_m_addStation_94 at h
  refine r_iload_n (n := 95) rfl ok d_m_addStation_94 rfl 2 rfl ?_
  refine r_iconst (v := 3) (n := 96) rfl ok d_m_addStation_95 (by decide) ?_
  refine r_icmp_ge (tgt := 121) (n := 99) rfl ok d_m_addStation_96 (by decide) (fun c16 => ?_) (fun c16 => ?_)
  · replace h := if_p c16 h
    obtain rfl := Option.some.inj h
    exact r_sub [0, 1] rfl (show Wt X x.2 121 [(0, .ref (G.1 + 0)), (1, .int y1)] [] from kx _ (hz _ rfl))
  · replace h := if_n c16 h
    refine r_aload_n (n := 100) rfl ok d_m_addStation_99 rfl 0 rfl ?_
    refine g_MOD_v (n := 103) rfl ok hG  k_986 d_m_addStation_100 ?_
    refine r_iload_n (n := 104) rfl ok d_m_addStation_103 rfl 1 rfl ?_
    obtain ⟨r17, hr17, h⟩ := bd_ok h
    refine r_callS (n := 107) rfl ok hG mf_m_side k_1034 k_1033 (C_m_side  hr17) ⟨rfl, rfl⟩ (rR hXR ⟨Nat.le_of_ble_eq_true rfl, Nat.le_of_ble_eq_true rfl⟩) rfl rfl (Nat.le_of_ble_eq_true rfl) d_m_addStation_104 ?_
    refine r_bipush (v := 22) (n := 109) rfl ok d_m_addStation_107 (by decide) ?_
    refine r_iadd (n := 110) rfl ok d_m_addStation_109 ?_
    refine r_iload_n (n := 111) rfl ok d_m_addStation_110 rfl 2 rfl ?_
    refine r_iadd (n := 112) rfl ok d_m_addStation_111 ?_
    refine r_bipush (v := (-9)) (n := 114) rfl ok d_m_addStation_112 (by decide) ?_
    obtain ⟨g18, h⟩ := gd_ok h
    obtain ⟨M19, eM19, h⟩ := bd_ok h
    refine as_V (n := 115) rfl ok hG  g18 d_m_addStation_114 ?_
    refine r_mem (Option.some.inj eM19) ?_
    obtain ⟨x20, ex20, h⟩ := bd_ok h
    refine r_iinc (lv' := [(2, .int x20), (0, .ref (G.1 + 0)), (1, .int y1)]) (n := 118) rfl ok d_m_addStation_115 2 rfl (Option.some.inj ex20) (lt_n hXn (Nat.le_of_ble_eq_true rfl)) rfl ?_
    refine r_goto (tgt := 94) ok d_m_addStation_118 (by decide) ?_
    obtain rfl := Option.some.inj h
    exact r_sub [1, 2, 0] rfl (show Wt X M19 94 [(0, .ref (G.1 + 0)), (1, .int y1), (2, .int x20)] [] from hk _ rfl)
set_option maxHeartbeats 4000000 in
set_option maxRecDepth 20000 in
theorem C_m_addStation {l : Launch} {G : Gt} {M : Me}   {o : Int32 × Me} (h : f_m_addStation M = some o) : Ct l G (WM G) (rM G) y_m_addStation b_m_addStation 3 (some .int) rm_m_addStation [.ref (G.1 + 0)] M (some (.int o.1)) o.2 := by
  refine Ct.mk (own := "RetryChainsModel") rfl (by decide) (Nat.le_of_ble_eq_true rfl) ⟨_, rfl⟩ (fun X hXl hXR hXn ok hG fin => ?_)
  subst hXl
  unfold f_m_addStation at h
  show Wt X M 0 [(0, .ref (G.1 + 0))] []
  refine r_aload_n (n := 1) rfl ok d_m_addStation_0 rfl 0 rfl ?_
  refine g_MOD_v (n := 4) rfl ok hG  k_986 d_m_addStation_1 ?_
  refine r_iconst (v := 2) (n := 5) rfl ok d_m_addStation_4 (by decide) ?_
  refine al_V (n := 6) rfl ok hG  (show gin 2 600 by decide) d_m_addStation_5 ?_
  refine r_iconst (v := 4) (n := 7) rfl ok d_m_addStation_6 (by decide) ?_
  refine r_icmp_ne (tgt := 13) (n := 10) rfl ok d_m_addStation_7 (by decide) (fun c1 => ?_) (fun c1 => ?_)
  · replace h := if_n c1 h
    refine r_aload_n (n := 14) rfl ok d_m_addStation_13 rfl 0 rfl ?_
    obtain ⟨r2, hr2, h⟩ := bd_ok h
    refine r_callV (n := 17) rfl ok hG mf_m_act k_1020 ks_15 k_1018 (C_m_act  hr2) ⟨rfl, rfl⟩ (rR hXR ⟨Nat.le_of_ble_eq_true rfl, Nat.le_of_ble_eq_true rfl⟩) rfl rfl (rv_MOD) rfl (Nat.le_of_ble_eq_true rfl) d_m_addStation_14 ?_
    refine r_aload_n (n := 18) rfl ok d_m_addStation_17 rfl 0 rfl ?_
    refine g_MOD_v (n := 21) rfl ok hG  k_986 d_m_addStation_18 ?_
    refine r_iconst (v := 2) (n := 22) rfl ok d_m_addStation_21 (by decide) ?_
    refine al_V (n := 23) rfl ok hG  (show gin 2 600 by decide) d_m_addStation_22 ?_
    refine r_istore_n (lv' := [(1, .int (r2.1 100 0 0 (tN 2))), (0, .ref (G.1 + 0))]) (n := 24) rfl ok d_m_addStation_23 rfl (lt_n hXn (Nat.le_of_ble_eq_true rfl)) rfl ?_
    refine r_aload_n (n := 25) rfl ok d_m_addStation_24 rfl 1 rfl ?_
    refine g_MOD_v (n := 28) rfl ok hG  k_986 d_m_addStation_25 ?_
    refine r_iconst (v := 2) (n := 29) rfl ok d_m_addStation_28 (by decide) ?_
    refine r_dup2 (n := 30) rfl ok d_m_addStation_29 rfl rfl ?_
    refine al_V (n := 31) rfl ok hG  (show gin 2 600 by decide) d_m_addStation_30 ?_
    refine r_iconst (v := 1) (n := 32) rfl ok d_m_addStation_31 (by decide) ?_
    refine r_iadd (n := 33) rfl ok d_m_addStation_32 ?_
    obtain ⟨M3, eM3, h⟩ := bd_ok h
    refine as_V (n := 34) rfl ok hG  (show gin 2 600 by decide) d_m_addStation_33 ?_
    refine r_mem (Option.some.inj eM3) ?_
    refine r_iconst (v := 0) (n := 35) rfl ok d_m_addStation_34 (by decide) ?_
    refine r_istore_n (lv' := [(2, .int 0), (1, .int (r2.1 100 0 0 (tN 2))), (0, .ref (G.1 + 0))]) (n := 36) rfl ok d_m_addStation_35 rfl (lt_n hXn (Nat.le_of_ble_eq_true rfl)) rfl ?_
    obtain ⟨t7, ht7, h⟩ := bd_ok h
    refine r_sub [2, 1, 0] rfl (show Wt X M3 36 [(0, .ref (G.1 + 0)), (1, .int (r2.1 100 0 0 (tN 2))), (2, .int 0)] [] from w_m_addStation_36 ok hG hXR hXn  ?_ _ _ ht7)
    · intro e8 he
      subst he
      refine r_aload_n (n := 59) rfl ok d_m_addStation_58 rfl 0 rfl ?_
      refine g_MOD_v (n := 62) rfl ok hG  k_986 d_m_addStation_59 ?_
      refine r_iload_n (n := 63) rfl ok d_m_addStation_62 rfl 1 rfl ?_
      obtain ⟨r9, hr9, h⟩ := bd_ok h
      refine r_callS (n := 66) rfl ok hG mf_m_side k_1034 k_1033 (C_m_side  hr9) ⟨rfl, rfl⟩ (rR hXR ⟨Nat.le_of_ble_eq_true rfl, Nat.le_of_ble_eq_true rfl⟩) rfl rfl (Nat.le_of_ble_eq_true rfl) d_m_addStation_63 ?_
      refine r_bipush (v := 17) (n := 68) rfl ok d_m_addStation_66 (by decide) ?_
      refine r_iadd (n := 69) rfl ok d_m_addStation_68 ?_
      refine r_bipush (v := 7) (n := 71) rfl ok d_m_addStation_69 (by decide) ?_
      refine r_iload_n (n := 72) rfl ok d_m_addStation_71 rfl 1 rfl ?_
      refine r_imul (n := 73) rfl ok d_m_addStation_72 ?_
      refine r_iconst (v := 1) (n := 74) rfl ok d_m_addStation_73 (by decide) ?_
      refine r_iadd (n := 75) rfl ok d_m_addStation_74 ?_
      obtain ⟨g10, h⟩ := gd_ok h
      obtain ⟨M11, eM11, h⟩ := bd_ok h
      refine as_V (n := 76) rfl ok hG  g10 d_m_addStation_75 ?_
      refine r_mem (Option.some.inj eM11) ?_
      refine r_aload_n (n := 77) rfl ok d_m_addStation_76 rfl 0 rfl ?_
      refine g_MOD_v (n := 80) rfl ok hG  k_986 d_m_addStation_77 ?_
      refine r_iload_n (n := 81) rfl ok d_m_addStation_80 rfl 1 rfl ?_
      obtain ⟨r12, hr12, h⟩ := bd_ok h
      refine r_callS (n := 84) rfl ok hG mf_m_side k_1034 k_1033 (C_m_side  hr12) ⟨rfl, rfl⟩ (rR hXR ⟨Nat.le_of_ble_eq_true rfl, Nat.le_of_ble_eq_true rfl⟩) rfl rfl (Nat.le_of_ble_eq_true rfl) d_m_addStation_81 ?_
      refine r_bipush (v := 16) (n := 86) rfl ok d_m_addStation_84 (by decide) ?_
      refine r_iadd (n := 87) rfl ok d_m_addStation_86 ?_
      refine r_aload_n (n := 88) rfl ok d_m_addStation_87 rfl 0 rfl ?_
      obtain ⟨r13, hr13, h⟩ := bd_ok h
      refine r_callV (n := 91) rfl ok hG mf_m_endFromNow k_1083 ks_27 k_1081 (C_m_endFromNow  hr13) ⟨rfl, rfl⟩ (rR hXR ⟨Nat.le_of_ble_eq_true rfl, Nat.le_of_ble_eq_true rfl⟩) rfl rfl (rv_MOD) rfl (Nat.le_of_ble_eq_true rfl) d_m_addStation_88 ?_
      obtain ⟨g14, h⟩ := gd_ok h
      obtain ⟨M15, eM15, h⟩ := bd_ok h
      refine as_V (n := 92) rfl ok hG  g14 d_m_addStation_91 ?_
      refine r_mem (Option.some.inj eM15) ?_
      refine r_iconst (v := 0) (n := 93) rfl ok d_m_addStation_92 (by decide) ?_
      refine r_istore_n (lv' := [(2, .int 0), (0, .ref (G.1 + 0)), (1, .int (r2.1 100 0 0 (tN 2)))]) (n := 94) rfl ok d_m_addStation_93 rfl (lt_n hXn (Nat.le_of_ble_eq_true rfl)) rfl ?_
      obtain ⟨t21, ht21, h⟩ := bd_ok h
      refine r_sub [1, 2, 0] rfl (show Wt X M15 94 [(0, .ref (G.1 + 0)), (1, .int (r2.1 100 0 0 (tN 2))), (2, .int 0)] [] from w_m_addStation_94 ok hG hXR hXn  ?_ _ _ ht21)
      · intro e22 he
        subst he
        refine r_aload_n (n := 122) rfl ok d_m_addStation_121 rfl 0 rfl ?_
        refine r_iload_n (n := 123) rfl ok d_m_addStation_122 rfl 1 rfl ?_
        obtain ⟨r23, hr23, h⟩ := bd_ok h
        refine r_callV (n := 126) rfl ok hG mf_m_fillRoles k_1031 ks_17 k_1029 (C_m_fillRoles  hr23) ⟨rfl, rfl⟩ (rR hXR ⟨Nat.le_of_ble_eq_true rfl, Nat.le_of_ble_eq_true rfl⟩) rfl rfl (rv_MOD) rfl (Nat.le_of_ble_eq_true rfl) d_m_addStation_123 ?_
        refine r_iload_n (n := 127) rfl ok d_m_addStation_126 rfl 1 rfl ?_
        obtain rfl := Option.some.inj h
        exact fin _ _ ⟨.int, rfl, rfl⟩ d_m_addStation_127
  · replace h := if_p c1 h
    refine r_bipush (v := (-3)) (n := 12) rfl ok d_m_addStation_10 (by decide) ?_
    obtain rfl := Option.some.inj h
    exact fin _ _ ⟨.int, rfl, rfl⟩ d_m_addStation_12
set_option maxHeartbeats 4000000 in
set_option maxRecDepth 20000 in
theorem C_m_allow {l : Launch} {G : Gt} {M : Me} {a1 : Int32} {a2 : Int32} {a3 : Int32}  {o : Int32 × Me} (h : f_m_allow M a1 a2 a3 = some o) : Ct l G (WM G) (rM G) y_m_allow b_m_allow 5 (some .int) rm_m_allow [.ref (G.1 + 0), .int a1, .int a2, .int a3] M (some (.int o.1)) o.2 := by
  refine Ct.mk (own := "RetryChainsModel") rfl (by decide) (Nat.le_of_ble_eq_true rfl) ⟨_, rfl⟩ (fun X hXl hXR hXn ok hG fin => ?_)
  subst hXl
  unfold f_m_allow at h
  show Wt X M 0 [(0, .ref (G.1 + 0)), (1, .int a1), (2, .int a2), (3, .int a3)] []
  refine r_aload_n (n := 1) rfl ok d_m_allow_0 rfl 0 rfl ?_
  refine r_iload_n (n := 2) rfl ok d_m_allow_1 rfl 1 rfl ?_
  refine r_iload_n (n := 3) rfl ok d_m_allow_2 rfl 2 rfl ?_
  obtain ⟨r1, hr1, h⟩ := bd_ok h
  refine r_callV (n := 6) rfl ok hG mf_m_areBoth k_1092 ks_28 k_1090 (C_m_areBoth  hr1) ⟨rfl, rfl⟩ (rR hXR ⟨Nat.le_of_ble_eq_true rfl, Nat.le_of_ble_eq_true rfl⟩) rfl rfl (rv_MOD) rfl (Nat.le_of_ble_eq_true rfl) d_m_allow_3 ?_
  refine r_if_ne (tgt := 11) (n := 9) rfl ok d_m_allow_6 (by decide) (fun c2 => ?_) (fun c2 => ?_)
  · replace h := if_n c2 h
    refine r_aload_n (n := 12) rfl ok d_m_allow_11 rfl 0 rfl ?_
    obtain ⟨r3, hr3, h⟩ := bd_ok h
    refine r_callV (n := 15) rfl ok hG mf_m_act k_1020 ks_15 k_1018 (C_m_act  hr3) ⟨rfl, rfl⟩ (rR hXR ⟨Nat.le_of_ble_eq_true rfl, Nat.le_of_ble_eq_true rfl⟩) rfl rfl (rv_MOD) rfl (Nat.le_of_ble_eq_true rfl) d_m_allow_12 ?_
    refine r_aload_n (n := 16) rfl ok d_m_allow_15 rfl 0 rfl ?_
    refine g_MOD_v (n := 19) rfl ok hG  k_986 d_m_allow_16 ?_
    refine r_iload_n (n := 20) rfl ok d_m_allow_19 rfl 1 rfl ?_
    refine r_iload_n (n := 21) rfl ok d_m_allow_20 rfl 2 rfl ?_
    obtain ⟨r4, hr4, h⟩ := bd_ok h
    refine r_callS (n := 24) rfl ok hG mf_m_pair k_1027 k_1026 (C_m_pair  hr4) ⟨rfl, rfl⟩ (rR hXR ⟨Nat.le_of_ble_eq_true rfl, Nat.le_of_ble_eq_true rfl⟩) rfl rfl (Nat.le_of_ble_eq_true rfl) d_m_allow_21 ?_
    refine r_iconst (v := 0) (n := 25) rfl ok d_m_allow_24 (by decide) ?_
    refine r_iadd (n := 26) rfl ok d_m_allow_25 ?_
    obtain ⟨g5, h⟩ := gd_ok h
    refine al_V (n := 27) rfl ok hG  g5 d_m_allow_26 ?_
    refine r_istore (lv' := [(4, .int (r3.1 100 0 0 (tN (r4 + (0 : Int32))))), (0, .ref (G.1 + 0)), (1, .int a1), (2, .int a2), (3, .int a3)]) (n := 29) rfl ok d_m_allow_27 (lt_n hXn (Nat.le_of_ble_eq_true rfl)) rfl ?_
    refine r_aload_n (n := 30) rfl ok d_m_allow_29 rfl 1 rfl ?_
    refine g_MOD_v (n := 33) rfl ok hG  k_986 d_m_allow_30 ?_
    refine r_iload_n (n := 34) rfl ok d_m_allow_33 rfl 2 rfl ?_
    refine r_iload_n (n := 35) rfl ok d_m_allow_34 rfl 3 rfl ?_
    obtain ⟨r6, hr6, h⟩ := bd_ok h
    refine r_callS (n := 38) rfl ok hG mf_m_pair k_1027 k_1026 (C_m_pair  hr6) ⟨rfl, rfl⟩ (rR hXR ⟨Nat.le_of_ble_eq_true rfl, Nat.le_of_ble_eq_true rfl⟩) rfl rfl (Nat.le_of_ble_eq_true rfl) d_m_allow_35 ?_
    refine r_iconst (v := 0) (n := 39) rfl ok d_m_allow_38 (by decide) ?_
    refine r_iadd (n := 40) rfl ok d_m_allow_39 ?_
    refine r_iload_n (n := 41) rfl ok d_m_allow_40 rfl 4 rfl ?_
    refine r_if_eq (tgt := 48) (n := 44) rfl ok d_m_allow_41 (by decide) (fun c7 => ?_) (fun c7 => ?_)
    · replace h := if_p c7 h
      refine r_iconst (v := 0) (n := 49) rfl ok d_m_allow_48 (by decide) ?_
      obtain ⟨g8, h⟩ := gd_ok h
      obtain ⟨M9, eM9, h⟩ := bd_ok h
      refine as_V (n := 50) rfl ok hG  g8 d_m_allow_49 ?_
      refine r_mem (Option.some.inj eM9) ?_
      refine r_aload_n (n := 51) rfl ok d_m_allow_50 rfl 1 rfl ?_
      refine r_iload_n (n := 52) rfl ok d_m_allow_51 rfl 2 rfl ?_
      obtain ⟨r10, hr10, h⟩ := bd_ok h
      refine r_callV (n := 55) rfl ok hG mf_m_fillRoles k_1031 ks_17 k_1029 (C_m_fillRoles  hr10) ⟨rfl, rfl⟩ (rR hXR ⟨Nat.le_of_ble_eq_true rfl, Nat.le_of_ble_eq_true rfl⟩) rfl rfl (rv_MOD) rfl (Nat.le_of_ble_eq_true rfl) d_m_allow_52 ?_
      refine r_iload (n := 57) rfl ok d_m_allow_55 0 rfl ?_
      obtain rfl := Option.some.inj h
      exact fin _ _ ⟨.int, rfl, rfl⟩ d_m_allow_57
    · replace h := if_n c7 h
      refine r_iconst (v := 1) (n := 45) rfl ok d_m_allow_44 (by decide) ?_
      refine r_goto (tgt := 49) ok d_m_allow_45 (by decide) ?_
      obtain ⟨g11, h⟩ := gd_ok h
      obtain ⟨M12, eM12, h⟩ := bd_ok h
      refine as_V (n := 50) rfl ok hG  g11 d_m_allow_49 ?_
      refine r_mem (Option.some.inj eM12) ?_
      refine r_aload_n (n := 51) rfl ok d_m_allow_50 rfl 1 rfl ?_
      refine r_iload_n (n := 52) rfl ok d_m_allow_51 rfl 2 rfl ?_
      obtain ⟨r13, hr13, h⟩ := bd_ok h
      refine r_callV (n := 55) rfl ok hG mf_m_fillRoles k_1031 ks_17 k_1029 (C_m_fillRoles  hr13) ⟨rfl, rfl⟩ (rR hXR ⟨Nat.le_of_ble_eq_true rfl, Nat.le_of_ble_eq_true rfl⟩) rfl rfl (rv_MOD) rfl (Nat.le_of_ble_eq_true rfl) d_m_allow_52 ?_
      refine r_iload (n := 57) rfl ok d_m_allow_55 0 rfl ?_
      obtain rfl := Option.some.inj h
      exact fin _ _ ⟨.int, rfl, rfl⟩ d_m_allow_57
  · replace h := if_p c2 h
    refine r_iconst (v := (-1)) (n := 10) rfl ok d_m_allow_9 (by decide) ?_
    obtain rfl := Option.some.inj h
    exact fin _ _ ⟨.int, rfl, rfl⟩ d_m_allow_10
set_option maxHeartbeats 4000000 in
set_option maxRecDepth 20000 in
theorem C_m_sets {l : Launch} {G : Gt} {M : Me} {a1 : Int32} {a2 : Int32} {a3 : Int32} {a4 : Int32}  {o : Int32 × Me} (h : f_m_sets M a1 a2 a3 a4 = some o) : Ct l G (WM G) (rM G) y_m_sets b_m_sets 6 (some .int) rm_m_sets [.ref (G.1 + 0), .int a1, .int a2, .int a3, .int a4] M (some (.int o.1)) o.2 := by
  refine Ct.mk (own := "RetryChainsModel") rfl (by decide) (Nat.le_of_ble_eq_true rfl) ⟨_, rfl⟩ (fun X hXl hXR hXn ok hG fin => ?_)
  subst hXl
  unfold f_m_sets at h
  show Wt X M 0 [(0, .ref (G.1 + 0)), (1, .int a1), (2, .int a2), (3, .int a3), (4, .int a4)] []
  refine r_iload_n (n := 1) rfl ok d_m_sets_0 rfl 2 rfl ?_
  refine r_iload_n (n := 2) rfl ok d_m_sets_1 rfl 3 rfl ?_
  refine r_iload (n := 4) rfl ok d_m_sets_2 4 rfl ?_
  obtain ⟨r1, hr1, h⟩ := bd_ok h
  refine r_callS (n := 7) rfl ok hG mf_m_in k_1016 k_1015 (C_m_in  hr1) ⟨rfl, rfl⟩ (rR hXR ⟨Nat.le_of_ble_eq_true rfl, Nat.le_of_ble_eq_true rfl⟩) rfl rfl (Nat.le_of_ble_eq_true rfl) d_m_sets_4 ?_
  refine r_if_ne (tgt := 12) (n := 10) rfl ok d_m_sets_7 (by decide) (fun c2 => ?_) (fun c2 => ?_)
  · replace h := if_n c2 h
    refine r_aload_n (n := 13) rfl ok d_m_sets_12 rfl 0 rfl ?_
    obtain ⟨r3, hr3, h⟩ := bd_ok h
    refine r_callV (n := 16) rfl ok hG mf_m_act k_1020 ks_15 k_1018 (C_m_act  hr3) ⟨rfl, rfl⟩ (rR hXR ⟨Nat.le_of_ble_eq_true rfl, Nat.le_of_ble_eq_true rfl⟩) rfl rfl (rv_MOD) rfl (Nat.le_of_ble_eq_true rfl) d_m_sets_13 ?_
    refine r_aload_n (n := 17) rfl ok d_m_sets_16 rfl 0 rfl ?_
    refine g_MOD_v (n := 20) rfl ok hG  k_986 d_m_sets_17 ?_
    refine r_iload_n (n := 21) rfl ok d_m_sets_20 rfl 1 rfl ?_
    obtain ⟨g4, h⟩ := gd_ok h
    refine al_V (n := 22) rfl ok hG  g4 d_m_sets_21 ?_
    refine r_istore (lv' := [(5, .int (r3.1 100 0 0 (tN a1))), (0, .ref (G.1 + 0)), (1, .int a1), (2, .int a2), (3, .int a3), (4, .int a4)]) (n := 24) rfl ok d_m_sets_22 (lt_n hXn (Nat.le_of_ble_eq_true rfl)) rfl ?_
    refine r_aload_n (n := 25) rfl ok d_m_sets_24 rfl 1 rfl ?_
    refine g_MOD_v (n := 28) rfl ok hG  k_986 d_m_sets_25 ?_
    refine r_iload_n (n := 29) rfl ok d_m_sets_28 rfl 2 rfl ?_
    refine r_iload_n (n := 30) rfl ok d_m_sets_29 rfl 3 rfl ?_
    obtain ⟨g5, h⟩ := gd_ok h
    obtain ⟨M6, eM6, h⟩ := bd_ok h
    refine as_V (n := 31) rfl ok hG  g5 d_m_sets_30 ?_
    refine r_mem (Option.some.inj eM6) ?_
    refine r_iload (n := 33) rfl ok d_m_sets_31 0 rfl ?_
    obtain rfl := Option.some.inj h
    exact fin _ _ ⟨.int, rfl, rfl⟩ d_m_sets_33
  · replace h := if_p c2 h
    refine r_iconst (v := (-1)) (n := 11) rfl ok d_m_sets_10 (by decide) ?_
    obtain rfl := Option.some.inj h
    exact fin _ _ ⟨.int, rfl, rfl⟩ d_m_sets_11
set_option maxHeartbeats 4000000 in
set_option maxRecDepth 20000 in
theorem C_m_setShare {l : Launch} {G : Gt} {M : Me} {a1 : Int32}  {o : Int32 × Me} (h : f_m_setShare M a1 = some o) : Ct l G (WM G) (rM G) y_m_setShare b_m_setShare 2 (some .int) rm_m_setShare [.ref (G.1 + 0), .int a1] M (some (.int o.1)) o.2 := by
  refine Ct.mk (own := "RetryChainsModel") rfl (by decide) (Nat.le_of_ble_eq_true rfl) ⟨_, rfl⟩ (fun X hXl hXR hXn ok hG fin => ?_)
  subst hXl
  unfold f_m_setShare at h
  show Wt X M 0 [(0, .ref (G.1 + 0)), (1, .int a1)] []
  refine r_aload_n (n := 1) rfl ok d_m_setShare_0 rfl 0 rfl ?_
  refine r_iconst (v := 3) (n := 2) rfl ok d_m_setShare_1 (by decide) ?_
  refine r_iload_n (n := 3) rfl ok d_m_setShare_2 rfl 1 rfl ?_
  refine r_iconst (v := 0) (n := 4) rfl ok d_m_setShare_3 (by decide) ?_
  refine r_bipush (v := 50) (n := 6) rfl ok d_m_setShare_4 (by decide) ?_
  obtain ⟨r1, hr1, h⟩ := bd_ok h
  refine r_callV (n := 9) rfl ok hG mf_m_sets k_1108 ks_31 k_1106 (C_m_sets  hr1) ⟨rfl, rfl⟩ (rR hXR ⟨Nat.le_of_ble_eq_true rfl, Nat.le_of_ble_eq_true rfl⟩) rfl rfl (rv_MOD) rfl (Nat.le_of_ble_eq_true rfl) d_m_setShare_6 ?_
  obtain rfl := Option.some.inj h
  exact fin _ _ ⟨.int, rfl, rfl⟩ d_m_setShare_9
set_option maxHeartbeats 4000000 in
set_option maxRecDepth 20000 in
theorem C_m_setWeight {l : Launch} {G : Gt} {M : Me} {a1 : Int32}  {o : Int32 × Me} (h : f_m_setWeight M a1 = some o) : Ct l G (WM G) (rM G) y_m_setWeight b_m_setWeight 2 (some .int) rm_m_setWeight [.ref (G.1 + 0), .int a1] M (some (.int o.1)) o.2 := by
  refine Ct.mk (own := "RetryChainsModel") rfl (by decide) (Nat.le_of_ble_eq_true rfl) ⟨_, rfl⟩ (fun X hXl hXR hXn ok hG fin => ?_)
  subst hXl
  unfold f_m_setWeight at h
  show Wt X M 0 [(0, .ref (G.1 + 0)), (1, .int a1)] []
  refine r_aload_n (n := 1) rfl ok d_m_setWeight_0 rfl 0 rfl ?_
  refine r_iconst (v := 4) (n := 2) rfl ok d_m_setWeight_1 (by decide) ?_
  refine r_iload_n (n := 3) rfl ok d_m_setWeight_2 rfl 1 rfl ?_
  refine r_iconst (v := 1) (n := 4) rfl ok d_m_setWeight_3 (by decide) ?_
  refine r_bipush (v := 100) (n := 6) rfl ok d_m_setWeight_4 (by decide) ?_
  obtain ⟨r1, hr1, h⟩ := bd_ok h
  refine r_callV (n := 9) rfl ok hG mf_m_sets k_1108 ks_31 k_1106 (C_m_sets  hr1) ⟨rfl, rfl⟩ (rR hXR ⟨Nat.le_of_ble_eq_true rfl, Nat.le_of_ble_eq_true rfl⟩) rfl rfl (rv_MOD) rfl (Nat.le_of_ble_eq_true rfl) d_m_setWeight_6 ?_
  obtain rfl := Option.some.inj h
  exact fin _ _ ⟨.int, rfl, rfl⟩ d_m_setWeight_9
set_option maxHeartbeats 4000000 in
set_option maxRecDepth 20000 in
theorem C_m_setInterval {l : Launch} {G : Gt} {M : Me} {a1 : Int32}  {o : Int32 × Me} (h : f_m_setInterval M a1 = some o) : Ct l G (WM G) (rM G) y_m_setInterval b_m_setInterval 2 (some .int) rm_m_setInterval [.ref (G.1 + 0), .int a1] M (some (.int o.1)) o.2 := by
  refine Ct.mk (own := "RetryChainsModel") rfl (by decide) (Nat.le_of_ble_eq_true rfl) ⟨_, rfl⟩ (fun X hXl hXR hXn ok hG fin => ?_)
  subst hXl
  unfold f_m_setInterval at h
  show Wt X M 0 [(0, .ref (G.1 + 0)), (1, .int a1)] []
  refine r_aload_n (n := 1) rfl ok d_m_setInterval_0 rfl 0 rfl ?_
  refine r_iconst (v := 5) (n := 2) rfl ok d_m_setInterval_1 (by decide) ?_
  refine r_iload_n (n := 3) rfl ok d_m_setInterval_2 rfl 1 rfl ?_
  refine r_sipush (v := 1000) (n := 6) rfl ok d_m_setInterval_3 (by decide) ?_
  refine r_ldc (n := 8) rfl ok d_m_setInterval_6 k_1118 ?_
  obtain ⟨r1, hr1, h⟩ := bd_ok h
  refine r_callV (n := 11) rfl ok hG mf_m_sets k_1108 ks_31 k_1106 (C_m_sets  hr1) ⟨rfl, rfl⟩ (rR hXR ⟨Nat.le_of_ble_eq_true rfl, Nat.le_of_ble_eq_true rfl⟩) rfl rfl (rv_MOD) rfl (Nat.le_of_ble_eq_true rfl) d_m_setInterval_8 ?_
  obtain rfl := Option.some.inj h
  exact fin _ _ ⟨.int, rfl, rfl⟩ d_m_setInterval_11
set_option maxHeartbeats 4000000 in
set_option maxRecDepth 20000 in
theorem C_m_setBudget {l : Launch} {G : Gt} {M : Me} {a1 : Int32}  {o : Int32 × Me} (h : f_m_setBudget M a1 = some o) : Ct l G (WM G) (rM G) y_m_setBudget b_m_setBudget 2 (some .int) rm_m_setBudget [.ref (G.1 + 0), .int a1] M (some (.int o.1)) o.2 := by
  refine Ct.mk (own := "RetryChainsModel") rfl (by decide) (Nat.le_of_ble_eq_true rfl) ⟨_, rfl⟩ (fun X hXl hXR hXn ok hG fin => ?_)
  subst hXl
  unfold f_m_setBudget at h
  show Wt X M 0 [(0, .ref (G.1 + 0)), (1, .int a1)] []
  refine r_aload_n (n := 1) rfl ok d_m_setBudget_0 rfl 0 rfl ?_
  refine r_bipush (v := 6) (n := 3) rfl ok d_m_setBudget_1 (by decide) ?_
  refine r_iload_n (n := 4) rfl ok d_m_setBudget_3 rfl 1 rfl ?_
  refine r_bipush (v := 100) (n := 6) rfl ok d_m_setBudget_4 (by decide) ?_
  refine r_ldc (n := 8) rfl ok d_m_setBudget_6 k_985 ?_
  obtain ⟨r1, hr1, h⟩ := bd_ok h
  refine r_callV (n := 11) rfl ok hG mf_m_sets k_1108 ks_31 k_1106 (C_m_sets  hr1) ⟨rfl, rfl⟩ (rR hXR ⟨Nat.le_of_ble_eq_true rfl, Nat.le_of_ble_eq_true rfl⟩) rfl rfl (rv_MOD) rfl (Nat.le_of_ble_eq_true rfl) d_m_setBudget_8 ?_
  obtain rfl := Option.some.inj h
  exact fin _ _ ⟨.int, rfl, rfl⟩ d_m_setBudget_11
set_option maxHeartbeats 4000000 in
set_option maxRecDepth 20000 in
theorem w_m_hasAllowed_4 {X : Cx Me} {G : Gt} (ok : Ok X b_m_hasAllowed "RetryChainsModel") (hG : GM X G) (hXR : X.R = rm_m_hasAllowed) (hXn : X.nL = 4) {M : Me} {y1 : Int32}  {t : Int32} (kx : ∀ e : Int32, e = t → Wt X M 39 [(2, .int e)] [])  : ∀ (n : Nat) (x : Int32 × Int32), lp n (b_m_hasAllowed_4 M y1) x = some t → Wt X M 4 [(0, .ref (G.1 + 0)), (1, .int y1), (2, .int x.1), (3, .int x.2)] [] := by
  intro n x h
  refine lp_W (P := fun x => Wt X M 4 [(0, .ref (G.1 + 0)), (1, .int y1), (2, .int x.1), (3, .int x.2)] []) (Z := fun t' => t' = t) (fun x r h hk hz => ?_) n x t h rfl
  unfold b_m_hasAllowed_4 at h
  refine r_iload_n (n := 5) rfl ok d_m_hasAllowed_4 rfl 3 rfl ?_
  refine r_aload_n (n := 6) rfl ok d_m_hasAllowed_5 rfl 0 rfl ?_
  refine g_MOD_v (n := 9) rfl ok hG  k_986 d_m_hasAllowed_6 ?_
  refine r_iconst (v := 1) (n := 10) rfl ok d_m_hasAllowed_9 (by decide) ?_
  refine al_V (n := 11) rfl ok hG  (show gin 1 600 by decide) d_m_hasAllowed_10 ?_
  refine r_icmp_ge (tgt := 39) (n := 14) rfl ok d_m_hasAllowed_11 (by decide) (fun c1 => ?_) (fun c1 => ?_)
  · replace h := if_p c1 h
    obtain rfl := Option.some.inj h
    exact r_sub [2] rfl (show Wt X M 39 [(2, .int x.1)] [] from kx _ (hz _ rfl))
  · replace h := if_n c1 h
    refine r_iload_n (n := 15) rfl ok d_m_hasAllowed_14 rfl 2 rfl ?_
    refine r_if_ne (tgt := 27) (n := 18) rfl ok d_m_hasAllowed_15 (by decide) (fun c2 => ?_) (fun c2 => ?_)
    · replace h := if_n c2 h
      refine r_iconst (v := 1) (n := 28) rfl ok d_m_hasAllowed_27 (by decide) ?_
      refine r_goto (tgt := 32) ok d_m_hasAllowed_28 (by decide) ?_
      refine r_istore_n (lv' := [(2, .int 1), (0, .ref (G.1 + 0)), (1, .int y1), (3, .int x.2)]) (n := 33) rfl ok d_m_hasAllowed_32 rfl (lt_n hXn (Nat.le_of_ble_eq_true rfl)) rfl ?_
      obtain ⟨x3, ex3, h⟩ := bd_ok h
      refine r_iinc (lv' := [(3, .int x3), (2, .int 1), (0, .ref (G.1 + 0)), (1, .int y1)]) (n := 36) rfl ok d_m_hasAllowed_33 3 rfl (Option.some.inj ex3) (lt_n hXn (Nat.le_of_ble_eq_true rfl)) rfl ?_
      refine r_goto (tgt := 4) ok d_m_hasAllowed_36 (by decide) ?_
      obtain rfl := Option.some.inj h
      exact r_sub [2, 3, 1, 0] rfl (show Wt X M 4 [(0, .ref (G.1 + 0)), (1, .int y1), (2, .int 1), (3, .int x3)] [] from hk _ rfl)
    · replace h := if_p c2 h
      refine r_aload_n (n := 19) rfl ok d_m_hasAllowed_18 rfl 0 rfl ?_
      refine r_iload_n (n := 20) rfl ok d_m_hasAllowed_19 rfl 1 rfl ?_
      refine r_iload_n (n := 21) rfl ok d_m_hasAllowed_20 rfl 3 rfl ?_
      obtain ⟨r4, hr4, h⟩ := bd_ok h
      refine r_callV (n := 24) rfl ok hG mf_m_allows k_1042 ks_19 k_1040 (C_m_allows  hr4) ⟨rfl, rfl⟩ (rR hXR ⟨Nat.le_of_ble_eq_true rfl, Nat.le_of_ble_eq_true rfl⟩) rfl rfl (rv_MOD) rfl (Nat.le_of_ble_eq_true rfl) d_m_hasAllowed_21 ?_
      refine r_if_eq (tgt := 31) (n := 27) rfl ok d_m_hasAllowed_24 (by decide) (fun c5 => ?_) (fun c5 => ?_)
      · replace h := if_p c5 h
        refine r_iconst (v := 0) (n := 32) rfl ok d_m_hasAllowed_31 (by decide) ?_
        refine r_istore_n (lv' := [(2, .int 0), (0, .ref (G.1 + 0)), (1, .int y1), (3, .int x.2)]) (n := 33) rfl ok d_m_hasAllowed_32 rfl (lt_n hXn (Nat.le_of_ble_eq_true rfl)) rfl ?_
        obtain ⟨x6, ex6, h⟩ := bd_ok h
        refine r_iinc (lv' := [(3, .int x6), (2, .int 0), (0, .ref (G.1 + 0)), (1, .int y1)]) (n := 36) rfl ok d_m_hasAllowed_33 3 rfl (Option.some.inj ex6) (lt_n hXn (Nat.le_of_ble_eq_true rfl)) rfl ?_
        refine r_goto (tgt := 4) ok d_m_hasAllowed_36 (by decide) ?_
        obtain rfl := Option.some.inj h
        exact r_sub [2, 3, 1, 0] rfl (show Wt X M 4 [(0, .ref (G.1 + 0)), (1, .int y1), (2, .int 0), (3, .int x6)] [] from hk _ rfl)
      · replace h := if_n c5 h
        refine r_iconst (v := 1) (n := 28) rfl ok d_m_hasAllowed_27 (by decide) ?_
        refine r_goto (tgt := 32) ok d_m_hasAllowed_28 (by decide) ?_
        refine r_istore_n (lv' := [(2, .int 1), (0, .ref (G.1 + 0)), (1, .int y1), (3, .int x.2)]) (n := 33) rfl ok d_m_hasAllowed_32 rfl (lt_n hXn (Nat.le_of_ble_eq_true rfl)) rfl ?_
        obtain ⟨x7, ex7, h⟩ := bd_ok h
        refine r_iinc (lv' := [(3, .int x7), (2, .int 1), (0, .ref (G.1 + 0)), (1, .int y1)]) (n := 36) rfl ok d_m_hasAllowed_33 3 rfl (Option.some.inj ex7) (lt_n hXn (Nat.le_of_ble_eq_true rfl)) rfl ?_
        refine r_goto (tgt := 4) ok d_m_hasAllowed_36 (by decide) ?_
        obtain rfl := Option.some.inj h
        exact r_sub [2, 3, 1, 0] rfl (show Wt X M 4 [(0, .ref (G.1 + 0)), (1, .int y1), (2, .int 1), (3, .int x7)] [] from hk _ rfl)
set_option maxHeartbeats 4000000 in
set_option maxRecDepth 20000 in
theorem C_m_hasAllowed {l : Launch} {G : Gt} {M : Me} {a1 : Int32}  {o : Int32} (h : f_m_hasAllowed M a1 = some o) : Ct l G (WM G) (rM G) y_m_hasAllowed b_m_hasAllowed 4 (some .boolean) rm_m_hasAllowed [.ref (G.1 + 0), .int a1] M (some (.int o)) M := by
  refine Ct.mk (own := "RetryChainsModel") rfl (by decide) (Nat.le_of_ble_eq_true rfl) ⟨_, rfl⟩ (fun X hXl hXR hXn ok hG fin => ?_)
  subst hXl
  unfold f_m_hasAllowed at h
  show Wt X M 0 [(0, .ref (G.1 + 0)), (1, .int a1)] []
  refine r_iconst (v := 0) (n := 1) rfl ok d_m_hasAllowed_0 (by decide) ?_
  refine r_istore_n (lv' := [(2, .int 0), (0, .ref (G.1 + 0)), (1, .int a1)]) (n := 2) rfl ok d_m_hasAllowed_1 rfl (lt_n hXn (Nat.le_of_ble_eq_true rfl)) rfl ?_
  refine r_iconst (v := 0) (n := 3) rfl ok d_m_hasAllowed_2 (by decide) ?_
  refine r_istore_n (lv' := [(3, .int 0), (2, .int 0), (0, .ref (G.1 + 0)), (1, .int a1)]) (n := 4) rfl ok d_m_hasAllowed_3 rfl (lt_n hXn (Nat.le_of_ble_eq_true rfl)) rfl ?_
  obtain ⟨t8, ht8, h⟩ := bd_ok h
  refine r_sub [2, 3, 1, 0] rfl (show Wt X M 4 [(0, .ref (G.1 + 0)), (1, .int a1), (2, .int 0), (3, .int 0)] [] from w_m_hasAllowed_4 ok hG hXR hXn  ?_ _ _ ht8)
  · intro e9 he
    subst he
    refine r_iload_n (n := 40) rfl ok d_m_hasAllowed_39 rfl 0 rfl ?_
    obtain ⟨g10, h⟩ := gd_ok h
    obtain rfl := Option.some.inj h
    exact fin _ _ ⟨.boolean, rfl, nz_ok g10⟩ d_m_hasAllowed_40
set_option maxHeartbeats 4000000 in
set_option maxRecDepth 20000 in
theorem w_m_freeChain_5 {X : Cx Me} {G : Gt} (ok : Ok X b_m_freeChain "RetryChainsModel") (hG : GM X G) (hXR : X.R = rm_m_freeChain) (hXn : X.nL = 3) {M : Me}  {t : Int32} (kx : ∀ e : Int32, e = t → Wt X M 35 [(1, .int e)] [])  : ∀ (n : Nat) (x : Int32 × Int32), lp n (b_m_freeChain_5 M) x = some t → Wt X M 5 [(0, .ref (G.1 + 0)), (1, .int x.1), (2, .int x.2)] [] := by
  intro n x h
  refine lp_W (P := fun x => Wt X M 5 [(0, .ref (G.1 + 0)), (1, .int x.1), (2, .int x.2)] []) (Z := fun t' => t' = t) (fun x r h hk hz => ?_) n x t h rfl
  unfold b_m_freeChain_5 at h
  refine r_iload_n (n := 6) rfl ok d_m_freeChain_5 rfl 2 rfl ?_
  refine r_if_lt (tgt := 35) (n := 9) rfl ok d_m_freeChain_6 (by decide) (fun c1 => ?_) (fun c1 => ?_)
  · replace h := if_p c1 h
    obtain rfl := Option.some.inj h
    exact r_sub [1] rfl (show Wt X M 35 [(1, .int x.1)] [] from kx _ (hz _ rfl))
  · replace h := if_n c1 h
    refine r_aload_n (n := 10) rfl ok d_m_freeChain_9 rfl 0 rfl ?_
    refine g_MOD_v (n := 13) rfl ok hG  k_986 d_m_freeChain_10 ?_
    refine r_iload_n (n := 14) rfl ok d_m_freeChain_13 rfl 2 rfl ?_
    obtain ⟨r2, hr2, h⟩ := bd_ok h
    refine r_callS (n := 17) rfl ok hG mf_m_open k_1136 k_1135 (C_m_open  hr2) ⟨rfl, rfl⟩ (rR hXR ⟨Nat.le_of_ble_eq_true rfl, Nat.le_of_ble_eq_true rfl⟩) rfl rfl (Nat.le_of_ble_eq_true rfl) d_m_freeChain_14 ?_
    refine r_iconst (v := 0) (n := 18) rfl ok d_m_freeChain_17 (by decide) ?_
    refine r_iadd (n := 19) rfl ok d_m_freeChain_18 ?_
    obtain ⟨g3, h⟩ := gd_ok h
    refine al_V (n := 20) rfl ok hG  g3 d_m_freeChain_19 ?_
    refine r_if_ne (tgt := 27) (n := 23) rfl ok d_m_freeChain_20 (by decide) (fun c4 => ?_) (fun c4 => ?_)
    · replace h := if_n c4 h
      refine r_iload_n (n := 28) rfl ok d_m_freeChain_27 rfl 1 rfl ?_
      refine r_istore_n (lv' := [(1, .int x.1), (0, .ref (G.1 + 0)), (2, .int x.2)]) (n := 29) rfl ok d_m_freeChain_28 rfl (lt_n hXn (Nat.le_of_ble_eq_true rfl)) rfl ?_
      obtain ⟨x5, ex5, h⟩ := bd_ok h
      refine r_iinc (lv' := [(2, .int x5), (1, .int x.1), (0, .ref (G.1 + 0))]) (n := 32) rfl ok d_m_freeChain_29 2 rfl (Option.some.inj ex5) (lt_n hXn (Nat.le_of_ble_eq_true rfl)) rfl ?_
      refine r_goto (tgt := 5) ok d_m_freeChain_32 (by decide) ?_
      obtain rfl := Option.some.inj h
      exact r_sub [2, 1, 0] rfl (show Wt X M 5 [(0, .ref (G.1 + 0)), (1, .int x.1), (2, .int x5)] [] from hk _ rfl)
    · replace h := if_p c4 h
      refine r_iload_n (n := 24) rfl ok d_m_freeChain_23 rfl 2 rfl ?_
      refine r_goto (tgt := 28) ok d_m_freeChain_24 (by decide) ?_
      refine r_istore_n (lv' := [(1, .int x.2), (0, .ref (G.1 + 0)), (2, .int x.2)]) (n := 29) rfl ok d_m_freeChain_28 rfl (lt_n hXn (Nat.le_of_ble_eq_true rfl)) rfl ?_
      obtain ⟨x6, ex6, h⟩ := bd_ok h
      refine r_iinc (lv' := [(2, .int x6), (1, .int x.2), (0, .ref (G.1 + 0))]) (n := 32) rfl ok d_m_freeChain_29 2 rfl (Option.some.inj ex6) (lt_n hXn (Nat.le_of_ble_eq_true rfl)) rfl ?_
      refine r_goto (tgt := 5) ok d_m_freeChain_32 (by decide) ?_
      obtain rfl := Option.some.inj h
      exact r_sub [2, 1, 0] rfl (show Wt X M 5 [(0, .ref (G.1 + 0)), (1, .int x.2), (2, .int x6)] [] from hk _ rfl)
set_option maxHeartbeats 4000000 in
set_option maxRecDepth 20000 in
theorem C_m_freeChain {l : Launch} {G : Gt} {M : Me}   {o : Int32} (h : f_m_freeChain M = some o) : Ct l G (WM G) (rM G) y_m_freeChain b_m_freeChain 3 (some .int) rm_m_freeChain [.ref (G.1 + 0)] M (some (.int o)) M := by
  refine Ct.mk (own := "RetryChainsModel") rfl (by decide) (Nat.le_of_ble_eq_true rfl) ⟨_, rfl⟩ (fun X hXl hXR hXn ok hG fin => ?_)
  subst hXl
  unfold f_m_freeChain at h
  show Wt X M 0 [(0, .ref (G.1 + 0))] []
  refine r_bipush (v := (-9)) (n := 2) rfl ok d_m_freeChain_0 (by decide) ?_
  refine r_istore_n (lv' := [(1, .int (-9)), (0, .ref (G.1 + 0))]) (n := 3) rfl ok d_m_freeChain_2 rfl (lt_n hXn (Nat.le_of_ble_eq_true rfl)) rfl ?_
  refine r_iconst (v := 5) (n := 4) rfl ok d_m_freeChain_3 (by decide) ?_
  refine r_istore_n (lv' := [(2, .int 5), (1, .int (-9)), (0, .ref (G.1 + 0))]) (n := 5) rfl ok d_m_freeChain_4 rfl (lt_n hXn (Nat.le_of_ble_eq_true rfl)) rfl ?_
  obtain ⟨t7, ht7, h⟩ := bd_ok h
  refine r_sub [2, 1, 0] rfl (show Wt X M 5 [(0, .ref (G.1 + 0)), (1, .int (-9)), (2, .int 5)] [] from w_m_freeChain_5 ok hG hXR hXn  ?_ _ _ ht7)
  · intro e8 he
    subst he
    refine r_iload_n (n := 36) rfl ok d_m_freeChain_35 rfl 0 rfl ?_
    obtain rfl := Option.some.inj h
    exact fin _ _ ⟨.int, rfl, rfl⟩ d_m_freeChain_36
set_option maxHeartbeats 4000000 in
set_option maxRecDepth 20000 in
theorem C_m_entry {l : Launch} {G : Gt} {M : Me} {a1 : Int32} {a2 : Int32} {a3 : Int32} {a4 : Int32}  {o : Me} (h : f_m_entry M a1 a2 a3 a4 = some o) : Ct l G (WM G) (rM G) y_m_entry b_m_entry 5 none rm_m_entry [.ref (G.1 + 0), .int a1, .int a2, .int a3, .int a4] M (none) o := by
  refine Ct.mk (own := "RetryChainsModel") rfl (by decide) (Nat.le_of_ble_eq_true rfl) rfl (fun X hXl hXR hXn ok hG fin => ?_)
  subst hXl
  unfold f_m_entry at h
  show Wt X M 0 [(0, .ref (G.1 + 0)), (1, .int a1), (2, .int a2), (3, .int a3), (4, .int a4)] []
  refine r_aload_n (n := 1) rfl ok d_m_entry_0 rfl 0 rfl ?_
  refine g_MOD_v (n := 4) rfl ok hG  k_986 d_m_entry_1 ?_
  refine r_iload_n (n := 5) rfl ok d_m_entry_4 rfl 1 rfl ?_
  obtain ⟨r1, hr1, h⟩ := bd_ok h
  refine r_callS (n := 8) rfl ok hG mf_m_open k_1136 k_1135 (C_m_open  hr1) ⟨rfl, rfl⟩ (rR hXR ⟨Nat.le_of_ble_eq_true rfl, Nat.le_of_ble_eq_true rfl⟩) rfl rfl (Nat.le_of_ble_eq_true rfl) d_m_entry_5 ?_
  refine r_iconst (v := 5) (n := 9) rfl ok d_m_entry_8 (by decide) ?_
  refine r_iadd (n := 10) rfl ok d_m_entry_9 ?_
  refine r_iload_n (n := 11) rfl ok d_m_entry_10 rfl 2 rfl ?_
  refine r_iadd (n := 12) rfl ok d_m_entry_11 ?_
  refine r_iload_n (n := 13) rfl ok d_m_entry_12 rfl 3 rfl ?_
  obtain ⟨g2, h⟩ := gd_ok h
  obtain ⟨M3, eM3, h⟩ := bd_ok h
  refine as_V (n := 14) rfl ok hG  g2 d_m_entry_13 ?_
  refine r_mem (Option.some.inj eM3) ?_
  refine r_aload_n (n := 15) rfl ok d_m_entry_14 rfl 0 rfl ?_
  refine g_MOD_v (n := 18) rfl ok hG  k_986 d_m_entry_15 ?_
  refine r_iload_n (n := 19) rfl ok d_m_entry_18 rfl 1 rfl ?_
  obtain ⟨r4, hr4, h⟩ := bd_ok h
  refine r_callS (n := 22) rfl ok hG mf_m_open k_1136 k_1135 (C_m_open  hr4) ⟨rfl, rfl⟩ (rR hXR ⟨Nat.le_of_ble_eq_true rfl, Nat.le_of_ble_eq_true rfl⟩) rfl rfl (Nat.le_of_ble_eq_true rfl) d_m_entry_19 ?_
  refine r_bipush (v := 9) (n := 24) rfl ok d_m_entry_22 (by decide) ?_
  refine r_iadd (n := 25) rfl ok d_m_entry_24 ?_
  refine r_iload_n (n := 26) rfl ok d_m_entry_25 rfl 2 rfl ?_
  refine r_iadd (n := 27) rfl ok d_m_entry_26 ?_
  refine r_iload (n := 29) rfl ok d_m_entry_27 4 rfl ?_
  obtain ⟨g5, h⟩ := gd_ok h
  obtain ⟨M6, eM6, h⟩ := bd_ok h
  refine as_V (n := 30) rfl ok hG  g5 d_m_entry_29 ?_
  refine r_mem (Option.some.inj eM6) ?_
  obtain rfl := Option.some.inj h
  exact fin _ _ d_m_entry_30
set_option maxHeartbeats 4000000 in
set_option maxRecDepth 20000 in
theorem C_m_fullEntry {l : Launch} {G : Gt} {M : Me} {a1 : Int32} {a2 : Int32} {a3 : Int32}  {o : Me} (h : f_m_fullEntry M a1 a2 a3 = some o) : Ct l G (WM G) (rM G) y_m_fullEntry b_m_fullEntry 4 none rm_m_fullEntry [.ref (G.1 + 0), .int a1, .int a2, .int a3] M (none) o := by
  refine Ct.mk (own := "RetryChainsModel") rfl (by decide) (Nat.le_of_ble_eq_true rfl) rfl (fun X hXl hXR hXn ok hG fin => ?_)
  subst hXl
  unfold f_m_fullEntry at h
  show Wt X M 0 [(0, .ref (G.1 + 0)), (1, .int a1), (2, .int a2), (3, .int a3)] []
  refine r_aload_n (n := 1) rfl ok d_m_fullEntry_0 rfl 0 rfl ?_
  refine r_iload_n (n := 2) rfl ok d_m_fullEntry_1 rfl 1 rfl ?_
  refine r_iload_n (n := 3) rfl ok d_m_fullEntry_2 rfl 2 rfl ?_
  refine r_iload_n (n := 4) rfl ok d_m_fullEntry_3 rfl 3 rfl ?_
  refine r_aload_n (n := 5) rfl ok d_m_fullEntry_4 rfl 0 rfl ?_
  refine r_iload_n (n := 6) rfl ok d_m_fullEntry_5 rfl 3 rfl ?_
  refine r_aload_n (n := 7) rfl ok d_m_fullEntry_6 rfl 0 rfl ?_
  refine g_MOD_v (n := 10) rfl ok hG  k_986 d_m_fullEntry_7 ?_
  refine r_iload_n (n := 11) rfl ok d_m_fullEntry_10 rfl 1 rfl ?_
  obtain ⟨r1, hr1, h⟩ := bd_ok h
  refine r_callS (n := 14) rfl ok hG mf_m_open k_1136 k_1135 (C_m_open  hr1) ⟨rfl, rfl⟩ (rR hXR ⟨Nat.le_of_ble_eq_true rfl, Nat.le_of_ble_eq_true rfl⟩) rfl rfl (Nat.le_of_ble_eq_true rfl) d_m_fullEntry_11 ?_
  refine r_iconst (v := 2) (n := 15) rfl ok d_m_fullEntry_14 (by decide) ?_
  refine r_iadd (n := 16) rfl ok d_m_fullEntry_15 ?_
  obtain ⟨g2, h⟩ := gd_ok h
  refine al_V (n := 17) rfl ok hG  g2 d_m_fullEntry_16 ?_
  obtain ⟨r3, hr3, h⟩ := bd_ok h
  refine r_callV (n := 20) rfl ok hG mf_m_triesFor k_1156 ks_38 k_1154 (C_m_triesFor  hr3) ⟨rfl, rfl⟩ (rR hXR ⟨Nat.le_of_ble_eq_true rfl, Nat.le_of_ble_eq_true rfl⟩) rfl rfl (rv_MOD) rfl (Nat.le_of_ble_eq_true rfl) d_m_fullEntry_17 ?_
  obtain ⟨r4, hr4, h⟩ := bd_ok h
  refine r_callV (n := 23) rfl ok hG mf_m_entry k_1167 ks_40 k_1165 (C_m_entry  hr4) ⟨rfl, rfl⟩ (rR hXR ⟨Nat.le_of_ble_eq_true rfl, Nat.le_of_ble_eq_true rfl⟩) rfl rfl (rv_MOD) rfl (Nat.le_of_ble_eq_true rfl) d_m_fullEntry_20 ?_
  obtain rfl := Option.some.inj h
  exact fin _ _ d_m_fullEntry_23
set_option maxHeartbeats 4000000 in
set_option maxRecDepth 20000 in
theorem C_m_roleOf {l : Launch} {G : Gt} {M : Me} {a1 : Int32} {a2 : Int32}  {o : Int32} (h : f_m_roleOf M a1 a2 = some o) : Ct l G (WM G) (rM G) y_m_roleOf b_m_roleOf 3 (some .int) rm_m_roleOf [.ref (G.1 + 0), .int a1, .int a2] M (some (.int o)) M := by
  refine Ct.mk (own := "RetryChainsModel") rfl (by decide) (Nat.le_of_ble_eq_true rfl) ⟨_, rfl⟩ (fun X hXl hXR hXn ok hG fin => ?_)
  subst hXl
  unfold f_m_roleOf at h
  show Wt X M 0 [(0, .ref (G.1 + 0)), (1, .int a1), (2, .int a2)] []
  refine r_aload_n (n := 1) rfl ok d_m_roleOf_0 rfl 0 rfl ?_
  refine g_MOD_v (n := 4) rfl ok hG  k_986 d_m_roleOf_1 ?_
  refine r_iload_n (n := 5) rfl ok d_m_roleOf_4 rfl 1 rfl ?_
  obtain ⟨r1, hr1, h⟩ := bd_ok h
  refine r_callS (n := 8) rfl ok hG mf_m_side k_1034 k_1033 (C_m_side  hr1) ⟨rfl, rfl⟩ (rR hXR ⟨Nat.le_of_ble_eq_true rfl, Nat.le_of_ble_eq_true rfl⟩) rfl rfl (Nat.le_of_ble_eq_true rfl) d_m_roleOf_5 ?_
  refine r_bipush (v := 18) (n := 10) rfl ok d_m_roleOf_8 (by decide) ?_
  refine r_iadd (n := 11) rfl ok d_m_roleOf_10 ?_
  refine r_iload_n (n := 12) rfl ok d_m_roleOf_11 rfl 2 rfl ?_
  refine r_iadd (n := 13) rfl ok d_m_roleOf_12 ?_
  obtain ⟨g2, h⟩ := gd_ok h
  refine al_V (n := 14) rfl ok hG  g2 d_m_roleOf_13 ?_
  obtain rfl := Option.some.inj h
  exact fin _ _ ⟨.int, rfl, rfl⟩ d_m_roleOf_14
set_option maxHeartbeats 4000000 in
set_option maxRecDepth 20000 in
theorem C_m_causeOf {l : Launch} {G : Gt} {M : Me} {a1 : Int32} {a2 : Int32}  {o : Int32} (h : f_m_causeOf M a1 a2 = some o) : Ct l G (WM G) (rM G) y_m_causeOf b_m_causeOf 3 (some .int) rm_m_causeOf [.ref (G.1 + 0), .int a1, .int a2] M (some (.int o)) M := by
  refine Ct.mk (own := "RetryChainsModel") rfl (by decide) (Nat.le_of_ble_eq_true rfl) ⟨_, rfl⟩ (fun X hXl hXR hXn ok hG fin => ?_)
  subst hXl
  unfold f_m_causeOf at h
  show Wt X M 0 [(0, .ref (G.1 + 0)), (1, .int a1), (2, .int a2)] []
  refine r_aload_n (n := 1) rfl ok d_m_causeOf_0 rfl 0 rfl ?_
  refine r_iload_n (n := 2) rfl ok d_m_causeOf_1 rfl 1 rfl ?_
  refine r_iload_n (n := 3) rfl ok d_m_causeOf_2 rfl 2 rfl ?_
  obtain ⟨r1, hr1, h⟩ := bd_ok h
  refine r_callV (n := 6) rfl ok hG mf_m_allows k_1042 ks_19 k_1040 (C_m_allows  hr1) ⟨rfl, rfl⟩ (rR hXR ⟨Nat.le_of_ble_eq_true rfl, Nat.le_of_ble_eq_true rfl⟩) rfl rfl (rv_MOD) rfl (Nat.le_of_ble_eq_true rfl) d_m_causeOf_3 ?_
  refine r_if_ne (tgt := 12) (n := 9) rfl ok d_m_causeOf_6 (by decide) (fun c2 => ?_) (fun c2 => ?_)
  · replace h := if_n c2 h
    refine r_iload_n (n := 13) rfl ok d_m_causeOf_12 rfl 2 rfl ?_
    refine r_aload_n (n := 14) rfl ok d_m_causeOf_13 rfl 0 rfl ?_
    refine r_iload_n (n := 15) rfl ok d_m_causeOf_14 rfl 1 rfl ?_
    refine r_iconst (v := 0) (n := 16) rfl ok d_m_causeOf_15 (by decide) ?_
    obtain ⟨r3, hr3, h⟩ := bd_ok h
    refine r_callV (n := 19) rfl ok hG mf_m_roleOf k_1148 ks_36 k_1146 (C_m_roleOf  hr3) ⟨rfl, rfl⟩ (rR hXR ⟨Nat.le_of_ble_eq_true rfl, Nat.le_of_ble_eq_true rfl⟩) rfl rfl (rv_MOD) rfl (Nat.le_of_ble_eq_true rfl) d_m_causeOf_16 ?_
    refine r_icmp_eq (tgt := 42) (n := 22) rfl ok d_m_causeOf_19 (by decide) (fun c4 => ?_) (fun c4 => ?_)
    · replace h := if_p c4 h
      refine r_bipush (v := 12) (n := 44) rfl ok d_m_causeOf_42 (by decide) ?_
      obtain rfl := Option.some.inj h
      exact fin _ _ ⟨.int, rfl, rfl⟩ d_m_causeOf_44
    · replace h := if_n c4 h
      refine r_iload_n (n := 23) rfl ok d_m_causeOf_22 rfl 2 rfl ?_
      refine r_aload_n (n := 24) rfl ok d_m_causeOf_23 rfl 0 rfl ?_
      refine r_iload_n (n := 25) rfl ok d_m_causeOf_24 rfl 1 rfl ?_
      refine r_iconst (v := 1) (n := 26) rfl ok d_m_causeOf_25 (by decide) ?_
      obtain ⟨r5, hr5, h⟩ := bd_ok h
      refine r_callV (n := 29) rfl ok hG mf_m_roleOf k_1148 ks_36 k_1146 (C_m_roleOf  hr5) ⟨rfl, rfl⟩ (rR hXR ⟨Nat.le_of_ble_eq_true rfl, Nat.le_of_ble_eq_true rfl⟩) rfl rfl (rv_MOD) rfl (Nat.le_of_ble_eq_true rfl) d_m_causeOf_26 ?_
      refine r_icmp_eq (tgt := 42) (n := 32) rfl ok d_m_causeOf_29 (by decide) (fun c6 => ?_) (fun c6 => ?_)
      · replace h := if_p c6 h
        refine r_bipush (v := 12) (n := 44) rfl ok d_m_causeOf_42 (by decide) ?_
        obtain rfl := Option.some.inj h
        exact fin _ _ ⟨.int, rfl, rfl⟩ d_m_causeOf_44
      · replace h := if_n c6 h
        refine r_iload_n (n := 33) rfl ok d_m_causeOf_32 rfl 2 rfl ?_
        refine r_aload_n (n := 34) rfl ok d_m_causeOf_33 rfl 0 rfl ?_
        refine r_iload_n (n := 35) rfl ok d_m_causeOf_34 rfl 1 rfl ?_
        refine r_iconst (v := 2) (n := 36) rfl ok d_m_causeOf_35 (by decide) ?_
        obtain ⟨r7, hr7, h⟩ := bd_ok h
        refine r_callV (n := 39) rfl ok hG mf_m_roleOf k_1148 ks_36 k_1146 (C_m_roleOf  hr7) ⟨rfl, rfl⟩ (rR hXR ⟨Nat.le_of_ble_eq_true rfl, Nat.le_of_ble_eq_true rfl⟩) rfl rfl (rv_MOD) rfl (Nat.le_of_ble_eq_true rfl) d_m_causeOf_36 ?_
        refine r_icmp_ne (tgt := 45) (n := 42) rfl ok d_m_causeOf_39 (by decide) (fun c8 => ?_) (fun c8 => ?_)
        · replace h := if_n c8 h
          refine r_aload_n (n := 46) rfl ok d_m_causeOf_45 rfl 0 rfl ?_
          refine r_iload_n (n := 47) rfl ok d_m_causeOf_46 rfl 1 rfl ?_
          refine r_iload_n (n := 48) rfl ok d_m_causeOf_47 rfl 2 rfl ?_
          obtain ⟨r9, hr9, h⟩ := bd_ok h
          refine r_callV (n := 51) rfl ok hG mf_m_known k_1046 ks_20 k_1044 (C_m_known  hr9) ⟨rfl, rfl⟩ (rR hXR ⟨Nat.le_of_ble_eq_true rfl, Nat.le_of_ble_eq_true rfl⟩) rfl rfl (rv_MOD) rfl (Nat.le_of_ble_eq_true rfl) d_m_causeOf_48 ?_
          refine r_ldc (n := 53) rfl ok d_m_causeOf_51 k_1072 ?_
          refine r_icmp_lt (tgt := 59) (n := 56) rfl ok d_m_causeOf_53 (by decide) (fun c10 => ?_) (fun c10 => ?_)
          · replace h := if_p c10 h
            refine r_aload_n (n := 60) rfl ok d_m_causeOf_59 rfl 0 rfl ?_
            refine r_iload_n (n := 61) rfl ok d_m_causeOf_60 rfl 2 rfl ?_
            obtain ⟨r11, hr11, h⟩ := bd_ok h
            refine r_callV (n := 64) rfl ok hG mf_m_nominal k_1059 ks_23 k_1057 (C_m_nominal  hr11) ⟨rfl, rfl⟩ (rR hXR ⟨Nat.le_of_ble_eq_true rfl, Nat.le_of_ble_eq_true rfl⟩) rfl rfl (rv_MOD) rfl (Nat.le_of_ble_eq_true rfl) d_m_causeOf_61 ?_
            refine r_aload_n (n := 65) rfl ok d_m_causeOf_64 rfl 0 rfl ?_
            refine r_aload_n (n := 66) rfl ok d_m_causeOf_65 rfl 0 rfl ?_
            refine r_iload_n (n := 67) rfl ok d_m_causeOf_66 rfl 1 rfl ?_
            refine r_iconst (v := 2) (n := 68) rfl ok d_m_causeOf_67 (by decide) ?_
            obtain ⟨r12, hr12, h⟩ := bd_ok h
            refine r_callV (n := 71) rfl ok hG mf_m_roleOf k_1148 ks_36 k_1146 (C_m_roleOf  hr12) ⟨rfl, rfl⟩ (rR hXR ⟨Nat.le_of_ble_eq_true rfl, Nat.le_of_ble_eq_true rfl⟩) rfl rfl (rv_MOD) rfl (Nat.le_of_ble_eq_true rfl) d_m_causeOf_68 ?_
            obtain ⟨r13, hr13, h⟩ := bd_ok h
            refine r_callV (n := 74) rfl ok hG mf_m_nominal k_1059 ks_23 k_1057 (C_m_nominal  hr13) ⟨rfl, rfl⟩ (rR hXR ⟨Nat.le_of_ble_eq_true rfl, Nat.le_of_ble_eq_true rfl⟩) rfl rfl (rv_MOD) rfl (Nat.le_of_ble_eq_true rfl) d_m_causeOf_71 ?_
            refine r_icmp_le (tgt := 97) (n := 77) rfl ok d_m_causeOf_74 (by decide) (fun c14 => ?_) (fun c14 => ?_)
            · replace h := if_p c14 h
              refine r_iconst (v := 0) (n := 98) rfl ok d_m_causeOf_97 (by decide) ?_
              obtain rfl := Option.some.inj h
              exact fin _ _ ⟨.int, rfl, rfl⟩ d_m_causeOf_98
            · replace h := if_n c14 h
              refine r_aload_n (n := 78) rfl ok d_m_causeOf_77 rfl 0 rfl ?_
              refine g_MOD_v (n := 81) rfl ok hG  k_986 d_m_causeOf_78 ?_
              refine r_iload_n (n := 82) rfl ok d_m_causeOf_81 rfl 1 rfl ?_
              refine r_iload_n (n := 83) rfl ok d_m_causeOf_82 rfl 2 rfl ?_
              obtain ⟨r15, hr15, h⟩ := bd_ok h
              refine r_callS (n := 86) rfl ok hG mf_m_pair k_1027 k_1026 (C_m_pair  hr15) ⟨rfl, rfl⟩ (rR hXR ⟨Nat.le_of_ble_eq_true rfl, Nat.le_of_ble_eq_true rfl⟩) rfl rfl (Nat.le_of_ble_eq_true rfl) d_m_causeOf_83 ?_
              refine r_iconst (v := 2) (n := 87) rfl ok d_m_causeOf_86 (by decide) ?_
              refine r_iadd (n := 88) rfl ok d_m_causeOf_87 ?_
              obtain ⟨g16, h⟩ := gd_ok h
              refine al_V (n := 89) rfl ok hG  g16 d_m_causeOf_88 ?_
              refine r_if_le (tgt := 97) (n := 92) rfl ok d_m_causeOf_89 (by decide) (fun c17 => ?_) (fun c17 => ?_)
              · replace h := if_p c17 h
                refine r_iconst (v := 0) (n := 98) rfl ok d_m_causeOf_97 (by decide) ?_
                obtain rfl := Option.some.inj h
                exact fin _ _ ⟨.int, rfl, rfl⟩ d_m_causeOf_98
              · replace h := if_n c17 h
                refine r_bipush (v := 14) (n := 94) rfl ok d_m_causeOf_92 (by decide) ?_
                refine r_goto (tgt := 98) ok d_m_causeOf_94 (by decide) ?_
                obtain rfl := Option.some.inj h
                exact fin _ _ ⟨.int, rfl, rfl⟩ d_m_causeOf_98
          · replace h := if_n c10 h
            refine r_bipush (v := 13) (n := 58) rfl ok d_m_causeOf_56 (by decide) ?_
            obtain rfl := Option.some.inj h
            exact fin _ _ ⟨.int, rfl, rfl⟩ d_m_causeOf_58
        · replace h := if_p c8 h
          refine r_bipush (v := 12) (n := 44) rfl ok d_m_causeOf_42 (by decide) ?_
          obtain rfl := Option.some.inj h
          exact fin _ _ ⟨.int, rfl, rfl⟩ d_m_causeOf_44
  · replace h := if_p c2 h
    refine r_bipush (v := 11) (n := 11) rfl ok d_m_causeOf_9 (by decide) ?_
    obtain rfl := Option.some.inj h
    exact fin _ _ ⟨.int, rfl, rfl⟩ d_m_causeOf_11
set_option maxHeartbeats 4000000 in
set_option maxRecDepth 20000 in
theorem C_m_refuse {l : Launch} {G : Gt} {M : Me} {a1 : Int32} {a2 : Int32} {a3 : Int32} {a4 : Int32}  {o : Me} (h : f_m_refuse M a1 a2 a3 a4 = some o) : Ct l G (WM G) (rM G) y_m_refuse b_m_refuse 5 none rm_m_refuse [.ref (G.1 + 0), .int a1, .int a2, .int a3, .int a4] M (none) o := by
  refine Ct.mk (own := "RetryChainsModel") rfl (by decide) (Nat.le_of_ble_eq_true rfl) rfl (fun X hXl hXR hXn ok hG fin => ?_)
  subst hXl
  unfold f_m_refuse at h
  show Wt X M 0 [(0, .ref (G.1 + 0)), (1, .int a1), (2, .int a2), (3, .int a3), (4, .int a4)] []
  refine r_aload_n (n := 1) rfl ok d_m_refuse_0 rfl 0 rfl ?_
  refine g_MOD_v (n := 4) rfl ok hG  k_986 d_m_refuse_1 ?_
  refine r_iload_n (n := 5) rfl ok d_m_refuse_4 rfl 1 rfl ?_
  obtain ⟨r1, hr1, h⟩ := bd_ok h
  refine r_callS (n := 8) rfl ok hG mf_m_side k_1034 k_1033 (C_m_side  hr1) ⟨rfl, rfl⟩ (rR hXR ⟨Nat.le_of_ble_eq_true rfl, Nat.le_of_ble_eq_true rfl⟩) rfl rfl (Nat.le_of_ble_eq_true rfl) d_m_refuse_5 ?_
  refine r_bipush (v := 22) (n := 10) rfl ok d_m_refuse_8 (by decide) ?_
  refine r_iadd (n := 11) rfl ok d_m_refuse_10 ?_
  refine r_iload_n (n := 12) rfl ok d_m_refuse_11 rfl 2 rfl ?_
  obtain ⟨g2, h⟩ := gd_ok h
  obtain ⟨M3, eM3, h⟩ := bd_ok h
  refine as_V (n := 13) rfl ok hG  g2 d_m_refuse_12 ?_
  refine r_mem (Option.some.inj eM3) ?_
  refine r_aload_n (n := 14) rfl ok d_m_refuse_13 rfl 0 rfl ?_
  refine g_MOD_v (n := 17) rfl ok hG  k_986 d_m_refuse_14 ?_
  refine r_iload_n (n := 18) rfl ok d_m_refuse_17 rfl 1 rfl ?_
  obtain ⟨r4, hr4, h⟩ := bd_ok h
  refine r_callS (n := 21) rfl ok hG mf_m_side k_1034 k_1033 (C_m_side  hr4) ⟨rfl, rfl⟩ (rR hXR ⟨Nat.le_of_ble_eq_true rfl, Nat.le_of_ble_eq_true rfl⟩) rfl rfl (Nat.le_of_ble_eq_true rfl) d_m_refuse_18 ?_
  refine r_bipush (v := 22) (n := 23) rfl ok d_m_refuse_21 (by decide) ?_
  refine r_iadd (n := 24) rfl ok d_m_refuse_23 ?_
  refine r_iconst (v := 1) (n := 25) rfl ok d_m_refuse_24 (by decide) ?_
  refine r_iadd (n := 26) rfl ok d_m_refuse_25 ?_
  refine r_iload_n (n := 27) rfl ok d_m_refuse_26 rfl 3 rfl ?_
  obtain ⟨g5, h⟩ := gd_ok h
  obtain ⟨M6, eM6, h⟩ := bd_ok h
  refine as_V (n := 28) rfl ok hG  g5 d_m_refuse_27 ?_
  refine r_mem (Option.some.inj eM6) ?_
  refine r_aload_n (n := 29) rfl ok d_m_refuse_28 rfl 0 rfl ?_
  refine g_MOD_v (n := 32) rfl ok hG  k_986 d_m_refuse_29 ?_
  refine r_iload_n (n := 33) rfl ok d_m_refuse_32 rfl 1 rfl ?_
  obtain ⟨r7, hr7, h⟩ := bd_ok h
  refine r_callS (n := 36) rfl ok hG mf_m_side k_1034 k_1033 (C_m_side  hr7) ⟨rfl, rfl⟩ (rR hXR ⟨Nat.le_of_ble_eq_true rfl, Nat.le_of_ble_eq_true rfl⟩) rfl rfl (Nat.le_of_ble_eq_true rfl) d_m_refuse_33 ?_
  refine r_bipush (v := 22) (n := 38) rfl ok d_m_refuse_36 (by decide) ?_
  refine r_iadd (n := 39) rfl ok d_m_refuse_38 ?_
  refine r_iconst (v := 2) (n := 40) rfl ok d_m_refuse_39 (by decide) ?_
  refine r_iadd (n := 41) rfl ok d_m_refuse_40 ?_
  refine r_iload (n := 43) rfl ok d_m_refuse_41 4 rfl ?_
  obtain ⟨g8, h⟩ := gd_ok h
  obtain ⟨M9, eM9, h⟩ := bd_ok h
  refine as_V (n := 44) rfl ok hG  g8 d_m_refuse_43 ?_
  refine r_mem (Option.some.inj eM9) ?_
  obtain rfl := Option.some.inj h
  exact fin _ _ d_m_refuse_44
set_option maxHeartbeats 4000000 in
set_option maxRecDepth 20000 in
theorem C_m_sampledBy {l : Launch} {G : Gt} {M : Me} {a1 : Int32}  {o : Int32 × Me} (h : f_m_sampledBy M a1 = some o) : Ct l G (WM G) (rM G) y_m_sampledBy b_m_sampledBy 5 (some .int) rm_m_sampledBy [.ref (G.1 + 0), .int a1] M (some (.int o.1)) o.2 := by
  refine Ct.mk (own := "RetryChainsModel") rfl (by decide) (Nat.le_of_ble_eq_true rfl) ⟨_, rfl⟩ (fun X hXl hXR hXn ok hG fin => ?_)
  subst hXl
  unfold f_m_sampledBy at h
  show Wt X M 0 [(0, .ref (G.1 + 0)), (1, .int a1)] []
  refine r_aload_n (n := 1) rfl ok d_m_sampledBy_0 rfl 0 rfl ?_
  refine r_iload_n (n := 2) rfl ok d_m_sampledBy_1 rfl 1 rfl ?_
  refine r_bipush (v := (-9)) (n := 4) rfl ok d_m_sampledBy_2 (by decide) ?_
  refine r_bipush (v := (-9)) (n := 6) rfl ok d_m_sampledBy_4 (by decide) ?_
  refine r_bipush (v := (-9)) (n := 8) rfl ok d_m_sampledBy_6 (by decide) ?_
  obtain ⟨r1, hr1, h⟩ := bd_ok h
  refine r_callV (n := 11) rfl ok hG mf_m_refuse k_1171 ks_41 k_1169 (C_m_refuse  hr1) ⟨rfl, rfl⟩ (rR hXR ⟨Nat.le_of_ble_eq_true rfl, Nat.le_of_ble_eq_true rfl⟩) rfl rfl (rv_MOD) rfl (Nat.le_of_ble_eq_true rfl) d_m_sampledBy_8 ?_
  refine r_aload_n (n := 12) rfl ok d_m_sampledBy_11 rfl 0 rfl ?_
  refine g_MOD_v (n := 15) rfl ok hG  k_986 d_m_sampledBy_12 ?_
  refine r_iload_n (n := 16) rfl ok d_m_sampledBy_15 rfl 1 rfl ?_
  obtain ⟨r2, hr2, h⟩ := bd_ok h
  refine r_callS (n := 19) rfl ok hG mf_m_side k_1034 k_1033 (C_m_side  hr2) ⟨rfl, rfl⟩ (rR hXR ⟨Nat.le_of_ble_eq_true rfl, Nat.le_of_ble_eq_true rfl⟩) rfl rfl (Nat.le_of_ble_eq_true rfl) d_m_sampledBy_16 ?_
  refine r_iconst (v := 1) (n := 20) rfl ok d_m_sampledBy_19 (by decide) ?_
  refine r_iadd (n := 21) rfl ok d_m_sampledBy_20 ?_
  obtain ⟨g3, h⟩ := gd_ok h
  refine al_V (n := 22) rfl ok hG  g3 d_m_sampledBy_21 ?_
  refine r_iconst (v := 1) (n := 23) rfl ok d_m_sampledBy_22 (by decide) ?_
  refine r_iadd (n := 24) rfl ok d_m_sampledBy_23 ?_
  refine r_bipush (v := 100) (n := 26) rfl ok d_m_sampledBy_24 (by decide) ?_
  refine r_imul (n := 27) rfl ok d_m_sampledBy_26 ?_
  refine r_aload_n (n := 28) rfl ok d_m_sampledBy_27 rfl 0 rfl ?_
  refine g_MOD_v (n := 31) rfl ok hG  k_986 d_m_sampledBy_28 ?_
  refine r_iload_n (n := 32) rfl ok d_m_sampledBy_31 rfl 1 rfl ?_
  obtain ⟨r4, hr4, h⟩ := bd_ok h
  refine r_callS (n := 35) rfl ok hG mf_m_side k_1034 k_1033 (C_m_side  hr4) ⟨rfl, rfl⟩ (rR hXR ⟨Nat.le_of_ble_eq_true rfl, Nat.le_of_ble_eq_true rfl⟩) rfl rfl (Nat.le_of_ble_eq_true rfl) d_m_sampledBy_32 ?_
  refine r_iconst (v := 0) (n := 36) rfl ok d_m_sampledBy_35 (by decide) ?_
  refine r_iadd (n := 37) rfl ok d_m_sampledBy_36 ?_
  obtain ⟨g5, h⟩ := gd_ok h
  refine al_V (n := 38) rfl ok hG  g5 d_m_sampledBy_37 ?_
  refine r_aload_n (n := 39) rfl ok d_m_sampledBy_38 rfl 0 rfl ?_
  refine g_MOD_v (n := 42) rfl ok hG  k_986 d_m_sampledBy_39 ?_
  refine r_iconst (v := 3) (n := 43) rfl ok d_m_sampledBy_42 (by decide) ?_
  refine al_V (n := 44) rfl ok hG  (show gin 3 600 by decide) d_m_sampledBy_43 ?_
  refine r_imul (n := 45) rfl ok d_m_sampledBy_44 ?_
  refine r_icmp_le (tgt := 61) (n := 48) rfl ok d_m_sampledBy_45 (by decide) (fun c6 => ?_) (fun c6 => ?_)
  · replace h := if_p c6 h
    refine r_aload_n (n := 62) rfl ok d_m_sampledBy_61 rfl 0 rfl ?_
    refine g_MOD_v (n := 65) rfl ok hG  k_986 d_m_sampledBy_62 ?_
    refine r_iload_n (n := 66) rfl ok d_m_sampledBy_65 rfl 1 rfl ?_
    obtain ⟨r7, hr7, h⟩ := bd_ok h
    refine r_callS (n := 69) rfl ok hG mf_m_side k_1034 k_1033 (C_m_side  hr7) ⟨rfl, rfl⟩ (rR hXR ⟨Nat.le_of_ble_eq_true rfl, Nat.le_of_ble_eq_true rfl⟩) rfl rfl (Nat.le_of_ble_eq_true rfl) d_m_sampledBy_66 ?_
    refine r_bipush (v := 17) (n := 71) rfl ok d_m_sampledBy_69 (by decide) ?_
    refine r_iadd (n := 72) rfl ok d_m_sampledBy_71 ?_
    refine r_ldc (n := 74) rfl ok d_m_sampledBy_72 k_1177 ?_
    refine r_aload_n (n := 75) rfl ok d_m_sampledBy_74 rfl 0 rfl ?_
    refine g_MOD_v (n := 78) rfl ok hG  k_986 d_m_sampledBy_75 ?_
    refine r_iload_n (n := 79) rfl ok d_m_sampledBy_78 rfl 1 rfl ?_
    obtain ⟨r8, hr8, h⟩ := bd_ok h
    refine r_callS (n := 82) rfl ok hG mf_m_side k_1034 k_1033 (C_m_side  hr8) ⟨rfl, rfl⟩ (rR hXR ⟨Nat.le_of_ble_eq_true rfl, Nat.le_of_ble_eq_true rfl⟩) rfl rfl (Nat.le_of_ble_eq_true rfl) d_m_sampledBy_79 ?_
    refine r_bipush (v := 17) (n := 84) rfl ok d_m_sampledBy_82 (by decide) ?_
    refine r_iadd (n := 85) rfl ok d_m_sampledBy_84 ?_
    obtain ⟨g9, h⟩ := gd_ok h
    refine al_V (n := 86) rfl ok hG  g9 d_m_sampledBy_85 ?_
    refine r_imul (n := 87) rfl ok d_m_sampledBy_86 ?_
    refine r_sipush (v := 12345) (n := 90) rfl ok d_m_sampledBy_87 (by decide) ?_
    refine r_iadd (n := 91) rfl ok d_m_sampledBy_90 ?_
    obtain ⟨g10, h⟩ := gd_ok h
    obtain ⟨M11, eM11, h⟩ := bd_ok h
    refine as_V (n := 92) rfl ok hG  g10 d_m_sampledBy_91 ?_
    refine r_mem (Option.some.inj eM11) ?_
    refine r_aload_n (n := 93) rfl ok d_m_sampledBy_92 rfl 0 rfl ?_
    refine g_MOD_v (n := 96) rfl ok hG  k_986 d_m_sampledBy_93 ?_
    refine r_iload_n (n := 97) rfl ok d_m_sampledBy_96 rfl 1 rfl ?_
    obtain ⟨r12, hr12, h⟩ := bd_ok h
    refine r_callS (n := 100) rfl ok hG mf_m_side k_1034 k_1033 (C_m_side  hr12) ⟨rfl, rfl⟩ (rR hXR ⟨Nat.le_of_ble_eq_true rfl, Nat.le_of_ble_eq_true rfl⟩) rfl rfl (Nat.le_of_ble_eq_true rfl) d_m_sampledBy_97 ?_
    refine r_bipush (v := 17) (n := 102) rfl ok d_m_sampledBy_100 (by decide) ?_
    refine r_iadd (n := 103) rfl ok d_m_sampledBy_102 ?_
    obtain ⟨g13, h⟩ := gd_ok h
    refine al_V (n := 104) rfl ok hG  g13 d_m_sampledBy_103 ?_
    refine r_bipush (v := 16) (n := 106) rfl ok d_m_sampledBy_104 (by decide) ?_
    refine r_iushr (n := 107) rfl ok d_m_sampledBy_106 ?_
    refine r_aload_n (n := 108) rfl ok d_m_sampledBy_107 rfl 0 rfl ?_
    refine g_MOD_v (n := 111) rfl ok hG  k_986 d_m_sampledBy_108 ?_
    refine r_iconst (v := 1) (n := 112) rfl ok d_m_sampledBy_111 (by decide) ?_
    refine al_V (n := 113) rfl ok hG  (show gin 1 600 by decide) d_m_sampledBy_112 ?_
    obtain ⟨g14, h⟩ := gd_ok h
    refine r_irem (n := 114) rfl ok d_m_sampledBy_113 g14 ?_
    obtain ⟨x15, ex15, h⟩ := bd_ok h
    refine r_ti (Option.some.inj ex15).symm ?_
    refine r_istore_n (lv' := [(2, .int x15), (0, .ref (G.1 + 0)), (1, .int a1)]) (n := 115) rfl ok d_m_sampledBy_114 rfl (lt_n hXn (Nat.le_of_ble_eq_true rfl)) rfl ?_
    refine r_aload_n (n := 116) rfl ok d_m_sampledBy_115 rfl 1 rfl ?_
    refine r_iload_n (n := 117) rfl ok d_m_sampledBy_116 rfl 2 rfl ?_
    refine r_iload_n (n := 118) rfl ok d_m_sampledBy_117 rfl 0 rfl ?_
    obtain ⟨r16, hr16, h⟩ := bd_ok h
    refine r_callV (n := 121) rfl ok hG mf_m_causeOf k_1180 ks_43 k_1178 (C_m_causeOf  hr16) ⟨rfl, rfl⟩ (rR hXR ⟨Nat.le_of_ble_eq_true rfl, Nat.le_of_ble_eq_true rfl⟩) rfl rfl (rv_MOD) rfl (Nat.le_of_ble_eq_true rfl) d_m_sampledBy_118 ?_
    refine r_istore_n (lv' := [(3, .int r16), (2, .int x15), (0, .ref (G.1 + 0)), (1, .int a1)]) (n := 122) rfl ok d_m_sampledBy_121 rfl (lt_n hXn (Nat.le_of_ble_eq_true rfl)) rfl ?_
    refine r_iload_n (n := 123) rfl ok d_m_sampledBy_122 rfl 0 rfl ?_
    refine r_if_ne (tgt := 128) (n := 126) rfl ok d_m_sampledBy_123 (by decide) (fun c17 => ?_) (fun c17 => ?_)
    · replace h := if_n c17 h
      refine r_iload_n (n := 129) rfl ok d_m_sampledBy_128 rfl 1 rfl ?_
      refine r_aload_n (n := 130) rfl ok d_m_sampledBy_129 rfl 2 rfl ?_
      refine r_iload_n (n := 131) rfl ok d_m_sampledBy_130 rfl 3 rfl ?_
      refine r_iconst (v := 0) (n := 132) rfl ok d_m_sampledBy_131 (by decide) ?_
      obtain ⟨r18, hr18, h⟩ := bd_ok h
      refine r_callV (n := 135) rfl ok hG mf_m_roleOf k_1148 ks_36 k_1146 (C_m_roleOf  hr18) ⟨rfl, rfl⟩ (rR hXR ⟨Nat.le_of_ble_eq_true rfl, Nat.le_of_ble_eq_true rfl⟩) rfl rfl (rv_MOD) rfl (Nat.le_of_ble_eq_true rfl) d_m_sampledBy_132 ?_
      refine r_icmp_ne (tgt := 143) (n := 138) rfl ok d_m_sampledBy_135 (by decide) (fun c19 => ?_) (fun c19 => ?_)
      · replace h := if_n c19 h
        refine r_iload_n (n := 144) rfl ok d_m_sampledBy_143 rfl 1 rfl ?_
        refine r_aload_n (n := 145) rfl ok d_m_sampledBy_144 rfl 2 rfl ?_
        refine r_iload_n (n := 146) rfl ok d_m_sampledBy_145 rfl 3 rfl ?_
        refine r_iconst (v := 1) (n := 147) rfl ok d_m_sampledBy_146 (by decide) ?_
        obtain ⟨r20, hr20, h⟩ := bd_ok h
        refine r_callV (n := 150) rfl ok hG mf_m_roleOf k_1148 ks_36 k_1146 (C_m_roleOf  hr20) ⟨rfl, rfl⟩ (rR hXR ⟨Nat.le_of_ble_eq_true rfl, Nat.le_of_ble_eq_true rfl⟩) rfl rfl (rv_MOD) rfl (Nat.le_of_ble_eq_true rfl) d_m_sampledBy_147 ?_
        refine r_icmp_ne (tgt := 158) (n := 153) rfl ok d_m_sampledBy_150 (by decide) (fun c21 => ?_) (fun c21 => ?_)
        · replace h := if_n c21 h
          refine r_bipush (v := 23) (n := 160) rfl ok d_m_sampledBy_158 (by decide) ?_
          refine r_istore (lv' := [(4, .int 23), (3, .int r16), (2, .int x15), (0, .ref (G.1 + 0)), (1, .int a1)]) (n := 162) rfl ok d_m_sampledBy_160 (lt_n hXn (Nat.le_of_ble_eq_true rfl)) rfl ?_
          refine r_aload_n (n := 163) rfl ok d_m_sampledBy_162 rfl 3 rfl ?_
          refine r_iload_n (n := 164) rfl ok d_m_sampledBy_163 rfl 4 rfl ?_
          refine r_iconst (v := 2) (n := 165) rfl ok d_m_sampledBy_164 (by decide) ?_
          refine r_iload_n (n := 166) rfl ok d_m_sampledBy_165 rfl 1 rfl ?_
          refine r_iload_n (n := 167) rfl ok d_m_sampledBy_166 rfl 1 rfl ?_
          refine r_bipush (v := 12) (n := 169) rfl ok d_m_sampledBy_167 (by decide) ?_
          refine r_icmp_ne (tgt := 177) (n := 172) rfl ok d_m_sampledBy_169 (by decide) (fun c22 => ?_) (fun c22 => ?_)
          · replace h := if_n c22 h
            refine r_bipush (v := (-9)) (n := 179) rfl ok d_m_sampledBy_177 (by decide) ?_
            obtain ⟨r23, hr23, h⟩ := bd_ok h
            refine r_callV (n := 182) rfl ok hG mf_m_refuse k_1171 ks_41 k_1169 (C_m_refuse  hr23) ⟨rfl, rfl⟩ (rR hXR ⟨Nat.le_of_ble_eq_true rfl, Nat.le_of_ble_eq_true rfl⟩) rfl rfl (rv_MOD) rfl (Nat.le_of_ble_eq_true rfl) d_m_sampledBy_179 ?_
            refine r_bipush (v := (-9)) (n := 184) rfl ok d_m_sampledBy_182 (by decide) ?_
            obtain rfl := Option.some.inj h
            exact fin _ _ ⟨.int, rfl, rfl⟩ d_m_sampledBy_184
          · replace h := if_p c22 h
            refine r_iload (n := 174) rfl ok d_m_sampledBy_172 0 rfl ?_
            refine r_goto (tgt := 179) ok d_m_sampledBy_174 (by decide) ?_
            obtain ⟨r24, hr24, h⟩ := bd_ok h
            refine r_callV (n := 182) rfl ok hG mf_m_refuse k_1171 ks_41 k_1169 (C_m_refuse  hr24) ⟨rfl, rfl⟩ (rR hXR ⟨Nat.le_of_ble_eq_true rfl, Nat.le_of_ble_eq_true rfl⟩) rfl rfl (rv_MOD) rfl (Nat.le_of_ble_eq_true rfl) d_m_sampledBy_179 ?_
            refine r_bipush (v := (-9)) (n := 184) rfl ok d_m_sampledBy_182 (by decide) ?_
            obtain rfl := Option.some.inj h
            exact fin _ _ ⟨.int, rfl, rfl⟩ d_m_sampledBy_184
        · replace h := if_p c21 h
          refine r_bipush (v := 22) (n := 155) rfl ok d_m_sampledBy_153 (by decide) ?_
          refine r_goto (tgt := 160) ok d_m_sampledBy_155 (by decide) ?_
          refine r_istore (lv' := [(4, .int 22), (3, .int r16), (2, .int x15), (0, .ref (G.1 + 0)), (1, .int a1)]) (n := 162) rfl ok d_m_sampledBy_160 (lt_n hXn (Nat.le_of_ble_eq_true rfl)) rfl ?_
          refine r_aload_n (n := 163) rfl ok d_m_sampledBy_162 rfl 3 rfl ?_
          refine r_iload_n (n := 164) rfl ok d_m_sampledBy_163 rfl 4 rfl ?_
          refine r_iconst (v := 2) (n := 165) rfl ok d_m_sampledBy_164 (by decide) ?_
          refine r_iload_n (n := 166) rfl ok d_m_sampledBy_165 rfl 1 rfl ?_
          refine r_iload_n (n := 167) rfl ok d_m_sampledBy_166 rfl 1 rfl ?_
          refine r_bipush (v := 12) (n := 169) rfl ok d_m_sampledBy_167 (by decide) ?_
          refine r_icmp_ne (tgt := 177) (n := 172) rfl ok d_m_sampledBy_169 (by decide) (fun c25 => ?_) (fun c25 => ?_)
          · replace h := if_n c25 h
            refine r_bipush (v := (-9)) (n := 179) rfl ok d_m_sampledBy_177 (by decide) ?_
            obtain ⟨r26, hr26, h⟩ := bd_ok h
            refine r_callV (n := 182) rfl ok hG mf_m_refuse k_1171 ks_41 k_1169 (C_m_refuse  hr26) ⟨rfl, rfl⟩ (rR hXR ⟨Nat.le_of_ble_eq_true rfl, Nat.le_of_ble_eq_true rfl⟩) rfl rfl (rv_MOD) rfl (Nat.le_of_ble_eq_true rfl) d_m_sampledBy_179 ?_
            refine r_bipush (v := (-9)) (n := 184) rfl ok d_m_sampledBy_182 (by decide) ?_
            obtain rfl := Option.some.inj h
            exact fin _ _ ⟨.int, rfl, rfl⟩ d_m_sampledBy_184
          · replace h := if_p c25 h
            refine r_iload (n := 174) rfl ok d_m_sampledBy_172 0 rfl ?_
            refine r_goto (tgt := 179) ok d_m_sampledBy_174 (by decide) ?_
            obtain ⟨r27, hr27, h⟩ := bd_ok h
            refine r_callV (n := 182) rfl ok hG mf_m_refuse k_1171 ks_41 k_1169 (C_m_refuse  hr27) ⟨rfl, rfl⟩ (rR hXR ⟨Nat.le_of_ble_eq_true rfl, Nat.le_of_ble_eq_true rfl⟩) rfl rfl (rv_MOD) rfl (Nat.le_of_ble_eq_true rfl) d_m_sampledBy_179 ?_
            refine r_bipush (v := (-9)) (n := 184) rfl ok d_m_sampledBy_182 (by decide) ?_
            obtain rfl := Option.some.inj h
            exact fin _ _ ⟨.int, rfl, rfl⟩ d_m_sampledBy_184
      · replace h := if_p c19 h
        refine r_bipush (v := 21) (n := 140) rfl ok d_m_sampledBy_138 (by decide) ?_
        refine r_goto (tgt := 160) ok d_m_sampledBy_140 (by decide) ?_
        refine r_istore (lv' := [(4, .int 21), (3, .int r16), (2, .int x15), (0, .ref (G.1 + 0)), (1, .int a1)]) (n := 162) rfl ok d_m_sampledBy_160 (lt_n hXn (Nat.le_of_ble_eq_true rfl)) rfl ?_
        refine r_aload_n (n := 163) rfl ok d_m_sampledBy_162 rfl 3 rfl ?_
        refine r_iload_n (n := 164) rfl ok d_m_sampledBy_163 rfl 4 rfl ?_
        refine r_iconst (v := 2) (n := 165) rfl ok d_m_sampledBy_164 (by decide) ?_
        refine r_iload_n (n := 166) rfl ok d_m_sampledBy_165 rfl 1 rfl ?_
        refine r_iload_n (n := 167) rfl ok d_m_sampledBy_166 rfl 1 rfl ?_
        refine r_bipush (v := 12) (n := 169) rfl ok d_m_sampledBy_167 (by decide) ?_
        refine r_icmp_ne (tgt := 177) (n := 172) rfl ok d_m_sampledBy_169 (by decide) (fun c28 => ?_) (fun c28 => ?_)
        · replace h := if_n c28 h
          refine r_bipush (v := (-9)) (n := 179) rfl ok d_m_sampledBy_177 (by decide) ?_
          obtain ⟨r29, hr29, h⟩ := bd_ok h
          refine r_callV (n := 182) rfl ok hG mf_m_refuse k_1171 ks_41 k_1169 (C_m_refuse  hr29) ⟨rfl, rfl⟩ (rR hXR ⟨Nat.le_of_ble_eq_true rfl, Nat.le_of_ble_eq_true rfl⟩) rfl rfl (rv_MOD) rfl (Nat.le_of_ble_eq_true rfl) d_m_sampledBy_179 ?_
          refine r_bipush (v := (-9)) (n := 184) rfl ok d_m_sampledBy_182 (by decide) ?_
          obtain rfl := Option.some.inj h
          exact fin _ _ ⟨.int, rfl, rfl⟩ d_m_sampledBy_184
        · replace h := if_p c28 h
          refine r_iload (n := 174) rfl ok d_m_sampledBy_172 0 rfl ?_
          refine r_goto (tgt := 179) ok d_m_sampledBy_174 (by decide) ?_
          obtain ⟨r30, hr30, h⟩ := bd_ok h
          refine r_callV (n := 182) rfl ok hG mf_m_refuse k_1171 ks_41 k_1169 (C_m_refuse  hr30) ⟨rfl, rfl⟩ (rR hXR ⟨Nat.le_of_ble_eq_true rfl, Nat.le_of_ble_eq_true rfl⟩) rfl rfl (rv_MOD) rfl (Nat.le_of_ble_eq_true rfl) d_m_sampledBy_179 ?_
          refine r_bipush (v := (-9)) (n := 184) rfl ok d_m_sampledBy_182 (by decide) ?_
          obtain rfl := Option.some.inj h
          exact fin _ _ ⟨.int, rfl, rfl⟩ d_m_sampledBy_184
    · replace h := if_p c17 h
      refine r_iload_n (n := 127) rfl ok d_m_sampledBy_126 rfl 1 rfl ?_
      obtain rfl := Option.some.inj h
      exact fin _ _ ⟨.int, rfl, rfl⟩ d_m_sampledBy_127
  · replace h := if_n c6 h
    refine r_aload_n (n := 49) rfl ok d_m_sampledBy_48 rfl 0 rfl ?_
    refine r_iload_n (n := 50) rfl ok d_m_sampledBy_49 rfl 1 rfl ?_
    refine r_iconst (v := 1) (n := 51) rfl ok d_m_sampledBy_50 (by decide) ?_
    refine r_bipush (v := (-9)) (n := 53) rfl ok d_m_sampledBy_51 (by decide) ?_
    refine r_bipush (v := (-9)) (n := 55) rfl ok d_m_sampledBy_53 (by decide) ?_
    obtain ⟨r31, hr31, h⟩ := bd_ok h
    refine r_callV (n := 58) rfl ok hG mf_m_refuse k_1171 ks_41 k_1169 (C_m_refuse  hr31) ⟨rfl, rfl⟩ (rR hXR ⟨Nat.le_of_ble_eq_true rfl, Nat.le_of_ble_eq_true rfl⟩) rfl rfl (rv_MOD) rfl (Nat.le_of_ble_eq_true rfl) d_m_sampledBy_55 ?_
    refine r_bipush (v := (-9)) (n := 60) rfl ok d_m_sampledBy_58 (by decide) ?_
    obtain rfl := Option.some.inj h
    exact fin _ _ ⟨.int, rfl, rfl⟩ d_m_sampledBy_60
