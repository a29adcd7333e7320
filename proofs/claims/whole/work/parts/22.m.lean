set_option maxHeartbeats 4000000 in
set_option maxRecDepth 20000 in
theorem w_m_bestChain_43 {X : Cx Me} {G : Gt} (ok : Ok X b_m_bestChain "RetryChainsModel") (hG : GM X G) (hXR : X.R = rm_m_bestChain) (hXn : X.nL = 10) {y1 : Int32} {y2 : Int32} {y3 : Int32}  {t : Int32 × Me} (kx : ∀ e : Int32 × Me, e = t → Wt X e.2 124 [(3, .int y3), (4, .int e.1)] [])  : ∀ (n : Nat) (x : Int32 × Int64 × Int64 × Int32 × Me), lp n (b_m_bestChain_43 y1 y2 y3) x = some t → Wt X x.2.2.2.2 43 [(0, .ref (G.1 + 0)), (1, .int y1), (2, .int y2), (3, .int y3), (4, .int x.1), (5, .long x.2.1), (7, .long x.2.2.1), (9, .int x.2.2.2.1)] [] := by
  intro n x h
  refine lp_W (P := fun x => Wt X x.2.2.2.2 43 [(0, .ref (G.1 + 0)), (1, .int y1), (2, .int y2), (3, .int y3), (4, .int x.1), (5, .long x.2.1), (7, .long x.2.2.1), (9, .int x.2.2.2.1)] []) (Z := fun t' => t' = t) (fun x r h hk hz => ?_) n x t h rfl
  unfold b_m_bestChain_43 at h
  refine r_iload (n := 45) rfl ok d_m_bestChain_43 7 rfl ?_
  refine r_sipush (v := 4096) (n := 48) rfl ok d_m_bestChain_45 (by decide) ?_
  refine r_icmp_ge (tgt := 124) (n := 51) rfl ok d_m_bestChain_48 (by decide) (fun c7 => ?_) (fun c7 => ?_)
  · replace h := if_p c7 h
    obtain rfl := Option.some.inj h
    exact r_sub [3, 4] rfl (show Wt X x.2.2.2.2 124 [(3, .int y3), (4, .int x.1)] [] from kx _ (hz _ rfl))
  · replace h := if_n c7 h
    refine r_aload_n (n := 52) rfl ok d_m_bestChain_51 rfl 0 rfl ?_
    refine r_iload_n (n := 53) rfl ok d_m_bestChain_52 rfl 1 rfl ?_
    refine r_iload (n := 55) rfl ok d_m_bestChain_53 7 rfl ?_
    obtain ⟨r8, hr8, h⟩ := bd_ok h
    refine r_callV (n := 58) rfl ok hG mf_m_isSequence k_1381 ks_69 k_1379 (C_m_isSequence  hr8) ⟨rfl, rfl⟩ (rR hXR ⟨Nat.le_of_ble_eq_true rfl, Nat.le_of_ble_eq_true rfl⟩) rfl rfl (rv_MOD) rfl (Nat.le_of_ble_eq_true rfl) d_m_bestChain_55 ?_
    refine r_if_eq (tgt := 118) (n := 61) rfl ok d_m_bestChain_58 (by decide) (fun c9 => ?_) (fun c9 => ?_)
    · replace h := if_p c9 h
      obtain ⟨x10, ex10, h⟩ := bd_ok h
      refine r_iinc (lv' := [(9, .int x10), (0, .ref (G.1 + 0)), (1, .int y1), (2, .int y2), (3, .int y3), (4, .int x.1), (5, .long x.2.1), (7, .long x.2.2.1)]) (n := 121) rfl ok d_m_bestChain_118 7 rfl (Option.some.inj ex10) (lt_n hXn (Nat.le_of_ble_eq_true rfl)) rfl ?_
      refine r_goto (tgt := 43) ok d_m_bestChain_121 (by decide) ?_
      obtain rfl := Option.some.inj h
      exact r_sub [1, 2, 3, 4, 5, 6, 7, 0] rfl (show Wt X x.2.2.2.2 43 [(0, .ref (G.1 + 0)), (1, .int y1), (2, .int y2), (3, .int y3), (4, .int x.1), (5, .long x.2.1), (7, .long x.2.2.1), (9, .int x10)] [] from hk _ rfl)
    · replace h := if_n c9 h
      refine r_aload_n (n := 62) rfl ok d_m_bestChain_61 rfl 0 rfl ?_
      refine r_iload_n (n := 63) rfl ok d_m_bestChain_62 rfl 1 rfl ?_
      refine r_iload_n (n := 64) rfl ok d_m_bestChain_63 rfl 2 rfl ?_
      refine r_iload (n := 66) rfl ok d_m_bestChain_64 7 rfl ?_
      obtain ⟨r11, hr11, h⟩ := bd_ok h
      refine r_callV (n := 69) rfl ok hG mf_m_walks k_1385 ks_70 k_1383 (C_m_walks  hr11) ⟨rfl, rfl⟩ (rR hXR ⟨Nat.le_of_ble_eq_true rfl, Nat.le_of_ble_eq_true rfl⟩) rfl rfl (rv_MOD) rfl (Nat.le_of_ble_eq_true rfl) d_m_bestChain_66 ?_
      refine r_iload (n := 71) rfl ok d_m_bestChain_69 4 rfl ?_
      refine r_bipush (v := (-9)) (n := 73) rfl ok d_m_bestChain_71 (by decide) ?_
      refine r_icmp_eq (tgt := 98) (n := 76) rfl ok d_m_bestChain_73 (by decide) (fun c12 => ?_) (fun c12 => ?_)
      · replace h := if_p c12 h
        refine r_iload (n := 100) rfl ok d_m_bestChain_98 7 rfl ?_
        refine r_istore (lv' := [(4, .int x.2.2.2.1), (0, .ref (G.1 + 0)), (1, .int y1), (2, .int y2), (3, .int y3), (5, .long x.2.1), (7, .long x.2.2.1), (9, .int x.2.2.2.1)]) (n := 102) rfl ok d_m_bestChain_100 (lt_n hXn (Nat.le_of_ble_eq_true rfl)) rfl ?_
        refine r_ldc2 (n := 105) rfl ok d_m_bestChain_102 k_1275 ?_
        refine r_aload_n (n := 106) rfl ok d_m_bestChain_105 rfl 1 rfl ?_
        refine g_MOD_tryReach (n := 109) rfl ok hG  k_992 d_m_bestChain_106 ?_
        refine r_lsub (n := 110) rfl ok d_m_bestChain_109 ?_
        obtain ⟨x13, ex13, h⟩ := bd_ok h
        refine r_tl (Option.some.inj ex13).symm ?_
        refine r_lstore (lv' := [(5, .long x13), (4, .int x.2.2.2.1), (0, .ref (G.1 + 0)), (1, .int y1), (2, .int y2), (3, .int y3), (7, .long x.2.2.1), (9, .int x.2.2.2.1)]) (n := 112) rfl ok d_m_bestChain_110 (lt_n hXn (Nat.le_of_ble_eq_true rfl)) rfl ?_
        refine r_aload_n (n := 113) rfl ok d_m_bestChain_112 rfl 2 rfl ?_
        refine g_MOD_trySum (n := 116) rfl ok hG  k_993 d_m_bestChain_113 ?_
        refine r_lstore (lv' := [(7, .long (r11.2 107 0 0 0)), (5, .long x13), (4, .int x.2.2.2.1), (0, .ref (G.1 + 0)), (1, .int y1), (2, .int y2), (3, .int y3), (9, .int x.2.2.2.1)]) (n := 118) rfl ok d_m_bestChain_116 (lt_n hXn (Nat.le_of_ble_eq_true rfl)) rfl ?_
        obtain ⟨x14, ex14, h⟩ := bd_ok h
        refine r_iinc (lv' := [(9, .int x14), (7, .long (r11.2 107 0 0 0)), (5, .long x13), (4, .int x.2.2.2.1), (0, .ref (G.1 + 0)), (1, .int y1), (2, .int y2), (3, .int y3)]) (n := 121) rfl ok d_m_bestChain_118 7 rfl (Option.some.inj ex14) (lt_n hXn (Nat.le_of_ble_eq_true rfl)) rfl ?_
        refine r_goto (tgt := 43) ok d_m_bestChain_121 (by decide) ?_
        obtain rfl := Option.some.inj h
        exact r_sub [4, 5, 6, 7, 3, 2, 1, 0] rfl (show Wt X r11 43 [(0, .ref (G.1 + 0)), (1, .int y1), (2, .int y2), (3, .int y3), (4, .int x.2.2.2.1), (5, .long x13), (7, .long (r11.2 107 0 0 0)), (9, .int x14)] [] from hk _ rfl)
      · replace h := if_n c12 h
        refine r_ldc2 (n := 79) rfl ok d_m_bestChain_76 k_1275 ?_
        refine r_aload_n (n := 80) rfl ok d_m_bestChain_79 rfl 0 rfl ?_
        refine g_MOD_tryReach (n := 83) rfl ok hG  k_992 d_m_bestChain_80 ?_
        refine r_lsub (n := 84) rfl ok d_m_bestChain_83 ?_
        refine r_lload (n := 86) rfl ok d_m_bestChain_84 6 rfl ?_
        refine r_lmul (n := 87) rfl ok d_m_bestChain_86 ?_
        refine r_lload (n := 89) rfl ok d_m_bestChain_87 5 rfl ?_
        refine r_aload_n (n := 90) rfl ok d_m_bestChain_89 rfl 0 rfl ?_
        refine g_MOD_trySum (n := 93) rfl ok hG  k_993 d_m_bestChain_90 ?_
        refine r_lmul (n := 94) rfl ok d_m_bestChain_93 ?_
        refine r_lcmp (n := 95) rfl ok d_m_bestChain_94 ?_
        refine r_if_le (tgt := 118) (n := 98) rfl ok d_m_bestChain_95 (by decide) (fun c15 => ?_) (fun c15 => ?_)
        · replace h := if_p c15 h
          obtain ⟨x16, ex16, h⟩ := bd_ok h
          refine r_iinc (lv' := [(9, .int x16), (0, .ref (G.1 + 0)), (1, .int y1), (2, .int y2), (3, .int y3), (4, .int x.1), (5, .long x.2.1), (7, .long x.2.2.1)]) (n := 121) rfl ok d_m_bestChain_118 7 rfl (Option.some.inj ex16) (lt_n hXn (Nat.le_of_ble_eq_true rfl)) rfl ?_
          refine r_goto (tgt := 43) ok d_m_bestChain_121 (by decide) ?_
          obtain rfl := Option.some.inj h
          exact r_sub [1, 2, 3, 4, 5, 6, 7, 0] rfl (show Wt X r11 43 [(0, .ref (G.1 + 0)), (1, .int y1), (2, .int y2), (3, .int y3), (4, .int x.1), (5, .long x.2.1), (7, .long x.2.2.1), (9, .int x16)] [] from hk _ rfl)
        · replace h := if_n c15 h
          refine r_iload (n := 100) rfl ok d_m_bestChain_98 7 rfl ?_
          refine r_istore (lv' := [(4, .int x.2.2.2.1), (0, .ref (G.1 + 0)), (1, .int y1), (2, .int y2), (3, .int y3), (5, .long x.2.1), (7, .long x.2.2.1), (9, .int x.2.2.2.1)]) (n := 102) rfl ok d_m_bestChain_100 (lt_n hXn (Nat.le_of_ble_eq_true rfl)) rfl ?_
          refine r_ldc2 (n := 105) rfl ok d_m_bestChain_102 k_1275 ?_
          refine r_aload_n (n := 106) rfl ok d_m_bestChain_105 rfl 1 rfl ?_
          refine g_MOD_tryReach (n := 109) rfl ok hG  k_992 d_m_bestChain_106 ?_
          refine r_lsub (n := 110) rfl ok d_m_bestChain_109 ?_
          obtain ⟨x17, ex17, h⟩ := bd_ok h
          refine r_tl (Option.some.inj ex17).symm ?_
          refine r_lstore (lv' := [(5, .long x17), (4, .int x.2.2.2.1), (0, .ref (G.1 + 0)), (1, .int y1), (2, .int y2), (3, .int y3), (7, .long x.2.2.1), (9, .int x.2.2.2.1)]) (n := 112) rfl ok d_m_bestChain_110 (lt_n hXn (Nat.le_of_ble_eq_true rfl)) rfl ?_
          refine r_aload_n (n := 113) rfl ok d_m_bestChain_112 rfl 2 rfl ?_
          refine g_MOD_trySum (n := 116) rfl ok hG  k_993 d_m_bestChain_113 ?_
          refine r_lstore (lv' := [(7, .long (r11.2 107 0 0 0)), (5, .long x17), (4, .int x.2.2.2.1), (0, .ref (G.1 + 0)), (1, .int y1), (2, .int y2), (3, .int y3), (9, .int x.2.2.2.1)]) (n := 118) rfl ok d_m_bestChain_116 (lt_n hXn (Nat.le_of_ble_eq_true rfl)) rfl ?_
          obtain ⟨x18, ex18, h⟩ := bd_ok h
          refine r_iinc (lv' := [(9, .int x18), (7, .long (r11.2 107 0 0 0)), (5, .long x17), (4, .int x.2.2.2.1), (0, .ref (G.1 + 0)), (1, .int y1), (2, .int y2), (3, .int y3)]) (n := 121) rfl ok d_m_bestChain_118 7 rfl (Option.some.inj ex18) (lt_n hXn (Nat.le_of_ble_eq_true rfl)) rfl ?_
          refine r_goto (tgt := 43) ok d_m_bestChain_121 (by decide) ?_
          obtain rfl := Option.some.inj h
          exact r_sub [4, 5, 6, 7, 3, 2, 1, 0] rfl (show Wt X r11 43 [(0, .ref (G.1 + 0)), (1, .int y1), (2, .int y2), (3, .int y3), (4, .int x.2.2.2.1), (5, .long x17), (7, .long (r11.2 107 0 0 0)), (9, .int x18)] [] from hk _ rfl)
set_option maxHeartbeats 4000000 in
set_option maxRecDepth 20000 in
theorem C_m_bestChain {l : Launch} {G : Gt} {M : Me} {a1 : Int32} {a2 : Int32} {a3 : Int32}  {o : Int32 × Me} (h : f_m_bestChain M a1 a2 a3 = some o) : Ct l G (WM G) (rM G) y_m_bestChain b_m_bestChain 10 (some .int) rm_m_bestChain [.ref (G.1 + 0), .int a1, .int a2, .int a3] M (some (.int o.1)) o.2 := by
  refine Ct.mk (own := "RetryChainsModel") rfl (by decide) (Nat.le_of_ble_eq_true rfl) ⟨_, rfl⟩ (fun X hXl hXR hXn ok hG fin => ?_)
  subst hXl
  unfold f_m_bestChain at h
  show Wt X M 0 [(0, .ref (G.1 + 0)), (1, .int a1), (2, .int a2), (3, .int a3)] []
  refine r_aload_n (n := 1) rfl ok d_m_bestChain_0 rfl 0 rfl ?_
  refine r_iload_n (n := 2) rfl ok d_m_bestChain_1 rfl 1 rfl ?_
  obtain ⟨r1, hr1, h⟩ := bd_ok h
  refine r_callV (n := 5) rfl ok hG mf_m_isStation k_1096 ks_29 k_1094 (C_m_isStation  hr1) ⟨rfl, rfl⟩ (rR hXR ⟨Nat.le_of_ble_eq_true rfl, Nat.le_of_ble_eq_true rfl⟩) rfl rfl (rv_MOD) rfl (Nat.le_of_ble_eq_true rfl) d_m_bestChain_2 ?_
  refine r_if_eq (tgt := 28) (n := 8) rfl ok d_m_bestChain_5 (by decide) (fun c2 => ?_) (fun c2 => ?_)
  · replace h := if_p c2 h
    refine r_iconst (v := (-1)) (n := 29) rfl ok d_m_bestChain_28 (by decide) ?_
    obtain rfl := Option.some.inj h
    exact fin _ _ ⟨.int, rfl, rfl⟩ d_m_bestChain_29
  · replace h := if_n c2 h
    refine r_iload_n (n := 9) rfl ok d_m_bestChain_8 rfl 2 rfl ?_
    refine r_iconst (v := 1) (n := 10) rfl ok d_m_bestChain_9 (by decide) ?_
    refine r_sipush (v := 4000) (n := 13) rfl ok d_m_bestChain_10 (by decide) ?_
    obtain ⟨r3, hr3, h⟩ := bd_ok h
    refine r_callS (n := 16) rfl ok hG mf_m_in k_1016 k_1015 (C_m_in  hr3) ⟨rfl, rfl⟩ (rR hXR ⟨Nat.le_of_ble_eq_true rfl, Nat.le_of_ble_eq_true rfl⟩) rfl rfl (Nat.le_of_ble_eq_true rfl) d_m_bestChain_13 ?_
    refine r_if_eq (tgt := 28) (n := 19) rfl ok d_m_bestChain_16 (by decide) (fun c4 => ?_) (fun c4 => ?_)
    · replace h := if_p c4 h
      refine r_iconst (v := (-1)) (n := 29) rfl ok d_m_bestChain_28 (by decide) ?_
      obtain rfl := Option.some.inj h
      exact fin _ _ ⟨.int, rfl, rfl⟩ d_m_bestChain_29
    · replace h := if_n c4 h
      refine r_iload_n (n := 20) rfl ok d_m_bestChain_19 rfl 3 rfl ?_
      refine r_iconst (v := 0) (n := 21) rfl ok d_m_bestChain_20 (by decide) ?_
      refine r_iconst (v := 3) (n := 22) rfl ok d_m_bestChain_21 (by decide) ?_
      obtain ⟨r5, hr5, h⟩ := bd_ok h
      refine r_callS (n := 25) rfl ok hG mf_m_in k_1016 k_1015 (C_m_in  hr5) ⟨rfl, rfl⟩ (rR hXR ⟨Nat.le_of_ble_eq_true rfl, Nat.le_of_ble_eq_true rfl⟩) rfl rfl (Nat.le_of_ble_eq_true rfl) d_m_bestChain_22 ?_
      refine r_if_ne (tgt := 30) (n := 28) rfl ok d_m_bestChain_25 (by decide) (fun c6 => ?_) (fun c6 => ?_)
      · replace h := if_n c6 h
        refine r_bipush (v := (-9)) (n := 32) rfl ok d_m_bestChain_30 (by decide) ?_
        refine r_istore (lv' := [(4, .int (-9)), (0, .ref (G.1 + 0)), (1, .int a1), (2, .int a2), (3, .int a3)]) (n := 34) rfl ok d_m_bestChain_32 (lt_n hXn (Nat.le_of_ble_eq_true rfl)) rfl ?_
        refine r_lconst (v := 0) (n := 35) rfl ok d_m_bestChain_34 (by decide) ?_
        refine r_lstore (lv' := [(5, .long 0), (4, .int (-9)), (0, .ref (G.1 + 0)), (1, .int a1), (2, .int a2), (3, .int a3)]) (n := 37) rfl ok d_m_bestChain_35 (lt_n hXn (Nat.le_of_ble_eq_true rfl)) rfl ?_
        refine r_lconst (v := 1) (n := 38) rfl ok d_m_bestChain_37 (by decide) ?_
        refine r_lstore (lv' := [(7, .long 1), (5, .long 0), (4, .int (-9)), (0, .ref (G.1 + 0)), (1, .int a1), (2, .int a2), (3, .int a3)]) (n := 40) rfl ok d_m_bestChain_38 (lt_n hXn (Nat.le_of_ble_eq_true rfl)) rfl ?_
        refine r_iconst (v := 0) (n := 41) rfl ok d_m_bestChain_40 (by decide) ?_
        refine r_istore (lv' := [(9, .int 0), (7, .long 1), (5, .long 0), (4, .int (-9)), (0, .ref (G.1 + 0)), (1, .int a1), (2, .int a2), (3, .int a3)]) (n := 43) rfl ok d_m_bestChain_41 (lt_n hXn (Nat.le_of_ble_eq_true rfl)) rfl ?_
        obtain ⟨t19, ht19, h⟩ := bd_ok h
        refine r_sub [4, 5, 6, 7, 3, 2, 1, 0] rfl (show Wt X M 43 [(0, .ref (G.1 + 0)), (1, .int a1), (2, .int a2), (3, .int a3), (4, .int (-9)), (5, .long 0), (7, .long 1), (9, .int 0)] [] from w_m_bestChain_43 ok hG hXR hXn  ?_ _ _ ht19)
        · intro e20 he
          subst he
          refine r_iload (n := 126) rfl ok d_m_bestChain_124 1 rfl ?_
          refine r_bipush (v := (-9)) (n := 128) rfl ok d_m_bestChain_126 (by decide) ?_
          refine r_icmp_ne (tgt := 136) (n := 131) rfl ok d_m_bestChain_128 (by decide) (fun c21 => ?_) (fun c21 => ?_)
          · replace h := if_n c21 h
            refine r_iload (n := 138) rfl ok d_m_bestChain_136 1 rfl ?_
            refine r_iconst (v := 3) (n := 139) rfl ok d_m_bestChain_138 (by decide) ?_
            refine r_iconst (v := 3) (n := 140) rfl ok d_m_bestChain_139 (by decide) ?_
            refine r_iload_n (n := 141) rfl ok d_m_bestChain_140 rfl 0 rfl ?_
            refine r_isub (n := 142) rfl ok d_m_bestChain_141 ?_
            refine r_imul (n := 143) rfl ok d_m_bestChain_142 ?_
            refine r_ishr (n := 144) rfl ok d_m_bestChain_143 ?_
            refine r_bipush (v := 7) (n := 146) rfl ok d_m_bestChain_144 (by decide) ?_
            refine r_iand (n := 147) rfl ok d_m_bestChain_146 ?_
            obtain rfl := Option.some.inj h
            exact fin _ _ ⟨.int, rfl, rfl⟩ d_m_bestChain_147
          · replace h := if_p c21 h
            refine r_bipush (v := (-9)) (n := 133) rfl ok d_m_bestChain_131 (by decide) ?_
            refine r_goto (tgt := 147) ok d_m_bestChain_133 (by decide) ?_
            obtain rfl := Option.some.inj h
            exact fin _ _ ⟨.int, rfl, rfl⟩ d_m_bestChain_147
      · replace h := if_p c6 h
        refine r_iconst (v := (-1)) (n := 29) rfl ok d_m_bestChain_28 (by decide) ?_
        obtain rfl := Option.some.inj h
        exact fin _ _ ⟨.int, rfl, rfl⟩ d_m_bestChain_29
set_option maxHeartbeats 4000000 in
set_option maxRecDepth 20000 in
theorem C_m_told {l : Launch} {G : Gt} {M : Me} {a1 : Int32} {a2 : Int32}  {o : Int32} (h : f_m_told M a1 a2 = some o) : Ct l G (WM G) (rM G) y_m_told b_m_told 3 (some .int) rm_m_told [.ref (G.1 + 0), .int a1, .int a2] M (some (.int o)) M := by
  refine Ct.mk (own := "RetryChainsModel") rfl (by decide) (Nat.le_of_ble_eq_true rfl) ⟨_, rfl⟩ (fun X hXl hXR hXn ok hG fin => ?_)
  subst hXl
  unfold f_m_told at h
  show Wt X M 0 [(0, .ref (G.1 + 0)), (1, .int a1), (2, .int a2)] []
  refine r_aload_n (n := 1) rfl ok d_m_told_0 rfl 0 rfl ?_
  refine r_iload_n (n := 2) rfl ok d_m_told_1 rfl 1 rfl ?_
  obtain ⟨r1, hr1, h⟩ := bd_ok h
  refine r_callV (n := 5) rfl ok hG mf_m_isStation k_1096 ks_29 k_1094 (C_m_isStation  hr1) ⟨rfl, rfl⟩ (rR hXR ⟨Nat.le_of_ble_eq_true rfl, Nat.le_of_ble_eq_true rfl⟩) rfl rfl (rv_MOD) rfl (Nat.le_of_ble_eq_true rfl) d_m_told_2 ?_
  refine r_if_eq (tgt := 22) (n := 8) rfl ok d_m_told_5 (by decide) (fun c2 => ?_) (fun c2 => ?_)
  · replace h := if_p c2 h
    refine r_iconst (v := (-1)) (n := 23) rfl ok d_m_told_22 (by decide) ?_
    obtain rfl := Option.some.inj h
    exact fin _ _ ⟨.int, rfl, rfl⟩ d_m_told_23
  · replace h := if_n c2 h
    refine r_aload_n (n := 9) rfl ok d_m_told_8 rfl 0 rfl ?_
    refine g_MOD_v (n := 12) rfl ok hG  k_986 d_m_told_9 ?_
    refine r_iload_n (n := 13) rfl ok d_m_told_12 rfl 1 rfl ?_
    obtain ⟨r3, hr3, h⟩ := bd_ok h
    refine r_callS (n := 16) rfl ok hG mf_m_side k_1034 k_1033 (C_m_side  hr3) ⟨rfl, rfl⟩ (rR hXR ⟨Nat.le_of_ble_eq_true rfl, Nat.le_of_ble_eq_true rfl⟩) rfl rfl (Nat.le_of_ble_eq_true rfl) d_m_told_13 ?_
    refine r_iload_n (n := 17) rfl ok d_m_told_16 rfl 2 rfl ?_
    refine r_iadd (n := 18) rfl ok d_m_told_17 ?_
    obtain ⟨g4, h⟩ := gd_ok h
    refine al_V (n := 19) rfl ok hG  g4 d_m_told_18 ?_
    refine r_goto (tgt := 23) ok d_m_told_19 (by decide) ?_
    obtain rfl := Option.some.inj h
    exact fin _ _ ⟨.int, rfl, rfl⟩ d_m_told_23
set_option maxHeartbeats 4000000 in
set_option maxRecDepth 20000 in
theorem C_m_chains {l : Launch} {G : Gt} {M : Me} {a1 : Int32}  {o : Int32} (h : f_m_chains M a1 = some o) : Ct l G (WM G) (rM G) y_m_chains b_m_chains 2 (some .int) rm_m_chains [.ref (G.1 + 0), .int a1] M (some (.int o)) M := by
  refine Ct.mk (own := "RetryChainsModel") rfl (by decide) (Nat.le_of_ble_eq_true rfl) ⟨_, rfl⟩ (fun X hXl hXR hXn ok hG fin => ?_)
  subst hXl
  unfold f_m_chains at h
  show Wt X M 0 [(0, .ref (G.1 + 0)), (1, .int a1)] []
  refine r_aload_n (n := 1) rfl ok d_m_chains_0 rfl 0 rfl ?_
  refine r_iload_n (n := 2) rfl ok d_m_chains_1 rfl 1 rfl ?_
  refine r_iconst (v := 0) (n := 3) rfl ok d_m_chains_2 (by decide) ?_
  obtain ⟨r1, hr1, h⟩ := bd_ok h
  refine r_callV (n := 6) rfl ok hG mf_m_told k_1393 ks_71 k_1391 (C_m_told  hr1) ⟨rfl, rfl⟩ (rR hXR ⟨Nat.le_of_ble_eq_true rfl, Nat.le_of_ble_eq_true rfl⟩) rfl rfl (rv_MOD) rfl (Nat.le_of_ble_eq_true rfl) d_m_chains_3 ?_
  obtain rfl := Option.some.inj h
  exact fin _ _ ⟨.int, rfl, rfl⟩ d_m_chains_6
set_option maxHeartbeats 4000000 in
set_option maxRecDepth 20000 in
theorem C_m_sampled {l : Launch} {G : Gt} {M : Me} {a1 : Int32}  {o : Int32} (h : f_m_sampled M a1 = some o) : Ct l G (WM G) (rM G) y_m_sampled b_m_sampled 2 (some .int) rm_m_sampled [.ref (G.1 + 0), .int a1] M (some (.int o)) M := by
  refine Ct.mk (own := "RetryChainsModel") rfl (by decide) (Nat.le_of_ble_eq_true rfl) ⟨_, rfl⟩ (fun X hXl hXR hXn ok hG fin => ?_)
  subst hXl
  unfold f_m_sampled at h
  show Wt X M 0 [(0, .ref (G.1 + 0)), (1, .int a1)] []
  refine r_aload_n (n := 1) rfl ok d_m_sampled_0 rfl 0 rfl ?_
  refine r_iload_n (n := 2) rfl ok d_m_sampled_1 rfl 1 rfl ?_
  refine r_iconst (v := 1) (n := 3) rfl ok d_m_sampled_2 (by decide) ?_
  obtain ⟨r1, hr1, h⟩ := bd_ok h
  refine r_callV (n := 6) rfl ok hG mf_m_told k_1393 ks_71 k_1391 (C_m_told  hr1) ⟨rfl, rfl⟩ (rR hXR ⟨Nat.le_of_ble_eq_true rfl, Nat.le_of_ble_eq_true rfl⟩) rfl rfl (rv_MOD) rfl (Nat.le_of_ble_eq_true rfl) d_m_sampled_3 ?_
  obtain rfl := Option.some.inj h
  exact fin _ _ ⟨.int, rfl, rfl⟩ d_m_sampled_6
set_option maxHeartbeats 4000000 in
set_option maxRecDepth 20000 in
theorem C_m_delivered {l : Launch} {G : Gt} {M : Me} {a1 : Int32}  {o : Int32} (h : f_m_delivered M a1 = some o) : Ct l G (WM G) (rM G) y_m_delivered b_m_delivered 2 (some .int) rm_m_delivered [.ref (G.1 + 0), .int a1] M (some (.int o)) M := by
  refine Ct.mk (own := "RetryChainsModel") rfl (by decide) (Nat.le_of_ble_eq_true rfl) ⟨_, rfl⟩ (fun X hXl hXR hXn ok hG fin => ?_)
  subst hXl
  unfold f_m_delivered at h
  show Wt X M 0 [(0, .ref (G.1 + 0)), (1, .int a1)] []
  refine r_aload_n (n := 1) rfl ok d_m_delivered_0 rfl 0 rfl ?_
  refine r_iload_n (n := 2) rfl ok d_m_delivered_1 rfl 1 rfl ?_
  refine r_iconst (v := 2) (n := 3) rfl ok d_m_delivered_2 (by decide) ?_
  obtain ⟨r1, hr1, h⟩ := bd_ok h
  refine r_callV (n := 6) rfl ok hG mf_m_told k_1393 ks_71 k_1391 (C_m_told  hr1) ⟨rfl, rfl⟩ (rR hXR ⟨Nat.le_of_ble_eq_true rfl, Nat.le_of_ble_eq_true rfl⟩) rfl rfl (rv_MOD) rfl (Nat.le_of_ble_eq_true rfl) d_m_delivered_3 ?_
  obtain rfl := Option.some.inj h
  exact fin _ _ ⟨.int, rfl, rfl⟩ d_m_delivered_6
set_option maxHeartbeats 4000000 in
set_option maxRecDepth 20000 in
theorem C_m_lost {l : Launch} {G : Gt} {M : Me} {a1 : Int32}  {o : Int32} (h : f_m_lost M a1 = some o) : Ct l G (WM G) (rM G) y_m_lost b_m_lost 2 (some .int) rm_m_lost [.ref (G.1 + 0), .int a1] M (some (.int o)) M := by
  refine Ct.mk (own := "RetryChainsModel") rfl (by decide) (Nat.le_of_ble_eq_true rfl) ⟨_, rfl⟩ (fun X hXl hXR hXn ok hG fin => ?_)
  subst hXl
  unfold f_m_lost at h
  show Wt X M 0 [(0, .ref (G.1 + 0)), (1, .int a1)] []
  refine r_aload_n (n := 1) rfl ok d_m_lost_0 rfl 0 rfl ?_
  refine r_iload_n (n := 2) rfl ok d_m_lost_1 rfl 1 rfl ?_
  refine r_iconst (v := 3) (n := 3) rfl ok d_m_lost_2 (by decide) ?_
  obtain ⟨r1, hr1, h⟩ := bd_ok h
  refine r_callV (n := 6) rfl ok hG mf_m_told k_1393 ks_71 k_1391 (C_m_told  hr1) ⟨rfl, rfl⟩ (rR hXR ⟨Nat.le_of_ble_eq_true rfl, Nat.le_of_ble_eq_true rfl⟩) rfl rfl (rv_MOD) rfl (Nat.le_of_ble_eq_true rfl) d_m_lost_3 ?_
  obtain rfl := Option.some.inj h
  exact fin _ _ ⟨.int, rfl, rfl⟩ d_m_lost_6
set_option maxHeartbeats 4000000 in
set_option maxRecDepth 20000 in
theorem C_m_queued {l : Launch} {G : Gt} {M : Me} {a1 : Int32}  {o : Int32} (h : f_m_queued M a1 = some o) : Ct l G (WM G) (rM G) y_m_queued b_m_queued 2 (some .int) rm_m_queued [.ref (G.1 + 0), .int a1] M (some (.int o)) M := by
  refine Ct.mk (own := "RetryChainsModel") rfl (by decide) (Nat.le_of_ble_eq_true rfl) ⟨_, rfl⟩ (fun X hXl hXR hXn ok hG fin => ?_)
  subst hXl
  unfold f_m_queued at h
  show Wt X M 0 [(0, .ref (G.1 + 0)), (1, .int a1)] []
  refine r_aload_n (n := 1) rfl ok d_m_queued_0 rfl 0 rfl ?_
  refine r_iload_n (n := 2) rfl ok d_m_queued_1 rfl 1 rfl ?_
  refine r_bipush (v := 6) (n := 4) rfl ok d_m_queued_2 (by decide) ?_
  obtain ⟨r1, hr1, h⟩ := bd_ok h
  refine r_callV (n := 7) rfl ok hG mf_m_told k_1393 ks_71 k_1391 (C_m_told  hr1) ⟨rfl, rfl⟩ (rR hXR ⟨Nat.le_of_ble_eq_true rfl, Nat.le_of_ble_eq_true rfl⟩) rfl rfl (rv_MOD) rfl (Nat.le_of_ble_eq_true rfl) d_m_queued_4 ?_
  obtain rfl := Option.some.inj h
  exact fin _ _ ⟨.int, rfl, rfl⟩ d_m_queued_7
set_option maxHeartbeats 4000000 in
set_option maxRecDepth 20000 in
theorem C_m_deficit {l : Launch} {G : Gt} {M : Me} {a1 : Int32}  {o : Int32} (h : f_m_deficit M a1 = some o) : Ct l G (WM G) (rM G) y_m_deficit b_m_deficit 2 (some .int) rm_m_deficit [.ref (G.1 + 0), .int a1] M (some (.int o)) M := by
  refine Ct.mk (own := "RetryChainsModel") rfl (by decide) (Nat.le_of_ble_eq_true rfl) ⟨_, rfl⟩ (fun X hXl hXR hXn ok hG fin => ?_)
  subst hXl
  unfold f_m_deficit at h
  show Wt X M 0 [(0, .ref (G.1 + 0)), (1, .int a1)] []
  refine r_aload_n (n := 1) rfl ok d_m_deficit_0 rfl 0 rfl ?_
  refine r_iload_n (n := 2) rfl ok d_m_deficit_1 rfl 1 rfl ?_
  obtain ⟨r1, hr1, h⟩ := bd_ok h
  refine r_callV (n := 5) rfl ok hG mf_m_isStation k_1096 ks_29 k_1094 (C_m_isStation  hr1) ⟨rfl, rfl⟩ (rR hXR ⟨Nat.le_of_ble_eq_true rfl, Nat.le_of_ble_eq_true rfl⟩) rfl rfl (rv_MOD) rfl (Nat.le_of_ble_eq_true rfl) d_m_deficit_2 ?_
  refine r_if_eq (tgt := 23) (n := 8) rfl ok d_m_deficit_5 (by decide) (fun c2 => ?_) (fun c2 => ?_)
  · replace h := if_p c2 h
    refine r_ldc (n := 25) rfl ok d_m_deficit_23 k_1415 ?_
    obtain rfl := Option.some.inj h
    exact fin _ _ ⟨.int, rfl, rfl⟩ d_m_deficit_25
  · replace h := if_n c2 h
    refine r_aload_n (n := 9) rfl ok d_m_deficit_8 rfl 0 rfl ?_
    refine g_MOD_v (n := 12) rfl ok hG  k_986 d_m_deficit_9 ?_
    refine r_iload_n (n := 13) rfl ok d_m_deficit_12 rfl 1 rfl ?_
    obtain ⟨r3, hr3, h⟩ := bd_ok h
    refine r_callS (n := 16) rfl ok hG mf_m_side k_1034 k_1033 (C_m_side  hr3) ⟨rfl, rfl⟩ (rR hXR ⟨Nat.le_of_ble_eq_true rfl, Nat.le_of_ble_eq_true rfl⟩) rfl rfl (Nat.le_of_ble_eq_true rfl) d_m_deficit_13 ?_
    refine r_bipush (v := 15) (n := 18) rfl ok d_m_deficit_16 (by decide) ?_
    refine r_iadd (n := 19) rfl ok d_m_deficit_18 ?_
    obtain ⟨g4, h⟩ := gd_ok h
    refine al_V (n := 20) rfl ok hG  g4 d_m_deficit_19 ?_
    refine r_goto (tgt := 25) ok d_m_deficit_20 (by decide) ?_
    obtain rfl := Option.some.inj h
    exact fin _ _ ⟨.int, rfl, rfl⟩ d_m_deficit_25
set_option maxHeartbeats 4000000 in
set_option maxRecDepth 20000 in
theorem C_m_inFallback {l : Launch} {G : Gt} {M : Me} {a1 : Int32}  {o : Int32} (h : f_m_inFallback M a1 = some o) : Ct l G (WM G) (rM G) y_m_inFallback b_m_inFallback 2 (some .int) rm_m_inFallback [.ref (G.1 + 0), .int a1] M (some (.int o)) M := by
  refine Ct.mk (own := "RetryChainsModel") rfl (by decide) (Nat.le_of_ble_eq_true rfl) ⟨_, rfl⟩ (fun X hXl hXR hXn ok hG fin => ?_)
  subst hXl
  unfold f_m_inFallback at h
  show Wt X M 0 [(0, .ref (G.1 + 0)), (1, .int a1)] []
  refine r_aload_n (n := 1) rfl ok d_m_inFallback_0 rfl 0 rfl ?_
  refine r_iload_n (n := 2) rfl ok d_m_inFallback_1 rfl 1 rfl ?_
  refine r_iconst (v := 5) (n := 3) rfl ok d_m_inFallback_2 (by decide) ?_
  obtain ⟨r1, hr1, h⟩ := bd_ok h
  refine r_callV (n := 6) rfl ok hG mf_m_told k_1393 ks_71 k_1391 (C_m_told  hr1) ⟨rfl, rfl⟩ (rR hXR ⟨Nat.le_of_ble_eq_true rfl, Nat.le_of_ble_eq_true rfl⟩) rfl rfl (rv_MOD) rfl (Nat.le_of_ble_eq_true rfl) d_m_inFallback_3 ?_
  obtain rfl := Option.some.inj h
  exact fin _ _ ⟨.int, rfl, rfl⟩ d_m_inFallback_6
set_option maxHeartbeats 4000000 in
set_option maxRecDepth 20000 in
theorem C_m_time {l : Launch} {G : Gt} {M : Me}   {o : Int32} (h : f_m_time M = some o) : Ct l G (WM G) (rM G) y_m_time b_m_time 1 (some .int) rm_m_time [.ref (G.1 + 0)] M (some (.int o)) M := by
  refine Ct.mk (own := "RetryChainsModel") rfl (by decide) (Nat.le_of_ble_eq_true rfl) ⟨_, rfl⟩ (fun X hXl hXR hXn ok hG fin => ?_)
  subst hXl
  unfold f_m_time at h
  show Wt X M 0 [(0, .ref (G.1 + 0))] []
  refine r_aload_n (n := 1) rfl ok d_m_time_0 rfl 0 rfl ?_
  refine g_MOD_v (n := 4) rfl ok hG  k_986 d_m_time_1 ?_
  refine r_iconst (v := 0) (n := 5) rfl ok d_m_time_4 (by decide) ?_
  refine al_V (n := 6) rfl ok hG  (show gin 0 600 by decide) d_m_time_5 ?_
  obtain rfl := Option.some.inj h
  exact fin _ _ ⟨.int, rfl, rfl⟩ d_m_time_6
set_option maxHeartbeats 4000000 in
set_option maxRecDepth 20000 in
theorem C_m_setQuality {l : Launch} {G : Gt} {M : Me} {a1 : Int32} {a2 : Int32} {a3 : Int32}  {o : Int32 × Me} (h : f_m_setQuality M a1 a2 a3 = some o) : Ct l G (WM G) (rM G) y_m_setQuality b_m_setQuality 4 (some .int) rm_m_setQuality [.ref (G.1 + 0), .int a1, .int a2, .int a3] M (some (.int o.1)) o.2 := by
  refine Ct.mk (own := "RetryChainsModel") rfl (by decide) (Nat.le_of_ble_eq_true rfl) ⟨_, rfl⟩ (fun X hXl hXR hXn ok hG fin => ?_)
  subst hXl
  unfold f_m_setQuality at h
  show Wt X M 0 [(0, .ref (G.1 + 0)), (1, .int a1), (2, .int a2), (3, .int a3)] []
  refine r_aload_n (n := 1) rfl ok d_m_setQuality_0 rfl 0 rfl ?_
  refine r_iload_n (n := 2) rfl ok d_m_setQuality_1 rfl 1 rfl ?_
  refine r_iload_n (n := 3) rfl ok d_m_setQuality_2 rfl 2 rfl ?_
  obtain ⟨r1, hr1, h⟩ := bd_ok h
  refine r_callV (n := 6) rfl ok hG mf_m_areBoth k_1092 ks_28 k_1090 (C_m_areBoth  hr1) ⟨rfl, rfl⟩ (rR hXR ⟨Nat.le_of_ble_eq_true rfl, Nat.le_of_ble_eq_true rfl⟩) rfl rfl (rv_MOD) rfl (Nat.le_of_ble_eq_true rfl) d_m_setQuality_3 ?_
  refine r_if_eq (tgt := 29) (n := 9) rfl ok d_m_setQuality_6 (by decide) (fun c2 => ?_) (fun c2 => ?_)
  · replace h := if_p c2 h
    refine r_iconst (v := (-1)) (n := 30) rfl ok d_m_setQuality_29 (by decide) ?_
    obtain rfl := Option.some.inj h
    exact fin _ _ ⟨.int, rfl, rfl⟩ d_m_setQuality_30
  · replace h := if_n c2 h
    refine r_aload_n (n := 10) rfl ok d_m_setQuality_9 rfl 0 rfl ?_
    refine r_iload_n (n := 11) rfl ok d_m_setQuality_10 rfl 1 rfl ?_
    refine r_iload_n (n := 12) rfl ok d_m_setQuality_11 rfl 2 rfl ?_
    obtain ⟨r3, hr3, h⟩ := bd_ok h
    refine r_callS (n := 15) rfl ok hG mf_m_pair k_1027 k_1026 (C_m_pair  hr3) ⟨rfl, rfl⟩ (rR hXR ⟨Nat.le_of_ble_eq_true rfl, Nat.le_of_ble_eq_true rfl⟩) rfl rfl (Nat.le_of_ble_eq_true rfl) d_m_setQuality_12 ?_
    refine r_bipush (v := 7) (n := 17) rfl ok d_m_setQuality_15 (by decide) ?_
    refine r_iadd (n := 18) rfl ok d_m_setQuality_17 ?_
    refine r_iload_n (n := 19) rfl ok d_m_setQuality_18 rfl 3 rfl ?_
    refine r_iconst (v := 0) (n := 20) rfl ok d_m_setQuality_19 (by decide) ?_
    refine r_sipush (v := 1000) (n := 23) rfl ok d_m_setQuality_20 (by decide) ?_
    obtain ⟨r4, hr4, h⟩ := bd_ok h
    refine r_callV (n := 26) rfl ok hG mf_m_sets k_1108 ks_31 k_1106 (C_m_sets  hr4) ⟨rfl, rfl⟩ (rR hXR ⟨Nat.le_of_ble_eq_true rfl, Nat.le_of_ble_eq_true rfl⟩) rfl rfl (rv_MOD) rfl (Nat.le_of_ble_eq_true rfl) d_m_setQuality_23 ?_
    refine r_goto (tgt := 30) ok d_m_setQuality_26 (by decide) ?_
    obtain rfl := Option.some.inj h
    exact fin _ _ ⟨.int, rfl, rfl⟩ d_m_setQuality_30
set_option maxHeartbeats 4000000 in
set_option maxRecDepth 20000 in
theorem C_m_whyNot {l : Launch} {G : Gt} {M : Me} {a1 : Int32} {a2 : Int32} {a3 : Int32}  {o : Int32} (h : f_m_whyNot M a1 a2 a3 = some o) : Ct l G (WM G) (rM G) y_m_whyNot b_m_whyNot 4 (some .int) rm_m_whyNot [.ref (G.1 + 0), .int a1, .int a2, .int a3] M (some (.int o)) M := by
  refine Ct.mk (own := "RetryChainsModel") rfl (by decide) (Nat.le_of_ble_eq_true rfl) ⟨_, rfl⟩ (fun X hXl hXR hXn ok hG fin => ?_)
  subst hXl
  unfold f_m_whyNot at h
  show Wt X M 0 [(0, .ref (G.1 + 0)), (1, .int a1), (2, .int a2), (3, .int a3)] []
  refine r_aload_n (n := 1) rfl ok d_m_whyNot_0 rfl 0 rfl ?_
  refine r_iload_n (n := 2) rfl ok d_m_whyNot_1 rfl 1 rfl ?_
  obtain ⟨r1, hr1, h⟩ := bd_ok h
  refine r_callV (n := 5) rfl ok hG mf_m_isStation k_1096 ks_29 k_1094 (C_m_isStation  hr1) ⟨rfl, rfl⟩ (rR hXR ⟨Nat.le_of_ble_eq_true rfl, Nat.le_of_ble_eq_true rfl⟩) rfl rfl (rv_MOD) rfl (Nat.le_of_ble_eq_true rfl) d_m_whyNot_2 ?_
  refine r_if_eq (tgt := 29) (n := 8) rfl ok d_m_whyNot_5 (by decide) (fun c2 => ?_) (fun c2 => ?_)
  · replace h := if_p c2 h
    refine r_iconst (v := (-1)) (n := 30) rfl ok d_m_whyNot_29 (by decide) ?_
    obtain rfl := Option.some.inj h
    exact fin _ _ ⟨.int, rfl, rfl⟩ d_m_whyNot_30
  · replace h := if_n c2 h
    refine r_iload_n (n := 9) rfl ok d_m_whyNot_8 rfl 2 rfl ?_
    refine r_iconst (v := 1) (n := 10) rfl ok d_m_whyNot_9 (by decide) ?_
    refine r_bipush (v := 50) (n := 12) rfl ok d_m_whyNot_10 (by decide) ?_
    obtain ⟨r3, hr3, h⟩ := bd_ok h
    refine r_callS (n := 15) rfl ok hG mf_m_in k_1016 k_1015 (C_m_in  hr3) ⟨rfl, rfl⟩ (rR hXR ⟨Nat.le_of_ble_eq_true rfl, Nat.le_of_ble_eq_true rfl⟩) rfl rfl (Nat.le_of_ble_eq_true rfl) d_m_whyNot_12 ?_
    refine r_if_eq (tgt := 29) (n := 18) rfl ok d_m_whyNot_15 (by decide) (fun c4 => ?_) (fun c4 => ?_)
    · replace h := if_p c4 h
      refine r_iconst (v := (-1)) (n := 30) rfl ok d_m_whyNot_29 (by decide) ?_
      obtain rfl := Option.some.inj h
      exact fin _ _ ⟨.int, rfl, rfl⟩ d_m_whyNot_30
    · replace h := if_n c4 h
      refine r_iload_n (n := 19) rfl ok d_m_whyNot_18 rfl 3 rfl ?_
      refine r_iconst (v := 1) (n := 20) rfl ok d_m_whyNot_19 (by decide) ?_
      refine r_sipush (v := 4000) (n := 23) rfl ok d_m_whyNot_20 (by decide) ?_
      obtain ⟨r5, hr5, h⟩ := bd_ok h
      refine r_callS (n := 26) rfl ok hG mf_m_in k_1016 k_1015 (C_m_in  hr5) ⟨rfl, rfl⟩ (rR hXR ⟨Nat.le_of_ble_eq_true rfl, Nat.le_of_ble_eq_true rfl⟩) rfl rfl (Nat.le_of_ble_eq_true rfl) d_m_whyNot_23 ?_
      refine r_if_ne (tgt := 31) (n := 29) rfl ok d_m_whyNot_26 (by decide) (fun c6 => ?_) (fun c6 => ?_)
      · replace h := if_n c6 h
        refine r_aload_n (n := 32) rfl ok d_m_whyNot_31 rfl 0 rfl ?_
        refine r_iload_n (n := 33) rfl ok d_m_whyNot_32 rfl 1 rfl ?_
        obtain ⟨r7, hr7, h⟩ := bd_ok h
        refine r_callV (n := 36) rfl ok hG mf_m_hasAllowed k_1129 ks_32 k_1127 (C_m_hasAllowed  hr7) ⟨rfl, rfl⟩ (rR hXR ⟨Nat.le_of_ble_eq_true rfl, Nat.le_of_ble_eq_true rfl⟩) rfl rfl (rv_MOD) rfl (Nat.le_of_ble_eq_true rfl) d_m_whyNot_33 ?_
        refine r_if_ne (tgt := 44) (n := 39) rfl ok d_m_whyNot_36 (by decide) (fun c8 => ?_) (fun c8 => ?_)
        · replace h := if_n c8 h
          refine r_aload_n (n := 45) rfl ok d_m_whyNot_44 rfl 0 rfl ?_
          obtain ⟨r9, hr9, h⟩ := bd_ok h
          refine r_callV (n := 48) rfl ok hG mf_m_freeChain k_1133 ks_33 k_1131 (C_m_freeChain  hr9) ⟨rfl, rfl⟩ (rR hXR ⟨Nat.le_of_ble_eq_true rfl, Nat.le_of_ble_eq_true rfl⟩) rfl rfl (rv_MOD) rfl (Nat.le_of_ble_eq_true rfl) d_m_whyNot_45 ?_
          refine r_bipush (v := (-9)) (n := 50) rfl ok d_m_whyNot_48 (by decide) ?_
          refine r_icmp_ne (tgt := 58) (n := 53) rfl ok d_m_whyNot_50 (by decide) (fun c10 => ?_) (fun c10 => ?_)
          · replace h := if_n c10 h
            refine r_aload_n (n := 59) rfl ok d_m_whyNot_58 rfl 0 rfl ?_
            refine g_MOD_v (n := 62) rfl ok hG  k_986 d_m_whyNot_59 ?_
            refine r_iconst (v := 0) (n := 63) rfl ok d_m_whyNot_62 (by decide) ?_
            refine al_V (n := 64) rfl ok hG  (show gin 0 600 by decide) d_m_whyNot_63 ?_
            refine r_ldc (n := 66) rfl ok d_m_whyNot_64 k_1436 ?_
            refine r_icmp_le (tgt := 74) (n := 69) rfl ok d_m_whyNot_66 (by decide) (fun c11 => ?_) (fun c11 => ?_)
            · replace h := if_p c11 h
              refine r_iconst (v := 0) (n := 75) rfl ok d_m_whyNot_74 (by decide) ?_
              obtain rfl := Option.some.inj h
              exact fin _ _ ⟨.int, rfl, rfl⟩ d_m_whyNot_75
            · replace h := if_n c11 h
              refine r_bipush (v := (-4)) (n := 71) rfl ok d_m_whyNot_69 (by decide) ?_
              refine r_goto (tgt := 75) ok d_m_whyNot_71 (by decide) ?_
              obtain rfl := Option.some.inj h
              exact fin _ _ ⟨.int, rfl, rfl⟩ d_m_whyNot_75
          · replace h := if_p c10 h
            refine r_bipush (v := (-3)) (n := 55) rfl ok d_m_whyNot_53 (by decide) ?_
            refine r_goto (tgt := 75) ok d_m_whyNot_55 (by decide) ?_
            obtain rfl := Option.some.inj h
            exact fin _ _ ⟨.int, rfl, rfl⟩ d_m_whyNot_75
        · replace h := if_p c8 h
          refine r_bipush (v := (-2)) (n := 41) rfl ok d_m_whyNot_39 (by decide) ?_
          refine r_goto (tgt := 75) ok d_m_whyNot_41 (by decide) ?_
          obtain rfl := Option.some.inj h
          exact fin _ _ ⟨.int, rfl, rfl⟩ d_m_whyNot_75
      · replace h := if_p c6 h
        refine r_iconst (v := (-1)) (n := 30) rfl ok d_m_whyNot_29 (by decide) ?_
        obtain rfl := Option.some.inj h
        exact fin _ _ ⟨.int, rfl, rfl⟩ d_m_whyNot_30
set_option maxHeartbeats 4000000 in
set_option maxRecDepth 20000 in
theorem w_m_simulates_38 {X : Cx Me} {G : Gt} (ok : Ok X b_m_simulates "RetryChainsModel") (hG : GM X G) (hXR : X.R = rm_m_simulates) (hXn : X.nL = 13) {M : Me} {y1 : Int32} {y2 : Int32} {y3 : Int32} {y6 : Int32} {y7 : Int32} {y8 : Int32} {y9 : Int32}  {t : Int32 × Int32 × Int32} (kx : ∀ e : Int32 × Int32 × Int32, e = t → Wt X M 106 [(0, .ref (G.1 + 0)), (1, .int y1), (2, .int y2), (3, .int y3), (5, .int e.1), (6, .int y6), (7, .int y7), (8, .int y8), (10, .int e.2.1), (11, .int e.2.2)] [])  : ∀ (n : Nat) (x : Int32 × Int32 × Int32), lp n (b_m_simulates_38 M y1 y2 y3 y6 y7 y8 y9) x = some t → Wt X M 38 [(0, .ref (G.1 + 0)), (1, .int y1), (2, .int y2), (3, .int y3), (5, .int x.1), (6, .int y6), (7, .int y7), (8, .int y8), (9, .int y9), (10, .int x.2.1), (11, .int x.2.2)] [] := by
  intro n x h
  refine lp_W (P := fun x => Wt X M 38 [(0, .ref (G.1 + 0)), (1, .int y1), (2, .int y2), (3, .int y3), (5, .int x.1), (6, .int y6), (7, .int y7), (8, .int y8), (9, .int y9), (10, .int x.2.1), (11, .int x.2.2)] []) (Z := fun t' => t' = t) (fun x r h hk hz => ?_) n x t h rfl
  unfold b_m_simulates_38 at h
  refine r_iload (n := 40) rfl ok d_m_simulates_38 10 rfl ?_
  refine r_if_ne (tgt := 106) (n := 43) rfl ok d_m_simulates_40 (by decide) (fun c4 => ?_) (fun c4 => ?_)
  · replace h := if_n c4 h
    obtain rfl := Option.some.inj h
    exact r_sub [0, 1, 2, 3, 4, 5, 6, 7, 9, 10] rfl (show Wt X M 106 [(0, .ref (G.1 + 0)), (1, .int y1), (2, .int y2), (3, .int y3), (5, .int x.1), (6, .int y6), (7, .int y7), (8, .int y8), (10, .int x.2.1), (11, .int x.2.2)] [] from kx _ (hz _ rfl))
  · replace h := if_p c4 h
    refine r_iload (n := 45) rfl ok d_m_simulates_43 9 rfl ?_
    refine r_iload (n := 47) rfl ok d_m_simulates_45 8 rfl ?_
    refine r_icmp_ge (tgt := 106) (n := 50) rfl ok d_m_simulates_47 (by decide) (fun c5 => ?_) (fun c5 => ?_)
    · replace h := if_p c5 h
      obtain rfl := Option.some.inj h
      exact r_sub [0, 1, 2, 3, 4, 5, 6, 7, 9, 10] rfl (show Wt X M 106 [(0, .ref (G.1 + 0)), (1, .int y1), (2, .int y2), (3, .int y3), (5, .int x.1), (6, .int y6), (7, .int y7), (8, .int y8), (10, .int x.2.1), (11, .int x.2.2)] [] from kx _ (hz _ rfl))
    · replace h := if_n c5 h
      refine r_ldc (n := 52) rfl ok d_m_simulates_50 k_1177 ?_
      refine r_iload (n := 54) rfl ok d_m_simulates_52 4 rfl ?_
      refine r_imul (n := 55) rfl ok d_m_simulates_54 ?_
      refine r_sipush (v := 12345) (n := 58) rfl ok d_m_simulates_55 (by decide) ?_
      refine r_iadd (n := 59) rfl ok d_m_simulates_58 ?_
      obtain ⟨x6, ex6, h⟩ := bd_ok h
      refine r_ti (Option.some.inj ex6).symm ?_
      refine r_istore (lv' := [(5, .int x6), (0, .ref (G.1 + 0)), (1, .int y1), (2, .int y2), (3, .int y3), (6, .int y6), (7, .int y7), (8, .int y8), (9, .int y9), (10, .int x.2.1), (11, .int x.2.2)]) (n := 61) rfl ok d_m_simulates_59 (lt_n hXn (Nat.le_of_ble_eq_true rfl)) rfl ?_
      refine r_iload (n := 63) rfl ok d_m_simulates_61 0 rfl ?_
      refine r_bipush (v := 16) (n := 65) rfl ok d_m_simulates_63 (by decide) ?_
      refine r_iushr (n := 66) rfl ok d_m_simulates_65 ?_
      refine r_sipush (v := 1000) (n := 69) rfl ok d_m_simulates_66 (by decide) ?_
      refine r_irem (n := 70) rfl ok d_m_simulates_69 (by decide) ?_
      refine r_aload_n (n := 71) rfl ok d_m_simulates_70 rfl 1 rfl ?_
      refine g_MOD_v (n := 74) rfl ok hG  k_986 d_m_simulates_71 ?_
      refine r_iload_n (n := 75) rfl ok d_m_simulates_74 rfl 2 rfl ?_
      refine r_aload_n (n := 76) rfl ok d_m_simulates_75 rfl 1 rfl ?_
      refine r_iload (n := 78) rfl ok d_m_simulates_76 7 rfl ?_
      refine r_iload (n := 80) rfl ok d_m_simulates_78 9 rfl ?_
      obtain ⟨r7, hr7, h⟩ := bd_ok h
      refine r_callV (n := 83) rfl ok hG mf_m_rateOfTry k_1232 ks_53 k_1230 (C_m_rateOfTry  hr7) ⟨rfl, rfl⟩ (rR hXR ⟨Nat.le_of_ble_eq_true rfl, Nat.le_of_ble_eq_true rfl⟩) rfl rfl (rv_MOD) rfl (Nat.le_of_ble_eq_true rfl) d_m_simulates_80 ?_
      obtain ⟨r8, hr8, h⟩ := bd_ok h
      refine r_callS (n := 86) rfl ok hG mf_m_pair k_1027 k_1026 (C_m_pair  hr8) ⟨rfl, rfl⟩ (rR hXR ⟨Nat.le_of_ble_eq_true rfl, Nat.le_of_ble_eq_true rfl⟩) rfl rfl (Nat.le_of_ble_eq_true rfl) d_m_simulates_83 ?_
      refine r_bipush (v := 7) (n := 88) rfl ok d_m_simulates_86 (by decide) ?_
      refine r_iadd (n := 89) rfl ok d_m_simulates_88 ?_
      obtain ⟨g9, h⟩ := gd_ok h
      refine al_V (n := 90) rfl ok hG  g9 d_m_simulates_89 ?_
      refine r_icmp_ge (tgt := 97) (n := 93) rfl ok d_m_simulates_90 (by decide) (fun c10 => ?_) (fun c10 => ?_)
      · replace h := if_p c10 h
        refine r_iconst (v := 0) (n := 98) rfl ok d_m_simulates_97 (by decide) ?_
        refine r_istore (lv' := [(11, .int 0), (5, .int x6), (0, .ref (G.1 + 0)), (1, .int y1), (2, .int y2), (3, .int y3), (6, .int y6), (7, .int y7), (8, .int y8), (9, .int y9), (10, .int x.2.1)]) (n := 100) rfl ok d_m_simulates_98 (lt_n hXn (Nat.le_of_ble_eq_true rfl)) rfl ?_
        obtain ⟨x11, ex11, h⟩ := bd_ok h
        refine r_iinc (lv' := [(10, .int x11), (11, .int 0), (5, .int x6), (0, .ref (G.1 + 0)), (1, .int y1), (2, .int y2), (3, .int y3), (6, .int y6), (7, .int y7), (8, .int y8), (9, .int y9)]) (n := 103) rfl ok d_m_simulates_100 10 rfl (Option.some.inj ex11) (lt_n hXn (Nat.le_of_ble_eq_true rfl)) rfl ?_
        refine r_goto (tgt := 38) ok d_m_simulates_103 (by decide) ?_
        obtain rfl := Option.some.inj h
        exact r_sub [3, 4, 5, 6, 2, 7, 8, 9, 10, 0, 1] rfl (show Wt X M 38 [(0, .ref (G.1 + 0)), (1, .int y1), (2, .int y2), (3, .int y3), (5, .int x6), (6, .int y6), (7, .int y7), (8, .int y8), (9, .int y9), (10, .int x11), (11, .int 0)] [] from hk _ rfl)
      · replace h := if_n c10 h
        refine r_iconst (v := 1) (n := 94) rfl ok d_m_simulates_93 (by decide) ?_
        refine r_goto (tgt := 98) ok d_m_simulates_94 (by decide) ?_
        refine r_istore (lv' := [(11, .int 1), (5, .int x6), (0, .ref (G.1 + 0)), (1, .int y1), (2, .int y2), (3, .int y3), (6, .int y6), (7, .int y7), (8, .int y8), (9, .int y9), (10, .int x.2.1)]) (n := 100) rfl ok d_m_simulates_98 (lt_n hXn (Nat.le_of_ble_eq_true rfl)) rfl ?_
        obtain ⟨x12, ex12, h⟩ := bd_ok h
        refine r_iinc (lv' := [(10, .int x12), (11, .int 1), (5, .int x6), (0, .ref (G.1 + 0)), (1, .int y1), (2, .int y2), (3, .int y3), (6, .int y6), (7, .int y7), (8, .int y8), (9, .int y9)]) (n := 103) rfl ok d_m_simulates_100 10 rfl (Option.some.inj ex12) (lt_n hXn (Nat.le_of_ble_eq_true rfl)) rfl ?_
        refine r_goto (tgt := 38) ok d_m_simulates_103 (by decide) ?_
        obtain rfl := Option.some.inj h
        exact r_sub [3, 4, 5, 6, 2, 7, 8, 9, 10, 0, 1] rfl (show Wt X M 38 [(0, .ref (G.1 + 0)), (1, .int y1), (2, .int y2), (3, .int y3), (5, .int x6), (6, .int y6), (7, .int y7), (8, .int y8), (9, .int y9), (10, .int x12), (11, .int 1)] [] from hk _ rfl)
set_option maxHeartbeats 4000000 in
set_option maxRecDepth 20000 in
theorem w_m_simulates_10 {X : Cx Me} {G : Gt} (ok : Ok X b_m_simulates "RetryChainsModel") (hG : GM X G) (hXR : X.R = rm_m_simulates) (hXn : X.nL = 13) {y1 : Int32} {y2 : Int32} {y3 : Int32}  {t : Int32 × Me} (kx : ∀ e : Int32 × Me, e = t → Wt X e.2 139 [(6, .int e.1)] [])  : ∀ (n : Nat) (x : Int32 × Int32 × Int32 × Me), lp n (b_m_simulates_10 y1 y2 y3) x = some t → Wt X x.2.2.2 10 [(0, .ref (G.1 + 0)), (1, .int y1), (2, .int y2), (3, .int y3), (5, .int x.1), (6, .int x.2.1), (7, .int x.2.2.1)] [] := by
  intro n x h
  refine lp_W (P := fun x => Wt X x.2.2.2 10 [(0, .ref (G.1 + 0)), (1, .int y1), (2, .int y2), (3, .int y3), (5, .int x.1), (6, .int x.2.1), (7, .int x.2.2.1)] []) (Z := fun t' => t' = t) (fun x r h hk hz => ?_) n x t h rfl
  unfold b_m_simulates_10 at h
  refine r_iload (n := 12) rfl ok d_m_simulates_10 6 rfl ?_
  refine r_iload_n (n := 13) rfl ok d_m_simulates_12 rfl 2 rfl ?_
  refine r_icmp_ge (tgt := 139) (n := 16) rfl ok d_m_simulates_13 (by decide) (fun c1 => ?_) (fun c1 => ?_)
  · replace h := if_p c1 h
    obtain rfl := Option.some.inj h
    exact r_sub [5] rfl (show Wt X x.2.2.2 139 [(6, .int x.2.1)] [] from kx _ (hz _ rfl))
  · replace h := if_n c1 h
    refine r_aload_n (n := 17) rfl ok d_m_simulates_16 rfl 0 rfl ?_
    refine r_iload_n (n := 18) rfl ok d_m_simulates_17 rfl 1 rfl ?_
    refine r_iload_n (n := 19) rfl ok d_m_simulates_18 rfl 3 rfl ?_
    obtain ⟨r2, hr2, h⟩ := bd_ok h
    refine r_callV (n := 22) rfl ok hG mf_m_lays k_1140 ks_34 k_1138 (C_m_lays  hr2) ⟨rfl, rfl⟩ (rR hXR ⟨Nat.le_of_ble_eq_true rfl, Nat.le_of_ble_eq_true rfl⟩) rfl rfl (rv_MOD) rfl (Nat.le_of_ble_eq_true rfl) d_m_simulates_19 ?_
    refine r_istore (lv' := [(8, .int r2.1), (0, .ref (G.1 + 0)), (1, .int y1), (2, .int y2), (3, .int y3), (5, .int x.1), (6, .int x.2.1), (7, .int x.2.2.1)]) (n := 24) rfl ok d_m_simulates_22 (lt_n hXn (Nat.le_of_ble_eq_true rfl)) rfl ?_
    refine r_aload_n (n := 25) rfl ok d_m_simulates_24 rfl 1 rfl ?_
    refine r_iload (n := 27) rfl ok d_m_simulates_25 0 rfl ?_
    obtain ⟨r3, hr3, h⟩ := bd_ok h
    refine r_callV (n := 30) rfl ok hG mf_m_triesOfAll k_1220 ks_50 k_1218 (C_m_triesOfAll  hr3) ⟨rfl, rfl⟩ (rR hXR ⟨Nat.le_of_ble_eq_true rfl, Nat.le_of_ble_eq_true rfl⟩) rfl rfl (rv_MOD) rfl (Nat.le_of_ble_eq_true rfl) d_m_simulates_27 ?_
    refine r_istore (lv' := [(9, .int r3), (8, .int r2.1), (0, .ref (G.1 + 0)), (1, .int y1), (2, .int y2), (3, .int y3), (5, .int x.1), (6, .int x.2.1), (7, .int x.2.2.1)]) (n := 32) rfl ok d_m_simulates_30 (lt_n hXn (Nat.le_of_ble_eq_true rfl)) rfl ?_
    refine r_iconst (v := 0) (n := 33) rfl ok d_m_simulates_32 (by decide) ?_
    refine r_istore (lv' := [(10, .int 0), (9, .int r3), (8, .int r2.1), (0, .ref (G.1 + 0)), (1, .int y1), (2, .int y2), (3, .int y3), (5, .int x.1), (6, .int x.2.1), (7, .int x.2.2.1)]) (n := 35) rfl ok d_m_simulates_33 (lt_n hXn (Nat.le_of_ble_eq_true rfl)) rfl ?_
    refine r_iconst (v := 0) (n := 36) rfl ok d_m_simulates_35 (by decide) ?_
    refine r_istore (lv' := [(11, .int 0), (10, .int 0), (9, .int r3), (8, .int r2.1), (0, .ref (G.1 + 0)), (1, .int y1), (2, .int y2), (3, .int y3), (5, .int x.1), (6, .int x.2.1), (7, .int x.2.2.1)]) (n := 38) rfl ok d_m_simulates_36 (lt_n hXn (Nat.le_of_ble_eq_true rfl)) rfl ?_
    obtain ⟨t13, ht13, h⟩ := bd_ok h
    refine r_sub [4, 5, 6, 7, 8, 9, 10, 3, 2, 1, 0] rfl (show Wt X r2.2 38 [(0, .ref (G.1 + 0)), (1, .int y1), (2, .int y2), (3, .int y3), (5, .int x.1), (6, .int x.2.1), (7, .int x.2.2.1), (8, .int r2.1), (9, .int r3), (10, .int 0), (11, .int 0)] [] from w_m_simulates_38 ok hG hXR hXn  ?_ _ _ ht13)
    · intro e14 he
      subst he
      refine r_aload_n (n := 107) rfl ok d_m_simulates_106 rfl 0 rfl ?_
      refine r_iload (n := 109) rfl ok d_m_simulates_107 7 rfl ?_
      refine r_iload (n := 111) rfl ok d_m_simulates_109 8 rfl ?_
      refine r_iload (n := 113) rfl ok d_m_simulates_111 9 rfl ?_
      obtain ⟨r15, hr15, h⟩ := bd_ok h
      refine r_callV (n := 116) rfl ok hG mf_m_reports k_1244 ks_56 k_1242 (C_m_reports  hr15) ⟨rfl, rfl⟩ (rR hXR ⟨Nat.le_of_ble_eq_true rfl, Nat.le_of_ble_eq_true rfl⟩) rfl rfl (rv_MOD) rfl (Nat.le_of_ble_eq_true rfl) d_m_simulates_113 ?_
      refine r_istore (lv' := [(12, .int r15.1), (0, .ref (G.1 + 0)), (1, .int y1), (2, .int y2), (3, .int y3), (5, .int e14.1), (6, .int x.2.1), (7, .int x.2.2.1), (8, .int r2.1), (10, .int e14.2.1), (11, .int e14.2.2)]) (n := 118) rfl ok d_m_simulates_116 (lt_n hXn (Nat.le_of_ble_eq_true rfl)) rfl ?_
      refine r_iload (n := 120) rfl ok d_m_simulates_118 6 rfl ?_
      refine r_iload (n := 122) rfl ok d_m_simulates_120 10 rfl ?_
      refine r_if_eq (tgt := 129) (n := 125) rfl ok d_m_simulates_122 (by decide) (fun c16 => ?_) (fun c16 => ?_)
      · replace h := if_p c16 h
        refine r_iconst (v := 0) (n := 130) rfl ok d_m_simulates_129 (by decide) ?_
        refine r_iadd (n := 131) rfl ok d_m_simulates_130 ?_
        obtain ⟨x17, ex17, h⟩ := bd_ok h
        refine r_ti (Option.some.inj ex17).symm ?_
        refine r_istore (lv' := [(6, .int x17), (12, .int r15.1), (0, .ref (G.1 + 0)), (1, .int y1), (2, .int y2), (3, .int y3), (5, .int e14.1), (7, .int x.2.2.1), (8, .int r2.1), (10, .int e14.2.1), (11, .int e14.2.2)]) (n := 133) rfl ok d_m_simulates_131 (lt_n hXn (Nat.le_of_ble_eq_true rfl)) rfl ?_
        obtain ⟨x18, ex18, h⟩ := bd_ok h
        refine r_iinc (lv' := [(7, .int x18), (6, .int x17), (12, .int r15.1), (0, .ref (G.1 + 0)), (1, .int y1), (2, .int y2), (3, .int y3), (5, .int e14.1), (8, .int r2.1), (10, .int e14.2.1), (11, .int e14.2.2)]) (n := 136) rfl ok d_m_simulates_133 7 rfl (Option.some.inj ex18) (lt_n hXn (Nat.le_of_ble_eq_true rfl)) rfl ?_
        refine r_goto (tgt := 10) ok d_m_simulates_136 (by decide) ?_
        obtain rfl := Option.some.inj h
        exact r_sub [3, 4, 5, 6, 7, 1, 0] rfl (show Wt X r15.2 10 [(0, .ref (G.1 + 0)), (1, .int y1), (2, .int y2), (3, .int y3), (5, .int e14.1), (6, .int x17), (7, .int x18)] [] from hk _ rfl)
      · replace h := if_n c16 h
        refine r_iconst (v := 1) (n := 126) rfl ok d_m_simulates_125 (by decide) ?_
        refine r_goto (tgt := 130) ok d_m_simulates_126 (by decide) ?_
        refine r_iadd (n := 131) rfl ok d_m_simulates_130 ?_
        obtain ⟨x19, ex19, h⟩ := bd_ok h
        refine r_ti (Option.some.inj ex19).symm ?_
        refine r_istore (lv' := [(6, .int x19), (12, .int r15.1), (0, .ref (G.1 + 0)), (1, .int y1), (2, .int y2), (3, .int y3), (5, .int e14.1), (7, .int x.2.2.1), (8, .int r2.1), (10, .int e14.2.1), (11, .int e14.2.2)]) (n := 133) rfl ok d_m_simulates_131 (lt_n hXn (Nat.le_of_ble_eq_true rfl)) rfl ?_
        obtain ⟨x20, ex20, h⟩ := bd_ok h
        refine r_iinc (lv' := [(7, .int x20), (6, .int x19), (12, .int r15.1), (0, .ref (G.1 + 0)), (1, .int y1), (2, .int y2), (3, .int y3), (5, .int e14.1), (8, .int r2.1), (10, .int e14.2.1), (11, .int e14.2.2)]) (n := 136) rfl ok d_m_simulates_133 7 rfl (Option.some.inj ex20) (lt_n hXn (Nat.le_of_ble_eq_true rfl)) rfl ?_
        refine r_goto (tgt := 10) ok d_m_simulates_136 (by decide) ?_
        obtain rfl := Option.some.inj h
        exact r_sub [3, 4, 5, 6, 7, 1, 0] rfl (show Wt X r15.2 10 [(0, .ref (G.1 + 0)), (1, .int y1), (2, .int y2), (3, .int y3), (5, .int e14.1), (6, .int x19), (7, .int x20)] [] from hk _ rfl)
set_option maxHeartbeats 4000000 in
set_option maxRecDepth 20000 in
theorem C_m_simulates {l : Launch} {G : Gt} {M : Me} {a1 : Int32} {a2 : Int32} {a3 : Int32} {a4 : Int32}  {o : Int32 × Me} (h : f_m_simulates M a1 a2 a3 a4 = some o) : Ct l G (WM G) (rM G) y_m_simulates b_m_simulates 13 (some .int) rm_m_simulates [.ref (G.1 + 0), .int a1, .int a2, .int a3, .int a4] M (some (.int o.1)) o.2 := by
  refine Ct.mk (own := "RetryChainsModel") rfl (by decide) (Nat.le_of_ble_eq_true rfl) ⟨_, rfl⟩ (fun X hXl hXR hXn ok hG fin => ?_)
  subst hXl
  unfold f_m_simulates at h
  show Wt X M 0 [(0, .ref (G.1 + 0)), (1, .int a1), (2, .int a2), (3, .int a3), (4, .int a4)] []
  refine r_iload (n := 2) rfl ok d_m_simulates_0 4 rfl ?_
  refine r_istore (lv' := [(5, .int a4), (0, .ref (G.1 + 0)), (1, .int a1), (2, .int a2), (3, .int a3), (4, .int a4)]) (n := 4) rfl ok d_m_simulates_2 (lt_n hXn (Nat.le_of_ble_eq_true rfl)) rfl ?_
  refine r_iconst (v := 0) (n := 5) rfl ok d_m_simulates_4 (by decide) ?_
  refine r_istore (lv' := [(6, .int 0), (5, .int a4), (0, .ref (G.1 + 0)), (1, .int a1), (2, .int a2), (3, .int a3), (4, .int a4)]) (n := 7) rfl ok d_m_simulates_5 (lt_n hXn (Nat.le_of_ble_eq_true rfl)) rfl ?_
  refine r_iconst (v := 0) (n := 8) rfl ok d_m_simulates_7 (by decide) ?_
  refine r_istore (lv' := [(7, .int 0), (6, .int 0), (5, .int a4), (0, .ref (G.1 + 0)), (1, .int a1), (2, .int a2), (3, .int a3), (4, .int a4)]) (n := 10) rfl ok d_m_simulates_8 (lt_n hXn (Nat.le_of_ble_eq_true rfl)) rfl ?_
  obtain ⟨t21, ht21, h⟩ := bd_ok h
  refine r_sub [3, 4, 5, 6, 2, 1, 0] rfl (show Wt X M 10 [(0, .ref (G.1 + 0)), (1, .int a1), (2, .int a2), (3, .int a3), (5, .int a4), (6, .int 0), (7, .int 0)] [] from w_m_simulates_10 ok hG hXR hXn  ?_ _ _ ht21)
  · intro e22 he
    subst he
    refine r_iload (n := 141) rfl ok d_m_simulates_139 0 rfl ?_
    obtain rfl := Option.some.inj h
    exact fin _ _ ⟨.int, rfl, rfl⟩ d_m_simulates_141
set_option maxHeartbeats 4000000 in
set_option maxRecDepth 20000 in
theorem C_m_simulate {l : Launch} {G : Gt} {M : Me} {a1 : Int32} {a2 : Int32} {a3 : Int32} {a4 : Int32}  {o : Int32 × Me} (h : f_m_simulate M a1 a2 a3 a4 = some o) : Ct l G (WM G) (rM G) y_m_simulate b_m_simulate 6 (some .int) rm_m_simulate [.ref (G.1 + 0), .int a1, .int a2, .int a3, .int a4] M (some (.int o.1)) o.2 := by
  refine Ct.mk (own := "RetryChainsModel") rfl (by decide) (Nat.le_of_ble_eq_true rfl) ⟨_, rfl⟩ (fun X hXl hXR hXn ok hG fin => ?_)
  subst hXl
  unfold f_m_simulate at h
  show Wt X M 0 [(0, .ref (G.1 + 0)), (1, .int a1), (2, .int a2), (3, .int a3), (4, .int a4)] []
  refine r_aload_n (n := 1) rfl ok d_m_simulate_0 rfl 0 rfl ?_
  refine r_iload_n (n := 2) rfl ok d_m_simulate_1 rfl 1 rfl ?_
  refine r_iload_n (n := 3) rfl ok d_m_simulate_2 rfl 2 rfl ?_
  refine r_iload_n (n := 4) rfl ok d_m_simulate_3 rfl 3 rfl ?_
  obtain ⟨r1, hr1, h⟩ := bd_ok h
  refine r_callV (n := 7) rfl ok hG mf_m_whyNot k_1434 ks_72 k_1432 (C_m_whyNot  hr1) ⟨rfl, rfl⟩ (rR hXR ⟨Nat.le_of_ble_eq_true rfl, Nat.le_of_ble_eq_true rfl⟩) rfl rfl (rv_MOD) rfl (Nat.le_of_ble_eq_true rfl) d_m_simulate_4 ?_
  refine r_istore (lv' := [(5, .int r1), (0, .ref (G.1 + 0)), (1, .int a1), (2, .int a2), (3, .int a3), (4, .int a4)]) (n := 9) rfl ok d_m_simulate_7 (lt_n hXn (Nat.le_of_ble_eq_true rfl)) rfl ?_
  refine r_iload (n := 11) rfl ok d_m_simulate_9 0 rfl ?_
  refine r_if_eq (tgt := 17) (n := 14) rfl ok d_m_simulate_11 (by decide) (fun c2 => ?_) (fun c2 => ?_)
  · replace h := if_p c2 h
    refine r_aload_n (n := 18) rfl ok d_m_simulate_17 rfl 1 rfl ?_
    obtain ⟨r3, hr3, h⟩ := bd_ok h
    refine r_callV (n := 21) rfl ok hG mf_m_act k_1020 ks_15 k_1018 (C_m_act  hr3) ⟨rfl, rfl⟩ (rR hXR ⟨Nat.le_of_ble_eq_true rfl, Nat.le_of_ble_eq_true rfl⟩) rfl rfl (rv_MOD) rfl (Nat.le_of_ble_eq_true rfl) d_m_simulate_18 ?_
    refine r_aload_n (n := 22) rfl ok d_m_simulate_21 rfl 1 rfl ?_
    refine r_iload_n (n := 23) rfl ok d_m_simulate_22 rfl 2 rfl ?_
    refine r_iload_n (n := 24) rfl ok d_m_simulate_23 rfl 3 rfl ?_
    refine r_iload_n (n := 25) rfl ok d_m_simulate_24 rfl 4 rfl ?_
    refine r_iload (n := 27) rfl ok d_m_simulate_25 5 rfl ?_
    obtain ⟨r4, hr4, h⟩ := bd_ok h
    refine r_callV (n := 30) rfl ok hG mf_m_simulates k_1439 ks_73 k_1437 (C_m_simulates  hr4) ⟨rfl, rfl⟩ (rR hXR ⟨Nat.le_of_ble_eq_true rfl, Nat.le_of_ble_eq_true rfl⟩) rfl rfl (rv_MOD) rfl (Nat.le_of_ble_eq_true rfl) d_m_simulate_27 ?_
    obtain rfl := Option.some.inj h
    exact fin _ _ ⟨.int, rfl, rfl⟩ d_m_simulate_30
  · replace h := if_n c2 h
    refine r_iload (n := 16) rfl ok d_m_simulate_14 0 rfl ?_
    obtain rfl := Option.some.inj h
    exact fin _ _ ⟨.int, rfl, rfl⟩ d_m_simulate_16
set_option maxHeartbeats 4000000 in
set_option maxRecDepth 20000 in
theorem w_m_forecast_20 {X : Cx Me} {G : Gt} (ok : Ok X b_m_forecast "RetryChainsModel") (hG : GM X G) (hXR : X.R = rm_m_forecast) (hXn : X.nL = 8) {y1 : Int32} {y2 : Int32} {y3 : Int32} {y4 : Int32}  {t : Me} (kx : ∀ e : Me, e = t → Wt X e 48 [(0, .ref (G.1 + 0)), (1, .int y1), (2, .int y2), (3, .int y3), (4, .int y4)] [])  : ∀ (n : Nat) (x : Int32 × Me), lp n (b_m_forecast_20 y1 y2 y3 y4) x = some t → Wt X x.2 20 [(0, .ref (G.1 + 0)), (1, .int y1), (2, .int y2), (3, .int y3), (4, .int y4), (6, .int x.1)] [] := by
  intro n x h
  refine lp_W (P := fun x => Wt X x.2 20 [(0, .ref (G.1 + 0)), (1, .int y1), (2, .int y2), (3, .int y3), (4, .int y4), (6, .int x.1)] []) (Z := fun t' => t' = t) (fun x r h hk hz => ?_) n x t h rfl
  unfold b_m_forecast_20 at h
  refine r_iload (n := 22) rfl ok d_m_forecast_20 5 rfl ?_
  refine r_sipush (v := 600) (n := 25) rfl ok d_m_forecast_22 (by decide) ?_
  refine r_icmp_ge (tgt := 48) (n := 28) rfl ok d_m_forecast_25 (by decide) (fun c3 => ?_) (fun c3 => ?_)
  · replace h := if_p c3 h
    obtain rfl := Option.some.inj h
    exact r_sub [0, 1, 2, 3, 4] rfl (show Wt X x.2 48 [(0, .ref (G.1 + 0)), (1, .int y1), (2, .int y2), (3, .int y3), (4, .int y4)] [] from kx _ (hz _ rfl))
  · replace h := if_n c3 h
    refine r_aload_n (n := 29) rfl ok d_m_forecast_28 rfl 0 rfl ?_
    refine g_MOD_aside (n := 32) rfl ok hG  k_990 d_m_forecast_29 ?_
    refine r_iload (n := 34) rfl ok d_m_forecast_32 5 rfl ?_
    refine r_aload_n (n := 35) rfl ok d_m_forecast_34 rfl 0 rfl ?_
    refine g_MOD_v (n := 38) rfl ok hG  k_986 d_m_forecast_35 ?_
    refine r_iload (n := 40) rfl ok d_m_forecast_38 5 rfl ?_
    obtain ⟨g4, h⟩ := gd_ok h
    refine al_V (n := 41) rfl ok hG  g4 d_m_forecast_40 ?_
    obtain ⟨g5, h⟩ := gd_ok h
    obtain ⟨M6, eM6, h⟩ := bd_ok h
    refine as_ASIDE (n := 42) rfl ok hG  g5 d_m_forecast_41 ?_
    refine r_mem (Option.some.inj eM6) ?_
    obtain ⟨x7, ex7, h⟩ := bd_ok h
    refine r_iinc (lv' := [(6, .int x7), (0, .ref (G.1 + 0)), (1, .int y1), (2, .int y2), (3, .int y3), (4, .int y4)]) (n := 45) rfl ok d_m_forecast_42 5 rfl (Option.some.inj ex7) (lt_n hXn (Nat.le_of_ble_eq_true rfl)) rfl ?_
    refine r_goto (tgt := 20) ok d_m_forecast_45 (by decide) ?_
    obtain rfl := Option.some.inj h
    exact r_sub [1, 2, 3, 4, 5, 0] rfl (show Wt X M6 20 [(0, .ref (G.1 + 0)), (1, .int y1), (2, .int y2), (3, .int y3), (4, .int y4), (6, .int x7)] [] from hk _ rfl)
set_option maxHeartbeats 4000000 in
set_option maxRecDepth 20000 in
theorem w_m_forecast_62 {X : Cx Me} {G : Gt} (ok : Ok X b_m_forecast "RetryChainsModel") (hG : GM X G) (hXR : X.R = rm_m_forecast) (hXn : X.nL = 8) {y6 : Int32}  {t : Me} (kx : ∀ e : Me, e = t → Wt X e 90 [(6, .int y6)] [])  : ∀ (n : Nat) (x : Int32 × Me), lp n (b_m_forecast_62 y6) x = some t → Wt X x.2 62 [(0, .ref (G.1 + 0)), (6, .int y6), (7, .int x.1)] [] := by
  intro n x h
  refine lp_W (P := fun x => Wt X x.2 62 [(0, .ref (G.1 + 0)), (6, .int y6), (7, .int x.1)] []) (Z := fun t' => t' = t) (fun x r h hk hz => ?_) n x t h rfl
  unfold b_m_forecast_62 at h
  refine r_iload (n := 64) rfl ok d_m_forecast_62 2 rfl ?_
  refine r_sipush (v := 600) (n := 67) rfl ok d_m_forecast_64 (by decide) ?_
  refine r_icmp_ge (tgt := 90) (n := 70) rfl ok d_m_forecast_67 (by decide) (fun c11 => ?_) (fun c11 => ?_)
  · replace h := if_p c11 h
    obtain rfl := Option.some.inj h
    exact r_sub [1] rfl (show Wt X x.2 90 [(6, .int y6)] [] from kx _ (hz _ rfl))
  · replace h := if_n c11 h
    refine r_aload_n (n := 71) rfl ok d_m_forecast_70 rfl 0 rfl ?_
    refine g_MOD_v (n := 74) rfl ok hG  k_986 d_m_forecast_71 ?_
    refine r_iload (n := 76) rfl ok d_m_forecast_74 2 rfl ?_
    refine r_aload_n (n := 77) rfl ok d_m_forecast_76 rfl 0 rfl ?_
    refine g_MOD_aside (n := 80) rfl ok hG  k_990 d_m_forecast_77 ?_
    refine r_iload (n := 82) rfl ok d_m_forecast_80 2 rfl ?_
    obtain ⟨g12, h⟩ := gd_ok h
    refine al_ASIDE (n := 83) rfl ok hG  g12 d_m_forecast_82 ?_
    obtain ⟨g13, h⟩ := gd_ok h
    obtain ⟨M14, eM14, h⟩ := bd_ok h
    refine as_V (n := 84) rfl ok hG  g13 d_m_forecast_83 ?_
    refine r_mem (Option.some.inj eM14) ?_
    obtain ⟨x15, ex15, h⟩ := bd_ok h
    refine r_iinc (lv' := [(7, .int x15), (0, .ref (G.1 + 0)), (6, .int y6)]) (n := 87) rfl ok d_m_forecast_84 2 rfl (Option.some.inj ex15) (lt_n hXn (Nat.le_of_ble_eq_true rfl)) rfl ?_
    refine r_goto (tgt := 62) ok d_m_forecast_87 (by decide) ?_
    obtain rfl := Option.some.inj h
    exact r_sub [1, 2, 0] rfl (show Wt X M14 62 [(0, .ref (G.1 + 0)), (6, .int y6), (7, .int x15)] [] from hk _ rfl)
set_option maxHeartbeats 4000000 in
set_option maxRecDepth 20000 in
theorem C_m_forecast {l : Launch} {G : Gt} {M : Me} {a1 : Int32} {a2 : Int32} {a3 : Int32} {a4 : Int32}  {o : Int32 × Me} (h : f_m_forecast M a1 a2 a3 a4 = some o) : Ct l G (WM G) (rM G) y_m_forecast b_m_forecast 8 (some .int) rm_m_forecast [.ref (G.1 + 0), .int a1, .int a2, .int a3, .int a4] M (some (.int o.1)) o.2 := by
  refine Ct.mk (own := "RetryChainsModel") rfl (by decide) (Nat.le_of_ble_eq_true rfl) ⟨_, rfl⟩ (fun X hXl hXR hXn ok hG fin => ?_)
  subst hXl
  unfold f_m_forecast at h
  show Wt X M 0 [(0, .ref (G.1 + 0)), (1, .int a1), (2, .int a2), (3, .int a3), (4, .int a4)] []
  refine r_aload_n (n := 1) rfl ok d_m_forecast_0 rfl 0 rfl ?_
  refine r_iload_n (n := 2) rfl ok d_m_forecast_1 rfl 1 rfl ?_
  refine r_iload_n (n := 3) rfl ok d_m_forecast_2 rfl 2 rfl ?_
  refine r_iload_n (n := 4) rfl ok d_m_forecast_3 rfl 3 rfl ?_
  obtain ⟨r1, hr1, h⟩ := bd_ok h
  refine r_callV (n := 7) rfl ok hG mf_m_whyNot k_1434 ks_72 k_1432 (C_m_whyNot  hr1) ⟨rfl, rfl⟩ (rR hXR ⟨Nat.le_of_ble_eq_true rfl, Nat.le_of_ble_eq_true rfl⟩) rfl rfl (rv_MOD) rfl (Nat.le_of_ble_eq_true rfl) d_m_forecast_4 ?_
  refine r_istore (lv' := [(5, .int r1), (0, .ref (G.1 + 0)), (1, .int a1), (2, .int a2), (3, .int a3), (4, .int a4)]) (n := 9) rfl ok d_m_forecast_7 (lt_n hXn (Nat.le_of_ble_eq_true rfl)) rfl ?_
  refine r_iload (n := 11) rfl ok d_m_forecast_9 0 rfl ?_
  refine r_if_eq (tgt := 17) (n := 14) rfl ok d_m_forecast_11 (by decide) (fun c2 => ?_) (fun c2 => ?_)
  · replace h := if_p c2 h
    refine r_iconst (v := 0) (n := 18) rfl ok d_m_forecast_17 (by decide) ?_
    refine r_istore (lv' := [(6, .int 0), (5, .int r1), (0, .ref (G.1 + 0)), (1, .int a1), (2, .int a2), (3, .int a3), (4, .int a4)]) (n := 20) rfl ok d_m_forecast_18 (lt_n hXn (Nat.le_of_ble_eq_true rfl)) rfl ?_
    obtain ⟨t8, ht8, h⟩ := bd_ok h
    refine r_sub [2, 3, 4, 5, 6, 0] rfl (show Wt X M 20 [(0, .ref (G.1 + 0)), (1, .int a1), (2, .int a2), (3, .int a3), (4, .int a4), (6, .int 0)] [] from w_m_forecast_20 ok hG hXR hXn  ?_ _ _ ht8)
    · intro e9 he
      subst he
      refine r_aload_n (n := 49) rfl ok d_m_forecast_48 rfl 0 rfl ?_
      refine r_iload_n (n := 50) rfl ok d_m_forecast_49 rfl 1 rfl ?_
      refine r_iload_n (n := 51) rfl ok d_m_forecast_50 rfl 2 rfl ?_
      refine r_iload_n (n := 52) rfl ok d_m_forecast_51 rfl 3 rfl ?_
      refine r_iload (n := 54) rfl ok d_m_forecast_52 4 rfl ?_
      obtain ⟨r10, hr10, h⟩ := bd_ok h
      refine r_callV (n := 57) rfl ok hG mf_m_simulates k_1439 ks_73 k_1437 (C_m_simulates  hr10) ⟨rfl, rfl⟩ (rR hXR ⟨Nat.le_of_ble_eq_true rfl, Nat.le_of_ble_eq_true rfl⟩) rfl rfl (rv_MOD) rfl (Nat.le_of_ble_eq_true rfl) d_m_forecast_54 ?_
      refine r_istore (lv' := [(6, .int r10.1), (0, .ref (G.1 + 0)), (1, .int a1), (2, .int a2), (3, .int a3), (4, .int a4)]) (n := 59) rfl ok d_m_forecast_57 (lt_n hXn (Nat.le_of_ble_eq_true rfl)) rfl ?_
      refine r_iconst (v := 0) (n := 60) rfl ok d_m_forecast_59 (by decide) ?_
      refine r_istore (lv' := [(7, .int 0), (6, .int r10.1), (0, .ref (G.1 + 0)), (1, .int a1), (2, .int a2), (3, .int a3), (4, .int a4)]) (n := 62) rfl ok d_m_forecast_60 (lt_n hXn (Nat.le_of_ble_eq_true rfl)) rfl ?_
      obtain ⟨t16, ht16, h⟩ := bd_ok h
      refine r_sub [2, 1, 0] rfl (show Wt X r10.2 62 [(0, .ref (G.1 + 0)), (6, .int r10.1), (7, .int 0)] [] from w_m_forecast_62 ok hG hXR hXn  ?_ _ _ ht16)
      · intro e17 he
        subst he
        refine r_iload (n := 92) rfl ok d_m_forecast_90 0 rfl ?_
        obtain rfl := Option.some.inj h
        exact fin _ _ ⟨.int, rfl, rfl⟩ d_m_forecast_92
  · replace h := if_n c2 h
    refine r_iload (n := 16) rfl ok d_m_forecast_14 0 rfl ?_
    obtain rfl := Option.some.inj h
    exact fin _ _ ⟨.int, rfl, rfl⟩ d_m_forecast_16
set_option maxHeartbeats 4000000 in
set_option maxRecDepth 20000 in
theorem w_m_oracle_27 {X : Cx Me} {G : Gt} (ok : Ok X b_m_oracle "RetryChainsModel") (hG : GM X G) (hXR : X.R = rm_m_oracle) (hXn : X.nL = 6) {M : Me} {y1 : Int32} {y2 : Int32}  {t : Int32} (kx : ∀ e : Int32, e = t → Wt X M 122 [(3, .int e)] [])  : ∀ (n : Nat) (x : Int32 × Int32), lp n (b_m_oracle_27 M y1 y2) x = some t → Wt X M 27 [(0, .ref (G.1 + 0)), (1, .int y1), (2, .int y2), (3, .int x.1), (4, .int x.2)] [] := by
  intro n x h
  refine lp_W (P := fun x => Wt X M 27 [(0, .ref (G.1 + 0)), (1, .int y1), (2, .int y2), (3, .int x.1), (4, .int x.2)] []) (Z := fun t' => t' = t) (fun x r h hk hz => ?_) n x t h rfl
  unfold b_m_oracle_27 at h
  refine r_iload (n := 29) rfl ok d_m_oracle_27 4 rfl ?_
  refine r_aload_n (n := 30) rfl ok d_m_oracle_29 rfl 0 rfl ?_
  refine g_MOD_v (n := 33) rfl ok hG  k_986 d_m_oracle_30 ?_
  refine r_iconst (v := 1) (n := 34) rfl ok d_m_oracle_33 (by decide) ?_
  refine al_V (n := 35) rfl ok hG  (show gin 1 600 by decide) d_m_oracle_34 ?_
  refine r_icmp_ge (tgt := 122) (n := 38) rfl ok d_m_oracle_35 (by decide) (fun c5 => ?_) (fun c5 => ?_)
  · replace h := if_p c5 h
    obtain rfl := Option.some.inj h
    exact r_sub [3] rfl (show Wt X M 122 [(3, .int x.1)] [] from kx _ (hz _ rfl))
  · replace h := if_n c5 h
    refine r_aload_n (n := 39) rfl ok d_m_oracle_38 rfl 0 rfl ?_
    refine g_MOD_v (n := 42) rfl ok hG  k_986 d_m_oracle_39 ?_
    refine r_iload_n (n := 43) rfl ok d_m_oracle_42 rfl 1 rfl ?_
    refine r_iload (n := 45) rfl ok d_m_oracle_43 4 rfl ?_
    obtain ⟨r6, hr6, h⟩ := bd_ok h
    refine r_callS (n := 48) rfl ok hG mf_m_pair k_1027 k_1026 (C_m_pair  hr6) ⟨rfl, rfl⟩ (rR hXR ⟨Nat.le_of_ble_eq_true rfl, Nat.le_of_ble_eq_true rfl⟩) rfl rfl (Nat.le_of_ble_eq_true rfl) d_m_oracle_45 ?_
    refine r_bipush (v := 7) (n := 50) rfl ok d_m_oracle_48 (by decide) ?_
    refine r_iadd (n := 51) rfl ok d_m_oracle_50 ?_
    obtain ⟨g7, h⟩ := gd_ok h
    refine al_V (n := 52) rfl ok hG  g7 d_m_oracle_51 ?_
    refine r_istore (lv' := [(5, .int (M.1 100 0 0 (tN (r6 + (7 : Int32))))), (0, .ref (G.1 + 0)), (1, .int y1), (2, .int y2), (3, .int x.1), (4, .int x.2)]) (n := 54) rfl ok d_m_oracle_52 (lt_n hXn (Nat.le_of_ble_eq_true rfl)) rfl ?_
    refine r_aload_n (n := 55) rfl ok d_m_oracle_54 rfl 1 rfl ?_
    refine r_iload_n (n := 56) rfl ok d_m_oracle_55 rfl 2 rfl ?_
    refine r_iload (n := 58) rfl ok d_m_oracle_56 5 rfl ?_
    obtain ⟨r8, hr8, h⟩ := bd_ok h
    refine r_callV (n := 61) rfl ok hG mf_m_allows k_1042 ks_19 k_1040 (C_m_allows  hr8) ⟨rfl, rfl⟩ (rR hXR ⟨Nat.le_of_ble_eq_true rfl, Nat.le_of_ble_eq_true rfl⟩) rfl rfl (rv_MOD) rfl (Nat.le_of_ble_eq_true rfl) d_m_oracle_58 ?_
    refine r_if_eq (tgt := 116) (n := 64) rfl ok d_m_oracle_61 (by decide) (fun c9 => ?_) (fun c9 => ?_)
    · replace h := if_p c9 h
      obtain ⟨x10, ex10, h⟩ := bd_ok h
      refine r_iinc (lv' := [(4, .int x10), (5, .int (M.1 100 0 0 (tN (r6 + (7 : Int32))))), (0, .ref (G.1 + 0)), (1, .int y1), (2, .int y2), (3, .int x.1)]) (n := 119) rfl ok d_m_oracle_116 5 rfl (Option.some.inj ex10) (lt_n hXn (Nat.le_of_ble_eq_true rfl)) rfl ?_
      refine r_goto (tgt := 27) ok d_m_oracle_119 (by decide) ?_
      obtain rfl := Option.some.inj h
      exact r_sub [2, 3, 4, 5, 0] rfl (show Wt X M 27 [(0, .ref (G.1 + 0)), (1, .int y1), (2, .int y2), (3, .int x.1), (4, .int x10)] [] from hk _ rfl)
    · replace h := if_n c9 h
      refine r_iload (n := 66) rfl ok d_m_oracle_64 0 rfl ?_
      refine r_if_le (tgt := 116) (n := 69) rfl ok d_m_oracle_66 (by decide) (fun c11 => ?_) (fun c11 => ?_)
      · replace h := if_p c11 h
        obtain ⟨x12, ex12, h⟩ := bd_ok h
        refine r_iinc (lv' := [(4, .int x12), (5, .int (M.1 100 0 0 (tN (r6 + (7 : Int32))))), (0, .ref (G.1 + 0)), (1, .int y1), (2, .int y2), (3, .int x.1)]) (n := 119) rfl ok d_m_oracle_116 5 rfl (Option.some.inj ex12) (lt_n hXn (Nat.le_of_ble_eq_true rfl)) rfl ?_
        refine r_goto (tgt := 27) ok d_m_oracle_119 (by decide) ?_
        obtain rfl := Option.some.inj h
        exact r_sub [2, 3, 4, 5, 0] rfl (show Wt X M 27 [(0, .ref (G.1 + 0)), (1, .int y1), (2, .int y2), (3, .int x.1), (4, .int x12)] [] from hk _ rfl)
      · replace h := if_n c11 h
        refine r_iload_n (n := 70) rfl ok d_m_oracle_69 rfl 4 rfl ?_
        refine r_bipush (v := (-9)) (n := 72) rfl ok d_m_oracle_70 (by decide) ?_
        refine r_icmp_eq (tgt := 113) (n := 75) rfl ok d_m_oracle_72 (by decide) (fun c13 => ?_) (fun c13 => ?_)
        · replace h := if_p c13 h
          refine r_iload (n := 115) rfl ok d_m_oracle_113 5 rfl ?_
          refine r_istore_n (lv' := [(3, .int x.2), (5, .int (M.1 100 0 0 (tN (r6 + (7 : Int32))))), (0, .ref (G.1 + 0)), (1, .int y1), (2, .int y2), (4, .int x.2)]) (n := 116) rfl ok d_m_oracle_115 rfl (lt_n hXn (Nat.le_of_ble_eq_true rfl)) rfl ?_
          obtain ⟨x14, ex14, h⟩ := bd_ok h
          refine r_iinc (lv' := [(4, .int x14), (3, .int x.2), (5, .int (M.1 100 0 0 (tN (r6 + (7 : Int32))))), (0, .ref (G.1 + 0)), (1, .int y1), (2, .int y2)]) (n := 119) rfl ok d_m_oracle_116 5 rfl (Option.some.inj ex14) (lt_n hXn (Nat.le_of_ble_eq_true rfl)) rfl ?_
          refine r_goto (tgt := 27) ok d_m_oracle_119 (by decide) ?_
          obtain rfl := Option.some.inj h
          exact r_sub [3, 4, 5, 1, 0] rfl (show Wt X M 27 [(0, .ref (G.1 + 0)), (1, .int y1), (2, .int y2), (3, .int x.2), (4, .int x14)] [] from hk _ rfl)
        · replace h := if_n c13 h
          refine r_iload (n := 77) rfl ok d_m_oracle_75 0 rfl ?_
          refine r_i2l (n := 78) rfl ok d_m_oracle_77 ?_
          refine r_aload_n (n := 79) rfl ok d_m_oracle_78 rfl 1 rfl ?_
          refine r_iload_n (n := 80) rfl ok d_m_oracle_79 rfl 4 rfl ?_
          refine r_iload_n (n := 81) rfl ok d_m_oracle_80 rfl 3 rfl ?_
          obtain ⟨r15, hr15, h⟩ := bd_ok h
          refine r_callV (n := 84) rfl ok hG mf_m_air k_1063 ks_24 k_1061 (C_m_air  hr15) ⟨rfl, rfl⟩ (rR hXR ⟨Nat.le_of_ble_eq_true rfl, Nat.le_of_ble_eq_true rfl⟩) rfl rfl (rv_MOD) rfl (Nat.le_of_ble_eq_true rfl) d_m_oracle_81 ?_
          refine r_i2l (n := 85) rfl ok d_m_oracle_84 ?_
          refine r_lmul (n := 86) rfl ok d_m_oracle_85 ?_
          refine r_aload_n (n := 87) rfl ok d_m_oracle_86 rfl 1 rfl ?_
          refine g_MOD_v (n := 90) rfl ok hG  k_986 d_m_oracle_87 ?_
          refine r_iload_n (n := 91) rfl ok d_m_oracle_90 rfl 2 rfl ?_
          refine r_iload_n (n := 92) rfl ok d_m_oracle_91 rfl 4 rfl ?_
          obtain ⟨r16, hr16, h⟩ := bd_ok h
          refine r_callS (n := 95) rfl ok hG mf_m_pair k_1027 k_1026 (C_m_pair  hr16) ⟨rfl, rfl⟩ (rR hXR ⟨Nat.le_of_ble_eq_true rfl, Nat.le_of_ble_eq_true rfl⟩) rfl rfl (Nat.le_of_ble_eq_true rfl) d_m_oracle_92 ?_
          refine r_bipush (v := 7) (n := 97) rfl ok d_m_oracle_95 (by decide) ?_
          refine r_iadd (n := 98) rfl ok d_m_oracle_97 ?_
          obtain ⟨g17, h⟩ := gd_ok h
          refine al_V (n := 99) rfl ok hG  g17 d_m_oracle_98 ?_
          refine r_i2l (n := 100) rfl ok d_m_oracle_99 ?_
          refine r_aload_n (n := 101) rfl ok d_m_oracle_100 rfl 1 rfl ?_
          refine r_iload (n := 103) rfl ok d_m_oracle_101 5 rfl ?_
          refine r_iload_n (n := 104) rfl ok d_m_oracle_103 rfl 3 rfl ?_
          obtain ⟨r18, hr18, h⟩ := bd_ok h
          refine r_callV (n := 107) rfl ok hG mf_m_air k_1063 ks_24 k_1061 (C_m_air  hr18) ⟨rfl, rfl⟩ (rR hXR ⟨Nat.le_of_ble_eq_true rfl, Nat.le_of_ble_eq_true rfl⟩) rfl rfl (rv_MOD) rfl (Nat.le_of_ble_eq_true rfl) d_m_oracle_104 ?_
          refine r_i2l (n := 108) rfl ok d_m_oracle_107 ?_
          refine r_lmul (n := 109) rfl ok d_m_oracle_108 ?_
          refine r_lcmp (n := 110) rfl ok d_m_oracle_109 ?_
          refine r_if_le (tgt := 116) (n := 113) rfl ok d_m_oracle_110 (by decide) (fun c19 => ?_) (fun c19 => ?_)
          · replace h := if_p c19 h
            obtain ⟨x20, ex20, h⟩ := bd_ok h
            refine r_iinc (lv' := [(4, .int x20), (5, .int (M.1 100 0 0 (tN (r6 + (7 : Int32))))), (0, .ref (G.1 + 0)), (1, .int y1), (2, .int y2), (3, .int x.1)]) (n := 119) rfl ok d_m_oracle_116 5 rfl (Option.some.inj ex20) (lt_n hXn (Nat.le_of_ble_eq_true rfl)) rfl ?_
            refine r_goto (tgt := 27) ok d_m_oracle_119 (by decide) ?_
            obtain rfl := Option.some.inj h
            exact r_sub [2, 3, 4, 5, 0] rfl (show Wt X M 27 [(0, .ref (G.1 + 0)), (1, .int y1), (2, .int y2), (3, .int x.1), (4, .int x20)] [] from hk _ rfl)
          · replace h := if_n c19 h
            refine r_iload (n := 115) rfl ok d_m_oracle_113 5 rfl ?_
            refine r_istore_n (lv' := [(3, .int x.2), (5, .int (M.1 100 0 0 (tN (r6 + (7 : Int32))))), (0, .ref (G.1 + 0)), (1, .int y1), (2, .int y2), (4, .int x.2)]) (n := 116) rfl ok d_m_oracle_115 rfl (lt_n hXn (Nat.le_of_ble_eq_true rfl)) rfl ?_
            obtain ⟨x21, ex21, h⟩ := bd_ok h
            refine r_iinc (lv' := [(4, .int x21), (3, .int x.2), (5, .int (M.1 100 0 0 (tN (r6 + (7 : Int32))))), (0, .ref (G.1 + 0)), (1, .int y1), (2, .int y2)]) (n := 119) rfl ok d_m_oracle_116 5 rfl (Option.some.inj ex21) (lt_n hXn (Nat.le_of_ble_eq_true rfl)) rfl ?_
            refine r_goto (tgt := 27) ok d_m_oracle_119 (by decide) ?_
            obtain rfl := Option.some.inj h
            exact r_sub [3, 4, 5, 1, 0] rfl (show Wt X M 27 [(0, .ref (G.1 + 0)), (1, .int y1), (2, .int y2), (3, .int x.2), (4, .int x21)] [] from hk _ rfl)
set_option maxHeartbeats 4000000 in
set_option maxRecDepth 20000 in
theorem C_m_oracle {l : Launch} {G : Gt} {M : Me} {a1 : Int32} {a2 : Int32}  {o : Int32} (h : f_m_oracle M a1 a2 = some o) : Ct l G (WM G) (rM G) y_m_oracle b_m_oracle 6 (some .int) rm_m_oracle [.ref (G.1 + 0), .int a1, .int a2] M (some (.int o)) M := by
  refine Ct.mk (own := "RetryChainsModel") rfl (by decide) (Nat.le_of_ble_eq_true rfl) ⟨_, rfl⟩ (fun X hXl hXR hXn ok hG fin => ?_)
  subst hXl
  unfold f_m_oracle at h
  show Wt X M 0 [(0, .ref (G.1 + 0)), (1, .int a1), (2, .int a2)] []
  refine r_aload_n (n := 1) rfl ok d_m_oracle_0 rfl 0 rfl ?_
  refine r_iload_n (n := 2) rfl ok d_m_oracle_1 rfl 1 rfl ?_
  obtain ⟨r1, hr1, h⟩ := bd_ok h
  refine r_callV (n := 5) rfl ok hG mf_m_isStation k_1096 ks_29 k_1094 (C_m_isStation  hr1) ⟨rfl, rfl⟩ (rR hXR ⟨Nat.le_of_ble_eq_true rfl, Nat.le_of_ble_eq_true rfl⟩) rfl rfl (rv_MOD) rfl (Nat.le_of_ble_eq_true rfl) d_m_oracle_2 ?_
  refine r_if_eq (tgt := 19) (n := 8) rfl ok d_m_oracle_5 (by decide) (fun c2 => ?_) (fun c2 => ?_)
  · replace h := if_p c2 h
    refine r_iconst (v := (-1)) (n := 20) rfl ok d_m_oracle_19 (by decide) ?_
    obtain rfl := Option.some.inj h
    exact fin _ _ ⟨.int, rfl, rfl⟩ d_m_oracle_20
  · replace h := if_n c2 h
    refine r_iload_n (n := 9) rfl ok d_m_oracle_8 rfl 2 rfl ?_
    refine r_iconst (v := 1) (n := 10) rfl ok d_m_oracle_9 (by decide) ?_
    refine r_sipush (v := 4000) (n := 13) rfl ok d_m_oracle_10 (by decide) ?_
    obtain ⟨r3, hr3, h⟩ := bd_ok h
    refine r_callS (n := 16) rfl ok hG mf_m_in k_1016 k_1015 (C_m_in  hr3) ⟨rfl, rfl⟩ (rR hXR ⟨Nat.le_of_ble_eq_true rfl, Nat.le_of_ble_eq_true rfl⟩) rfl rfl (Nat.le_of_ble_eq_true rfl) d_m_oracle_13 ?_
    refine r_if_ne (tgt := 21) (n := 19) rfl ok d_m_oracle_16 (by decide) (fun c4 => ?_) (fun c4 => ?_)
    · replace h := if_n c4 h
      refine r_bipush (v := (-9)) (n := 23) rfl ok d_m_oracle_21 (by decide) ?_
      refine r_istore_n (lv' := [(3, .int (-9)), (0, .ref (G.1 + 0)), (1, .int a1), (2, .int a2)]) (n := 24) rfl ok d_m_oracle_23 rfl (lt_n hXn (Nat.le_of_ble_eq_true rfl)) rfl ?_
      refine r_iconst (v := 0) (n := 25) rfl ok d_m_oracle_24 (by decide) ?_
      refine r_istore (lv' := [(4, .int 0), (3, .int (-9)), (0, .ref (G.1 + 0)), (1, .int a1), (2, .int a2)]) (n := 27) rfl ok d_m_oracle_25 (lt_n hXn (Nat.le_of_ble_eq_true rfl)) rfl ?_
      obtain ⟨t22, ht22, h⟩ := bd_ok h
      refine r_sub [2, 3, 4, 1, 0] rfl (show Wt X M 27 [(0, .ref (G.1 + 0)), (1, .int a1), (2, .int a2), (3, .int (-9)), (4, .int 0)] [] from w_m_oracle_27 ok hG hXR hXn  ?_ _ _ ht22)
      · intro e23 he
        subst he
        refine r_iload_n (n := 123) rfl ok d_m_oracle_122 rfl 0 rfl ?_
        obtain rfl := Option.some.inj h
        exact fin _ _ ⟨.int, rfl, rfl⟩ d_m_oracle_123
    · replace h := if_p c4 h
      refine r_iconst (v := (-1)) (n := 20) rfl ok d_m_oracle_19 (by decide) ?_
      obtain rfl := Option.some.inj h
      exact fin _ _ ⟨.int, rfl, rfl⟩ d_m_oracle_20
set_option maxHeartbeats 4000000 in
set_option maxRecDepth 20000 in
theorem C_m_events {l : Launch} {G : Gt} {M : Me}   {o : Int32} (h : f_m_events M = some o) : Ct l G (WM G) (rM G) y_m_events b_m_events 1 (some .int) rm_m_events [.ref (G.1 + 0)] M (some (.int o)) M := by
  refine Ct.mk (own := "RetryChainsModel") rfl (by decide) (Nat.le_of_ble_eq_true rfl) ⟨_, rfl⟩ (fun X hXl hXR hXn ok hG fin => ?_)
  subst hXl
  unfold f_m_events at h
  show Wt X M 0 [(0, .ref (G.1 + 0))] []
  refine r_aload_n (n := 1) rfl ok d_m_events_0 rfl 0 rfl ?_
  refine g_MOD_v (n := 4) rfl ok hG  k_986 d_m_events_1 ?_
  refine r_bipush (v := 8) (n := 6) rfl ok d_m_events_4 (by decide) ?_
  refine al_V (n := 7) rfl ok hG  (show gin 8 600 by decide) d_m_events_6 ?_
  obtain rfl := Option.some.inj h
  exact fin _ _ ⟨.int, rfl, rfl⟩ d_m_events_7
set_option maxHeartbeats 4000000 in
set_option maxRecDepth 20000 in
theorem C_m_event {l : Launch} {G : Gt} {M : Me} {a1 : Int32} {a2 : Int32}  {o : Int32} (h : f_m_event M a1 a2 = some o) : Ct l G (WM G) (rM G) y_m_event b_m_event 3 (some .int) rm_m_event [.ref (G.1 + 0), .int a1, .int a2] M (some (.int o)) M := by
  refine Ct.mk (own := "RetryChainsModel") rfl (by decide) (Nat.le_of_ble_eq_true rfl) ⟨_, rfl⟩ (fun X hXl hXR hXn ok hG fin => ?_)
  subst hXl
  unfold f_m_event at h
  show Wt X M 0 [(0, .ref (G.1 + 0)), (1, .int a1), (2, .int a2)] []
  refine r_iload_n (n := 1) rfl ok d_m_event_0 rfl 1 rfl ?_
  refine r_if_ge (tgt := 6) (n := 4) rfl ok d_m_event_1 (by decide) (fun c1 => ?_) (fun c1 => ?_)
  · replace h := if_p c1 h
    refine r_iload_n (n := 7) rfl ok d_m_event_6 rfl 1 rfl ?_
    refine r_bipush (v := 20) (n := 9) rfl ok d_m_event_7 (by decide) ?_
    refine r_icmp_ge (tgt := 53) (n := 12) rfl ok d_m_event_9 (by decide) (fun c2 => ?_) (fun c2 => ?_)
    · replace h := if_p c2 h
      refine r_bipush (v := (-9)) (n := 55) rfl ok d_m_event_53 (by decide) ?_
      obtain rfl := Option.some.inj h
      exact fin _ _ ⟨.int, rfl, rfl⟩ d_m_event_55
    · replace h := if_n c2 h
      refine r_iload_n (n := 13) rfl ok d_m_event_12 rfl 1 rfl ?_
      refine r_aload_n (n := 14) rfl ok d_m_event_13 rfl 0 rfl ?_
      refine g_MOD_v (n := 17) rfl ok hG  k_986 d_m_event_14 ?_
      refine r_bipush (v := 8) (n := 19) rfl ok d_m_event_17 (by decide) ?_
      refine al_V (n := 20) rfl ok hG  (show gin 8 600 by decide) d_m_event_19 ?_
      refine r_icmp_ge (tgt := 53) (n := 23) rfl ok d_m_event_20 (by decide) (fun c3 => ?_) (fun c3 => ?_)
      · replace h := if_p c3 h
        refine r_bipush (v := (-9)) (n := 55) rfl ok d_m_event_53 (by decide) ?_
        obtain rfl := Option.some.inj h
        exact fin _ _ ⟨.int, rfl, rfl⟩ d_m_event_55
      · replace h := if_n c3 h
        refine r_aload_n (n := 24) rfl ok d_m_event_23 rfl 0 rfl ?_
        refine g_MOD_v (n := 27) rfl ok hG  k_986 d_m_event_24 ?_
        refine r_sipush (v := 516) (n := 30) rfl ok d_m_event_27 (by decide) ?_
        refine r_iconst (v := 4) (n := 31) rfl ok d_m_event_30 (by decide) ?_
        refine r_aload_n (n := 32) rfl ok d_m_event_31 rfl 0 rfl ?_
        refine g_MOD_v (n := 35) rfl ok hG  k_986 d_m_event_32 ?_
        refine r_bipush (v := 8) (n := 37) rfl ok d_m_event_35 (by decide) ?_
        refine al_V (n := 38) rfl ok hG  (show gin 8 600 by decide) d_m_event_37 ?_
        refine r_iconst (v := 1) (n := 39) rfl ok d_m_event_38 (by decide) ?_
        refine r_isub (n := 40) rfl ok d_m_event_39 ?_
        refine r_iload_n (n := 41) rfl ok d_m_event_40 rfl 1 rfl ?_
        refine r_isub (n := 42) rfl ok d_m_event_41 ?_
        refine r_bipush (v := 20) (n := 44) rfl ok d_m_event_42 (by decide) ?_
        refine r_irem (n := 45) rfl ok d_m_event_44 (by decide) ?_
        refine r_imul (n := 46) rfl ok d_m_event_45 ?_
        refine r_iadd (n := 47) rfl ok d_m_event_46 ?_
        refine r_iload_n (n := 48) rfl ok d_m_event_47 rfl 2 rfl ?_
        refine r_iadd (n := 49) rfl ok d_m_event_48 ?_
        obtain ⟨g4, h⟩ := gd_ok h
        refine al_V (n := 50) rfl ok hG  g4 d_m_event_49 ?_
        refine r_goto (tgt := 55) ok d_m_event_50 (by decide) ?_
        obtain rfl := Option.some.inj h
        exact fin _ _ ⟨.int, rfl, rfl⟩ d_m_event_55
  · replace h := if_n c1 h
    refine r_iconst (v := (-1)) (n := 5) rfl ok d_m_event_4 (by decide) ?_
    obtain rfl := Option.some.inj h
    exact fin _ _ ⟨.int, rfl, rfl⟩ d_m_event_5
set_option maxHeartbeats 4000000 in
set_option maxRecDepth 20000 in
theorem C_m_eventKind {l : Launch} {G : Gt} {M : Me} {a1 : Int32}  {o : Int32} (h : f_m_eventKind M a1 = some o) : Ct l G (WM G) (rM G) y_m_eventKind b_m_eventKind 2 (some .int) rm_m_eventKind [.ref (G.1 + 0), .int a1] M (some (.int o)) M := by
  refine Ct.mk (own := "RetryChainsModel") rfl (by decide) (Nat.le_of_ble_eq_true rfl) ⟨_, rfl⟩ (fun X hXl hXR hXn ok hG fin => ?_)
  subst hXl
  unfold f_m_eventKind at h
  show Wt X M 0 [(0, .ref (G.1 + 0)), (1, .int a1)] []
  refine r_aload_n (n := 1) rfl ok d_m_eventKind_0 rfl 0 rfl ?_
  refine r_iload_n (n := 2) rfl ok d_m_eventKind_1 rfl 1 rfl ?_
  refine r_iconst (v := 0) (n := 3) rfl ok d_m_eventKind_2 (by decide) ?_
  obtain ⟨r1, hr1, h⟩ := bd_ok h
  refine r_callV (n := 6) rfl ok hG mf_m_event k_1459 ks_74 k_1457 (C_m_event  hr1) ⟨rfl, rfl⟩ (rR hXR ⟨Nat.le_of_ble_eq_true rfl, Nat.le_of_ble_eq_true rfl⟩) rfl rfl (rv_MOD) rfl (Nat.le_of_ble_eq_true rfl) d_m_eventKind_3 ?_
  obtain rfl := Option.some.inj h
  exact fin _ _ ⟨.int, rfl, rfl⟩ d_m_eventKind_6
set_option maxHeartbeats 4000000 in
set_option maxRecDepth 20000 in
theorem C_m_eventStation {l : Launch} {G : Gt} {M : Me} {a1 : Int32}  {o : Int32} (h : f_m_eventStation M a1 = some o) : Ct l G (WM G) (rM G) y_m_eventStation b_m_eventStation 2 (some .int) rm_m_eventStation [.ref (G.1 + 0), .int a1] M (some (.int o)) M := by
  refine Ct.mk (own := "RetryChainsModel") rfl (by decide) (Nat.le_of_ble_eq_true rfl) ⟨_, rfl⟩ (fun X hXl hXR hXn ok hG fin => ?_)
  subst hXl
  unfold f_m_eventStation at h
  show Wt X M 0 [(0, .ref (G.1 + 0)), (1, .int a1)] []
  refine r_aload_n (n := 1) rfl ok d_m_eventStation_0 rfl 0 rfl ?_
  refine r_iload_n (n := 2) rfl ok d_m_eventStation_1 rfl 1 rfl ?_
  refine r_iconst (v := 1) (n := 3) rfl ok d_m_eventStation_2 (by decide) ?_
  obtain ⟨r1, hr1, h⟩ := bd_ok h
  refine r_callV (n := 6) rfl ok hG mf_m_event k_1459 ks_74 k_1457 (C_m_event  hr1) ⟨rfl, rfl⟩ (rR hXR ⟨Nat.le_of_ble_eq_true rfl, Nat.le_of_ble_eq_true rfl⟩) rfl rfl (rv_MOD) rfl (Nat.le_of_ble_eq_true rfl) d_m_eventStation_3 ?_
  obtain rfl := Option.some.inj h
  exact fin _ _ ⟨.int, rfl, rfl⟩ d_m_eventStation_6
set_option maxHeartbeats 4000000 in
set_option maxRecDepth 20000 in
theorem C_m_eventRate {l : Launch} {G : Gt} {M : Me} {a1 : Int32}  {o : Int32} (h : f_m_eventRate M a1 = some o) : Ct l G (WM G) (rM G) y_m_eventRate b_m_eventRate 2 (some .int) rm_m_eventRate [.ref (G.1 + 0), .int a1] M (some (.int o)) M := by
  refine Ct.mk (own := "RetryChainsModel") rfl (by decide) (Nat.le_of_ble_eq_true rfl) ⟨_, rfl⟩ (fun X hXl hXR hXn ok hG fin => ?_)
  subst hXl
  unfold f_m_eventRate at h
  show Wt X M 0 [(0, .ref (G.1 + 0)), (1, .int a1)] []
  refine r_aload_n (n := 1) rfl ok d_m_eventRate_0 rfl 0 rfl ?_
  refine r_iload_n (n := 2) rfl ok d_m_eventRate_1 rfl 1 rfl ?_
  refine r_iconst (v := 2) (n := 3) rfl ok d_m_eventRate_2 (by decide) ?_
  obtain ⟨r1, hr1, h⟩ := bd_ok h
  refine r_callV (n := 6) rfl ok hG mf_m_event k_1459 ks_74 k_1457 (C_m_event  hr1) ⟨rfl, rfl⟩ (rR hXR ⟨Nat.le_of_ble_eq_true rfl, Nat.le_of_ble_eq_true rfl⟩) rfl rfl (rv_MOD) rfl (Nat.le_of_ble_eq_true rfl) d_m_eventRate_3 ?_
  obtain rfl := Option.some.inj h
  exact fin _ _ ⟨.int, rfl, rfl⟩ d_m_eventRate_6
set_option maxHeartbeats 4000000 in
set_option maxRecDepth 20000 in
theorem C_m_eventTime {l : Launch} {G : Gt} {M : Me} {a1 : Int32}  {o : Int32} (h : f_m_eventTime M a1 = some o) : Ct l G (WM G) (rM G) y_m_eventTime b_m_eventTime 2 (some .int) rm_m_eventTime [.ref (G.1 + 0), .int a1] M (some (.int o)) M := by
  refine Ct.mk (own := "RetryChainsModel") rfl (by decide) (Nat.le_of_ble_eq_true rfl) ⟨_, rfl⟩ (fun X hXl hXR hXn ok hG fin => ?_)
  subst hXl
  unfold f_m_eventTime at h
  show Wt X M 0 [(0, .ref (G.1 + 0)), (1, .int a1)] []
  refine r_aload_n (n := 1) rfl ok d_m_eventTime_0 rfl 0 rfl ?_
  refine r_iload_n (n := 2) rfl ok d_m_eventTime_1 rfl 1 rfl ?_
  refine r_iconst (v := 3) (n := 3) rfl ok d_m_eventTime_2 (by decide) ?_
  obtain ⟨r1, hr1, h⟩ := bd_ok h
  refine r_callV (n := 6) rfl ok hG mf_m_event k_1459 ks_74 k_1457 (C_m_event  hr1) ⟨rfl, rfl⟩ (rR hXR ⟨Nat.le_of_ble_eq_true rfl, Nat.le_of_ble_eq_true rfl⟩) rfl rfl (rv_MOD) rfl (Nat.le_of_ble_eq_true rfl) d_m_eventTime_3 ?_
  obtain rfl := Option.some.inj h
  exact fin _ _ ⟨.int, rfl, rfl⟩ d_m_eventTime_6
set_option maxHeartbeats 4000000 in
set_option maxRecDepth 20000 in
theorem w_m_save_13 {X : Cx Me} {G : Gt} (ok : Ok X b_m_save "RetryChainsModel") (hG : GM X G) (hXR : X.R = rm_m_save) (hXn : X.nL = 3) {y1 : Int32}  {t : Me} (kx : ∀ e : Me, e = t → Wt X e 44 [(0, .ref (G.1 + 0)), (1, .int y1)] [])  : ∀ (n : Nat) (x : Int32 × Me), lp n (b_m_save_13 y1) x = some t → Wt X x.2 13 [(0, .ref (G.1 + 0)), (1, .int y1), (2, .int x.1)] [] := by
  intro n x h
  refine lp_W (P := fun x => Wt X x.2 13 [(0, .ref (G.1 + 0)), (1, .int y1), (2, .int x.1)] []) (Z := fun t' => t' = t) (fun x r h hk hz => ?_) n x t h rfl
  unfold b_m_save_13 at h
  refine r_iload_n (n := 14) rfl ok d_m_save_13 rfl 2 rfl ?_
  refine r_sipush (v := 600) (n := 17) rfl ok d_m_save_14 (by decide) ?_
  refine r_icmp_ge (tgt := 44) (n := 20) rfl ok d_m_save_17 (by decide) (fun c3 => ?_) (fun c3 => ?_)
  · replace h := if_p c3 h
    obtain rfl := Option.some.inj h
    exact r_sub [0, 1] rfl (show Wt X x.2 44 [(0, .ref (G.1 + 0)), (1, .int y1)] [] from kx _ (hz _ rfl))
  · replace h := if_n c3 h
    refine r_aload_n (n := 21) rfl ok d_m_save_20 rfl 0 rfl ?_
    refine g_MOD_saved (n := 24) rfl ok hG  k_987 d_m_save_21 ?_
    refine r_sipush (v := 600) (n := 27) rfl ok d_m_save_24 (by decide) ?_
    refine r_iload_n (n := 28) rfl ok d_m_save_27 rfl 1 rfl ?_
    refine r_imul (n := 29) rfl ok d_m_save_28 ?_
    refine r_iload_n (n := 30) rfl ok d_m_save_29 rfl 2 rfl ?_
    refine r_iadd (n := 31) rfl ok d_m_save_30 ?_
    refine r_aload_n (n := 32) rfl ok d_m_save_31 rfl 0 rfl ?_
    refine g_MOD_v (n := 35) rfl ok hG  k_986 d_m_save_32 ?_
    refine r_iload_n (n := 36) rfl ok d_m_save_35 rfl 2 rfl ?_
    obtain ⟨g4, h⟩ := gd_ok h
    refine al_V (n := 37) rfl ok hG  g4 d_m_save_36 ?_
    obtain ⟨g5, h⟩ := gd_ok h
    obtain ⟨M6, eM6, h⟩ := bd_ok h
    refine as_SAVED (n := 38) rfl ok hG  g5 d_m_save_37 ?_
    refine r_mem (Option.some.inj eM6) ?_
    obtain ⟨x7, ex7, h⟩ := bd_ok h
    refine r_iinc (lv' := [(2, .int x7), (0, .ref (G.1 + 0)), (1, .int y1)]) (n := 41) rfl ok d_m_save_38 2 rfl (Option.some.inj ex7) (lt_n hXn (Nat.le_of_ble_eq_true rfl)) rfl ?_
    refine r_goto (tgt := 13) ok d_m_save_41 (by decide) ?_
    obtain rfl := Option.some.inj h
    exact r_sub [1, 2, 0] rfl (show Wt X M6 13 [(0, .ref (G.1 + 0)), (1, .int y1), (2, .int x7)] [] from hk _ rfl)
set_option maxHeartbeats 4000000 in
set_option maxRecDepth 20000 in
theorem C_m_save {l : Launch} {G : Gt} {M : Me} {a1 : Int32}  {o : Int32 × Me} (h : f_m_save M a1 = some o) : Ct l G (WM G) (rM G) y_m_save b_m_save 3 (some .int) rm_m_save [.ref (G.1 + 0), .int a1] M (some (.int o.1)) o.2 := by
  refine Ct.mk (own := "RetryChainsModel") rfl (by decide) (Nat.le_of_ble_eq_true rfl) ⟨_, rfl⟩ (fun X hXl hXR hXn ok hG fin => ?_)
  subst hXl
  unfold f_m_save at h
  show Wt X M 0 [(0, .ref (G.1 + 0)), (1, .int a1)] []
  refine r_iload_n (n := 1) rfl ok d_m_save_0 rfl 1 rfl ?_
  refine r_iconst (v := 0) (n := 2) rfl ok d_m_save_1 (by decide) ?_
  refine r_iconst (v := 1) (n := 3) rfl ok d_m_save_2 (by decide) ?_
  obtain ⟨r1, hr1, h⟩ := bd_ok h
  refine r_callS (n := 6) rfl ok hG mf_m_in k_1016 k_1015 (C_m_in  hr1) ⟨rfl, rfl⟩ (rR hXR ⟨Nat.le_of_ble_eq_true rfl, Nat.le_of_ble_eq_true rfl⟩) rfl rfl (Nat.le_of_ble_eq_true rfl) d_m_save_3 ?_
  refine r_if_ne (tgt := 11) (n := 9) rfl ok d_m_save_6 (by decide) (fun c2 => ?_) (fun c2 => ?_)
  · replace h := if_n c2 h
    refine r_iconst (v := 0) (n := 12) rfl ok d_m_save_11 (by decide) ?_
    refine r_istore_n (lv' := [(2, .int 0), (0, .ref (G.1 + 0)), (1, .int a1)]) (n := 13) rfl ok d_m_save_12 rfl (lt_n hXn (Nat.le_of_ble_eq_true rfl)) rfl ?_
    obtain ⟨t8, ht8, h⟩ := bd_ok h
    refine r_sub [1, 2, 0] rfl (show Wt X M 13 [(0, .ref (G.1 + 0)), (1, .int a1), (2, .int 0)] [] from w_m_save_13 ok hG hXR hXn  ?_ _ _ ht8)
    · intro e9 he
      subst he
      refine r_aload_n (n := 45) rfl ok d_m_save_44 rfl 0 rfl ?_
      refine g_MOD_isSaved (n := 48) rfl ok hG  k_988 d_m_save_45 ?_
      refine r_iload_n (n := 49) rfl ok d_m_save_48 rfl 1 rfl ?_
      refine r_iconst (v := 1) (n := 50) rfl ok d_m_save_49 (by decide) ?_
      obtain ⟨g10, h⟩ := gd_ok h
      obtain ⟨M11, eM11, h⟩ := bd_ok h
      refine as_MSAVED (n := 51) rfl ok hG  (by decide) g10 d_m_save_50 ?_
      refine r_mem (Option.some.inj eM11) ?_
      refine r_aload_n (n := 52) rfl ok d_m_save_51 rfl 0 rfl ?_
      refine g_MOD_v (n := 55) rfl ok hG  k_986 d_m_save_52 ?_
      refine r_iconst (v := 0) (n := 56) rfl ok d_m_save_55 (by decide) ?_
      refine al_V (n := 57) rfl ok hG  (show gin 0 600 by decide) d_m_save_56 ?_
      obtain rfl := Option.some.inj h
      exact fin _ _ ⟨.int, rfl, rfl⟩ d_m_save_57
  · replace h := if_p c2 h
    refine r_iconst (v := (-1)) (n := 10) rfl ok d_m_save_9 (by decide) ?_
    obtain rfl := Option.some.inj h
    exact fin _ _ ⟨.int, rfl, rfl⟩ d_m_save_10
set_option maxHeartbeats 4000000 in
set_option maxRecDepth 20000 in
theorem w_m_restore_25 {X : Cx Me} {G : Gt} (ok : Ok X b_m_restore "RetryChainsModel") (hG : GM X G) (hXR : X.R = rm_m_restore) (hXn : X.nL = 3) {y1 : Int32}  {t : Me} (kx : ∀ e : Me, e = t → Wt X e 56 [(0, .ref (G.1 + 0))] [])  : ∀ (n : Nat) (x : Int32 × Me), lp n (b_m_restore_25 y1) x = some t → Wt X x.2 25 [(0, .ref (G.1 + 0)), (1, .int y1), (2, .int x.1)] [] := by
  intro n x h
  refine lp_W (P := fun x => Wt X x.2 25 [(0, .ref (G.1 + 0)), (1, .int y1), (2, .int x.1)] []) (Z := fun t' => t' = t) (fun x r h hk hz => ?_) n x t h rfl
  unfold b_m_restore_25 at h
  refine r_iload_n (n := 26) rfl ok d_m_restore_25 rfl 2 rfl ?_
  refine r_sipush (v := 600) (n := 29) rfl ok d_m_restore_26 (by decide) ?_
  refine r_icmp_ge (tgt := 56) (n := 32) rfl ok d_m_restore_29 (by decide) (fun c5 => ?_) (fun c5 => ?_)
  · replace h := if_p c5 h
    obtain rfl := Option.some.inj h
    exact r_sub [0] rfl (show Wt X x.2 56 [(0, .ref (G.1 + 0))] [] from kx _ (hz _ rfl))
  · replace h := if_n c5 h
    refine r_aload_n (n := 33) rfl ok d_m_restore_32 rfl 0 rfl ?_
    refine g_MOD_v (n := 36) rfl ok hG  k_986 d_m_restore_33 ?_
    refine r_iload_n (n := 37) rfl ok d_m_restore_36 rfl 2 rfl ?_
    refine r_aload_n (n := 38) rfl ok d_m_restore_37 rfl 0 rfl ?_
    refine g_MOD_saved (n := 41) rfl ok hG  k_987 d_m_restore_38 ?_
    refine r_sipush (v := 600) (n := 44) rfl ok d_m_restore_41 (by decide) ?_
    refine r_iload_n (n := 45) rfl ok d_m_restore_44 rfl 1 rfl ?_
    refine r_imul (n := 46) rfl ok d_m_restore_45 ?_
    refine r_iload_n (n := 47) rfl ok d_m_restore_46 rfl 2 rfl ?_
    refine r_iadd (n := 48) rfl ok d_m_restore_47 ?_
    obtain ⟨g6, h⟩ := gd_ok h
    refine al_SAVED (n := 49) rfl ok hG  g6 d_m_restore_48 ?_
    obtain ⟨g7, h⟩ := gd_ok h
    obtain ⟨M8, eM8, h⟩ := bd_ok h
    refine as_V (n := 50) rfl ok hG  g7 d_m_restore_49 ?_
    refine r_mem (Option.some.inj eM8) ?_
    obtain ⟨x9, ex9, h⟩ := bd_ok h
    refine r_iinc (lv' := [(2, .int x9), (0, .ref (G.1 + 0)), (1, .int y1)]) (n := 53) rfl ok d_m_restore_50 2 rfl (Option.some.inj ex9) (lt_n hXn (Nat.le_of_ble_eq_true rfl)) rfl ?_
    refine r_goto (tgt := 25) ok d_m_restore_53 (by decide) ?_
    obtain rfl := Option.some.inj h
    exact r_sub [1, 2, 0] rfl (show Wt X M8 25 [(0, .ref (G.1 + 0)), (1, .int y1), (2, .int x9)] [] from hk _ rfl)
set_option maxHeartbeats 4000000 in
set_option maxRecDepth 20000 in
theorem C_m_restore {l : Launch} {G : Gt} {M : Me} {a1 : Int32}  {o : Int32 × Me} (h : f_m_restore M a1 = some o) : Ct l G (WM G) (rM G) y_m_restore b_m_restore 3 (some .int) rm_m_restore [.ref (G.1 + 0), .int a1] M (some (.int o.1)) o.2 := by
  refine Ct.mk (own := "RetryChainsModel") rfl (by decide) (Nat.le_of_ble_eq_true rfl) ⟨_, rfl⟩ (fun X hXl hXR hXn ok hG fin => ?_)
  subst hXl
  unfold f_m_restore at h
  show Wt X M 0 [(0, .ref (G.1 + 0)), (1, .int a1)] []
  refine r_iload_n (n := 1) rfl ok d_m_restore_0 rfl 1 rfl ?_
  refine r_iconst (v := 0) (n := 2) rfl ok d_m_restore_1 (by decide) ?_
  refine r_iconst (v := 1) (n := 3) rfl ok d_m_restore_2 (by decide) ?_
  obtain ⟨r1, hr1, h⟩ := bd_ok h
  refine r_callS (n := 6) rfl ok hG mf_m_in k_1016 k_1015 (C_m_in  hr1) ⟨rfl, rfl⟩ (rR hXR ⟨Nat.le_of_ble_eq_true rfl, Nat.le_of_ble_eq_true rfl⟩) rfl rfl (Nat.le_of_ble_eq_true rfl) d_m_restore_3 ?_
  refine r_if_ne (tgt := 11) (n := 9) rfl ok d_m_restore_6 (by decide) (fun c2 => ?_) (fun c2 => ?_)
  · replace h := if_n c2 h
    refine r_aload_n (n := 12) rfl ok d_m_restore_11 rfl 0 rfl ?_
    refine g_MOD_isSaved (n := 15) rfl ok hG  k_988 d_m_restore_12 ?_
    refine r_iload_n (n := 16) rfl ok d_m_restore_15 rfl 1 rfl ?_
    obtain ⟨g3, h⟩ := gd_ok h
    refine al_MSAVED (n := 17) rfl ok hG  g3 d_m_restore_16 ?_
    refine r_if_ne (tgt := 23) (n := 20) rfl ok d_m_restore_17 (by decide) (fun c4 => ?_) (fun c4 => ?_)
    · replace h := if_n c4 h
      refine r_iconst (v := 0) (n := 24) rfl ok d_m_restore_23 (by decide) ?_
      refine r_istore_n (lv' := [(2, .int 0), (0, .ref (G.1 + 0)), (1, .int a1)]) (n := 25) rfl ok d_m_restore_24 rfl (lt_n hXn (Nat.le_of_ble_eq_true rfl)) rfl ?_
      obtain ⟨t10, ht10, h⟩ := bd_ok h
      refine r_sub [1, 2, 0] rfl (show Wt X M 25 [(0, .ref (G.1 + 0)), (1, .int a1), (2, .int 0)] [] from w_m_restore_25 ok hG hXR hXn  ?_ _ _ ht10)
      · intro e11 he
        subst he
        refine r_aload_n (n := 57) rfl ok d_m_restore_56 rfl 0 rfl ?_
        refine r_iconst (v := 0) (n := 58) rfl ok d_m_restore_57 (by decide) ?_
        obtain ⟨M12, eM12, h⟩ := bd_ok h
        refine p_MOD_pastMany (n := 61) rfl ok hG  k_991 d_m_restore_58 ?_
        refine r_mem (Option.some.inj eM12) ?_
        refine r_aload_n (n := 62) rfl ok d_m_restore_61 rfl 0 rfl ?_
        refine g_MOD_v (n := 65) rfl ok hG  k_986 d_m_restore_62 ?_
        refine r_iconst (v := 0) (n := 66) rfl ok d_m_restore_65 (by decide) ?_
        refine al_V (n := 67) rfl ok hG  (show gin 0 600 by decide) d_m_restore_66 ?_
        obtain rfl := Option.some.inj h
        exact fin _ _ ⟨.int, rfl, rfl⟩ d_m_restore_67
    · replace h := if_p c4 h
      refine r_bipush (v := (-2)) (n := 22) rfl ok d_m_restore_20 (by decide) ?_
      obtain rfl := Option.some.inj h
      exact fin _ _ ⟨.int, rfl, rfl⟩ d_m_restore_22
  · replace h := if_p c2 h
    refine r_iconst (v := (-1)) (n := 10) rfl ok d_m_restore_9 (by decide) ?_
    obtain rfl := Option.some.inj h
    exact fin _ _ ⟨.int, rfl, rfl⟩ d_m_restore_10
set_option maxHeartbeats 4000000 in
set_option maxRecDepth 20000 in
theorem w_m_undo_22 {X : Cx Me} {G : Gt} (ok : Ok X b_m_undo "RetryChainsModel") (hG : GM X G) (hXR : X.R = rm_m_undo) (hXn : X.nL = 2)   {t : Me} (kx : ∀ e : Me, e = t → Wt X e 56 [(0, .ref (G.1 + 0))] [])  : ∀ (n : Nat) (x : Int32 × Me), lp n b_m_undo_22 x = some t → Wt X x.2 22 [(0, .ref (G.1 + 0)), (1, .int x.1)] [] := by
  intro n x h
  refine lp_W (P := fun x => Wt X x.2 22 [(0, .ref (G.1 + 0)), (1, .int x.1)] []) (Z := fun t' => t' = t) (fun x r h hk hz => ?_) n x t h rfl
  unfold b_m_undo_22 at h
  refine r_iload_n (n := 23) rfl ok d_m_undo_22 rfl 1 rfl ?_
  refine r_sipush (v := 600) (n := 26) rfl ok d_m_undo_23 (by decide) ?_
  refine r_icmp_ge (tgt := 56) (n := 29) rfl ok d_m_undo_26 (by decide) (fun c3 => ?_) (fun c3 => ?_)
  · replace h := if_p c3 h
    obtain rfl := Option.some.inj h
    exact r_sub [0] rfl (show Wt X x.2 56 [(0, .ref (G.1 + 0))] [] from kx _ (hz _ rfl))
  · replace h := if_n c3 h
    refine r_aload_n (n := 30) rfl ok d_m_undo_29 rfl 0 rfl ?_
    refine g_MOD_v (n := 33) rfl ok hG  k_986 d_m_undo_30 ?_
    refine r_iload_n (n := 34) rfl ok d_m_undo_33 rfl 1 rfl ?_
    refine r_aload_n (n := 35) rfl ok d_m_undo_34 rfl 0 rfl ?_
    refine g_MOD_past (n := 38) rfl ok hG  k_989 d_m_undo_35 ?_
    refine r_sipush (v := 600) (n := 41) rfl ok d_m_undo_38 (by decide) ?_
    refine r_aload_n (n := 42) rfl ok d_m_undo_41 rfl 0 rfl ?_
    refine g_MOD_pastMany (n := 45) rfl ok hG  k_991 d_m_undo_42 ?_
    refine r_imul (n := 46) rfl ok d_m_undo_45 ?_
    refine r_iload_n (n := 47) rfl ok d_m_undo_46 rfl 1 rfl ?_
    refine r_iadd (n := 48) rfl ok d_m_undo_47 ?_
    obtain ⟨g4, h⟩ := gd_ok h
    refine al_PAST (n := 49) rfl ok hG  g4 d_m_undo_48 ?_
    obtain ⟨g5, h⟩ := gd_ok h
    obtain ⟨M6, eM6, h⟩ := bd_ok h
    refine as_V (n := 50) rfl ok hG  g5 d_m_undo_49 ?_
    refine r_mem (Option.some.inj eM6) ?_
    obtain ⟨x7, ex7, h⟩ := bd_ok h
    refine r_iinc (lv' := [(1, .int x7), (0, .ref (G.1 + 0))]) (n := 53) rfl ok d_m_undo_50 1 rfl (Option.some.inj ex7) (lt_n hXn (Nat.le_of_ble_eq_true rfl)) rfl ?_
    refine r_goto (tgt := 22) ok d_m_undo_53 (by decide) ?_
    obtain rfl := Option.some.inj h
    exact r_sub [1, 0] rfl (show Wt X M6 22 [(0, .ref (G.1 + 0)), (1, .int x7)] [] from hk _ rfl)
set_option maxHeartbeats 4000000 in
set_option maxRecDepth 20000 in
theorem C_m_undo {l : Launch} {G : Gt} {M : Me}   {o : Int32 × Me} (h : f_m_undo M = some o) : Ct l G (WM G) (rM G) y_m_undo b_m_undo 2 (some .int) rm_m_undo [.ref (G.1 + 0)] M (some (.int o.1)) o.2 := by
  refine Ct.mk (own := "RetryChainsModel") rfl (by decide) (Nat.le_of_ble_eq_true rfl) ⟨_, rfl⟩ (fun X hXl hXR hXn ok hG fin => ?_)
  subst hXl
  unfold f_m_undo at h
  show Wt X M 0 [(0, .ref (G.1 + 0))] []
  refine r_aload_n (n := 1) rfl ok d_m_undo_0 rfl 0 rfl ?_
  refine g_MOD_pastMany (n := 4) rfl ok hG  k_991 d_m_undo_1 ?_
  refine r_if_ne (tgt := 10) (n := 7) rfl ok d_m_undo_4 (by decide) (fun c1 => ?_) (fun c1 => ?_)
  · replace h := if_n c1 h
    refine r_aload_n (n := 11) rfl ok d_m_undo_10 rfl 0 rfl ?_
    refine r_dup (n := 12) rfl ok d_m_undo_11 rfl ?_
    refine g_MOD_pastMany (n := 15) rfl ok hG  k_991 d_m_undo_12 ?_
    refine r_iconst (v := 1) (n := 16) rfl ok d_m_undo_15 (by decide) ?_
    refine r_isub (n := 17) rfl ok d_m_undo_16 ?_
    obtain ⟨M2, eM2, h⟩ := bd_ok h
    refine p_MOD_pastMany (n := 20) rfl ok hG  k_991 d_m_undo_17 ?_
    refine r_mem (Option.some.inj eM2) ?_
    refine r_iconst (v := 0) (n := 21) rfl ok d_m_undo_20 (by decide) ?_
    refine r_istore_n (lv' := [(1, .int 0), (0, .ref (G.1 + 0))]) (n := 22) rfl ok d_m_undo_21 rfl (lt_n hXn (Nat.le_of_ble_eq_true rfl)) rfl ?_
    obtain ⟨t8, ht8, h⟩ := bd_ok h
    refine r_sub [1, 0] rfl (show Wt X M2 22 [(0, .ref (G.1 + 0)), (1, .int 0)] [] from w_m_undo_22 ok hG hXR hXn  ?_ _ _ ht8)
    · intro e9 he
      subst he
      refine r_aload_n (n := 57) rfl ok d_m_undo_56 rfl 0 rfl ?_
      refine g_MOD_pastMany (n := 60) rfl ok hG  k_991 d_m_undo_57 ?_
      obtain rfl := Option.some.inj h
      exact fin _ _ ⟨.int, rfl, rfl⟩ d_m_undo_60
  · replace h := if_p c1 h
    refine r_bipush (v := (-2)) (n := 9) rfl ok d_m_undo_7 (by decide) ?_
    obtain rfl := Option.some.inj h
    exact fin _ _ ⟨.int, rfl, rfl⟩ d_m_undo_9
set_option maxHeartbeats 4000000 in
set_option maxRecDepth 20000 in
theorem w_m_stationDigest_6 {X : Cx Me} {G : Gt} (ok : Ok X b_m_stationDigest "RetryChainsModel") (hG : GM X G) (hXR : X.R = rm_m_stationDigest) (hXn : X.nL = 7) {M : Me} {y3 : Int32}  {t : Int64} (kx : ∀ e : Int64, e = t → Wt X M 40 [(0, .ref (G.1 + 0)), (3, .int y3), (4, .long e)] [])  : ∀ (n : Nat) (x : Int64 × Int32), lp n (b_m_stationDigest_6 M y3) x = some t → Wt X M 6 [(0, .ref (G.1 + 0)), (3, .int y3), (4, .long x.1), (6, .int x.2)] [] := by
  intro n x h
  refine lp_W (P := fun x => Wt X M 6 [(0, .ref (G.1 + 0)), (3, .int y3), (4, .long x.1), (6, .int x.2)] []) (Z := fun t' => t' = t) (fun x r h hk hz => ?_) n x t h rfl
  unfold b_m_stationDigest_6 at h
  refine r_iload (n := 8) rfl ok d_m_stationDigest_6 3 rfl ?_
  refine r_iconst (v := 4) (n := 9) rfl ok d_m_stationDigest_8 (by decide) ?_
  refine r_icmp_ge (tgt := 40) (n := 12) rfl ok d_m_stationDigest_9 (by decide) (fun c1 => ?_) (fun c1 => ?_)
  · replace h := if_p c1 h
    obtain rfl := Option.some.inj h
    exact r_sub [0, 1, 2] rfl (show Wt X M 40 [(0, .ref (G.1 + 0)), (3, .int y3), (4, .long x.1)] [] from kx _ (hz _ rfl))
  · replace h := if_n c1 h
    refine r_ldc2 (n := 15) rfl ok d_m_stationDigest_12 k_1490 ?_
    refine r_lload (n := 17) rfl ok d_m_stationDigest_15 2 rfl ?_
    refine r_lmul (n := 18) rfl ok d_m_stationDigest_17 ?_
    refine r_aload_n (n := 19) rfl ok d_m_stationDigest_18 rfl 0 rfl ?_
    refine g_MOD_v (n := 22) rfl ok hG  k_986 d_m_stationDigest_19 ?_
    refine r_iload_n (n := 23) rfl ok d_m_stationDigest_22 rfl 1 rfl ?_
    obtain ⟨r2, hr2, h⟩ := bd_ok h
    refine r_callS (n := 26) rfl ok hG mf_m_side k_1034 k_1033 (C_m_side  hr2) ⟨rfl, rfl⟩ (rR hXR ⟨Nat.le_of_ble_eq_true rfl, Nat.le_of_ble_eq_true rfl⟩) rfl rfl (Nat.le_of_ble_eq_true rfl) d_m_stationDigest_23 ?_
    refine r_iload (n := 28) rfl ok d_m_stationDigest_26 3 rfl ?_
    refine r_iadd (n := 29) rfl ok d_m_stationDigest_28 ?_
    obtain ⟨g3, h⟩ := gd_ok h
    refine al_V (n := 30) rfl ok hG  g3 d_m_stationDigest_29 ?_
    refine r_i2l (n := 31) rfl ok d_m_stationDigest_30 ?_
    refine r_ladd (n := 32) rfl ok d_m_stationDigest_31 ?_
    obtain ⟨x4, ex4, h⟩ := bd_ok h
    refine r_tl (Option.some.inj ex4).symm ?_
    refine r_lstore (lv' := [(4, .long x4), (0, .ref (G.1 + 0)), (3, .int y3), (6, .int x.2)]) (n := 34) rfl ok d_m_stationDigest_32 (lt_n hXn (Nat.le_of_ble_eq_true rfl)) rfl ?_
    obtain ⟨x5, ex5, h⟩ := bd_ok h
    refine r_iinc (lv' := [(6, .int x5), (4, .long x4), (0, .ref (G.1 + 0)), (3, .int y3)]) (n := 37) rfl ok d_m_stationDigest_34 3 rfl (Option.some.inj ex5) (lt_n hXn (Nat.le_of_ble_eq_true rfl)) rfl ?_
    refine r_goto (tgt := 6) ok d_m_stationDigest_37 (by decide) ?_
    obtain rfl := Option.some.inj h
    exact r_sub [2, 3, 1, 0] rfl (show Wt X M 6 [(0, .ref (G.1 + 0)), (3, .int y3), (4, .long x4), (6, .int x5)] [] from hk _ rfl)
set_option maxHeartbeats 4000000 in
set_option maxRecDepth 20000 in
theorem w_m_stationDigest_108 {X : Cx Me} {G : Gt} (ok : Ok X b_m_stationDigest "RetryChainsModel") (hG : GM X G) (hXR : X.R = rm_m_stationDigest) (hXn : X.nL = 7) {M : Me} {y3 : Int32}  {t : Int64} (kx : ∀ e : Int64, e = t → Wt X M 137 [(0, .ref (G.1 + 0)), (3, .int y3), (4, .long e)] [])  : ∀ (n : Nat) (x : Int64 × Int32), lp n (b_m_stationDigest_108 M y3) x = some t → Wt X M 108 [(0, .ref (G.1 + 0)), (3, .int y3), (4, .long x.1), (6, .int x.2)] [] := by
  intro n x h
  refine lp_W (P := fun x => Wt X M 108 [(0, .ref (G.1 + 0)), (3, .int y3), (4, .long x.1), (6, .int x.2)] []) (Z := fun t' => t' = t) (fun x r h hk hz => ?_) n x t h rfl
  unfold b_m_stationDigest_108 at h
  refine r_iload (n := 110) rfl ok d_m_stationDigest_108 3 rfl ?_
  refine r_iconst (v := 4) (n := 111) rfl ok d_m_stationDigest_110 (by decide) ?_
  refine r_icmp_ge (tgt := 137) (n := 114) rfl ok d_m_stationDigest_111 (by decide) (fun c17 => ?_) (fun c17 => ?_)
  · replace h := if_p c17 h
    obtain rfl := Option.some.inj h
    exact r_sub [0, 1, 2] rfl (show Wt X M 137 [(0, .ref (G.1 + 0)), (3, .int y3), (4, .long x.1)] [] from kx _ (hz _ rfl))
  · replace h := if_n c17 h
    refine r_ldc2 (n := 117) rfl ok d_m_stationDigest_114 k_1490 ?_
    refine r_lload (n := 119) rfl ok d_m_stationDigest_117 2 rfl ?_
    refine r_lmul (n := 120) rfl ok d_m_stationDigest_119 ?_
    refine r_aload_n (n := 121) rfl ok d_m_stationDigest_120 rfl 0 rfl ?_
    refine r_iload_n (n := 122) rfl ok d_m_stationDigest_121 rfl 1 rfl ?_
    refine r_iload (n := 124) rfl ok d_m_stationDigest_122 3 rfl ?_
    obtain ⟨r18, hr18, h⟩ := bd_ok h
    refine r_callV (n := 127) rfl ok hG mf_m_roleOf k_1148 ks_36 k_1146 (C_m_roleOf  hr18) ⟨rfl, rfl⟩ (rR hXR ⟨Nat.le_of_ble_eq_true rfl, Nat.le_of_ble_eq_true rfl⟩) rfl rfl (rv_MOD) rfl (Nat.le_of_ble_eq_true rfl) d_m_stationDigest_124 ?_
    refine r_i2l (n := 128) rfl ok d_m_stationDigest_127 ?_
    refine r_ladd (n := 129) rfl ok d_m_stationDigest_128 ?_
    obtain ⟨x19, ex19, h⟩ := bd_ok h
    refine r_tl (Option.some.inj ex19).symm ?_
    refine r_lstore (lv' := [(4, .long x19), (0, .ref (G.1 + 0)), (3, .int y3), (6, .int x.2)]) (n := 131) rfl ok d_m_stationDigest_129 (lt_n hXn (Nat.le_of_ble_eq_true rfl)) rfl ?_
    obtain ⟨x20, ex20, h⟩ := bd_ok h
    refine r_iinc (lv' := [(6, .int x20), (4, .long x19), (0, .ref (G.1 + 0)), (3, .int y3)]) (n := 134) rfl ok d_m_stationDigest_131 3 rfl (Option.some.inj ex20) (lt_n hXn (Nat.le_of_ble_eq_true rfl)) rfl ?_
    refine r_goto (tgt := 108) ok d_m_stationDigest_134 (by decide) ?_
    obtain rfl := Option.some.inj h
    exact r_sub [2, 3, 1, 0] rfl (show Wt X M 108 [(0, .ref (G.1 + 0)), (3, .int y3), (4, .long x19), (6, .int x20)] [] from hk _ rfl)
set_option maxHeartbeats 4000000 in
set_option maxRecDepth 20000 in
theorem w_m_stationDigest_140 {X : Cx Me} {G : Gt} (ok : Ok X b_m_stationDigest "RetryChainsModel") (hG : GM X G) (hXR : X.R = rm_m_stationDigest) (hXn : X.nL = 7) {M : Me} {y3 : Int32}  {t : Int64} (kx : ∀ e : Int64, e = t → Wt X M 220 [(4, .long e)] [])  : ∀ (n : Nat) (x : Int64 × Int32), lp n (b_m_stationDigest_140 M y3) x = some t → Wt X M 140 [(0, .ref (G.1 + 0)), (3, .int y3), (4, .long x.1), (6, .int x.2)] [] := by
  intro n x h
  refine lp_W (P := fun x => Wt X M 140 [(0, .ref (G.1 + 0)), (3, .int y3), (4, .long x.1), (6, .int x.2)] []) (Z := fun t' => t' = t) (fun x r h hk hz => ?_) n x t h rfl
  unfold b_m_stationDigest_140 at h
  refine r_iload (n := 142) rfl ok d_m_stationDigest_140 3 rfl ?_
  refine r_aload_n (n := 143) rfl ok d_m_stationDigest_142 rfl 0 rfl ?_
  refine g_MOD_v (n := 146) rfl ok hG  k_986 d_m_stationDigest_143 ?_
  refine r_iconst (v := 1) (n := 147) rfl ok d_m_stationDigest_146 (by decide) ?_
  refine al_V (n := 148) rfl ok hG  (show gin 1 600 by decide) d_m_stationDigest_147 ?_
  refine r_icmp_ge (tgt := 220) (n := 151) rfl ok d_m_stationDigest_148 (by decide) (fun c23 => ?_) (fun c23 => ?_)
  · replace h := if_p c23 h
    obtain rfl := Option.some.inj h
    exact r_sub [2] rfl (show Wt X M 220 [(4, .long x.1)] [] from kx _ (hz _ rfl))
  · replace h := if_n c23 h
    refine r_ldc2 (n := 154) rfl ok d_m_stationDigest_151 k_1490 ?_
    refine r_lload (n := 156) rfl ok d_m_stationDigest_154 2 rfl ?_
    refine r_lmul (n := 157) rfl ok d_m_stationDigest_156 ?_
    refine r_aload_n (n := 158) rfl ok d_m_stationDigest_157 rfl 0 rfl ?_
    refine r_iload_n (n := 159) rfl ok d_m_stationDigest_158 rfl 1 rfl ?_
    refine r_iload (n := 161) rfl ok d_m_stationDigest_159 3 rfl ?_
    obtain ⟨r24, hr24, h⟩ := bd_ok h
    refine r_callV (n := 164) rfl ok hG mf_m_estimate k_1326 k_1327 k_1495 (C_m_estimate  hr24) ⟨rfl, rfl⟩ (rR hXR ⟨Nat.le_of_ble_eq_true rfl, Nat.le_of_ble_eq_true rfl⟩) rfl rfl (rv_MOD) rfl (Nat.le_of_ble_eq_true rfl) d_m_stationDigest_161 ?_
    refine r_i2l (n := 165) rfl ok d_m_stationDigest_164 ?_
    refine r_ladd (n := 166) rfl ok d_m_stationDigest_165 ?_
    obtain ⟨x25, ex25, h⟩ := bd_ok h
    refine r_tl (Option.some.inj ex25).symm ?_
    refine r_lstore (lv' := [(4, .long x25), (0, .ref (G.1 + 0)), (3, .int y3), (6, .int x.2)]) (n := 168) rfl ok d_m_stationDigest_166 (lt_n hXn (Nat.le_of_ble_eq_true rfl)) rfl ?_
    refine r_ldc2 (n := 171) rfl ok d_m_stationDigest_168 k_1490 ?_
    refine r_lload (n := 173) rfl ok d_m_stationDigest_171 0 rfl ?_
    refine r_lmul (n := 174) rfl ok d_m_stationDigest_173 ?_
    refine r_aload_n (n := 175) rfl ok d_m_stationDigest_174 rfl 1 rfl ?_
    refine g_MOD_v (n := 178) rfl ok hG  k_986 d_m_stationDigest_175 ?_
    refine r_iload_n (n := 179) rfl ok d_m_stationDigest_178 rfl 2 rfl ?_
    refine r_iload (n := 181) rfl ok d_m_stationDigest_179 3 rfl ?_
    obtain ⟨r26, hr26, h⟩ := bd_ok h
    refine r_callS (n := 184) rfl ok hG mf_m_pair k_1027 k_1026 (C_m_pair  hr26) ⟨rfl, rfl⟩ (rR hXR ⟨Nat.le_of_ble_eq_true rfl, Nat.le_of_ble_eq_true rfl⟩) rfl rfl (Nat.le_of_ble_eq_true rfl) d_m_stationDigest_181 ?_
    refine r_iconst (v := 4) (n := 185) rfl ok d_m_stationDigest_184 (by decide) ?_
    refine r_iadd (n := 186) rfl ok d_m_stationDigest_185 ?_
    obtain ⟨g27, h⟩ := gd_ok h
    refine al_V (n := 187) rfl ok hG  g27 d_m_stationDigest_186 ?_
    refine r_i2l (n := 188) rfl ok d_m_stationDigest_187 ?_
    refine r_ladd (n := 189) rfl ok d_m_stationDigest_188 ?_
    obtain ⟨x28, ex28, h⟩ := bd_ok h
    refine r_tl (Option.some.inj ex28).symm ?_
    refine r_lstore (lv' := [(4, .long x28), (0, .ref (G.1 + 0)), (3, .int y3), (6, .int x.2)]) (n := 191) rfl ok d_m_stationDigest_189 (lt_n hXn (Nat.le_of_ble_eq_true rfl)) rfl ?_
    refine r_ldc2 (n := 194) rfl ok d_m_stationDigest_191 k_1490 ?_
    refine r_lload (n := 196) rfl ok d_m_stationDigest_194 0 rfl ?_
    refine r_lmul (n := 197) rfl ok d_m_stationDigest_196 ?_
    refine r_aload_n (n := 198) rfl ok d_m_stationDigest_197 rfl 1 rfl ?_
    refine g_MOD_v (n := 201) rfl ok hG  k_986 d_m_stationDigest_198 ?_
    refine r_iload_n (n := 202) rfl ok d_m_stationDigest_201 rfl 2 rfl ?_
    refine r_iload (n := 204) rfl ok d_m_stationDigest_202 3 rfl ?_
    obtain ⟨r29, hr29, h⟩ := bd_ok h
    refine r_callS (n := 207) rfl ok hG mf_m_pair k_1027 k_1026 (C_m_pair  hr29) ⟨rfl, rfl⟩ (rR hXR ⟨Nat.le_of_ble_eq_true rfl, Nat.le_of_ble_eq_true rfl⟩) rfl rfl (Nat.le_of_ble_eq_true rfl) d_m_stationDigest_204 ?_
    refine r_iconst (v := 5) (n := 208) rfl ok d_m_stationDigest_207 (by decide) ?_
    refine r_iadd (n := 209) rfl ok d_m_stationDigest_208 ?_
    obtain ⟨g30, h⟩ := gd_ok h
    refine al_V (n := 210) rfl ok hG  g30 d_m_stationDigest_209 ?_
    refine r_i2l (n := 211) rfl ok d_m_stationDigest_210 ?_
    refine r_ladd (n := 212) rfl ok d_m_stationDigest_211 ?_
    obtain ⟨x31, ex31, h⟩ := bd_ok h
    refine r_tl (Option.some.inj ex31).symm ?_
    refine r_lstore (lv' := [(4, .long x31), (0, .ref (G.1 + 0)), (3, .int y3), (6, .int x.2)]) (n := 214) rfl ok d_m_stationDigest_212 (lt_n hXn (Nat.le_of_ble_eq_true rfl)) rfl ?_
    obtain ⟨x32, ex32, h⟩ := bd_ok h
    refine r_iinc (lv' := [(6, .int x32), (4, .long x31), (0, .ref (G.1 + 0)), (3, .int y3)]) (n := 217) rfl ok d_m_stationDigest_214 3 rfl (Option.some.inj ex32) (lt_n hXn (Nat.le_of_ble_eq_true rfl)) rfl ?_
    refine r_goto (tgt := 140) ok d_m_stationDigest_217 (by decide) ?_
    obtain rfl := Option.some.inj h
    exact r_sub [2, 3, 1, 0] rfl (show Wt X M 140 [(0, .ref (G.1 + 0)), (3, .int y3), (4, .long x31), (6, .int x32)] [] from hk _ rfl)
set_option maxHeartbeats 4000000 in
set_option maxRecDepth 20000 in
theorem C_m_stationDigest {l : Launch} {G : Gt} {M : Me} {a1 : Int64} {a2 : Int32}  {o : Int64} (h : f_m_stationDigest M a1 a2 = some o) : Ct l G (WM G) (rM G) y_m_stationDigest b_m_stationDigest 7 (some .long) rm_m_stationDigest [.ref (G.1 + 0), .long a1, .int a2] M (some (.long o)) M := by
  refine Ct.mk (own := "RetryChainsModel") rfl (by decide) (Nat.le_of_ble_eq_true rfl) rfl (fun X hXl hXR hXn ok hG fin => ?_)
  subst hXl
  unfold f_m_stationDigest at h
  show Wt X M 0 [(0, .ref (G.1 + 0)), (1, .long a1), (3, .int a2)] []
  refine r_lload_n (n := 1) rfl ok d_m_stationDigest_0 rfl 1 rfl ?_
  refine r_lstore (lv' := [(4, .long a1), (0, .ref (G.1 + 0)), (1, .long a1), (3, .int a2)]) (n := 3) rfl ok d_m_stationDigest_1 (lt_n hXn (Nat.le_of_ble_eq_true rfl)) rfl ?_
  refine r_iconst (v := 0) (n := 4) rfl ok d_m_stationDigest_3 (by decide) ?_
  refine r_istore (lv' := [(6, .int 0), (4, .long a1), (0, .ref (G.1 + 0)), (1, .long a1), (3, .int a2)]) (n := 6) rfl ok d_m_stationDigest_4 (lt_n hXn (Nat.le_of_ble_eq_true rfl)) rfl ?_
  obtain ⟨t6, ht6, h⟩ := bd_ok h
  refine r_sub [2, 4, 1, 0] rfl (show Wt X M 6 [(0, .ref (G.1 + 0)), (3, .int a2), (4, .long a1), (6, .int 0)] [] from w_m_stationDigest_6 ok hG hXR hXn  ?_ _ _ ht6)
  · intro e7 he
    subst he
    refine r_ldc2 (n := 43) rfl ok d_m_stationDigest_40 k_1490 ?_
    refine r_lload (n := 45) rfl ok d_m_stationDigest_43 2 rfl ?_
    refine r_lmul (n := 46) rfl ok d_m_stationDigest_45 ?_
    refine r_aload_n (n := 47) rfl ok d_m_stationDigest_46 rfl 0 rfl ?_
    refine g_MOD_v (n := 50) rfl ok hG  k_986 d_m_stationDigest_47 ?_
    refine r_iload_n (n := 51) rfl ok d_m_stationDigest_50 rfl 1 rfl ?_
    obtain ⟨r8, hr8, h⟩ := bd_ok h
    refine r_callS (n := 54) rfl ok hG mf_m_side k_1034 k_1033 (C_m_side  hr8) ⟨rfl, rfl⟩ (rR hXR ⟨Nat.le_of_ble_eq_true rfl, Nat.le_of_ble_eq_true rfl⟩) rfl rfl (Nat.le_of_ble_eq_true rfl) d_m_stationDigest_51 ?_
    refine r_bipush (v := 6) (n := 56) rfl ok d_m_stationDigest_54 (by decide) ?_
    refine r_iadd (n := 57) rfl ok d_m_stationDigest_56 ?_
    obtain ⟨g9, h⟩ := gd_ok h
    refine al_V (n := 58) rfl ok hG  g9 d_m_stationDigest_57 ?_
    refine r_i2l (n := 59) rfl ok d_m_stationDigest_58 ?_
    refine r_ladd (n := 60) rfl ok d_m_stationDigest_59 ?_
    obtain ⟨x10, ex10, h⟩ := bd_ok h
    refine r_tl (Option.some.inj ex10).symm ?_
    refine r_lstore (lv' := [(4, .long x10), (0, .ref (G.1 + 0)), (3, .int a2)]) (n := 62) rfl ok d_m_stationDigest_60 (lt_n hXn (Nat.le_of_ble_eq_true rfl)) rfl ?_
    refine r_ldc2 (n := 65) rfl ok d_m_stationDigest_62 k_1490 ?_
    refine r_lload (n := 67) rfl ok d_m_stationDigest_65 0 rfl ?_
    refine r_lmul (n := 68) rfl ok d_m_stationDigest_67 ?_
    refine r_aload_n (n := 69) rfl ok d_m_stationDigest_68 rfl 1 rfl ?_
    refine g_MOD_v (n := 72) rfl ok hG  k_986 d_m_stationDigest_69 ?_
    refine r_iload_n (n := 73) rfl ok d_m_stationDigest_72 rfl 2 rfl ?_
    obtain ⟨r11, hr11, h⟩ := bd_ok h
    refine r_callS (n := 76) rfl ok hG mf_m_side k_1034 k_1033 (C_m_side  hr11) ⟨rfl, rfl⟩ (rR hXR ⟨Nat.le_of_ble_eq_true rfl, Nat.le_of_ble_eq_true rfl⟩) rfl rfl (Nat.le_of_ble_eq_true rfl) d_m_stationDigest_73 ?_
    refine r_bipush (v := 15) (n := 78) rfl ok d_m_stationDigest_76 (by decide) ?_
    refine r_iadd (n := 79) rfl ok d_m_stationDigest_78 ?_
    obtain ⟨g12, h⟩ := gd_ok h
    refine al_V (n := 80) rfl ok hG  g12 d_m_stationDigest_79 ?_
    refine r_i2l (n := 81) rfl ok d_m_stationDigest_80 ?_
    refine r_ladd (n := 82) rfl ok d_m_stationDigest_81 ?_
    obtain ⟨x13, ex13, h⟩ := bd_ok h
    refine r_tl (Option.some.inj ex13).symm ?_
    refine r_lstore (lv' := [(4, .long x13), (0, .ref (G.1 + 0)), (3, .int a2)]) (n := 84) rfl ok d_m_stationDigest_82 (lt_n hXn (Nat.le_of_ble_eq_true rfl)) rfl ?_
    refine r_ldc2 (n := 87) rfl ok d_m_stationDigest_84 k_1490 ?_
    refine r_lload (n := 89) rfl ok d_m_stationDigest_87 0 rfl ?_
    refine r_lmul (n := 90) rfl ok d_m_stationDigest_89 ?_
    refine r_aload_n (n := 91) rfl ok d_m_stationDigest_90 rfl 1 rfl ?_
    refine g_MOD_v (n := 94) rfl ok hG  k_986 d_m_stationDigest_91 ?_
    refine r_iload_n (n := 95) rfl ok d_m_stationDigest_94 rfl 2 rfl ?_
    obtain ⟨r14, hr14, h⟩ := bd_ok h
    refine r_callS (n := 98) rfl ok hG mf_m_side k_1034 k_1033 (C_m_side  hr14) ⟨rfl, rfl⟩ (rR hXR ⟨Nat.le_of_ble_eq_true rfl, Nat.le_of_ble_eq_true rfl⟩) rfl rfl (Nat.le_of_ble_eq_true rfl) d_m_stationDigest_95 ?_
    refine r_iconst (v := 5) (n := 99) rfl ok d_m_stationDigest_98 (by decide) ?_
    refine r_iadd (n := 100) rfl ok d_m_stationDigest_99 ?_
    obtain ⟨g15, h⟩ := gd_ok h
    refine al_V (n := 101) rfl ok hG  g15 d_m_stationDigest_100 ?_
    refine r_i2l (n := 102) rfl ok d_m_stationDigest_101 ?_
    refine r_ladd (n := 103) rfl ok d_m_stationDigest_102 ?_
    obtain ⟨x16, ex16, h⟩ := bd_ok h
    refine r_tl (Option.some.inj ex16).symm ?_
    refine r_lstore (lv' := [(4, .long x16), (0, .ref (G.1 + 0)), (3, .int a2)]) (n := 105) rfl ok d_m_stationDigest_103 (lt_n hXn (Nat.le_of_ble_eq_true rfl)) rfl ?_
    refine r_iconst (v := 0) (n := 106) rfl ok d_m_stationDigest_105 (by decide) ?_
    refine r_istore (lv' := [(6, .int 0), (4, .long x16), (0, .ref (G.1 + 0)), (3, .int a2)]) (n := 108) rfl ok d_m_stationDigest_106 (lt_n hXn (Nat.le_of_ble_eq_true rfl)) rfl ?_
    obtain ⟨t21, ht21, h⟩ := bd_ok h
    refine r_sub [2, 3, 1, 0] rfl (show Wt X M 108 [(0, .ref (G.1 + 0)), (3, .int a2), (4, .long x16), (6, .int 0)] [] from w_m_stationDigest_108 ok hG hXR hXn  ?_ _ _ ht21)
    · intro e22 he
      subst he
      refine r_iconst (v := 0) (n := 138) rfl ok d_m_stationDigest_137 (by decide) ?_
      refine r_istore (lv' := [(6, .int 0), (0, .ref (G.1 + 0)), (3, .int a2), (4, .long e22)]) (n := 140) rfl ok d_m_stationDigest_138 (lt_n hXn (Nat.le_of_ble_eq_true rfl)) rfl ?_
      obtain ⟨t33, ht33, h⟩ := bd_ok h
      refine r_sub [1, 2, 3, 0] rfl (show Wt X M 140 [(0, .ref (G.1 + 0)), (3, .int a2), (4, .long e22), (6, .int 0)] [] from w_m_stationDigest_140 ok hG hXR hXn  ?_ _ _ ht33)
      · intro e34 he
        subst he
        refine r_lload (n := 222) rfl ok d_m_stationDigest_220 0 rfl ?_
        obtain rfl := Option.some.inj h
        exact fin _ _ d_m_stationDigest_222
set_option maxHeartbeats 4000000 in
set_option maxRecDepth 20000 in
theorem w_m_digest_29 {X : Cx Me} {G : Gt} (ok : Ok X b_m_digest "RetryChainsModel") (hG : GM X G) (hXR : X.R = rm_m_digest) (hXn : X.nL = 4) {M : Me}  {t : Int64} (kx : ∀ e : Int64, e = t → Wt X M 52 [(0, .ref (G.1 + 0)), (1, .long e)] [])  : ∀ (n : Nat) (x : Int64 × Int32), lp n (b_m_digest_29 M) x = some t → Wt X M 29 [(0, .ref (G.1 + 0)), (1, .long x.1), (3, .int x.2)] [] := by
  intro n x h
  refine lp_W (P := fun x => Wt X M 29 [(0, .ref (G.1 + 0)), (1, .long x.1), (3, .int x.2)] []) (Z := fun t' => t' = t) (fun x r h hk hz => ?_) n x t h rfl
  unfold b_m_digest_29 at h
  refine r_iload_n (n := 30) rfl ok d_m_digest_29 rfl 2 rfl ?_
  refine r_aload_n (n := 31) rfl ok d_m_digest_30 rfl 0 rfl ?_
  refine g_MOD_v (n := 34) rfl ok hG  k_986 d_m_digest_31 ?_
  refine r_iconst (v := 2) (n := 35) rfl ok d_m_digest_34 (by decide) ?_
  refine al_V (n := 36) rfl ok hG  (show gin 2 600 by decide) d_m_digest_35 ?_
  refine r_icmp_ge (tgt := 52) (n := 39) rfl ok d_m_digest_36 (by decide) (fun c3 => ?_) (fun c3 => ?_)
  · replace h := if_p c3 h
    obtain rfl := Option.some.inj h
    exact r_sub [0, 1] rfl (show Wt X M 52 [(0, .ref (G.1 + 0)), (1, .long x.1)] [] from kx _ (hz _ rfl))
  · replace h := if_n c3 h
    refine r_aload_n (n := 40) rfl ok d_m_digest_39 rfl 0 rfl ?_
    refine r_lload_n (n := 41) rfl ok d_m_digest_40 rfl 1 rfl ?_
    refine r_iload_n (n := 42) rfl ok d_m_digest_41 rfl 2 rfl ?_
    obtain ⟨r4, hr4, h⟩ := bd_ok h
    refine r_callV (n := 45) rfl ok hG mf_m_stationDigest k_1493 ks_75 k_1491 (C_m_stationDigest  hr4) ⟨rfl, rfl⟩ (rR hXR ⟨Nat.le_of_ble_eq_true rfl, Nat.le_of_ble_eq_true rfl⟩) rfl rfl (rv_MOD) rfl (Nat.le_of_ble_eq_true rfl) d_m_digest_42 ?_
    refine r_lstore_n (lv' := [(1, .long r4), (0, .ref (G.1 + 0)), (3, .int x.2)]) (n := 46) rfl ok d_m_digest_45 rfl (lt_n hXn (Nat.le_of_ble_eq_true rfl)) rfl ?_
    obtain ⟨x5, ex5, h⟩ := bd_ok h
    refine r_iinc (lv' := [(3, .int x5), (1, .long r4), (0, .ref (G.1 + 0))]) (n := 49) rfl ok d_m_digest_46 2 rfl (Option.some.inj ex5) (lt_n hXn (Nat.le_of_ble_eq_true rfl)) rfl ?_
    refine r_goto (tgt := 29) ok d_m_digest_49 (by decide) ?_
    obtain rfl := Option.some.inj h
    exact r_sub [2, 1, 0] rfl (show Wt X M 29 [(0, .ref (G.1 + 0)), (1, .long r4), (3, .int x5)] [] from hk _ rfl)
set_option maxHeartbeats 4000000 in
set_option maxRecDepth 20000 in
theorem w_m_digest_54 {X : Cx Me} {G : Gt} (ok : Ok X b_m_digest "RetryChainsModel") (hG : GM X G) (hXR : X.R = rm_m_digest) (hXn : X.nL = 4) {M : Me}  {t : Int64} (kx : ∀ e : Int64, e = t → Wt X M 79 [(1, .long e)] [])  : ∀ (n : Nat) (x : Int64 × Int32), lp n (b_m_digest_54 M) x = some t → Wt X M 54 [(0, .ref (G.1 + 0)), (1, .long x.1), (3, .int x.2)] [] := by
  intro n x h
  refine lp_W (P := fun x => Wt X M 54 [(0, .ref (G.1 + 0)), (1, .long x.1), (3, .int x.2)] []) (Z := fun t' => t' = t) (fun x r h hk hz => ?_) n x t h rfl
  unfold b_m_digest_54 at h
  refine r_iload_n (n := 55) rfl ok d_m_digest_54 rfl 2 rfl ?_
  refine r_bipush (v := 6) (n := 57) rfl ok d_m_digest_55 (by decide) ?_
  refine r_icmp_ge (tgt := 79) (n := 60) rfl ok d_m_digest_57 (by decide) (fun c8 => ?_) (fun c8 => ?_)
  · replace h := if_p c8 h
    obtain rfl := Option.some.inj h
    exact r_sub [1] rfl (show Wt X M 79 [(1, .long x.1)] [] from kx _ (hz _ rfl))
  · replace h := if_n c8 h
    refine r_ldc2 (n := 63) rfl ok d_m_digest_60 k_1490 ?_
    refine r_lload_n (n := 64) rfl ok d_m_digest_63 rfl 1 rfl ?_
    refine r_lmul (n := 65) rfl ok d_m_digest_64 ?_
    refine r_aload_n (n := 66) rfl ok d_m_digest_65 rfl 0 rfl ?_
    refine r_iload_n (n := 67) rfl ok d_m_digest_66 rfl 2 rfl ?_
    obtain ⟨r9, hr9, h⟩ := bd_ok h
    refine r_callV (n := 70) rfl ok hG mf_m_kind k_1297 k_1298 k_1496 (C_m_kind  hr9) ⟨rfl, rfl⟩ (rR hXR ⟨Nat.le_of_ble_eq_true rfl, Nat.le_of_ble_eq_true rfl⟩) rfl rfl (rv_MOD) rfl (Nat.le_of_ble_eq_true rfl) d_m_digest_67 ?_
    refine r_i2l (n := 71) rfl ok d_m_digest_70 ?_
    refine r_ladd (n := 72) rfl ok d_m_digest_71 ?_
    obtain ⟨x10, ex10, h⟩ := bd_ok h
    refine r_tl (Option.some.inj ex10).symm ?_
    refine r_lstore_n (lv' := [(1, .long x10), (0, .ref (G.1 + 0)), (3, .int x.2)]) (n := 73) rfl ok d_m_digest_72 rfl (lt_n hXn (Nat.le_of_ble_eq_true rfl)) rfl ?_
    obtain ⟨x11, ex11, h⟩ := bd_ok h
    refine r_iinc (lv' := [(3, .int x11), (1, .long x10), (0, .ref (G.1 + 0))]) (n := 76) rfl ok d_m_digest_73 2 rfl (Option.some.inj ex11) (lt_n hXn (Nat.le_of_ble_eq_true rfl)) rfl ?_
    refine r_goto (tgt := 54) ok d_m_digest_76 (by decide) ?_
    obtain rfl := Option.some.inj h
    exact r_sub [2, 1, 0] rfl (show Wt X M 54 [(0, .ref (G.1 + 0)), (1, .long x10), (3, .int x11)] [] from hk _ rfl)
set_option maxHeartbeats 4000000 in
set_option maxRecDepth 20000 in
theorem C_m_digest {l : Launch} {G : Gt} {M : Me}   {o : Int64} (h : f_m_digest M = some o) : Ct l G (WM G) (rM G) y_m_digest b_m_digest 4 (some .long) rm_m_digest [.ref (G.1 + 0)] M (some (.long o)) M := by
  refine Ct.mk (own := "RetryChainsModel") rfl (by decide) (Nat.le_of_ble_eq_true rfl) rfl (fun X hXl hXR hXn ok hG fin => ?_)
  subst hXl
  unfold f_m_digest at h
  show Wt X M 0 [(0, .ref (G.1 + 0))] []
  refine r_ldc2 (n := 3) rfl ok d_m_digest_0 k_1489 ?_
  refine r_aload_n (n := 4) rfl ok d_m_digest_3 rfl 0 rfl ?_
  refine g_MOD_v (n := 7) rfl ok hG  k_986 d_m_digest_4 ?_
  refine r_iconst (v := 0) (n := 8) rfl ok d_m_digest_7 (by decide) ?_
  refine al_V (n := 9) rfl ok hG  (show gin 0 600 by decide) d_m_digest_8 ?_
  refine r_i2l (n := 10) rfl ok d_m_digest_9 ?_
  refine r_ladd (n := 11) rfl ok d_m_digest_10 ?_
  obtain ⟨x1, ex1, h⟩ := bd_ok h
  refine r_tl (Option.some.inj ex1).symm ?_
  refine r_lstore_n (lv' := [(1, .long x1), (0, .ref (G.1 + 0))]) (n := 12) rfl ok d_m_digest_11 rfl (lt_n hXn (Nat.le_of_ble_eq_true rfl)) rfl ?_
  refine r_ldc2 (n := 15) rfl ok d_m_digest_12 k_1490 ?_
  refine r_lload_n (n := 16) rfl ok d_m_digest_15 rfl 0 rfl ?_
  refine r_lmul (n := 17) rfl ok d_m_digest_16 ?_
  refine r_aload_n (n := 18) rfl ok d_m_digest_17 rfl 1 rfl ?_
  refine g_MOD_v (n := 21) rfl ok hG  k_986 d_m_digest_18 ?_
  refine r_bipush (v := 8) (n := 23) rfl ok d_m_digest_21 (by decide) ?_
  refine al_V (n := 24) rfl ok hG  (show gin 8 600 by decide) d_m_digest_23 ?_
  refine r_i2l (n := 25) rfl ok d_m_digest_24 ?_
  refine r_ladd (n := 26) rfl ok d_m_digest_25 ?_
  obtain ⟨x2, ex2, h⟩ := bd_ok h
  refine r_tl (Option.some.inj ex2).symm ?_
  refine r_lstore_n (lv' := [(1, .long x2), (0, .ref (G.1 + 0))]) (n := 27) rfl ok d_m_digest_26 rfl (lt_n hXn (Nat.le_of_ble_eq_true rfl)) rfl ?_
  refine r_iconst (v := 0) (n := 28) rfl ok d_m_digest_27 (by decide) ?_
  refine r_istore_n (lv' := [(3, .int 0), (1, .long x2), (0, .ref (G.1 + 0))]) (n := 29) rfl ok d_m_digest_28 rfl (lt_n hXn (Nat.le_of_ble_eq_true rfl)) rfl ?_
  obtain ⟨t6, ht6, h⟩ := bd_ok h
  refine r_sub [2, 1, 0] rfl (show Wt X M 29 [(0, .ref (G.1 + 0)), (1, .long x2), (3, .int 0)] [] from w_m_digest_29 ok hG hXR hXn  ?_ _ _ ht6)
  · intro e7 he
    subst he
    refine r_iconst (v := 0) (n := 53) rfl ok d_m_digest_52 (by decide) ?_
    refine r_istore_n (lv' := [(3, .int 0), (0, .ref (G.1 + 0)), (1, .long e7)]) (n := 54) rfl ok d_m_digest_53 rfl (lt_n hXn (Nat.le_of_ble_eq_true rfl)) rfl ?_
    obtain ⟨t12, ht12, h⟩ := bd_ok h
    refine r_sub [1, 2, 0] rfl (show Wt X M 54 [(0, .ref (G.1 + 0)), (1, .long e7), (3, .int 0)] [] from w_m_digest_54 ok hG hXR hXn  ?_ _ _ ht12)
    · intro e13 he
      subst he
      refine r_lload_n (n := 80) rfl ok d_m_digest_79 rfl 0 rfl ?_
      obtain rfl := Option.some.inj h
      exact fin _ _ d_m_digest_80
