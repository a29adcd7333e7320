set_option maxHeartbeats 4000000 in
set_option maxRecDepth 20000 in
theorem C_m_isOpen {l : Launch} {G : Gt} {M : Me} {a1 : Int32}  {o : Int32} (h : f_m_isOpen M a1 = some o) : Ct l G (WM G) (rM G) y_m_isOpen b_m_isOpen 2 (some .boolean) rm_m_isOpen [.ref (G.1 + 0), .int a1] M (some (.int o)) M := by
  refine Ct.mk (own := "RetryChainsModel") rfl (by decide) (Nat.le_of_ble_eq_true rfl) ⟨_, rfl⟩ (fun X hXl hXR hXn ok hG fin => ?_)
  subst hXl
  unfold f_m_isOpen at h
  show Wt X M 0 [(0, .ref (G.1 + 0)), (1, .int a1)] []
  refine r_iload_n (n := 1) rfl ok d_m_isOpen_0 rfl 1 rfl ?_
  refine r_iconst (v := 0) (n := 2) rfl ok d_m_isOpen_1 (by decide) ?_
  refine r_iconst (v := 5) (n := 3) rfl ok d_m_isOpen_2 (by decide) ?_
  obtain ⟨r1, hr1, h⟩ := bd_ok h
  refine r_callS (n := 6) rfl ok hG mf_m_in k_1016 k_1015 (C_m_in  hr1) ⟨rfl, rfl⟩ (rR hXR ⟨Nat.le_of_ble_eq_true rfl, Nat.le_of_ble_eq_true rfl⟩) rfl rfl (Nat.le_of_ble_eq_true rfl) d_m_isOpen_3 ?_
  refine r_if_eq (tgt := 28) (n := 9) rfl ok d_m_isOpen_6 (by decide) (fun c2 => ?_) (fun c2 => ?_)
  · replace h := if_p c2 h
    refine r_iconst (v := 0) (n := 29) rfl ok d_m_isOpen_28 (by decide) ?_
    obtain rfl := Option.some.inj h
    exact fin _ _ ⟨.boolean, rfl, nz0⟩ d_m_isOpen_29
  · replace h := if_n c2 h
    refine r_aload_n (n := 10) rfl ok d_m_isOpen_9 rfl 0 rfl ?_
    refine g_MOD_v (n := 13) rfl ok hG  k_986 d_m_isOpen_10 ?_
    refine r_iload_n (n := 14) rfl ok d_m_isOpen_13 rfl 1 rfl ?_
    obtain ⟨r3, hr3, h⟩ := bd_ok h
    refine r_callS (n := 17) rfl ok hG mf_m_open k_1136 k_1135 (C_m_open  hr3) ⟨rfl, rfl⟩ (rR hXR ⟨Nat.le_of_ble_eq_true rfl, Nat.le_of_ble_eq_true rfl⟩) rfl rfl (Nat.le_of_ble_eq_true rfl) d_m_isOpen_14 ?_
    refine r_iconst (v := 0) (n := 18) rfl ok d_m_isOpen_17 (by decide) ?_
    refine r_iadd (n := 19) rfl ok d_m_isOpen_18 ?_
    obtain ⟨g4, h⟩ := gd_ok h
    refine al_V (n := 20) rfl ok hG  g4 d_m_isOpen_19 ?_
    refine r_iconst (v := 1) (n := 21) rfl ok d_m_isOpen_20 (by decide) ?_
    refine r_icmp_ne (tgt := 28) (n := 24) rfl ok d_m_isOpen_21 (by decide) (fun c5 => ?_) (fun c5 => ?_)
    · replace h := if_n c5 h
      refine r_iconst (v := 0) (n := 29) rfl ok d_m_isOpen_28 (by decide) ?_
      obtain rfl := Option.some.inj h
      exact fin _ _ ⟨.boolean, rfl, nz0⟩ d_m_isOpen_29
    · replace h := if_p c5 h
      refine r_iconst (v := 1) (n := 25) rfl ok d_m_isOpen_24 (by decide) ?_
      refine r_goto (tgt := 29) ok d_m_isOpen_25 (by decide) ?_
      obtain rfl := Option.some.inj h
      exact fin _ _ ⟨.boolean, rfl, nz1⟩ d_m_isOpen_29
set_option maxHeartbeats 4000000 in
set_option maxRecDepth 20000 in
theorem C_m_report {l : Launch} {G : Gt} {M : Me} {a1 : Int32} {a2 : Int32} {a3 : Int32}  {o : Int32 × Me} (h : f_m_report M a1 a2 a3 = some o) : Ct l G (WM G) (rM G) y_m_report b_m_report 4 (some .int) rm_m_report [.ref (G.1 + 0), .int a1, .int a2, .int a3] M (some (.int o.1)) o.2 := by
  refine Ct.mk (own := "RetryChainsModel") rfl (by decide) (Nat.le_of_ble_eq_true rfl) ⟨_, rfl⟩ (fun X hXl hXR hXn ok hG fin => ?_)
  subst hXl
  unfold f_m_report at h
  show Wt X M 0 [(0, .ref (G.1 + 0)), (1, .int a1), (2, .int a2), (3, .int a3)] []
  refine r_aload_n (n := 1) rfl ok d_m_report_0 rfl 0 rfl ?_
  refine r_iload_n (n := 2) rfl ok d_m_report_1 rfl 1 rfl ?_
  obtain ⟨r1, hr1, h⟩ := bd_ok h
  refine r_callV (n := 5) rfl ok hG mf_m_isOpen k_1216 ks_49 k_1214 (C_m_isOpen  hr1) ⟨rfl, rfl⟩ (rR hXR ⟨Nat.le_of_ble_eq_true rfl, Nat.le_of_ble_eq_true rfl⟩) rfl rfl (rv_MOD) rfl (Nat.le_of_ble_eq_true rfl) d_m_report_2 ?_
  refine r_if_eq (tgt := 34) (n := 8) rfl ok d_m_report_5 (by decide) (fun c2 => ?_) (fun c2 => ?_)
  · replace h := if_p c2 h
    refine r_iconst (v := (-1)) (n := 35) rfl ok d_m_report_34 (by decide) ?_
    obtain rfl := Option.some.inj h
    exact fin _ _ ⟨.int, rfl, rfl⟩ d_m_report_35
  · replace h := if_n c2 h
    refine r_iload_n (n := 9) rfl ok d_m_report_8 rfl 2 rfl ?_
    refine r_iconst (v := 1) (n := 10) rfl ok d_m_report_9 (by decide) ?_
    refine r_aload_n (n := 11) rfl ok d_m_report_10 rfl 0 rfl ?_
    refine r_iload_n (n := 12) rfl ok d_m_report_11 rfl 1 rfl ?_
    obtain ⟨r3, hr3, h⟩ := bd_ok h
    refine r_callV (n := 15) rfl ok hG mf_m_triesOfAll k_1220 ks_50 k_1218 (C_m_triesOfAll  hr3) ⟨rfl, rfl⟩ (rR hXR ⟨Nat.le_of_ble_eq_true rfl, Nat.le_of_ble_eq_true rfl⟩) rfl rfl (rv_MOD) rfl (Nat.le_of_ble_eq_true rfl) d_m_report_12 ?_
    obtain ⟨r4, hr4, h⟩ := bd_ok h
    refine r_callS (n := 18) rfl ok hG mf_m_in k_1016 k_1015 (C_m_in  hr4) ⟨rfl, rfl⟩ (rR hXR ⟨Nat.le_of_ble_eq_true rfl, Nat.le_of_ble_eq_true rfl⟩) rfl rfl (Nat.le_of_ble_eq_true rfl) d_m_report_15 ?_
    refine r_if_eq (tgt := 34) (n := 21) rfl ok d_m_report_18 (by decide) (fun c5 => ?_) (fun c5 => ?_)
    · replace h := if_p c5 h
      refine r_iconst (v := (-1)) (n := 35) rfl ok d_m_report_34 (by decide) ?_
      obtain rfl := Option.some.inj h
      exact fin _ _ ⟨.int, rfl, rfl⟩ d_m_report_35
    · replace h := if_n c5 h
      refine r_iload_n (n := 22) rfl ok d_m_report_21 rfl 3 rfl ?_
      refine r_if_ne (tgt := 36) (n := 25) rfl ok d_m_report_22 (by decide) (fun c6 => ?_) (fun c6 => ?_)
      · replace h := if_n c6 h
        refine r_aload_n (n := 37) rfl ok d_m_report_36 rfl 0 rfl ?_
        refine g_MOD_v (n := 40) rfl ok hG  k_986 d_m_report_37 ?_
        refine r_iconst (v := 0) (n := 41) rfl ok d_m_report_40 (by decide) ?_
        refine al_V (n := 42) rfl ok hG  (show gin 0 600 by decide) d_m_report_41 ?_
        refine r_ldc (n := 44) rfl ok d_m_report_42 k_1085 ?_
        refine r_aload_n (n := 45) rfl ok d_m_report_44 rfl 0 rfl ?_
        refine r_iload_n (n := 46) rfl ok d_m_report_45 rfl 1 rfl ?_
        refine r_iload_n (n := 47) rfl ok d_m_report_46 rfl 2 rfl ?_
        obtain ⟨r7, hr7, h⟩ := bd_ok h
        refine r_callV (n := 50) rfl ok hG mf_m_timeOfTries k_1224 ks_51 k_1222 (C_m_timeOfTries  hr7) ⟨rfl, rfl⟩ (rR hXR ⟨Nat.le_of_ble_eq_true rfl, Nat.le_of_ble_eq_true rfl⟩) rfl rfl (rv_MOD) rfl (Nat.le_of_ble_eq_true rfl) d_m_report_47 ?_
        refine r_isub (n := 51) rfl ok d_m_report_50 ?_
        refine r_icmp_le (tgt := 57) (n := 54) rfl ok d_m_report_51 (by decide) (fun c8 => ?_) (fun c8 => ?_)
        · replace h := if_p c8 h
          refine r_aload_n (n := 58) rfl ok d_m_report_57 rfl 0 rfl ?_
          obtain ⟨r9, hr9, h⟩ := bd_ok h
          refine r_callV (n := 61) rfl ok hG mf_m_act k_1020 ks_15 k_1018 (C_m_act  hr9) ⟨rfl, rfl⟩ (rR hXR ⟨Nat.le_of_ble_eq_true rfl, Nat.le_of_ble_eq_true rfl⟩) rfl rfl (rv_MOD) rfl (Nat.le_of_ble_eq_true rfl) d_m_report_58 ?_
          refine r_aload_n (n := 62) rfl ok d_m_report_61 rfl 0 rfl ?_
          refine r_iload_n (n := 63) rfl ok d_m_report_62 rfl 1 rfl ?_
          refine r_iload_n (n := 64) rfl ok d_m_report_63 rfl 2 rfl ?_
          refine r_iload_n (n := 65) rfl ok d_m_report_64 rfl 3 rfl ?_
          obtain ⟨r10, hr10, h⟩ := bd_ok h
          refine r_callV (n := 68) rfl ok hG mf_m_reports k_1244 ks_56 k_1242 (C_m_reports  hr10) ⟨rfl, rfl⟩ (rR hXR ⟨Nat.le_of_ble_eq_true rfl, Nat.le_of_ble_eq_true rfl⟩) rfl rfl (rv_MOD) rfl (Nat.le_of_ble_eq_true rfl) d_m_report_65 ?_
          obtain rfl := Option.some.inj h
          exact fin _ _ ⟨.int, rfl, rfl⟩ d_m_report_68
        · replace h := if_n c8 h
          refine r_bipush (v := (-4)) (n := 56) rfl ok d_m_report_54 (by decide) ?_
          obtain rfl := Option.some.inj h
          exact fin _ _ ⟨.int, rfl, rfl⟩ d_m_report_56
      · replace h := if_p c6 h
        refine r_iload_n (n := 26) rfl ok d_m_report_25 rfl 2 rfl ?_
        refine r_aload_n (n := 27) rfl ok d_m_report_26 rfl 0 rfl ?_
        refine r_iload_n (n := 28) rfl ok d_m_report_27 rfl 1 rfl ?_
        obtain ⟨r11, hr11, h⟩ := bd_ok h
        refine r_callV (n := 31) rfl ok hG mf_m_triesOfAll k_1220 ks_50 k_1218 (C_m_triesOfAll  hr11) ⟨rfl, rfl⟩ (rR hXR ⟨Nat.le_of_ble_eq_true rfl, Nat.le_of_ble_eq_true rfl⟩) rfl rfl (rv_MOD) rfl (Nat.le_of_ble_eq_true rfl) d_m_report_28 ?_
        refine r_icmp_ge (tgt := 36) (n := 34) rfl ok d_m_report_31 (by decide) (fun c12 => ?_) (fun c12 => ?_)
        · replace h := if_p c12 h
          refine r_aload_n (n := 37) rfl ok d_m_report_36 rfl 0 rfl ?_
          refine g_MOD_v (n := 40) rfl ok hG  k_986 d_m_report_37 ?_
          refine r_iconst (v := 0) (n := 41) rfl ok d_m_report_40 (by decide) ?_
          refine al_V (n := 42) rfl ok hG  (show gin 0 600 by decide) d_m_report_41 ?_
          refine r_ldc (n := 44) rfl ok d_m_report_42 k_1085 ?_
          refine r_aload_n (n := 45) rfl ok d_m_report_44 rfl 0 rfl ?_
          refine r_iload_n (n := 46) rfl ok d_m_report_45 rfl 1 rfl ?_
          refine r_iload_n (n := 47) rfl ok d_m_report_46 rfl 2 rfl ?_
          obtain ⟨r13, hr13, h⟩ := bd_ok h
          refine r_callV (n := 50) rfl ok hG mf_m_timeOfTries k_1224 ks_51 k_1222 (C_m_timeOfTries  hr13) ⟨rfl, rfl⟩ (rR hXR ⟨Nat.le_of_ble_eq_true rfl, Nat.le_of_ble_eq_true rfl⟩) rfl rfl (rv_MOD) rfl (Nat.le_of_ble_eq_true rfl) d_m_report_47 ?_
          refine r_isub (n := 51) rfl ok d_m_report_50 ?_
          refine r_icmp_le (tgt := 57) (n := 54) rfl ok d_m_report_51 (by decide) (fun c14 => ?_) (fun c14 => ?_)
          · replace h := if_p c14 h
            refine r_aload_n (n := 58) rfl ok d_m_report_57 rfl 0 rfl ?_
            obtain ⟨r15, hr15, h⟩ := bd_ok h
            refine r_callV (n := 61) rfl ok hG mf_m_act k_1020 ks_15 k_1018 (C_m_act  hr15) ⟨rfl, rfl⟩ (rR hXR ⟨Nat.le_of_ble_eq_true rfl, Nat.le_of_ble_eq_true rfl⟩) rfl rfl (rv_MOD) rfl (Nat.le_of_ble_eq_true rfl) d_m_report_58 ?_
            refine r_aload_n (n := 62) rfl ok d_m_report_61 rfl 0 rfl ?_
            refine r_iload_n (n := 63) rfl ok d_m_report_62 rfl 1 rfl ?_
            refine r_iload_n (n := 64) rfl ok d_m_report_63 rfl 2 rfl ?_
            refine r_iload_n (n := 65) rfl ok d_m_report_64 rfl 3 rfl ?_
            obtain ⟨r16, hr16, h⟩ := bd_ok h
            refine r_callV (n := 68) rfl ok hG mf_m_reports k_1244 ks_56 k_1242 (C_m_reports  hr16) ⟨rfl, rfl⟩ (rR hXR ⟨Nat.le_of_ble_eq_true rfl, Nat.le_of_ble_eq_true rfl⟩) rfl rfl (rv_MOD) rfl (Nat.le_of_ble_eq_true rfl) d_m_report_65 ?_
            obtain rfl := Option.some.inj h
            exact fin _ _ ⟨.int, rfl, rfl⟩ d_m_report_68
          · replace h := if_n c14 h
            refine r_bipush (v := (-4)) (n := 56) rfl ok d_m_report_54 (by decide) ?_
            obtain rfl := Option.some.inj h
            exact fin _ _ ⟨.int, rfl, rfl⟩ d_m_report_56
        · replace h := if_n c12 h
          refine r_iconst (v := (-1)) (n := 35) rfl ok d_m_report_34 (by decide) ?_
          obtain rfl := Option.some.inj h
          exact fin _ _ ⟨.int, rfl, rfl⟩ d_m_report_35
set_option maxHeartbeats 4000000 in
set_option maxRecDepth 20000 in
theorem C_m_pass {l : Launch} {G : Gt} {M : Me} {a1 : Int32}  {o : Int32 × Me} (h : f_m_pass M a1 = some o) : Ct l G (WM G) (rM G) y_m_pass b_m_pass 2 (some .int) rm_m_pass [.ref (G.1 + 0), .int a1] M (some (.int o.1)) o.2 := by
  refine Ct.mk (own := "RetryChainsModel") rfl (by decide) (Nat.le_of_ble_eq_true rfl) ⟨_, rfl⟩ (fun X hXl hXR hXn ok hG fin => ?_)
  subst hXl
  unfold f_m_pass at h
  show Wt X M 0 [(0, .ref (G.1 + 0)), (1, .int a1)] []
  refine r_iload_n (n := 1) rfl ok d_m_pass_0 rfl 1 rfl ?_
  refine r_if_ge (tgt := 6) (n := 4) rfl ok d_m_pass_1 (by decide) (fun c1 => ?_) (fun c1 => ?_)
  · replace h := if_p c1 h
    refine r_aload_n (n := 7) rfl ok d_m_pass_6 rfl 0 rfl ?_
    refine g_MOD_v (n := 10) rfl ok hG  k_986 d_m_pass_7 ?_
    refine r_iconst (v := 0) (n := 11) rfl ok d_m_pass_10 (by decide) ?_
    refine al_V (n := 12) rfl ok hG  (show gin 0 600 by decide) d_m_pass_11 ?_
    refine r_ldc (n := 14) rfl ok d_m_pass_12 k_1085 ?_
    refine r_iload_n (n := 15) rfl ok d_m_pass_14 rfl 1 rfl ?_
    refine r_isub (n := 16) rfl ok d_m_pass_15 ?_
    refine r_icmp_le (tgt := 22) (n := 19) rfl ok d_m_pass_16 (by decide) (fun c2 => ?_) (fun c2 => ?_)
    · replace h := if_p c2 h
      refine r_aload_n (n := 23) rfl ok d_m_pass_22 rfl 0 rfl ?_
      obtain ⟨r3, hr3, h⟩ := bd_ok h
      refine r_callV (n := 26) rfl ok hG mf_m_act k_1020 ks_15 k_1018 (C_m_act  hr3) ⟨rfl, rfl⟩ (rR hXR ⟨Nat.le_of_ble_eq_true rfl, Nat.le_of_ble_eq_true rfl⟩) rfl rfl (rv_MOD) rfl (Nat.le_of_ble_eq_true rfl) d_m_pass_23 ?_
      refine r_aload_n (n := 27) rfl ok d_m_pass_26 rfl 0 rfl ?_
      refine g_MOD_v (n := 30) rfl ok hG  k_986 d_m_pass_27 ?_
      refine r_iconst (v := 0) (n := 31) rfl ok d_m_pass_30 (by decide) ?_
      refine r_dup2 (n := 32) rfl ok d_m_pass_31 rfl rfl ?_
      refine al_V (n := 33) rfl ok hG  (show gin 0 600 by decide) d_m_pass_32 ?_
      refine r_iload_n (n := 34) rfl ok d_m_pass_33 rfl 1 rfl ?_
      refine r_iadd (n := 35) rfl ok d_m_pass_34 ?_
      obtain ⟨M4, eM4, h⟩ := bd_ok h
      refine as_V (n := 36) rfl ok hG  (show gin 0 600 by decide) d_m_pass_35 ?_
      refine r_mem (Option.some.inj eM4) ?_
      refine r_aload_n (n := 37) rfl ok d_m_pass_36 rfl 0 rfl ?_
      obtain ⟨r5, hr5, h⟩ := bd_ok h
      refine r_callV (n := 40) rfl ok hG mf_m_updatesDue k_1257 ks_59 k_1255 (C_m_updatesDue  hr5) ⟨rfl, rfl⟩ (rR hXR ⟨Nat.le_of_ble_eq_true rfl, Nat.le_of_ble_eq_true rfl⟩) rfl rfl (rv_MOD) rfl (Nat.le_of_ble_eq_true rfl) d_m_pass_37 ?_
      refine r_aload_n (n := 41) rfl ok d_m_pass_40 rfl 0 rfl ?_
      refine g_MOD_v (n := 44) rfl ok hG  k_986 d_m_pass_41 ?_
      refine r_iconst (v := 0) (n := 45) rfl ok d_m_pass_44 (by decide) ?_
      refine al_V (n := 46) rfl ok hG  (show gin 0 600 by decide) d_m_pass_45 ?_
      obtain rfl := Option.some.inj h
      exact fin _ _ ⟨.int, rfl, rfl⟩ d_m_pass_46
    · replace h := if_n c2 h
      refine r_bipush (v := (-4)) (n := 21) rfl ok d_m_pass_19 (by decide) ?_
      obtain rfl := Option.some.inj h
      exact fin _ _ ⟨.int, rfl, rfl⟩ d_m_pass_21
  · replace h := if_n c1 h
    refine r_iconst (v := (-1)) (n := 5) rfl ok d_m_pass_4 (by decide) ?_
    obtain rfl := Option.some.inj h
    exact fin _ _ ⟨.int, rfl, rfl⟩ d_m_pass_5
set_option maxHeartbeats 4000000 in
set_option maxRecDepth 20000 in
theorem C_m_update {l : Launch} {G : Gt} {M : Me} {a1 : Int32}  {o : Int32 × Me} (h : f_m_update M a1 = some o) : Ct l G (WM G) (rM G) y_m_update b_m_update 2 (some .int) rm_m_update [.ref (G.1 + 0), .int a1] M (some (.int o.1)) o.2 := by
  refine Ct.mk (own := "RetryChainsModel") rfl (by decide) (Nat.le_of_ble_eq_true rfl) ⟨_, rfl⟩ (fun X hXl hXR hXn ok hG fin => ?_)
  subst hXl
  unfold f_m_update at h
  show Wt X M 0 [(0, .ref (G.1 + 0)), (1, .int a1)] []
  refine r_aload_n (n := 1) rfl ok d_m_update_0 rfl 0 rfl ?_
  refine r_iload_n (n := 2) rfl ok d_m_update_1 rfl 1 rfl ?_
  obtain ⟨r1, hr1, h⟩ := bd_ok h
  refine r_callV (n := 5) rfl ok hG mf_m_isStation k_1096 ks_29 k_1094 (C_m_isStation  hr1) ⟨rfl, rfl⟩ (rR hXR ⟨Nat.le_of_ble_eq_true rfl, Nat.le_of_ble_eq_true rfl⟩) rfl rfl (rv_MOD) rfl (Nat.le_of_ble_eq_true rfl) d_m_update_2 ?_
  refine r_if_ne (tgt := 10) (n := 8) rfl ok d_m_update_5 (by decide) (fun c2 => ?_) (fun c2 => ?_)
  · replace h := if_n c2 h
    refine r_aload_n (n := 11) rfl ok d_m_update_10 rfl 0 rfl ?_
    obtain ⟨r3, hr3, h⟩ := bd_ok h
    refine r_callV (n := 14) rfl ok hG mf_m_act k_1020 ks_15 k_1018 (C_m_act  hr3) ⟨rfl, rfl⟩ (rR hXR ⟨Nat.le_of_ble_eq_true rfl, Nat.le_of_ble_eq_true rfl⟩) rfl rfl (rv_MOD) rfl (Nat.le_of_ble_eq_true rfl) d_m_update_11 ?_
    refine r_aload_n (n := 15) rfl ok d_m_update_14 rfl 0 rfl ?_
    refine r_iload_n (n := 16) rfl ok d_m_update_15 rfl 1 rfl ?_
    obtain ⟨r4, hr4, h⟩ := bd_ok h
    refine r_callV (n := 19) rfl ok hG mf_m_updates k_1261 ks_60 k_1259 (C_m_updates  hr4) ⟨rfl, rfl⟩ (rR hXR ⟨Nat.le_of_ble_eq_true rfl, Nat.le_of_ble_eq_true rfl⟩) rfl rfl (rv_MOD) rfl (Nat.le_of_ble_eq_true rfl) d_m_update_16 ?_
    obtain rfl := Option.some.inj h
    exact fin _ _ ⟨.int, rfl, rfl⟩ d_m_update_19
  · replace h := if_p c2 h
    refine r_iconst (v := (-1)) (n := 9) rfl ok d_m_update_8 (by decide) ?_
    obtain rfl := Option.some.inj h
    exact fin _ _ ⟨.int, rfl, rfl⟩ d_m_update_9
set_option maxHeartbeats 4000000 in
set_option maxRecDepth 20000 in
theorem C_m_kind {l : Launch} {G : Gt} {M : Me} {a1 : Int32}  {o : Int32} (h : f_m_kind M a1 = some o) : Ct l G (WM G) (rM G) y_m_kind b_m_kind 2 (some .int) rm_m_kind [.ref (G.1 + 0), .int a1] M (some (.int o)) M := by
  refine Ct.mk (own := "RetryChainsModel") rfl (by decide) (Nat.le_of_ble_eq_true rfl) ⟨_, rfl⟩ (fun X hXl hXR hXn ok hG fin => ?_)
  subst hXl
  unfold f_m_kind at h
  show Wt X M 0 [(0, .ref (G.1 + 0)), (1, .int a1)] []
  refine r_aload_n (n := 1) rfl ok d_m_kind_0 rfl 0 rfl ?_
  refine r_iload_n (n := 2) rfl ok d_m_kind_1 rfl 1 rfl ?_
  obtain ⟨r1, hr1, h⟩ := bd_ok h
  refine r_callV (n := 5) rfl ok hG mf_m_isOpen k_1216 ks_49 k_1214 (C_m_isOpen  hr1) ⟨rfl, rfl⟩ (rR hXR ⟨Nat.le_of_ble_eq_true rfl, Nat.le_of_ble_eq_true rfl⟩) rfl rfl (rv_MOD) rfl (Nat.le_of_ble_eq_true rfl) d_m_kind_2 ?_
  refine r_if_eq (tgt := 22) (n := 8) rfl ok d_m_kind_5 (by decide) (fun c2 => ?_) (fun c2 => ?_)
  · replace h := if_p c2 h
    refine r_iconst (v := (-1)) (n := 23) rfl ok d_m_kind_22 (by decide) ?_
    obtain rfl := Option.some.inj h
    exact fin _ _ ⟨.int, rfl, rfl⟩ d_m_kind_23
  · replace h := if_n c2 h
    refine r_aload_n (n := 9) rfl ok d_m_kind_8 rfl 0 rfl ?_
    refine g_MOD_v (n := 12) rfl ok hG  k_986 d_m_kind_9 ?_
    refine r_iload_n (n := 13) rfl ok d_m_kind_12 rfl 1 rfl ?_
    obtain ⟨r3, hr3, h⟩ := bd_ok h
    refine r_callS (n := 16) rfl ok hG mf_m_open k_1136 k_1135 (C_m_open  hr3) ⟨rfl, rfl⟩ (rR hXR ⟨Nat.le_of_ble_eq_true rfl, Nat.le_of_ble_eq_true rfl⟩) rfl rfl (Nat.le_of_ble_eq_true rfl) d_m_kind_13 ?_
    refine r_iconst (v := 3) (n := 17) rfl ok d_m_kind_16 (by decide) ?_
    refine r_iadd (n := 18) rfl ok d_m_kind_17 ?_
    obtain ⟨g4, h⟩ := gd_ok h
    refine al_V (n := 19) rfl ok hG  g4 d_m_kind_18 ?_
    refine r_goto (tgt := 23) ok d_m_kind_19 (by decide) ?_
    obtain rfl := Option.some.inj h
    exact fin _ _ ⟨.int, rfl, rfl⟩ d_m_kind_23
set_option maxHeartbeats 4000000 in
set_option maxRecDepth 20000 in
theorem C_m_stationOf {l : Launch} {G : Gt} {M : Me} {a1 : Int32}  {o : Int32} (h : f_m_stationOf M a1 = some o) : Ct l G (WM G) (rM G) y_m_stationOf b_m_stationOf 2 (some .int) rm_m_stationOf [.ref (G.1 + 0), .int a1] M (some (.int o)) M := by
  refine Ct.mk (own := "RetryChainsModel") rfl (by decide) (Nat.le_of_ble_eq_true rfl) ⟨_, rfl⟩ (fun X hXl hXR hXn ok hG fin => ?_)
  subst hXl
  unfold f_m_stationOf at h
  show Wt X M 0 [(0, .ref (G.1 + 0)), (1, .int a1)] []
  refine r_aload_n (n := 1) rfl ok d_m_stationOf_0 rfl 0 rfl ?_
  refine r_iload_n (n := 2) rfl ok d_m_stationOf_1 rfl 1 rfl ?_
  obtain ⟨r1, hr1, h⟩ := bd_ok h
  refine r_callV (n := 5) rfl ok hG mf_m_isOpen k_1216 ks_49 k_1214 (C_m_isOpen  hr1) ⟨rfl, rfl⟩ (rR hXR ⟨Nat.le_of_ble_eq_true rfl, Nat.le_of_ble_eq_true rfl⟩) rfl rfl (rv_MOD) rfl (Nat.le_of_ble_eq_true rfl) d_m_stationOf_2 ?_
  refine r_if_eq (tgt := 22) (n := 8) rfl ok d_m_stationOf_5 (by decide) (fun c2 => ?_) (fun c2 => ?_)
  · replace h := if_p c2 h
    refine r_iconst (v := (-1)) (n := 23) rfl ok d_m_stationOf_22 (by decide) ?_
    obtain rfl := Option.some.inj h
    exact fin _ _ ⟨.int, rfl, rfl⟩ d_m_stationOf_23
  · replace h := if_n c2 h
    refine r_aload_n (n := 9) rfl ok d_m_stationOf_8 rfl 0 rfl ?_
    refine g_MOD_v (n := 12) rfl ok hG  k_986 d_m_stationOf_9 ?_
    refine r_iload_n (n := 13) rfl ok d_m_stationOf_12 rfl 1 rfl ?_
    obtain ⟨r3, hr3, h⟩ := bd_ok h
    refine r_callS (n := 16) rfl ok hG mf_m_open k_1136 k_1135 (C_m_open  hr3) ⟨rfl, rfl⟩ (rR hXR ⟨Nat.le_of_ble_eq_true rfl, Nat.le_of_ble_eq_true rfl⟩) rfl rfl (Nat.le_of_ble_eq_true rfl) d_m_stationOf_13 ?_
    refine r_iconst (v := 1) (n := 17) rfl ok d_m_stationOf_16 (by decide) ?_
    refine r_iadd (n := 18) rfl ok d_m_stationOf_17 ?_
    obtain ⟨g4, h⟩ := gd_ok h
    refine al_V (n := 19) rfl ok hG  g4 d_m_stationOf_18 ?_
    refine r_goto (tgt := 23) ok d_m_stationOf_19 (by decide) ?_
    obtain rfl := Option.some.inj h
    exact fin _ _ ⟨.int, rfl, rfl⟩ d_m_stationOf_23
set_option maxHeartbeats 4000000 in
set_option maxRecDepth 20000 in
theorem C_m_entryRate {l : Launch} {G : Gt} {M : Me} {a1 : Int32} {a2 : Int32}  {o : Int32} (h : f_m_entryRate M a1 a2 = some o) : Ct l G (WM G) (rM G) y_m_entryRate b_m_entryRate 3 (some .int) rm_m_entryRate [.ref (G.1 + 0), .int a1, .int a2] M (some (.int o)) M := by
  refine Ct.mk (own := "RetryChainsModel") rfl (by decide) (Nat.le_of_ble_eq_true rfl) ⟨_, rfl⟩ (fun X hXl hXR hXn ok hG fin => ?_)
  subst hXl
  unfold f_m_entryRate at h
  show Wt X M 0 [(0, .ref (G.1 + 0)), (1, .int a1), (2, .int a2)] []
  refine r_aload_n (n := 1) rfl ok d_m_entryRate_0 rfl 0 rfl ?_
  refine r_iload_n (n := 2) rfl ok d_m_entryRate_1 rfl 1 rfl ?_
  obtain ⟨r1, hr1, h⟩ := bd_ok h
  refine r_callV (n := 5) rfl ok hG mf_m_isOpen k_1216 ks_49 k_1214 (C_m_isOpen  hr1) ⟨rfl, rfl⟩ (rR hXR ⟨Nat.le_of_ble_eq_true rfl, Nat.le_of_ble_eq_true rfl⟩) rfl rfl (rv_MOD) rfl (Nat.le_of_ble_eq_true rfl) d_m_entryRate_2 ?_
  refine r_if_eq (tgt := 33) (n := 8) rfl ok d_m_entryRate_5 (by decide) (fun c2 => ?_) (fun c2 => ?_)
  · replace h := if_p c2 h
    refine r_iconst (v := (-1)) (n := 34) rfl ok d_m_entryRate_33 (by decide) ?_
    obtain rfl := Option.some.inj h
    exact fin _ _ ⟨.int, rfl, rfl⟩ d_m_entryRate_34
  · replace h := if_n c2 h
    refine r_iload_n (n := 9) rfl ok d_m_entryRate_8 rfl 2 rfl ?_
    refine r_iconst (v := 0) (n := 10) rfl ok d_m_entryRate_9 (by decide) ?_
    refine r_iconst (v := 3) (n := 11) rfl ok d_m_entryRate_10 (by decide) ?_
    obtain ⟨r3, hr3, h⟩ := bd_ok h
    refine r_callS (n := 14) rfl ok hG mf_m_in k_1016 k_1015 (C_m_in  hr3) ⟨rfl, rfl⟩ (rR hXR ⟨Nat.le_of_ble_eq_true rfl, Nat.le_of_ble_eq_true rfl⟩) rfl rfl (Nat.le_of_ble_eq_true rfl) d_m_entryRate_11 ?_
    refine r_if_eq (tgt := 33) (n := 17) rfl ok d_m_entryRate_14 (by decide) (fun c4 => ?_) (fun c4 => ?_)
    · replace h := if_p c4 h
      refine r_iconst (v := (-1)) (n := 34) rfl ok d_m_entryRate_33 (by decide) ?_
      obtain rfl := Option.some.inj h
      exact fin _ _ ⟨.int, rfl, rfl⟩ d_m_entryRate_34
    · replace h := if_n c4 h
      refine r_aload_n (n := 18) rfl ok d_m_entryRate_17 rfl 0 rfl ?_
      refine g_MOD_v (n := 21) rfl ok hG  k_986 d_m_entryRate_18 ?_
      refine r_iload_n (n := 22) rfl ok d_m_entryRate_21 rfl 1 rfl ?_
      obtain ⟨r5, hr5, h⟩ := bd_ok h
      refine r_callS (n := 25) rfl ok hG mf_m_open k_1136 k_1135 (C_m_open  hr5) ⟨rfl, rfl⟩ (rR hXR ⟨Nat.le_of_ble_eq_true rfl, Nat.le_of_ble_eq_true rfl⟩) rfl rfl (Nat.le_of_ble_eq_true rfl) d_m_entryRate_22 ?_
      refine r_iconst (v := 5) (n := 26) rfl ok d_m_entryRate_25 (by decide) ?_
      refine r_iadd (n := 27) rfl ok d_m_entryRate_26 ?_
      refine r_iload_n (n := 28) rfl ok d_m_entryRate_27 rfl 2 rfl ?_
      refine r_iadd (n := 29) rfl ok d_m_entryRate_28 ?_
      obtain ⟨g6, h⟩ := gd_ok h
      refine al_V (n := 30) rfl ok hG  g6 d_m_entryRate_29 ?_
      refine r_goto (tgt := 34) ok d_m_entryRate_30 (by decide) ?_
      obtain rfl := Option.some.inj h
      exact fin _ _ ⟨.int, rfl, rfl⟩ d_m_entryRate_34
set_option maxHeartbeats 4000000 in
set_option maxRecDepth 20000 in
theorem C_m_entryTries {l : Launch} {G : Gt} {M : Me} {a1 : Int32} {a2 : Int32}  {o : Int32} (h : f_m_entryTries M a1 a2 = some o) : Ct l G (WM G) (rM G) y_m_entryTries b_m_entryTries 3 (some .int) rm_m_entryTries [.ref (G.1 + 0), .int a1, .int a2] M (some (.int o)) M := by
  refine Ct.mk (own := "RetryChainsModel") rfl (by decide) (Nat.le_of_ble_eq_true rfl) ⟨_, rfl⟩ (fun X hXl hXR hXn ok hG fin => ?_)
  subst hXl
  unfold f_m_entryTries at h
  show Wt X M 0 [(0, .ref (G.1 + 0)), (1, .int a1), (2, .int a2)] []
  refine r_aload_n (n := 1) rfl ok d_m_entryTries_0 rfl 0 rfl ?_
  refine r_iload_n (n := 2) rfl ok d_m_entryTries_1 rfl 1 rfl ?_
  obtain ⟨r1, hr1, h⟩ := bd_ok h
  refine r_callV (n := 5) rfl ok hG mf_m_isOpen k_1216 ks_49 k_1214 (C_m_isOpen  hr1) ⟨rfl, rfl⟩ (rR hXR ⟨Nat.le_of_ble_eq_true rfl, Nat.le_of_ble_eq_true rfl⟩) rfl rfl (rv_MOD) rfl (Nat.le_of_ble_eq_true rfl) d_m_entryTries_2 ?_
  refine r_if_eq (tgt := 34) (n := 8) rfl ok d_m_entryTries_5 (by decide) (fun c2 => ?_) (fun c2 => ?_)
  · replace h := if_p c2 h
    refine r_iconst (v := (-1)) (n := 35) rfl ok d_m_entryTries_34 (by decide) ?_
    obtain rfl := Option.some.inj h
    exact fin _ _ ⟨.int, rfl, rfl⟩ d_m_entryTries_35
  · replace h := if_n c2 h
    refine r_iload_n (n := 9) rfl ok d_m_entryTries_8 rfl 2 rfl ?_
    refine r_iconst (v := 0) (n := 10) rfl ok d_m_entryTries_9 (by decide) ?_
    refine r_iconst (v := 3) (n := 11) rfl ok d_m_entryTries_10 (by decide) ?_
    obtain ⟨r3, hr3, h⟩ := bd_ok h
    refine r_callS (n := 14) rfl ok hG mf_m_in k_1016 k_1015 (C_m_in  hr3) ⟨rfl, rfl⟩ (rR hXR ⟨Nat.le_of_ble_eq_true rfl, Nat.le_of_ble_eq_true rfl⟩) rfl rfl (Nat.le_of_ble_eq_true rfl) d_m_entryTries_11 ?_
    refine r_if_eq (tgt := 34) (n := 17) rfl ok d_m_entryTries_14 (by decide) (fun c4 => ?_) (fun c4 => ?_)
    · replace h := if_p c4 h
      refine r_iconst (v := (-1)) (n := 35) rfl ok d_m_entryTries_34 (by decide) ?_
      obtain rfl := Option.some.inj h
      exact fin _ _ ⟨.int, rfl, rfl⟩ d_m_entryTries_35
    · replace h := if_n c4 h
      refine r_aload_n (n := 18) rfl ok d_m_entryTries_17 rfl 0 rfl ?_
      refine g_MOD_v (n := 21) rfl ok hG  k_986 d_m_entryTries_18 ?_
      refine r_iload_n (n := 22) rfl ok d_m_entryTries_21 rfl 1 rfl ?_
      obtain ⟨r5, hr5, h⟩ := bd_ok h
      refine r_callS (n := 25) rfl ok hG mf_m_open k_1136 k_1135 (C_m_open  hr5) ⟨rfl, rfl⟩ (rR hXR ⟨Nat.le_of_ble_eq_true rfl, Nat.le_of_ble_eq_true rfl⟩) rfl rfl (Nat.le_of_ble_eq_true rfl) d_m_entryTries_22 ?_
      refine r_bipush (v := 9) (n := 27) rfl ok d_m_entryTries_25 (by decide) ?_
      refine r_iadd (n := 28) rfl ok d_m_entryTries_27 ?_
      refine r_iload_n (n := 29) rfl ok d_m_entryTries_28 rfl 2 rfl ?_
      refine r_iadd (n := 30) rfl ok d_m_entryTries_29 ?_
      obtain ⟨g6, h⟩ := gd_ok h
      refine al_V (n := 31) rfl ok hG  g6 d_m_entryTries_30 ?_
      refine r_goto (tgt := 35) ok d_m_entryTries_31 (by decide) ?_
      obtain rfl := Option.some.inj h
      exact fin _ _ ⟨.int, rfl, rfl⟩ d_m_entryTries_35
set_option maxHeartbeats 4000000 in
set_option maxRecDepth 20000 in
theorem C_m_tag {l : Launch} {G : Gt} {M : Me} {a1 : Int32}  {o : Int32} (h : f_m_tag M a1 = some o) : Ct l G (WM G) (rM G) y_m_tag b_m_tag 4 (some .int) rm_m_tag [.ref (G.1 + 0), .int a1] M (some (.int o)) M := by
  refine Ct.mk (own := "RetryChainsModel") rfl (by decide) (Nat.le_of_ble_eq_true rfl) ⟨_, rfl⟩ (fun X hXl hXR hXn ok hG fin => ?_)
  subst hXl
  unfold f_m_tag at h
  show Wt X M 0 [(0, .ref (G.1 + 0)), (1, .int a1)] []
  refine r_aload_n (n := 1) rfl ok d_m_tag_0 rfl 0 rfl ?_
  refine r_iload_n (n := 2) rfl ok d_m_tag_1 rfl 1 rfl ?_
  obtain ⟨r1, hr1, h⟩ := bd_ok h
  refine r_callV (n := 5) rfl ok hG mf_m_isOpen k_1216 ks_49 k_1214 (C_m_isOpen  hr1) ⟨rfl, rfl⟩ (rR hXR ⟨Nat.le_of_ble_eq_true rfl, Nat.le_of_ble_eq_true rfl⟩) rfl rfl (rv_MOD) rfl (Nat.le_of_ble_eq_true rfl) d_m_tag_2 ?_
  refine r_if_ne (tgt := 10) (n := 8) rfl ok d_m_tag_5 (by decide) (fun c2 => ?_) (fun c2 => ?_)
  · replace h := if_n c2 h
    refine r_iload_n (n := 11) rfl ok d_m_tag_10 rfl 1 rfl ?_
    obtain ⟨r3, hr3, h⟩ := bd_ok h
    refine r_callS (n := 14) rfl ok hG mf_m_open k_1136 k_1135 (C_m_open  hr3) ⟨rfl, rfl⟩ (rR hXR ⟨Nat.le_of_ble_eq_true rfl, Nat.le_of_ble_eq_true rfl⟩) rfl rfl (Nat.le_of_ble_eq_true rfl) d_m_tag_11 ?_
    refine r_istore_n (lv' := [(2, .int r3), (0, .ref (G.1 + 0)), (1, .int a1)]) (n := 15) rfl ok d_m_tag_14 rfl (lt_n hXn (Nat.le_of_ble_eq_true rfl)) rfl ?_
    refine r_iconst (v := 4) (n := 16) rfl ok d_m_tag_15 (by decide) ?_
    refine r_aload_n (n := 17) rfl ok d_m_tag_16 rfl 1 rfl ?_
    refine g_MOD_v (n := 20) rfl ok hG  k_986 d_m_tag_17 ?_
    refine r_iload_n (n := 21) rfl ok d_m_tag_20 rfl 0 rfl ?_
    refine r_iconst (v := 2) (n := 22) rfl ok d_m_tag_21 (by decide) ?_
    refine r_iadd (n := 23) rfl ok d_m_tag_22 ?_
    obtain ⟨g4, h⟩ := gd_ok h
    refine al_V (n := 24) rfl ok hG  g4 d_m_tag_23 ?_
    refine r_imul (n := 25) rfl ok d_m_tag_24 ?_
    refine r_aload_n (n := 26) rfl ok d_m_tag_25 rfl 1 rfl ?_
    refine g_MOD_v (n := 29) rfl ok hG  k_986 d_m_tag_26 ?_
    refine r_iload_n (n := 30) rfl ok d_m_tag_29 rfl 0 rfl ?_
    refine r_iconst (v := 1) (n := 31) rfl ok d_m_tag_30 (by decide) ?_
    refine r_iadd (n := 32) rfl ok d_m_tag_31 ?_
    obtain ⟨g5, h⟩ := gd_ok h
    refine al_V (n := 33) rfl ok hG  g5 d_m_tag_32 ?_
    refine r_iadd (n := 34) rfl ok d_m_tag_33 ?_
    obtain ⟨x6, ex6, h⟩ := bd_ok h
    refine r_ti (Option.some.inj ex6).symm ?_
    refine r_istore_n (lv' := [(3, .int x6), (2, .int r3), (0, .ref (G.1 + 0)), (1, .int a1)]) (n := 35) rfl ok d_m_tag_34 rfl (lt_n hXn (Nat.le_of_ble_eq_true rfl)) rfl ?_
    refine r_aload_n (n := 36) rfl ok d_m_tag_35 rfl 2 rfl ?_
    refine g_MOD_v (n := 39) rfl ok hG  k_986 d_m_tag_36 ?_
    refine r_iload_n (n := 40) rfl ok d_m_tag_39 rfl 1 rfl ?_
    refine r_iconst (v := 3) (n := 41) rfl ok d_m_tag_40 (by decide) ?_
    refine r_iadd (n := 42) rfl ok d_m_tag_41 ?_
    obtain ⟨g7, h⟩ := gd_ok h
    refine al_V (n := 43) rfl ok hG  g7 d_m_tag_42 ?_
    refine r_if_ne (tgt := 50) (n := 46) rfl ok d_m_tag_43 (by decide) (fun c8 => ?_) (fun c8 => ?_)
    · replace h := if_n c8 h
      refine r_aload_n (n := 51) rfl ok d_m_tag_50 rfl 2 rfl ?_
      refine g_MOD_v (n := 54) rfl ok hG  k_986 d_m_tag_51 ?_
      refine r_iload_n (n := 55) rfl ok d_m_tag_54 rfl 1 rfl ?_
      refine r_iconst (v := 3) (n := 56) rfl ok d_m_tag_55 (by decide) ?_
      refine r_iadd (n := 57) rfl ok d_m_tag_56 ?_
      obtain ⟨g9, h⟩ := gd_ok h
      refine al_V (n := 58) rfl ok hG  g9 d_m_tag_57 ?_
      refine r_iconst (v := 1) (n := 59) rfl ok d_m_tag_58 (by decide) ?_
      refine r_icmp_ne (tgt := 77) (n := 62) rfl ok d_m_tag_59 (by decide) (fun c10 => ?_) (fun c10 => ?_)
      · replace h := if_n c10 h
        refine r_iload_n (n := 78) rfl ok d_m_tag_77 rfl 0 rfl ?_
        refine r_ldc (n := 80) rfl ok d_m_tag_78 k_985 ?_
        refine r_iadd (n := 81) rfl ok d_m_tag_80 ?_
        obtain rfl := Option.some.inj h
        exact fin _ _ ⟨.int, rfl, rfl⟩ d_m_tag_81
      · replace h := if_p c10 h
        refine r_iconst (v := 3) (n := 63) rfl ok d_m_tag_62 (by decide) ?_
        refine r_iload_n (n := 64) rfl ok d_m_tag_63 rfl 0 rfl ?_
        refine r_imul (n := 65) rfl ok d_m_tag_64 ?_
        refine r_aload_n (n := 66) rfl ok d_m_tag_65 rfl 2 rfl ?_
        refine g_MOD_v (n := 69) rfl ok hG  k_986 d_m_tag_66 ?_
        refine r_iload_n (n := 70) rfl ok d_m_tag_69 rfl 1 rfl ?_
        refine r_iconst (v := 4) (n := 71) rfl ok d_m_tag_70 (by decide) ?_
        refine r_iadd (n := 72) rfl ok d_m_tag_71 ?_
        obtain ⟨g11, h⟩ := gd_ok h
        refine al_V (n := 73) rfl ok hG  g11 d_m_tag_72 ?_
        refine r_iadd (n := 74) rfl ok d_m_tag_73 ?_
        refine r_goto (tgt := 81) ok d_m_tag_74 (by decide) ?_
        obtain rfl := Option.some.inj h
        exact fin _ _ ⟨.int, rfl, rfl⟩ d_m_tag_81
    · replace h := if_p c8 h
      refine r_iload_n (n := 47) rfl ok d_m_tag_46 rfl 0 rfl ?_
      refine r_goto (tgt := 81) ok d_m_tag_47 (by decide) ?_
      obtain rfl := Option.some.inj h
      exact fin _ _ ⟨.int, rfl, rfl⟩ d_m_tag_81
  · replace h := if_p c2 h
    refine r_iconst (v := (-1)) (n := 9) rfl ok d_m_tag_8 (by decide) ?_
    obtain rfl := Option.some.inj h
    exact fin _ _ ⟨.int, rfl, rfl⟩ d_m_tag_9
set_option maxHeartbeats 4000000 in
set_option maxRecDepth 20000 in
theorem w_m_deliveryChance_24 {X : Cx Me} {G : Gt} (ok : Ok X b_m_deliveryChance "RetryChainsModel") (hG : GM X G) (hXR : X.R = rm_m_deliveryChance) (hXn : X.nL = 6) {M : Me} {y1 : Int32} {y4 : Int32}  {t : Int64} (kx : ∀ e : Int64, e = t → Wt X M 70 [(2, .long e)] [])  : ∀ (n : Nat) (x : Int64 × Int32), lp n (b_m_deliveryChance_24 M y1 y4) x = some t → Wt X M 24 [(0, .ref (G.1 + 0)), (1, .int y1), (2, .long x.1), (4, .int y4), (5, .int x.2)] [] := by
  intro n x h
  refine lp_W (P := fun x => Wt X M 24 [(0, .ref (G.1 + 0)), (1, .int y1), (2, .long x.1), (4, .int y4), (5, .int x.2)] []) (Z := fun t' => t' = t) (fun x r h hk hz => ?_) n x t h rfl
  unfold b_m_deliveryChance_24 at h
  refine r_iload (n := 26) rfl ok d_m_deliveryChance_24 4 rfl ?_
  refine r_iload (n := 28) rfl ok d_m_deliveryChance_26 3 rfl ?_
  refine r_icmp_ge (tgt := 70) (n := 31) rfl ok d_m_deliveryChance_28 (by decide) (fun c4 => ?_) (fun c4 => ?_)
  · replace h := if_p c4 h
    obtain rfl := Option.some.inj h
    exact r_sub [2] rfl (show Wt X M 70 [(2, .long x.1)] [] from kx _ (hz _ rfl))
  · replace h := if_n c4 h
    refine r_lload_n (n := 32) rfl ok d_m_deliveryChance_31 rfl 2 rfl ?_
    refine r_ldc (n := 34) rfl ok d_m_deliveryChance_32 k_1320 ?_
    refine r_aload_n (n := 35) rfl ok d_m_deliveryChance_34 rfl 0 rfl ?_
    refine r_aload_n (n := 36) rfl ok d_m_deliveryChance_35 rfl 0 rfl ?_
    refine g_MOD_v (n := 39) rfl ok hG  k_986 d_m_deliveryChance_36 ?_
    refine r_iload_n (n := 40) rfl ok d_m_deliveryChance_39 rfl 1 rfl ?_
    obtain ⟨r5, hr5, h⟩ := bd_ok h
    refine r_callS (n := 43) rfl ok hG mf_m_open k_1136 k_1135 (C_m_open  hr5) ⟨rfl, rfl⟩ (rR hXR ⟨Nat.le_of_ble_eq_true rfl, Nat.le_of_ble_eq_true rfl⟩) rfl rfl (Nat.le_of_ble_eq_true rfl) d_m_deliveryChance_40 ?_
    refine r_iconst (v := 1) (n := 44) rfl ok d_m_deliveryChance_43 (by decide) ?_
    refine r_iadd (n := 45) rfl ok d_m_deliveryChance_44 ?_
    obtain ⟨g6, h⟩ := gd_ok h
    refine al_V (n := 46) rfl ok hG  g6 d_m_deliveryChance_45 ?_
    refine r_aload_n (n := 47) rfl ok d_m_deliveryChance_46 rfl 0 rfl ?_
    refine r_iload_n (n := 48) rfl ok d_m_deliveryChance_47 rfl 1 rfl ?_
    refine r_iload (n := 50) rfl ok d_m_deliveryChance_48 4 rfl ?_
    obtain ⟨r7, hr7, h⟩ := bd_ok h
    refine r_callV (n := 53) rfl ok hG mf_m_rateOfTry k_1232 ks_53 k_1230 (C_m_rateOfTry  hr7) ⟨rfl, rfl⟩ (rR hXR ⟨Nat.le_of_ble_eq_true rfl, Nat.le_of_ble_eq_true rfl⟩) rfl rfl (rv_MOD) rfl (Nat.le_of_ble_eq_true rfl) d_m_deliveryChance_50 ?_
    obtain ⟨r8, hr8, h⟩ := bd_ok h
    refine r_callV (n := 56) rfl ok hG mf_m_known k_1046 ks_20 k_1044 (C_m_known  hr8) ⟨rfl, rfl⟩ (rR hXR ⟨Nat.le_of_ble_eq_true rfl, Nat.le_of_ble_eq_true rfl⟩) rfl rfl (rv_MOD) rfl (Nat.le_of_ble_eq_true rfl) d_m_deliveryChance_53 ?_
    refine r_isub (n := 57) rfl ok d_m_deliveryChance_56 ?_
    refine r_i2l (n := 58) rfl ok d_m_deliveryChance_57 ?_
    refine r_lmul (n := 59) rfl ok d_m_deliveryChance_58 ?_
    refine r_ldc2 (n := 62) rfl ok d_m_deliveryChance_59 k_1275 ?_
    refine r_ldiv (n := 63) rfl ok d_m_deliveryChance_62 (by decide) ?_
    obtain ⟨x9, ex9, h⟩ := bd_ok h
    refine r_tl (Option.some.inj ex9).symm ?_
    refine r_lstore_n (lv' := [(2, .long x9), (0, .ref (G.1 + 0)), (1, .int y1), (4, .int y4), (5, .int x.2)]) (n := 64) rfl ok d_m_deliveryChance_63 rfl (lt_n hXn (Nat.le_of_ble_eq_true rfl)) rfl ?_
    obtain ⟨x10, ex10, h⟩ := bd_ok h
    refine r_iinc (lv' := [(5, .int x10), (2, .long x9), (0, .ref (G.1 + 0)), (1, .int y1), (4, .int y4)]) (n := 67) rfl ok d_m_deliveryChance_64 4 rfl (Option.some.inj ex10) (lt_n hXn (Nat.le_of_ble_eq_true rfl)) rfl ?_
    refine r_goto (tgt := 24) ok d_m_deliveryChance_67 (by decide) ?_
    obtain rfl := Option.some.inj h
    exact r_sub [2, 3, 1, 4, 0] rfl (show Wt X M 24 [(0, .ref (G.1 + 0)), (1, .int y1), (2, .long x9), (4, .int y4), (5, .int x10)] [] from hk _ rfl)
set_option maxHeartbeats 4000000 in
set_option maxRecDepth 20000 in
theorem C_m_deliveryChance {l : Launch} {G : Gt} {M : Me} {a1 : Int32}  {o : Int32} (h : f_m_deliveryChance M a1 = some o) : Ct l G (WM G) (rM G) y_m_deliveryChance b_m_deliveryChance 6 (some .int) rm_m_deliveryChance [.ref (G.1 + 0), .int a1] M (some (.int o)) M := by
  refine Ct.mk (own := "RetryChainsModel") rfl (by decide) (Nat.le_of_ble_eq_true rfl) ⟨_, rfl⟩ (fun X hXl hXR hXn ok hG fin => ?_)
  subst hXl
  unfold f_m_deliveryChance at h
  show Wt X M 0 [(0, .ref (G.1 + 0)), (1, .int a1)] []
  refine r_aload_n (n := 1) rfl ok d_m_deliveryChance_0 rfl 0 rfl ?_
  refine r_iload_n (n := 2) rfl ok d_m_deliveryChance_1 rfl 1 rfl ?_
  obtain ⟨r1, hr1, h⟩ := bd_ok h
  refine r_callV (n := 5) rfl ok hG mf_m_isOpen k_1216 ks_49 k_1214 (C_m_isOpen  hr1) ⟨rfl, rfl⟩ (rR hXR ⟨Nat.le_of_ble_eq_true rfl, Nat.le_of_ble_eq_true rfl⟩) rfl rfl (rv_MOD) rfl (Nat.le_of_ble_eq_true rfl) d_m_deliveryChance_2 ?_
  refine r_if_ne (tgt := 10) (n := 8) rfl ok d_m_deliveryChance_5 (by decide) (fun c2 => ?_) (fun c2 => ?_)
  · replace h := if_n c2 h
    refine r_ldc2 (n := 13) rfl ok d_m_deliveryChance_10 k_1275 ?_
    refine r_lstore_n (lv' := [(2, .long 65536), (0, .ref (G.1 + 0)), (1, .int a1)]) (n := 14) rfl ok d_m_deliveryChance_13 rfl (lt_n hXn (Nat.le_of_ble_eq_true rfl)) rfl ?_
    refine r_aload_n (n := 15) rfl ok d_m_deliveryChance_14 rfl 1 rfl ?_
    refine r_iload_n (n := 16) rfl ok d_m_deliveryChance_15 rfl 2 rfl ?_
    obtain ⟨r3, hr3, h⟩ := bd_ok h
    refine r_callV (n := 19) rfl ok hG mf_m_triesOfAll k_1220 ks_50 k_1218 (C_m_triesOfAll  hr3) ⟨rfl, rfl⟩ (rR hXR ⟨Nat.le_of_ble_eq_true rfl, Nat.le_of_ble_eq_true rfl⟩) rfl rfl (rv_MOD) rfl (Nat.le_of_ble_eq_true rfl) d_m_deliveryChance_16 ?_
    refine r_istore (lv' := [(4, .int r3), (2, .long 65536), (0, .ref (G.1 + 0)), (1, .int a1)]) (n := 21) rfl ok d_m_deliveryChance_19 (lt_n hXn (Nat.le_of_ble_eq_true rfl)) rfl ?_
    refine r_iconst (v := 0) (n := 22) rfl ok d_m_deliveryChance_21 (by decide) ?_
    refine r_istore (lv' := [(5, .int 0), (4, .int r3), (2, .long 65536), (0, .ref (G.1 + 0)), (1, .int a1)]) (n := 24) rfl ok d_m_deliveryChance_22 (lt_n hXn (Nat.le_of_ble_eq_true rfl)) rfl ?_
    obtain ⟨t11, ht11, h⟩ := bd_ok h
    refine r_sub [3, 4, 2, 1, 0] rfl (show Wt X M 24 [(0, .ref (G.1 + 0)), (1, .int a1), (2, .long 65536), (4, .int r3), (5, .int 0)] [] from w_m_deliveryChance_24 ok hG hXR hXn  ?_ _ _ ht11)
    · intro e12 he
      subst he
      refine r_ldc2 (n := 73) rfl ok d_m_deliveryChance_70 k_1275 ?_
      refine r_lload_n (n := 74) rfl ok d_m_deliveryChance_73 rfl 0 rfl ?_
      refine r_lsub (n := 75) rfl ok d_m_deliveryChance_74 ?_
      refine r_l2i (n := 76) rfl ok d_m_deliveryChance_75 ?_
      obtain rfl := Option.some.inj h
      exact fin _ _ ⟨.int, rfl, rfl⟩ d_m_deliveryChance_76
  · replace h := if_p c2 h
    refine r_iconst (v := (-1)) (n := 9) rfl ok d_m_deliveryChance_8 (by decide) ?_
    obtain rfl := Option.some.inj h
    exact fin _ _ ⟨.int, rfl, rfl⟩ d_m_deliveryChance_9
set_option maxHeartbeats 4000000 in
set_option maxRecDepth 20000 in
theorem w_m_expectedTime_27 {X : Cx Me} {G : Gt} (ok : Ok X b_m_expectedTime "RetryChainsModel") (hG : GM X G) (hXR : X.R = rm_m_expectedTime) (hXn : X.nL = 8) {M : Me} {y1 : Int32} {y6 : Int32}  {t : Int64} (kx : ∀ e : Int64, e = t → Wt X M 88 [(4, .long e)] [])  : ∀ (n : Nat) (x : Int64 × Int64 × Int32), lp n (b_m_expectedTime_27 M y1 y6) x = some t → Wt X M 27 [(0, .ref (G.1 + 0)), (1, .int y1), (2, .long x.1), (4, .long x.2.1), (6, .int y6), (7, .int x.2.2)] [] := by
  intro n x h
  refine lp_W (P := fun x => Wt X M 27 [(0, .ref (G.1 + 0)), (1, .int y1), (2, .long x.1), (4, .long x.2.1), (6, .int y6), (7, .int x.2.2)] []) (Z := fun t' => t' = t) (fun x r h hk hz => ?_) n x t h rfl
  unfold b_m_expectedTime_27 at h
  refine r_iload (n := 29) rfl ok d_m_expectedTime_27 5 rfl ?_
  refine r_iload (n := 31) rfl ok d_m_expectedTime_29 4 rfl ?_
  refine r_icmp_ge (tgt := 88) (n := 34) rfl ok d_m_expectedTime_31 (by decide) (fun c4 => ?_) (fun c4 => ?_)
  · replace h := if_p c4 h
    obtain rfl := Option.some.inj h
    exact r_sub [3] rfl (show Wt X M 88 [(4, .long x.2.1)] [] from kx _ (hz _ rfl))
  · replace h := if_n c4 h
    refine r_lload (n := 36) rfl ok d_m_expectedTime_34 3 rfl ?_
    refine r_lload_n (n := 37) rfl ok d_m_expectedTime_36 rfl 2 rfl ?_
    refine r_aload_n (n := 38) rfl ok d_m_expectedTime_37 rfl 0 rfl ?_
    refine r_iload_n (n := 39) rfl ok d_m_expectedTime_38 rfl 1 rfl ?_
    refine r_iload (n := 41) rfl ok d_m_expectedTime_39 5 rfl ?_
    obtain ⟨r5, hr5, h⟩ := bd_ok h
    refine r_callV (n := 44) rfl ok hG mf_m_timeOfTry k_1228 ks_52 k_1226 (C_m_timeOfTry  hr5) ⟨rfl, rfl⟩ (rR hXR ⟨Nat.le_of_ble_eq_true rfl, Nat.le_of_ble_eq_true rfl⟩) rfl rfl (rv_MOD) rfl (Nat.le_of_ble_eq_true rfl) d_m_expectedTime_41 ?_
    refine r_i2l (n := 45) rfl ok d_m_expectedTime_44 ?_
    refine r_lmul (n := 46) rfl ok d_m_expectedTime_45 ?_
    refine r_ladd (n := 47) rfl ok d_m_expectedTime_46 ?_
    obtain ⟨x6, ex6, h⟩ := bd_ok h
    refine r_tl (Option.some.inj ex6).symm ?_
    refine r_lstore (lv' := [(4, .long x6), (0, .ref (G.1 + 0)), (1, .int y1), (2, .long x.1), (6, .int y6), (7, .int x.2.2)]) (n := 49) rfl ok d_m_expectedTime_47 (lt_n hXn (Nat.le_of_ble_eq_true rfl)) rfl ?_
    refine r_lload_n (n := 50) rfl ok d_m_expectedTime_49 rfl 3 rfl ?_
    refine r_ldc (n := 52) rfl ok d_m_expectedTime_50 k_1320 ?_
    refine r_aload_n (n := 53) rfl ok d_m_expectedTime_52 rfl 1 rfl ?_
    refine r_aload_n (n := 54) rfl ok d_m_expectedTime_53 rfl 1 rfl ?_
    refine g_MOD_v (n := 57) rfl ok hG  k_986 d_m_expectedTime_54 ?_
    refine r_iload_n (n := 58) rfl ok d_m_expectedTime_57 rfl 2 rfl ?_
    obtain ⟨r7, hr7, h⟩ := bd_ok h
    refine r_callS (n := 61) rfl ok hG mf_m_open k_1136 k_1135 (C_m_open  hr7) ⟨rfl, rfl⟩ (rR hXR ⟨Nat.le_of_ble_eq_true rfl, Nat.le_of_ble_eq_true rfl⟩) rfl rfl (Nat.le_of_ble_eq_true rfl) d_m_expectedTime_58 ?_
    refine r_iconst (v := 1) (n := 62) rfl ok d_m_expectedTime_61 (by decide) ?_
    refine r_iadd (n := 63) rfl ok d_m_expectedTime_62 ?_
    obtain ⟨g8, h⟩ := gd_ok h
    refine al_V (n := 64) rfl ok hG  g8 d_m_expectedTime_63 ?_
    refine r_aload_n (n := 65) rfl ok d_m_expectedTime_64 rfl 1 rfl ?_
    refine r_iload_n (n := 66) rfl ok d_m_expectedTime_65 rfl 2 rfl ?_
    refine r_iload (n := 68) rfl ok d_m_expectedTime_66 5 rfl ?_
    obtain ⟨r9, hr9, h⟩ := bd_ok h
    refine r_callV (n := 71) rfl ok hG mf_m_rateOfTry k_1232 ks_53 k_1230 (C_m_rateOfTry  hr9) ⟨rfl, rfl⟩ (rR hXR ⟨Nat.le_of_ble_eq_true rfl, Nat.le_of_ble_eq_true rfl⟩) rfl rfl (rv_MOD) rfl (Nat.le_of_ble_eq_true rfl) d_m_expectedTime_68 ?_
    obtain ⟨r10, hr10, h⟩ := bd_ok h
    refine r_callV (n := 74) rfl ok hG mf_m_known k_1046 ks_20 k_1044 (C_m_known  hr10) ⟨rfl, rfl⟩ (rR hXR ⟨Nat.le_of_ble_eq_true rfl, Nat.le_of_ble_eq_true rfl⟩) rfl rfl (rv_MOD) rfl (Nat.le_of_ble_eq_true rfl) d_m_expectedTime_71 ?_
    refine r_isub (n := 75) rfl ok d_m_expectedTime_74 ?_
    refine r_i2l (n := 76) rfl ok d_m_expectedTime_75 ?_
    refine r_lmul (n := 77) rfl ok d_m_expectedTime_76 ?_
    refine r_ldc2 (n := 80) rfl ok d_m_expectedTime_77 k_1275 ?_
    refine r_ldiv (n := 81) rfl ok d_m_expectedTime_80 (by decide) ?_
    obtain ⟨x11, ex11, h⟩ := bd_ok h
    refine r_tl (Option.some.inj ex11).symm ?_
    refine r_lstore_n (lv' := [(2, .long x11), (4, .long x6), (0, .ref (G.1 + 0)), (1, .int y1), (6, .int y6), (7, .int x.2.2)]) (n := 82) rfl ok d_m_expectedTime_81 rfl (lt_n hXn (Nat.le_of_ble_eq_true rfl)) rfl ?_
    obtain ⟨x12, ex12, h⟩ := bd_ok h
    refine r_iinc (lv' := [(7, .int x12), (2, .long x11), (4, .long x6), (0, .ref (G.1 + 0)), (1, .int y1), (6, .int y6)]) (n := 85) rfl ok d_m_expectedTime_82 5 rfl (Option.some.inj ex12) (lt_n hXn (Nat.le_of_ble_eq_true rfl)) rfl ?_
    refine r_goto (tgt := 27) ok d_m_expectedTime_85 (by decide) ?_
    obtain rfl := Option.some.inj h
    exact r_sub [3, 4, 1, 2, 5, 0] rfl (show Wt X M 27 [(0, .ref (G.1 + 0)), (1, .int y1), (2, .long x11), (4, .long x6), (6, .int y6), (7, .int x12)] [] from hk _ rfl)
set_option maxHeartbeats 4000000 in
set_option maxRecDepth 20000 in
theorem C_m_expectedTime {l : Launch} {G : Gt} {M : Me} {a1 : Int32}  {o : Int32} (h : f_m_expectedTime M a1 = some o) : Ct l G (WM G) (rM G) y_m_expectedTime b_m_expectedTime 8 (some .int) rm_m_expectedTime [.ref (G.1 + 0), .int a1] M (some (.int o)) M := by
  refine Ct.mk (own := "RetryChainsModel") rfl (by decide) (Nat.le_of_ble_eq_true rfl) ⟨_, rfl⟩ (fun X hXl hXR hXn ok hG fin => ?_)
  subst hXl
  unfold f_m_expectedTime at h
  show Wt X M 0 [(0, .ref (G.1 + 0)), (1, .int a1)] []
  refine r_aload_n (n := 1) rfl ok d_m_expectedTime_0 rfl 0 rfl ?_
  refine r_iload_n (n := 2) rfl ok d_m_expectedTime_1 rfl 1 rfl ?_
  obtain ⟨r1, hr1, h⟩ := bd_ok h
  refine r_callV (n := 5) rfl ok hG mf_m_isOpen k_1216 ks_49 k_1214 (C_m_isOpen  hr1) ⟨rfl, rfl⟩ (rR hXR ⟨Nat.le_of_ble_eq_true rfl, Nat.le_of_ble_eq_true rfl⟩) rfl rfl (rv_MOD) rfl (Nat.le_of_ble_eq_true rfl) d_m_expectedTime_2 ?_
  refine r_if_ne (tgt := 10) (n := 8) rfl ok d_m_expectedTime_5 (by decide) (fun c2 => ?_) (fun c2 => ?_)
  · replace h := if_n c2 h
    refine r_ldc2 (n := 13) rfl ok d_m_expectedTime_10 k_1275 ?_
    refine r_lstore_n (lv' := [(2, .long 65536), (0, .ref (G.1 + 0)), (1, .int a1)]) (n := 14) rfl ok d_m_expectedTime_13 rfl (lt_n hXn (Nat.le_of_ble_eq_true rfl)) rfl ?_
    refine r_lconst (v := 0) (n := 15) rfl ok d_m_expectedTime_14 (by decide) ?_
    refine r_lstore (lv' := [(4, .long 0), (2, .long 65536), (0, .ref (G.1 + 0)), (1, .int a1)]) (n := 17) rfl ok d_m_expectedTime_15 (lt_n hXn (Nat.le_of_ble_eq_true rfl)) rfl ?_
    refine r_aload_n (n := 18) rfl ok d_m_expectedTime_17 rfl 2 rfl ?_
    refine r_iload_n (n := 19) rfl ok d_m_expectedTime_18 rfl 3 rfl ?_
    obtain ⟨r3, hr3, h⟩ := bd_ok h
    refine r_callV (n := 22) rfl ok hG mf_m_triesOfAll k_1220 ks_50 k_1218 (C_m_triesOfAll  hr3) ⟨rfl, rfl⟩ (rR hXR ⟨Nat.le_of_ble_eq_true rfl, Nat.le_of_ble_eq_true rfl⟩) rfl rfl (rv_MOD) rfl (Nat.le_of_ble_eq_true rfl) d_m_expectedTime_19 ?_
    refine r_istore (lv' := [(6, .int r3), (4, .long 0), (2, .long 65536), (0, .ref (G.1 + 0)), (1, .int a1)]) (n := 24) rfl ok d_m_expectedTime_22 (lt_n hXn (Nat.le_of_ble_eq_true rfl)) rfl ?_
    refine r_iconst (v := 0) (n := 25) rfl ok d_m_expectedTime_24 (by decide) ?_
    refine r_istore (lv' := [(7, .int 0), (6, .int r3), (4, .long 0), (2, .long 65536), (0, .ref (G.1 + 0)), (1, .int a1)]) (n := 27) rfl ok d_m_expectedTime_25 (lt_n hXn (Nat.le_of_ble_eq_true rfl)) rfl ?_
    obtain ⟨t13, ht13, h⟩ := bd_ok h
    refine r_sub [4, 5, 3, 2, 1, 0] rfl (show Wt X M 27 [(0, .ref (G.1 + 0)), (1, .int a1), (2, .long 65536), (4, .long 0), (6, .int r3), (7, .int 0)] [] from w_m_expectedTime_27 ok hG hXR hXn  ?_ _ _ ht13)
    · intro e14 he
      subst he
      refine r_lload (n := 90) rfl ok d_m_expectedTime_88 0 rfl ?_
      refine r_ldc2 (n := 93) rfl ok d_m_expectedTime_90 k_1275 ?_
      refine r_ldiv (n := 94) rfl ok d_m_expectedTime_93 (by decide) ?_
      refine r_l2i (n := 95) rfl ok d_m_expectedTime_94 ?_
      obtain rfl := Option.some.inj h
      exact fin _ _ ⟨.int, rfl, rfl⟩ d_m_expectedTime_95
  · replace h := if_p c2 h
    refine r_iconst (v := (-1)) (n := 9) rfl ok d_m_expectedTime_8 (by decide) ?_
    obtain rfl := Option.some.inj h
    exact fin _ _ ⟨.int, rfl, rfl⟩ d_m_expectedTime_9
set_option maxHeartbeats 4000000 in
set_option maxRecDepth 20000 in
theorem C_m_estimate {l : Launch} {G : Gt} {M : Me} {a1 : Int32} {a2 : Int32}  {o : Int32} (h : f_m_estimate M a1 a2 = some o) : Ct l G (WM G) (rM G) y_m_estimate b_m_estimate 4 (some .int) rm_m_estimate [.ref (G.1 + 0), .int a1, .int a2] M (some (.int o)) M := by
  refine Ct.mk (own := "RetryChainsModel") rfl (by decide) (Nat.le_of_ble_eq_true rfl) ⟨_, rfl⟩ (fun X hXl hXR hXn ok hG fin => ?_)
  subst hXl
  unfold f_m_estimate at h
  show Wt X M 0 [(0, .ref (G.1 + 0)), (1, .int a1), (2, .int a2)] []
  refine r_aload_n (n := 1) rfl ok d_m_estimate_0 rfl 0 rfl ?_
  refine r_iload_n (n := 2) rfl ok d_m_estimate_1 rfl 1 rfl ?_
  refine r_iload_n (n := 3) rfl ok d_m_estimate_2 rfl 2 rfl ?_
  obtain ⟨r1, hr1, h⟩ := bd_ok h
  refine r_callV (n := 6) rfl ok hG mf_m_areBoth k_1092 ks_28 k_1090 (C_m_areBoth  hr1) ⟨rfl, rfl⟩ (rR hXR ⟨Nat.le_of_ble_eq_true rfl, Nat.le_of_ble_eq_true rfl⟩) rfl rfl (rv_MOD) rfl (Nat.le_of_ble_eq_true rfl) d_m_estimate_3 ?_
  refine r_if_ne (tgt := 11) (n := 9) rfl ok d_m_estimate_6 (by decide) (fun c2 => ?_) (fun c2 => ?_)
  · replace h := if_n c2 h
    refine r_aload_n (n := 12) rfl ok d_m_estimate_11 rfl 0 rfl ?_
    refine g_MOD_v (n := 15) rfl ok hG  k_986 d_m_estimate_12 ?_
    refine r_iload_n (n := 16) rfl ok d_m_estimate_15 rfl 1 rfl ?_
    refine r_iload_n (n := 17) rfl ok d_m_estimate_16 rfl 2 rfl ?_
    obtain ⟨r3, hr3, h⟩ := bd_ok h
    refine r_callS (n := 20) rfl ok hG mf_m_pair k_1027 k_1026 (C_m_pair  hr3) ⟨rfl, rfl⟩ (rR hXR ⟨Nat.le_of_ble_eq_true rfl, Nat.le_of_ble_eq_true rfl⟩) rfl rfl (Nat.le_of_ble_eq_true rfl) d_m_estimate_17 ?_
    refine r_iconst (v := 1) (n := 21) rfl ok d_m_estimate_20 (by decide) ?_
    refine r_iadd (n := 22) rfl ok d_m_estimate_21 ?_
    obtain ⟨g4, h⟩ := gd_ok h
    refine al_V (n := 23) rfl ok hG  g4 d_m_estimate_22 ?_
    refine r_istore_n (lv' := [(3, .int (M.1 100 0 0 (tN (r3 + (1 : Int32))))), (0, .ref (G.1 + 0)), (1, .int a1), (2, .int a2)]) (n := 24) rfl ok d_m_estimate_23 rfl (lt_n hXn (Nat.le_of_ble_eq_true rfl)) rfl ?_
    refine r_iload_n (n := 25) rfl ok d_m_estimate_24 rfl 0 rfl ?_
    refine r_if_ge (tgt := 33) (n := 28) rfl ok d_m_estimate_25 (by decide) (fun c5 => ?_) (fun c5 => ?_)
    · replace h := if_p c5 h
      refine r_iload_n (n := 34) rfl ok d_m_estimate_33 rfl 0 rfl ?_
      obtain rfl := Option.some.inj h
      exact fin _ _ ⟨.int, rfl, rfl⟩ d_m_estimate_34
    · replace h := if_n c5 h
      refine r_bipush (v := (-9)) (n := 30) rfl ok d_m_estimate_28 (by decide) ?_
      refine r_goto (tgt := 34) ok d_m_estimate_30 (by decide) ?_
      obtain rfl := Option.some.inj h
      exact fin _ _ ⟨.int, rfl, rfl⟩ d_m_estimate_34
  · replace h := if_p c2 h
    refine r_iconst (v := (-1)) (n := 10) rfl ok d_m_estimate_9 (by decide) ?_
    obtain rfl := Option.some.inj h
    exact fin _ _ ⟨.int, rfl, rfl⟩ d_m_estimate_10
set_option maxHeartbeats 4000000 in
set_option maxRecDepth 20000 in
theorem C_m_triesOf {l : Launch} {G : Gt} {M : Me} {a1 : Int32} {a2 : Int32}  {o : Int32} (h : f_m_triesOf M a1 a2 = some o) : Ct l G (WM G) (rM G) y_m_triesOf b_m_triesOf 3 (some .int) rm_m_triesOf [.ref (G.1 + 0), .int a1, .int a2] M (some (.int o)) M := by
  refine Ct.mk (own := "RetryChainsModel") rfl (by decide) (Nat.le_of_ble_eq_true rfl) ⟨_, rfl⟩ (fun X hXl hXR hXn ok hG fin => ?_)
  subst hXl
  unfold f_m_triesOf at h
  show Wt X M 0 [(0, .ref (G.1 + 0)), (1, .int a1), (2, .int a2)] []
  refine r_aload_n (n := 1) rfl ok d_m_triesOf_0 rfl 0 rfl ?_
  refine r_iload_n (n := 2) rfl ok d_m_triesOf_1 rfl 1 rfl ?_
  refine r_iload_n (n := 3) rfl ok d_m_triesOf_2 rfl 2 rfl ?_
  obtain ⟨r1, hr1, h⟩ := bd_ok h
  refine r_callV (n := 6) rfl ok hG mf_m_areBoth k_1092 ks_28 k_1090 (C_m_areBoth  hr1) ⟨rfl, rfl⟩ (rR hXR ⟨Nat.le_of_ble_eq_true rfl, Nat.le_of_ble_eq_true rfl⟩) rfl rfl (rv_MOD) rfl (Nat.le_of_ble_eq_true rfl) d_m_triesOf_3 ?_
  refine r_if_eq (tgt := 24) (n := 9) rfl ok d_m_triesOf_6 (by decide) (fun c2 => ?_) (fun c2 => ?_)
  · replace h := if_p c2 h
    refine r_iconst (v := (-1)) (n := 25) rfl ok d_m_triesOf_24 (by decide) ?_
    obtain rfl := Option.some.inj h
    exact fin _ _ ⟨.int, rfl, rfl⟩ d_m_triesOf_25
  · replace h := if_n c2 h
    refine r_aload_n (n := 10) rfl ok d_m_triesOf_9 rfl 0 rfl ?_
    refine g_MOD_v (n := 13) rfl ok hG  k_986 d_m_triesOf_10 ?_
    refine r_iload_n (n := 14) rfl ok d_m_triesOf_13 rfl 1 rfl ?_
    refine r_iload_n (n := 15) rfl ok d_m_triesOf_14 rfl 2 rfl ?_
    obtain ⟨r3, hr3, h⟩ := bd_ok h
    refine r_callS (n := 18) rfl ok hG mf_m_pair k_1027 k_1026 (C_m_pair  hr3) ⟨rfl, rfl⟩ (rR hXR ⟨Nat.le_of_ble_eq_true rfl, Nat.le_of_ble_eq_true rfl⟩) rfl rfl (Nat.le_of_ble_eq_true rfl) d_m_triesOf_15 ?_
    refine r_iconst (v := 4) (n := 19) rfl ok d_m_triesOf_18 (by decide) ?_
    refine r_iadd (n := 20) rfl ok d_m_triesOf_19 ?_
    obtain ⟨g4, h⟩ := gd_ok h
    refine al_V (n := 21) rfl ok hG  g4 d_m_triesOf_20 ?_
    refine r_goto (tgt := 25) ok d_m_triesOf_21 (by decide) ?_
    obtain rfl := Option.some.inj h
    exact fin _ _ ⟨.int, rfl, rfl⟩ d_m_triesOf_25
set_option maxHeartbeats 4000000 in
set_option maxRecDepth 20000 in
theorem C_m_successesOf {l : Launch} {G : Gt} {M : Me} {a1 : Int32} {a2 : Int32}  {o : Int32} (h : f_m_successesOf M a1 a2 = some o) : Ct l G (WM G) (rM G) y_m_successesOf b_m_successesOf 3 (some .int) rm_m_successesOf [.ref (G.1 + 0), .int a1, .int a2] M (some (.int o)) M := by
  refine Ct.mk (own := "RetryChainsModel") rfl (by decide) (Nat.le_of_ble_eq_true rfl) ⟨_, rfl⟩ (fun X hXl hXR hXn ok hG fin => ?_)
  subst hXl
  unfold f_m_successesOf at h
  show Wt X M 0 [(0, .ref (G.1 + 0)), (1, .int a1), (2, .int a2)] []
  refine r_aload_n (n := 1) rfl ok d_m_successesOf_0 rfl 0 rfl ?_
  refine r_iload_n (n := 2) rfl ok d_m_successesOf_1 rfl 1 rfl ?_
  refine r_iload_n (n := 3) rfl ok d_m_successesOf_2 rfl 2 rfl ?_
  obtain ⟨r1, hr1, h⟩ := bd_ok h
  refine r_callV (n := 6) rfl ok hG mf_m_areBoth k_1092 ks_28 k_1090 (C_m_areBoth  hr1) ⟨rfl, rfl⟩ (rR hXR ⟨Nat.le_of_ble_eq_true rfl, Nat.le_of_ble_eq_true rfl⟩) rfl rfl (rv_MOD) rfl (Nat.le_of_ble_eq_true rfl) d_m_successesOf_3 ?_
  refine r_if_eq (tgt := 24) (n := 9) rfl ok d_m_successesOf_6 (by decide) (fun c2 => ?_) (fun c2 => ?_)
  · replace h := if_p c2 h
    refine r_iconst (v := (-1)) (n := 25) rfl ok d_m_successesOf_24 (by decide) ?_
    obtain rfl := Option.some.inj h
    exact fin _ _ ⟨.int, rfl, rfl⟩ d_m_successesOf_25
  · replace h := if_n c2 h
    refine r_aload_n (n := 10) rfl ok d_m_successesOf_9 rfl 0 rfl ?_
    refine g_MOD_v (n := 13) rfl ok hG  k_986 d_m_successesOf_10 ?_
    refine r_iload_n (n := 14) rfl ok d_m_successesOf_13 rfl 1 rfl ?_
    refine r_iload_n (n := 15) rfl ok d_m_successesOf_14 rfl 2 rfl ?_
    obtain ⟨r3, hr3, h⟩ := bd_ok h
    refine r_callS (n := 18) rfl ok hG mf_m_pair k_1027 k_1026 (C_m_pair  hr3) ⟨rfl, rfl⟩ (rR hXR ⟨Nat.le_of_ble_eq_true rfl, Nat.le_of_ble_eq_true rfl⟩) rfl rfl (Nat.le_of_ble_eq_true rfl) d_m_successesOf_15 ?_
    refine r_iconst (v := 5) (n := 19) rfl ok d_m_successesOf_18 (by decide) ?_
    refine r_iadd (n := 20) rfl ok d_m_successesOf_19 ?_
    obtain ⟨g4, h⟩ := gd_ok h
    refine al_V (n := 21) rfl ok hG  g4 d_m_successesOf_20 ?_
    refine r_goto (tgt := 25) ok d_m_successesOf_21 (by decide) ?_
    obtain rfl := Option.some.inj h
    exact fin _ _ ⟨.int, rfl, rfl⟩ d_m_successesOf_25
set_option maxHeartbeats 4000000 in
set_option maxRecDepth 20000 in
theorem C_m_airTime {l : Launch} {G : Gt} {M : Me} {a1 : Int32} {a2 : Int32}  {o : Int32} (h : f_m_airTime M a1 a2 = some o) : Ct l G (WM G) (rM G) y_m_airTime b_m_airTime 3 (some .int) rm_m_airTime [.ref (G.1 + 0), .int a1, .int a2] M (some (.int o)) M := by
  refine Ct.mk (own := "RetryChainsModel") rfl (by decide) (Nat.le_of_ble_eq_true rfl) ⟨_, rfl⟩ (fun X hXl hXR hXn ok hG fin => ?_)
  subst hXl
  unfold f_m_airTime at h
  show Wt X M 0 [(0, .ref (G.1 + 0)), (1, .int a1), (2, .int a2)] []
  refine r_aload_n (n := 1) rfl ok d_m_airTime_0 rfl 0 rfl ?_
  refine r_iload_n (n := 2) rfl ok d_m_airTime_1 rfl 1 rfl ?_
  obtain ⟨r1, hr1, h⟩ := bd_ok h
  refine r_callV (n := 5) rfl ok hG mf_m_isRate k_1100 ks_30 k_1098 (C_m_isRate  hr1) ⟨rfl, rfl⟩ (rR hXR ⟨Nat.le_of_ble_eq_true rfl, Nat.le_of_ble_eq_true rfl⟩) rfl rfl (rv_MOD) rfl (Nat.le_of_ble_eq_true rfl) d_m_airTime_2 ?_
  refine r_if_eq (tgt := 27) (n := 8) rfl ok d_m_airTime_5 (by decide) (fun c2 => ?_) (fun c2 => ?_)
  · replace h := if_p c2 h
    refine r_iconst (v := (-1)) (n := 28) rfl ok d_m_airTime_27 (by decide) ?_
    obtain rfl := Option.some.inj h
    exact fin _ _ ⟨.int, rfl, rfl⟩ d_m_airTime_28
  · replace h := if_n c2 h
    refine r_iload_n (n := 9) rfl ok d_m_airTime_8 rfl 2 rfl ?_
    refine r_iconst (v := 1) (n := 10) rfl ok d_m_airTime_9 (by decide) ?_
    refine r_ldc (n := 12) rfl ok d_m_airTime_10 k_1341 ?_
    obtain ⟨r3, hr3, h⟩ := bd_ok h
    refine r_callS (n := 15) rfl ok hG mf_m_in k_1016 k_1015 (C_m_in  hr3) ⟨rfl, rfl⟩ (rR hXR ⟨Nat.le_of_ble_eq_true rfl, Nat.le_of_ble_eq_true rfl⟩) rfl rfl (Nat.le_of_ble_eq_true rfl) d_m_airTime_12 ?_
    refine r_if_eq (tgt := 27) (n := 18) rfl ok d_m_airTime_15 (by decide) (fun c4 => ?_) (fun c4 => ?_)
    · replace h := if_p c4 h
      refine r_iconst (v := (-1)) (n := 28) rfl ok d_m_airTime_27 (by decide) ?_
      obtain rfl := Option.some.inj h
      exact fin _ _ ⟨.int, rfl, rfl⟩ d_m_airTime_28
    · replace h := if_n c4 h
      refine r_aload_n (n := 19) rfl ok d_m_airTime_18 rfl 0 rfl ?_
      refine r_iload_n (n := 20) rfl ok d_m_airTime_19 rfl 1 rfl ?_
      refine r_iload_n (n := 21) rfl ok d_m_airTime_20 rfl 2 rfl ?_
      obtain ⟨r5, hr5, h⟩ := bd_ok h
      refine r_callV (n := 24) rfl ok hG mf_m_air k_1063 ks_24 k_1061 (C_m_air  hr5) ⟨rfl, rfl⟩ (rR hXR ⟨Nat.le_of_ble_eq_true rfl, Nat.le_of_ble_eq_true rfl⟩) rfl rfl (rv_MOD) rfl (Nat.le_of_ble_eq_true rfl) d_m_airTime_21 ?_
      refine r_goto (tgt := 28) ok d_m_airTime_24 (by decide) ?_
      obtain rfl := Option.some.inj h
      exact fin _ _ ⟨.int, rfl, rfl⟩ d_m_airTime_28
set_option maxHeartbeats 4000000 in
set_option maxRecDepth 20000 in
theorem C_m_throughput {l : Launch} {G : Gt} {M : Me} {a1 : Int32} {a2 : Int32} {a3 : Int32}  {o : Int32} (h : f_m_throughput M a1 a2 a3 = some o) : Ct l G (WM G) (rM G) y_m_throughput b_m_throughput 7 (some .int) rm_m_throughput [.ref (G.1 + 0), .int a1, .int a2, .int a3] M (some (.int o)) M := by
  refine Ct.mk (own := "RetryChainsModel") rfl (by decide) (Nat.le_of_ble_eq_true rfl) ⟨_, rfl⟩ (fun X hXl hXR hXn ok hG fin => ?_)
  subst hXl
  unfold f_m_throughput at h
  show Wt X M 0 [(0, .ref (G.1 + 0)), (1, .int a1), (2, .int a2), (3, .int a3)] []
  refine r_aload_n (n := 1) rfl ok d_m_throughput_0 rfl 0 rfl ?_
  refine r_iload_n (n := 2) rfl ok d_m_throughput_1 rfl 1 rfl ?_
  refine r_iload_n (n := 3) rfl ok d_m_throughput_2 rfl 2 rfl ?_
  obtain ⟨r1, hr1, h⟩ := bd_ok h
  refine r_callV (n := 6) rfl ok hG mf_m_areBoth k_1092 ks_28 k_1090 (C_m_areBoth  hr1) ⟨rfl, rfl⟩ (rR hXR ⟨Nat.le_of_ble_eq_true rfl, Nat.le_of_ble_eq_true rfl⟩) rfl rfl (rv_MOD) rfl (Nat.le_of_ble_eq_true rfl) d_m_throughput_3 ?_
  refine r_if_eq (tgt := 19) (n := 9) rfl ok d_m_throughput_6 (by decide) (fun c2 => ?_) (fun c2 => ?_)
  · replace h := if_p c2 h
    refine r_iconst (v := (-1)) (n := 20) rfl ok d_m_throughput_19 (by decide) ?_
    obtain rfl := Option.some.inj h
    exact fin _ _ ⟨.int, rfl, rfl⟩ d_m_throughput_20
  · replace h := if_n c2 h
    refine r_iload_n (n := 10) rfl ok d_m_throughput_9 rfl 3 rfl ?_
    refine r_iconst (v := 1) (n := 11) rfl ok d_m_throughput_10 (by decide) ?_
    refine r_ldc (n := 13) rfl ok d_m_throughput_11 k_1341 ?_
    obtain ⟨r3, hr3, h⟩ := bd_ok h
    refine r_callS (n := 16) rfl ok hG mf_m_in k_1016 k_1015 (C_m_in  hr3) ⟨rfl, rfl⟩ (rR hXR ⟨Nat.le_of_ble_eq_true rfl, Nat.le_of_ble_eq_true rfl⟩) rfl rfl (Nat.le_of_ble_eq_true rfl) d_m_throughput_13 ?_
    refine r_if_ne (tgt := 21) (n := 19) rfl ok d_m_throughput_16 (by decide) (fun c4 => ?_) (fun c4 => ?_)
    · replace h := if_n c4 h
      refine r_aload_n (n := 22) rfl ok d_m_throughput_21 rfl 0 rfl ?_
      refine g_MOD_v (n := 25) rfl ok hG  k_986 d_m_throughput_22 ?_
      refine r_iload_n (n := 26) rfl ok d_m_throughput_25 rfl 1 rfl ?_
      refine r_iload_n (n := 27) rfl ok d_m_throughput_26 rfl 2 rfl ?_
      obtain ⟨r5, hr5, h⟩ := bd_ok h
      refine r_callS (n := 30) rfl ok hG mf_m_pair k_1027 k_1026 (C_m_pair  hr5) ⟨rfl, rfl⟩ (rR hXR ⟨Nat.le_of_ble_eq_true rfl, Nat.le_of_ble_eq_true rfl⟩) rfl rfl (Nat.le_of_ble_eq_true rfl) d_m_throughput_27 ?_
      refine r_iconst (v := 1) (n := 31) rfl ok d_m_throughput_30 (by decide) ?_
      refine r_iadd (n := 32) rfl ok d_m_throughput_31 ?_
      obtain ⟨g6, h⟩ := gd_ok h
      refine al_V (n := 33) rfl ok hG  g6 d_m_throughput_32 ?_
      refine r_istore (lv' := [(4, .int (M.1 100 0 0 (tN (r5 + (1 : Int32))))), (0, .ref (G.1 + 0)), (1, .int a1), (2, .int a2), (3, .int a3)]) (n := 35) rfl ok d_m_throughput_33 (lt_n hXn (Nat.le_of_ble_eq_true rfl)) rfl ?_
      refine r_iload (n := 37) rfl ok d_m_throughput_35 0 rfl ?_
      refine r_if_ge (tgt := 43) (n := 40) rfl ok d_m_throughput_37 (by decide) (fun c7 => ?_) (fun c7 => ?_)
      · replace h := if_p c7 h
        refine r_iload (n := 45) rfl ok d_m_throughput_43 0 rfl ?_
        refine r_i2l (n := 46) rfl ok d_m_throughput_45 ?_
        refine r_bipush (v := 8) (n := 48) rfl ok d_m_throughput_46 (by decide) ?_
        refine r_iload_n (n := 49) rfl ok d_m_throughput_48 rfl 4 rfl ?_
        refine r_imul (n := 50) rfl ok d_m_throughput_49 ?_
        refine r_i2l (n := 51) rfl ok d_m_throughput_50 ?_
        refine r_lmul (n := 52) rfl ok d_m_throughput_51 ?_
        obtain ⟨x8, ex8, h⟩ := bd_ok h
        refine r_tl (Option.some.inj ex8).symm ?_
        refine r_lstore (lv' := [(5, .long x8), (4, .int (M.1 100 0 0 (tN (r5 + (1 : Int32))))), (0, .ref (G.1 + 0)), (1, .int a1), (2, .int a2), (3, .int a3)]) (n := 54) rfl ok d_m_throughput_52 (lt_n hXn (Nat.le_of_ble_eq_true rfl)) rfl ?_
        refine r_lload (n := 56) rfl ok d_m_throughput_54 0 rfl ?_
        refine r_ldc2 (n := 59) rfl ok d_m_throughput_56 k_1346 ?_
        refine r_lcmp (n := 60) rfl ok d_m_throughput_59 ?_
        refine r_if_le (tgt := 68) (n := 63) rfl ok d_m_throughput_60 (by decide) (fun c9 => ?_) (fun c9 => ?_)
        · replace h := if_p c9 h
          refine r_lload (n := 70) rfl ok d_m_throughput_68 0 rfl ?_
          refine r_l2i (n := 71) rfl ok d_m_throughput_70 ?_
          refine r_aload_n (n := 72) rfl ok d_m_throughput_71 rfl 2 rfl ?_
          refine r_iload_n (n := 73) rfl ok d_m_throughput_72 rfl 4 rfl ?_
          refine r_iload_n (n := 74) rfl ok d_m_throughput_73 rfl 5 rfl ?_
          obtain ⟨r10, hr10, h⟩ := bd_ok h
          refine r_callV (n := 77) rfl ok hG mf_m_air k_1063 ks_24 k_1061 (C_m_air  hr10) ⟨rfl, rfl⟩ (rR hXR ⟨Nat.le_of_ble_eq_true rfl, Nat.le_of_ble_eq_true rfl⟩) rfl rfl (rv_MOD) rfl (Nat.le_of_ble_eq_true rfl) d_m_throughput_74 ?_
          obtain ⟨g11, h⟩ := gd_ok h
          refine r_idiv (n := 78) rfl ok d_m_throughput_77 g11 ?_
          obtain rfl := Option.some.inj h
          exact fin _ _ ⟨.int, rfl, rfl⟩ d_m_throughput_78
        · replace h := if_n c9 h
          refine r_bipush (v := (-4)) (n := 65) rfl ok d_m_throughput_63 (by decide) ?_
          refine r_goto (tgt := 78) ok d_m_throughput_65 (by decide) ?_
          obtain rfl := Option.some.inj h
          exact fin _ _ ⟨.int, rfl, rfl⟩ d_m_throughput_78
      · replace h := if_n c7 h
        refine r_bipush (v := (-9)) (n := 42) rfl ok d_m_throughput_40 (by decide) ?_
        obtain rfl := Option.some.inj h
        exact fin _ _ ⟨.int, rfl, rfl⟩ d_m_throughput_42
    · replace h := if_p c4 h
      refine r_iconst (v := (-1)) (n := 20) rfl ok d_m_throughput_19 (by decide) ?_
      obtain rfl := Option.some.inj h
      exact fin _ _ ⟨.int, rfl, rfl⟩ d_m_throughput_20
set_option maxHeartbeats 4000000 in
set_option maxRecDepth 20000 in
theorem C_m_role {l : Launch} {G : Gt} {M : Me} {a1 : Int32} {a2 : Int32}  {o : Int32} (h : f_m_role M a1 a2 = some o) : Ct l G (WM G) (rM G) y_m_role b_m_role 3 (some .int) rm_m_role [.ref (G.1 + 0), .int a1, .int a2] M (some (.int o)) M := by
  refine Ct.mk (own := "RetryChainsModel") rfl (by decide) (Nat.le_of_ble_eq_true rfl) ⟨_, rfl⟩ (fun X hXl hXR hXn ok hG fin => ?_)
  subst hXl
  unfold f_m_role at h
  show Wt X M 0 [(0, .ref (G.1 + 0)), (1, .int a1), (2, .int a2)] []
  refine r_aload_n (n := 1) rfl ok d_m_role_0 rfl 0 rfl ?_
  refine r_iload_n (n := 2) rfl ok d_m_role_1 rfl 1 rfl ?_
  obtain ⟨r1, hr1, h⟩ := bd_ok h
  refine r_callV (n := 5) rfl ok hG mf_m_isStation k_1096 ks_29 k_1094 (C_m_isStation  hr1) ⟨rfl, rfl⟩ (rR hXR ⟨Nat.le_of_ble_eq_true rfl, Nat.le_of_ble_eq_true rfl⟩) rfl rfl (rv_MOD) rfl (Nat.le_of_ble_eq_true rfl) d_m_role_2 ?_
  refine r_if_eq (tgt := 26) (n := 8) rfl ok d_m_role_5 (by decide) (fun c2 => ?_) (fun c2 => ?_)
  · replace h := if_p c2 h
    refine r_iconst (v := (-1)) (n := 27) rfl ok d_m_role_26 (by decide) ?_
    obtain rfl := Option.some.inj h
    exact fin _ _ ⟨.int, rfl, rfl⟩ d_m_role_27
  · replace h := if_n c2 h
    refine r_iload_n (n := 9) rfl ok d_m_role_8 rfl 2 rfl ?_
    refine r_iconst (v := 0) (n := 10) rfl ok d_m_role_9 (by decide) ?_
    refine r_iconst (v := 3) (n := 11) rfl ok d_m_role_10 (by decide) ?_
    obtain ⟨r3, hr3, h⟩ := bd_ok h
    refine r_callS (n := 14) rfl ok hG mf_m_in k_1016 k_1015 (C_m_in  hr3) ⟨rfl, rfl⟩ (rR hXR ⟨Nat.le_of_ble_eq_true rfl, Nat.le_of_ble_eq_true rfl⟩) rfl rfl (Nat.le_of_ble_eq_true rfl) d_m_role_11 ?_
    refine r_if_eq (tgt := 26) (n := 17) rfl ok d_m_role_14 (by decide) (fun c4 => ?_) (fun c4 => ?_)
    · replace h := if_p c4 h
      refine r_iconst (v := (-1)) (n := 27) rfl ok d_m_role_26 (by decide) ?_
      obtain rfl := Option.some.inj h
      exact fin _ _ ⟨.int, rfl, rfl⟩ d_m_role_27
    · replace h := if_n c4 h
      refine r_aload_n (n := 18) rfl ok d_m_role_17 rfl 0 rfl ?_
      refine r_iload_n (n := 19) rfl ok d_m_role_18 rfl 1 rfl ?_
      refine r_iload_n (n := 20) rfl ok d_m_role_19 rfl 2 rfl ?_
      obtain ⟨r5, hr5, h⟩ := bd_ok h
      refine r_callV (n := 23) rfl ok hG mf_m_roleOf k_1148 ks_36 k_1146 (C_m_roleOf  hr5) ⟨rfl, rfl⟩ (rR hXR ⟨Nat.le_of_ble_eq_true rfl, Nat.le_of_ble_eq_true rfl⟩) rfl rfl (rv_MOD) rfl (Nat.le_of_ble_eq_true rfl) d_m_role_20 ?_
      refine r_goto (tgt := 27) ok d_m_role_23 (by decide) ?_
      obtain rfl := Option.some.inj h
      exact fin _ _ ⟨.int, rfl, rfl⟩ d_m_role_27
set_option maxHeartbeats 4000000 in
set_option maxRecDepth 20000 in
theorem C_m_refusal {l : Launch} {G : Gt} {M : Me} {a1 : Int32} {a2 : Int32}  {o : Int32} (h : f_m_refusal M a1 a2 = some o) : Ct l G (WM G) (rM G) y_m_refusal b_m_refusal 3 (some .int) rm_m_refusal [.ref (G.1 + 0), .int a1, .int a2] M (some (.int o)) M := by
  refine Ct.mk (own := "RetryChainsModel") rfl (by decide) (Nat.le_of_ble_eq_true rfl) ⟨_, rfl⟩ (fun X hXl hXR hXn ok hG fin => ?_)
  subst hXl
  unfold f_m_refusal at h
  show Wt X M 0 [(0, .ref (G.1 + 0)), (1, .int a1), (2, .int a2)] []
  refine r_aload_n (n := 1) rfl ok d_m_refusal_0 rfl 0 rfl ?_
  refine r_iload_n (n := 2) rfl ok d_m_refusal_1 rfl 1 rfl ?_
  obtain ⟨r1, hr1, h⟩ := bd_ok h
  refine r_callV (n := 5) rfl ok hG mf_m_isStation k_1096 ks_29 k_1094 (C_m_isStation  hr1) ⟨rfl, rfl⟩ (rR hXR ⟨Nat.le_of_ble_eq_true rfl, Nat.le_of_ble_eq_true rfl⟩) rfl rfl (rv_MOD) rfl (Nat.le_of_ble_eq_true rfl) d_m_refusal_2 ?_
  refine r_if_eq (tgt := 34) (n := 8) rfl ok d_m_refusal_5 (by decide) (fun c2 => ?_) (fun c2 => ?_)
  · replace h := if_p c2 h
    refine r_iconst (v := (-1)) (n := 35) rfl ok d_m_refusal_34 (by decide) ?_
    obtain rfl := Option.some.inj h
    exact fin _ _ ⟨.int, rfl, rfl⟩ d_m_refusal_35
  · replace h := if_n c2 h
    refine r_iload_n (n := 9) rfl ok d_m_refusal_8 rfl 2 rfl ?_
    refine r_iconst (v := 0) (n := 10) rfl ok d_m_refusal_9 (by decide) ?_
    refine r_iconst (v := 2) (n := 11) rfl ok d_m_refusal_10 (by decide) ?_
    obtain ⟨r3, hr3, h⟩ := bd_ok h
    refine r_callS (n := 14) rfl ok hG mf_m_in k_1016 k_1015 (C_m_in  hr3) ⟨rfl, rfl⟩ (rR hXR ⟨Nat.le_of_ble_eq_true rfl, Nat.le_of_ble_eq_true rfl⟩) rfl rfl (Nat.le_of_ble_eq_true rfl) d_m_refusal_11 ?_
    refine r_if_eq (tgt := 34) (n := 17) rfl ok d_m_refusal_14 (by decide) (fun c4 => ?_) (fun c4 => ?_)
    · replace h := if_p c4 h
      refine r_iconst (v := (-1)) (n := 35) rfl ok d_m_refusal_34 (by decide) ?_
      obtain rfl := Option.some.inj h
      exact fin _ _ ⟨.int, rfl, rfl⟩ d_m_refusal_35
    · replace h := if_n c4 h
      refine r_aload_n (n := 18) rfl ok d_m_refusal_17 rfl 0 rfl ?_
      refine g_MOD_v (n := 21) rfl ok hG  k_986 d_m_refusal_18 ?_
      refine r_iload_n (n := 22) rfl ok d_m_refusal_21 rfl 1 rfl ?_
      obtain ⟨r5, hr5, h⟩ := bd_ok h
      refine r_callS (n := 25) rfl ok hG mf_m_side k_1034 k_1033 (C_m_side  hr5) ⟨rfl, rfl⟩ (rR hXR ⟨Nat.le_of_ble_eq_true rfl, Nat.le_of_ble_eq_true rfl⟩) rfl rfl (Nat.le_of_ble_eq_true rfl) d_m_refusal_22 ?_
      refine r_bipush (v := 22) (n := 27) rfl ok d_m_refusal_25 (by decide) ?_
      refine r_iadd (n := 28) rfl ok d_m_refusal_27 ?_
      refine r_iload_n (n := 29) rfl ok d_m_refusal_28 rfl 2 rfl ?_
      refine r_iadd (n := 30) rfl ok d_m_refusal_29 ?_
      obtain ⟨g6, h⟩ := gd_ok h
      refine al_V (n := 31) rfl ok hG  g6 d_m_refusal_30 ?_
      refine r_goto (tgt := 35) ok d_m_refusal_31 (by decide) ?_
      obtain rfl := Option.some.inj h
      exact fin _ _ ⟨.int, rfl, rfl⟩ d_m_refusal_35
set_option maxHeartbeats 4000000 in
set_option maxRecDepth 20000 in
theorem w_m_before_4 {X : Cx Me} {G : Gt} (ok : Ok X b_m_before "RetryChainsModel") (hG : GM X G) (hXR : X.R = rm_m_before) (hXn : X.nL = 5) {M : Me} {y1 : Int32}  {t : Int32} (kx : ∀ e : Int32, e = t → Wt X M 108 [(2, .int e)] [])  : ∀ (n : Nat) (x : Int32 × Int32), lp n (b_m_before_4 M y1) x = some t → Wt X M 4 [(0, .ref (G.1 + 0)), (1, .int y1), (2, .int x.1), (3, .int x.2)] [] := by
  intro n x h
  refine lp_W (P := fun x => Wt X M 4 [(0, .ref (G.1 + 0)), (1, .int y1), (2, .int x.1), (3, .int x.2)] []) (Z := fun t' => t' = t) (fun x r h hk hz => ?_) n x t h rfl
  unfold b_m_before_4 at h
  refine r_iload_n (n := 5) rfl ok d_m_before_4 rfl 3 rfl ?_
  refine r_aload_n (n := 6) rfl ok d_m_before_5 rfl 0 rfl ?_
  refine g_MOD_v (n := 9) rfl ok hG  k_986 d_m_before_6 ?_
  refine r_iconst (v := 1) (n := 10) rfl ok d_m_before_9 (by decide) ?_
  refine al_V (n := 11) rfl ok hG  (show gin 1 600 by decide) d_m_before_10 ?_
  refine r_icmp_ge (tgt := 108) (n := 14) rfl ok d_m_before_11 (by decide) (fun c1 => ?_) (fun c1 => ?_)
  · replace h := if_p c1 h
    obtain rfl := Option.some.inj h
    exact r_sub [2] rfl (show Wt X M 108 [(2, .int x.1)] [] from kx _ (hz _ rfl))
  · replace h := if_n c1 h
    refine r_aload_n (n := 15) rfl ok d_m_before_14 rfl 0 rfl ?_
    refine g_MOD_v (n := 18) rfl ok hG  k_986 d_m_before_15 ?_
    refine r_bipush (v := 10) (n := 20) rfl ok d_m_before_18 (by decide) ?_
    refine r_iload_n (n := 21) rfl ok d_m_before_20 rfl 3 rfl ?_
    refine r_iadd (n := 22) rfl ok d_m_before_21 ?_
    obtain ⟨g2, h⟩ := gd_ok h
    refine al_V (n := 23) rfl ok hG  g2 d_m_before_22 ?_
    refine r_aload_n (n := 24) rfl ok d_m_before_23 rfl 0 rfl ?_
    refine g_MOD_v (n := 27) rfl ok hG  k_986 d_m_before_24 ?_
    refine r_bipush (v := 10) (n := 29) rfl ok d_m_before_27 (by decide) ?_
    refine r_iload_n (n := 30) rfl ok d_m_before_29 rfl 1 rfl ?_
    refine r_iadd (n := 31) rfl ok d_m_before_30 ?_
    obtain ⟨g3, h⟩ := gd_ok h
    refine al_V (n := 32) rfl ok hG  g3 d_m_before_31 ?_
    refine r_icmp_ne (tgt := 86) (n := 35) rfl ok d_m_before_32 (by decide) (fun c4 => ?_) (fun c4 => ?_)
    · replace h := if_n c4 h
      refine r_iconst (v := 0) (n := 87) rfl ok d_m_before_86 (by decide) ?_
      refine r_istore (lv' := [(4, .int 0), (0, .ref (G.1 + 0)), (1, .int y1), (2, .int x.1), (3, .int x.2)]) (n := 89) rfl ok d_m_before_87 (lt_n hXn (Nat.le_of_ble_eq_true rfl)) rfl ?_
      refine r_iload_n (n := 90) rfl ok d_m_before_89 rfl 3 rfl ?_
      refine r_iload (n := 92) rfl ok d_m_before_90 0 rfl ?_
      refine r_if_eq (tgt := 99) (n := 95) rfl ok d_m_before_92 (by decide) (fun _ => ?_) (fun hc => absurd hc (by decide))
      refine r_iconst (v := 0) (n := 100) rfl ok d_m_before_99 (by decide) ?_
      refine r_iadd (n := 101) rfl ok d_m_before_100 ?_
      obtain ⟨x5, ex5, h⟩ := bd_ok h
      refine r_ti (Option.some.inj ex5).symm ?_
      refine r_istore_n (lv' := [(2, .int x5), (4, .int 0), (0, .ref (G.1 + 0)), (1, .int y1), (3, .int x.2)]) (n := 102) rfl ok d_m_before_101 rfl (lt_n hXn (Nat.le_of_ble_eq_true rfl)) rfl ?_
      obtain ⟨x6, ex6, h⟩ := bd_ok h
      refine r_iinc (lv' := [(3, .int x6), (2, .int x5), (4, .int 0), (0, .ref (G.1 + 0)), (1, .int y1)]) (n := 105) rfl ok d_m_before_102 4 rfl (Option.some.inj ex6) (lt_n hXn (Nat.le_of_ble_eq_true rfl)) rfl ?_
      refine r_goto (tgt := 4) ok d_m_before_105 (by decide) ?_
      obtain rfl := Option.some.inj h
      exact r_sub [3, 4, 1, 0] rfl (show Wt X M 4 [(0, .ref (G.1 + 0)), (1, .int y1), (2, .int x5), (3, .int x6)] [] from hk _ rfl)
    · replace h := if_p c4 h
      refine r_aload_n (n := 36) rfl ok d_m_before_35 rfl 0 rfl ?_
      refine g_MOD_v (n := 39) rfl ok hG  k_986 d_m_before_36 ?_
      refine r_bipush (v := 18) (n := 41) rfl ok d_m_before_39 (by decide) ?_
      refine r_iload_n (n := 42) rfl ok d_m_before_41 rfl 3 rfl ?_
      refine r_iadd (n := 43) rfl ok d_m_before_42 ?_
      obtain ⟨g7, h⟩ := gd_ok h
      refine al_V (n := 44) rfl ok hG  g7 d_m_before_43 ?_
      refine r_aload_n (n := 45) rfl ok d_m_before_44 rfl 0 rfl ?_
      refine g_MOD_v (n := 48) rfl ok hG  k_986 d_m_before_45 ?_
      refine r_bipush (v := 18) (n := 50) rfl ok d_m_before_48 (by decide) ?_
      refine r_iload_n (n := 51) rfl ok d_m_before_50 rfl 1 rfl ?_
      refine r_iadd (n := 52) rfl ok d_m_before_51 ?_
      obtain ⟨g8, h⟩ := gd_ok h
      refine al_V (n := 53) rfl ok hG  g8 d_m_before_52 ?_
      refine r_icmp_lt (tgt := 82) (n := 56) rfl ok d_m_before_53 (by decide) (fun c9 => ?_) (fun c9 => ?_)
      · replace h := if_p c9 h
        refine r_iconst (v := 1) (n := 83) rfl ok d_m_before_82 (by decide) ?_
        refine r_goto (tgt := 87) ok d_m_before_83 (by decide) ?_
        refine r_istore (lv' := [(4, .int 1), (0, .ref (G.1 + 0)), (1, .int y1), (2, .int x.1), (3, .int x.2)]) (n := 89) rfl ok d_m_before_87 (lt_n hXn (Nat.le_of_ble_eq_true rfl)) rfl ?_
        refine r_iload_n (n := 90) rfl ok d_m_before_89 rfl 3 rfl ?_
        refine r_iload (n := 92) rfl ok d_m_before_90 0 rfl ?_
        refine r_if_eq (tgt := 99) (n := 95) rfl ok d_m_before_92 (by decide) (fun hc => absurd hc (by decide)) (fun _ => ?_)
        refine r_iconst (v := 1) (n := 96) rfl ok d_m_before_95 (by decide) ?_
        refine r_goto (tgt := 100) ok d_m_before_96 (by decide) ?_
        refine r_iadd (n := 101) rfl ok d_m_before_100 ?_
        obtain ⟨x10, ex10, h⟩ := bd_ok h
        refine r_ti (Option.some.inj ex10).symm ?_
        refine r_istore_n (lv' := [(2, .int x10), (4, .int 1), (0, .ref (G.1 + 0)), (1, .int y1), (3, .int x.2)]) (n := 102) rfl ok d_m_before_101 rfl (lt_n hXn (Nat.le_of_ble_eq_true rfl)) rfl ?_
        obtain ⟨x11, ex11, h⟩ := bd_ok h
        refine r_iinc (lv' := [(3, .int x11), (2, .int x10), (4, .int 1), (0, .ref (G.1 + 0)), (1, .int y1)]) (n := 105) rfl ok d_m_before_102 4 rfl (Option.some.inj ex11) (lt_n hXn (Nat.le_of_ble_eq_true rfl)) rfl ?_
        refine r_goto (tgt := 4) ok d_m_before_105 (by decide) ?_
        obtain rfl := Option.some.inj h
        exact r_sub [3, 4, 1, 0] rfl (show Wt X M 4 [(0, .ref (G.1 + 0)), (1, .int y1), (2, .int x10), (3, .int x11)] [] from hk _ rfl)
      · replace h := if_n c9 h
        refine r_aload_n (n := 57) rfl ok d_m_before_56 rfl 0 rfl ?_
        refine g_MOD_v (n := 60) rfl ok hG  k_986 d_m_before_57 ?_
        refine r_bipush (v := 18) (n := 62) rfl ok d_m_before_60 (by decide) ?_
        refine r_iload_n (n := 63) rfl ok d_m_before_62 rfl 3 rfl ?_
        refine r_iadd (n := 64) rfl ok d_m_before_63 ?_
        obtain ⟨g12, h⟩ := gd_ok h
        refine al_V (n := 65) rfl ok hG  g12 d_m_before_64 ?_
        refine r_aload_n (n := 66) rfl ok d_m_before_65 rfl 0 rfl ?_
        refine g_MOD_v (n := 69) rfl ok hG  k_986 d_m_before_66 ?_
        refine r_bipush (v := 18) (n := 71) rfl ok d_m_before_69 (by decide) ?_
        refine r_iload_n (n := 72) rfl ok d_m_before_71 rfl 1 rfl ?_
        refine r_iadd (n := 73) rfl ok d_m_before_72 ?_
        obtain ⟨g13, h⟩ := gd_ok h
        refine al_V (n := 74) rfl ok hG  g13 d_m_before_73 ?_
        refine r_icmp_ne (tgt := 86) (n := 77) rfl ok d_m_before_74 (by decide) (fun c14 => ?_) (fun c14 => ?_)
        · replace h := if_n c14 h
          refine r_iconst (v := 0) (n := 87) rfl ok d_m_before_86 (by decide) ?_
          refine r_istore (lv' := [(4, .int 0), (0, .ref (G.1 + 0)), (1, .int y1), (2, .int x.1), (3, .int x.2)]) (n := 89) rfl ok d_m_before_87 (lt_n hXn (Nat.le_of_ble_eq_true rfl)) rfl ?_
          refine r_iload_n (n := 90) rfl ok d_m_before_89 rfl 3 rfl ?_
          refine r_iload (n := 92) rfl ok d_m_before_90 0 rfl ?_
          refine r_if_eq (tgt := 99) (n := 95) rfl ok d_m_before_92 (by decide) (fun _ => ?_) (fun hc => absurd hc (by decide))
          refine r_iconst (v := 0) (n := 100) rfl ok d_m_before_99 (by decide) ?_
          refine r_iadd (n := 101) rfl ok d_m_before_100 ?_
          obtain ⟨x15, ex15, h⟩ := bd_ok h
          refine r_ti (Option.some.inj ex15).symm ?_
          refine r_istore_n (lv' := [(2, .int x15), (4, .int 0), (0, .ref (G.1 + 0)), (1, .int y1), (3, .int x.2)]) (n := 102) rfl ok d_m_before_101 rfl (lt_n hXn (Nat.le_of_ble_eq_true rfl)) rfl ?_
          obtain ⟨x16, ex16, h⟩ := bd_ok h
          refine r_iinc (lv' := [(3, .int x16), (2, .int x15), (4, .int 0), (0, .ref (G.1 + 0)), (1, .int y1)]) (n := 105) rfl ok d_m_before_102 4 rfl (Option.some.inj ex16) (lt_n hXn (Nat.le_of_ble_eq_true rfl)) rfl ?_
          refine r_goto (tgt := 4) ok d_m_before_105 (by decide) ?_
          obtain rfl := Option.some.inj h
          exact r_sub [3, 4, 1, 0] rfl (show Wt X M 4 [(0, .ref (G.1 + 0)), (1, .int y1), (2, .int x15), (3, .int x16)] [] from hk _ rfl)
        · replace h := if_p c14 h
          refine r_iload_n (n := 78) rfl ok d_m_before_77 rfl 3 rfl ?_
          refine r_iload_n (n := 79) rfl ok d_m_before_78 rfl 1 rfl ?_
          refine r_icmp_ge (tgt := 86) (n := 82) rfl ok d_m_before_79 (by decide) (fun c17 => ?_) (fun c17 => ?_)
          · replace h := if_p c17 h
            refine r_iconst (v := 0) (n := 87) rfl ok d_m_before_86 (by decide) ?_
            refine r_istore (lv' := [(4, .int 0), (0, .ref (G.1 + 0)), (1, .int y1), (2, .int x.1), (3, .int x.2)]) (n := 89) rfl ok d_m_before_87 (lt_n hXn (Nat.le_of_ble_eq_true rfl)) rfl ?_
            refine r_iload_n (n := 90) rfl ok d_m_before_89 rfl 3 rfl ?_
            refine r_iload (n := 92) rfl ok d_m_before_90 0 rfl ?_
            refine r_if_eq (tgt := 99) (n := 95) rfl ok d_m_before_92 (by decide) (fun _ => ?_) (fun hc => absurd hc (by decide))
            refine r_iconst (v := 0) (n := 100) rfl ok d_m_before_99 (by decide) ?_
            refine r_iadd (n := 101) rfl ok d_m_before_100 ?_
            obtain ⟨x18, ex18, h⟩ := bd_ok h
            refine r_ti (Option.some.inj ex18).symm ?_
            refine r_istore_n (lv' := [(2, .int x18), (4, .int 0), (0, .ref (G.1 + 0)), (1, .int y1), (3, .int x.2)]) (n := 102) rfl ok d_m_before_101 rfl (lt_n hXn (Nat.le_of_ble_eq_true rfl)) rfl ?_
            obtain ⟨x19, ex19, h⟩ := bd_ok h
            refine r_iinc (lv' := [(3, .int x19), (2, .int x18), (4, .int 0), (0, .ref (G.1 + 0)), (1, .int y1)]) (n := 105) rfl ok d_m_before_102 4 rfl (Option.some.inj ex19) (lt_n hXn (Nat.le_of_ble_eq_true rfl)) rfl ?_
            refine r_goto (tgt := 4) ok d_m_before_105 (by decide) ?_
            obtain rfl := Option.some.inj h
            exact r_sub [3, 4, 1, 0] rfl (show Wt X M 4 [(0, .ref (G.1 + 0)), (1, .int y1), (2, .int x18), (3, .int x19)] [] from hk _ rfl)
          · replace h := if_n c17 h
            refine r_iconst (v := 1) (n := 83) rfl ok d_m_before_82 (by decide) ?_
            refine r_goto (tgt := 87) ok d_m_before_83 (by decide) ?_
            refine r_istore (lv' := [(4, .int 1), (0, .ref (G.1 + 0)), (1, .int y1), (2, .int x.1), (3, .int x.2)]) (n := 89) rfl ok d_m_before_87 (lt_n hXn (Nat.le_of_ble_eq_true rfl)) rfl ?_
            refine r_iload_n (n := 90) rfl ok d_m_before_89 rfl 3 rfl ?_
            refine r_iload (n := 92) rfl ok d_m_before_90 0 rfl ?_
            refine r_if_eq (tgt := 99) (n := 95) rfl ok d_m_before_92 (by decide) (fun hc => absurd hc (by decide)) (fun _ => ?_)
            refine r_iconst (v := 1) (n := 96) rfl ok d_m_before_95 (by decide) ?_
            refine r_goto (tgt := 100) ok d_m_before_96 (by decide) ?_
            refine r_iadd (n := 101) rfl ok d_m_before_100 ?_
            obtain ⟨x20, ex20, h⟩ := bd_ok h
            refine r_ti (Option.some.inj ex20).symm ?_
            refine r_istore_n (lv' := [(2, .int x20), (4, .int 1), (0, .ref (G.1 + 0)), (1, .int y1), (3, .int x.2)]) (n := 102) rfl ok d_m_before_101 rfl (lt_n hXn (Nat.le_of_ble_eq_true rfl)) rfl ?_
            obtain ⟨x21, ex21, h⟩ := bd_ok h
            refine r_iinc (lv' := [(3, .int x21), (2, .int x20), (4, .int 1), (0, .ref (G.1 + 0)), (1, .int y1)]) (n := 105) rfl ok d_m_before_102 4 rfl (Option.some.inj ex21) (lt_n hXn (Nat.le_of_ble_eq_true rfl)) rfl ?_
            refine r_goto (tgt := 4) ok d_m_before_105 (by decide) ?_
            obtain rfl := Option.some.inj h
            exact r_sub [3, 4, 1, 0] rfl (show Wt X M 4 [(0, .ref (G.1 + 0)), (1, .int y1), (2, .int x20), (3, .int x21)] [] from hk _ rfl)
set_option maxHeartbeats 4000000 in
set_option maxRecDepth 20000 in
theorem C_m_before {l : Launch} {G : Gt} {M : Me} {a1 : Int32}  {o : Int32} (h : f_m_before M a1 = some o) : Ct l G (WM G) (rM G) y_m_before b_m_before 5 (some .int) rm_m_before [.ref (G.1 + 0), .int a1] M (some (.int o)) M := by
  refine Ct.mk (own := "RetryChainsModel") rfl (by decide) (Nat.le_of_ble_eq_true rfl) ⟨_, rfl⟩ (fun X hXl hXR hXn ok hG fin => ?_)
  subst hXl
  unfold f_m_before at h
  show Wt X M 0 [(0, .ref (G.1 + 0)), (1, .int a1)] []
  refine r_iconst (v := 0) (n := 1) rfl ok d_m_before_0 (by decide) ?_
  refine r_istore_n (lv' := [(2, .int 0), (0, .ref (G.1 + 0)), (1, .int a1)]) (n := 2) rfl ok d_m_before_1 rfl (lt_n hXn (Nat.le_of_ble_eq_true rfl)) rfl ?_
  refine r_iconst (v := 0) (n := 3) rfl ok d_m_before_2 (by decide) ?_
  refine r_istore_n (lv' := [(3, .int 0), (2, .int 0), (0, .ref (G.1 + 0)), (1, .int a1)]) (n := 4) rfl ok d_m_before_3 rfl (lt_n hXn (Nat.le_of_ble_eq_true rfl)) rfl ?_
  obtain ⟨t22, ht22, h⟩ := bd_ok h
  refine r_sub [2, 3, 1, 0] rfl (show Wt X M 4 [(0, .ref (G.1 + 0)), (1, .int a1), (2, .int 0), (3, .int 0)] [] from w_m_before_4 ok hG hXR hXn  ?_ _ _ ht22)
  · intro e23 he
    subst he
    refine r_iload_n (n := 109) rfl ok d_m_before_108 rfl 0 rfl ?_
    obtain rfl := Option.some.inj h
    exact fin _ _ ⟨.int, rfl, rfl⟩ d_m_before_109
set_option maxHeartbeats 4000000 in
set_option maxRecDepth 20000 in
theorem w_m_atPlace_6 {X : Cx Me} {G : Gt} (ok : Ok X b_m_atPlace "RetryChainsModel") (hG : GM X G) (hXR : X.R = rm_m_atPlace) (hXn : X.nL = 5) {M : Me} {y1 : Int32} {y2 : Int32}  {t : Int32} (kx : ∀ e : Int32, e = t → Wt X M 54 [(3, .int e)] [])  : ∀ (n : Nat) (x : Int32 × Int32), lp n (b_m_atPlace_6 M y1 y2) x = some t → Wt X M 6 [(0, .ref (G.1 + 0)), (1, .int y1), (2, .int y2), (3, .int x.1), (4, .int x.2)] [] := by
  intro n x h
  refine lp_W (P := fun x => Wt X M 6 [(0, .ref (G.1 + 0)), (1, .int y1), (2, .int y2), (3, .int x.1), (4, .int x.2)] []) (Z := fun t' => t' = t) (fun x r h hk hz => ?_) n x t h rfl
  unfold b_m_atPlace_6 at h
  refine r_iload (n := 8) rfl ok d_m_atPlace_6 4 rfl ?_
  refine r_aload_n (n := 9) rfl ok d_m_atPlace_8 rfl 0 rfl ?_
  refine g_MOD_v (n := 12) rfl ok hG  k_986 d_m_atPlace_9 ?_
  refine r_iconst (v := 1) (n := 13) rfl ok d_m_atPlace_12 (by decide) ?_
  refine al_V (n := 14) rfl ok hG  (show gin 1 600 by decide) d_m_atPlace_13 ?_
  refine r_icmp_ge (tgt := 54) (n := 17) rfl ok d_m_atPlace_14 (by decide) (fun c1 => ?_) (fun c1 => ?_)
  · replace h := if_p c1 h
    obtain rfl := Option.some.inj h
    exact r_sub [3] rfl (show Wt X M 54 [(3, .int x.1)] [] from kx _ (hz _ rfl))
  · replace h := if_n c1 h
    refine r_aload_n (n := 18) rfl ok d_m_atPlace_17 rfl 0 rfl ?_
    refine g_MOD_v (n := 21) rfl ok hG  k_986 d_m_atPlace_18 ?_
    refine r_bipush (v := 10) (n := 23) rfl ok d_m_atPlace_21 (by decide) ?_
    refine r_iload (n := 25) rfl ok d_m_atPlace_23 4 rfl ?_
    refine r_iadd (n := 26) rfl ok d_m_atPlace_25 ?_
    obtain ⟨g2, h⟩ := gd_ok h
    refine al_V (n := 27) rfl ok hG  g2 d_m_atPlace_26 ?_
    refine r_iload_n (n := 28) rfl ok d_m_atPlace_27 rfl 1 rfl ?_
    refine r_icmp_ne (tgt := 46) (n := 31) rfl ok d_m_atPlace_28 (by decide) (fun c3 => ?_) (fun c3 => ?_)
    · replace h := if_n c3 h
      refine r_iload_n (n := 47) rfl ok d_m_atPlace_46 rfl 3 rfl ?_
      refine r_istore_n (lv' := [(3, .int x.1), (0, .ref (G.1 + 0)), (1, .int y1), (2, .int y2), (4, .int x.2)]) (n := 48) rfl ok d_m_atPlace_47 rfl (lt_n hXn (Nat.le_of_ble_eq_true rfl)) rfl ?_
      obtain ⟨x4, ex4, h⟩ := bd_ok h
      refine r_iinc (lv' := [(4, .int x4), (3, .int x.1), (0, .ref (G.1 + 0)), (1, .int y1), (2, .int y2)]) (n := 51) rfl ok d_m_atPlace_48 4 rfl (Option.some.inj ex4) (lt_n hXn (Nat.le_of_ble_eq_true rfl)) rfl ?_
      refine r_goto (tgt := 6) ok d_m_atPlace_51 (by decide) ?_
      obtain rfl := Option.some.inj h
      exact r_sub [2, 3, 4, 1, 0] rfl (show Wt X M 6 [(0, .ref (G.1 + 0)), (1, .int y1), (2, .int y2), (3, .int x.1), (4, .int x4)] [] from hk _ rfl)
    · replace h := if_p c3 h
      refine r_aload_n (n := 32) rfl ok d_m_atPlace_31 rfl 0 rfl ?_
      refine r_iload (n := 34) rfl ok d_m_atPlace_32 4 rfl ?_
      obtain ⟨r5, hr5, h⟩ := bd_ok h
      refine r_callV (n := 37) rfl ok hG mf_m_before k_1365 ks_68 k_1363 (C_m_before  hr5) ⟨rfl, rfl⟩ (rR hXR ⟨Nat.le_of_ble_eq_true rfl, Nat.le_of_ble_eq_true rfl⟩) rfl rfl (rv_MOD) rfl (Nat.le_of_ble_eq_true rfl) d_m_atPlace_34 ?_
      refine r_iload_n (n := 38) rfl ok d_m_atPlace_37 rfl 2 rfl ?_
      refine r_icmp_ne (tgt := 46) (n := 41) rfl ok d_m_atPlace_38 (by decide) (fun c6 => ?_) (fun c6 => ?_)
      · replace h := if_n c6 h
        refine r_iload_n (n := 47) rfl ok d_m_atPlace_46 rfl 3 rfl ?_
        refine r_istore_n (lv' := [(3, .int x.1), (0, .ref (G.1 + 0)), (1, .int y1), (2, .int y2), (4, .int x.2)]) (n := 48) rfl ok d_m_atPlace_47 rfl (lt_n hXn (Nat.le_of_ble_eq_true rfl)) rfl ?_
        obtain ⟨x7, ex7, h⟩ := bd_ok h
        refine r_iinc (lv' := [(4, .int x7), (3, .int x.1), (0, .ref (G.1 + 0)), (1, .int y1), (2, .int y2)]) (n := 51) rfl ok d_m_atPlace_48 4 rfl (Option.some.inj ex7) (lt_n hXn (Nat.le_of_ble_eq_true rfl)) rfl ?_
        refine r_goto (tgt := 6) ok d_m_atPlace_51 (by decide) ?_
        obtain rfl := Option.some.inj h
        exact r_sub [2, 3, 4, 1, 0] rfl (show Wt X M 6 [(0, .ref (G.1 + 0)), (1, .int y1), (2, .int y2), (3, .int x.1), (4, .int x7)] [] from hk _ rfl)
      · replace h := if_p c6 h
        refine r_iload (n := 43) rfl ok d_m_atPlace_41 4 rfl ?_
        refine r_goto (tgt := 47) ok d_m_atPlace_43 (by decide) ?_
        refine r_istore_n (lv' := [(3, .int x.2), (0, .ref (G.1 + 0)), (1, .int y1), (2, .int y2), (4, .int x.2)]) (n := 48) rfl ok d_m_atPlace_47 rfl (lt_n hXn (Nat.le_of_ble_eq_true rfl)) rfl ?_
        obtain ⟨x8, ex8, h⟩ := bd_ok h
        refine r_iinc (lv' := [(4, .int x8), (3, .int x.2), (0, .ref (G.1 + 0)), (1, .int y1), (2, .int y2)]) (n := 51) rfl ok d_m_atPlace_48 4 rfl (Option.some.inj ex8) (lt_n hXn (Nat.le_of_ble_eq_true rfl)) rfl ?_
        refine r_goto (tgt := 6) ok d_m_atPlace_51 (by decide) ?_
        obtain rfl := Option.some.inj h
        exact r_sub [2, 3, 4, 1, 0] rfl (show Wt X M 6 [(0, .ref (G.1 + 0)), (1, .int y1), (2, .int y2), (3, .int x.2), (4, .int x8)] [] from hk _ rfl)
set_option maxHeartbeats 4000000 in
set_option maxRecDepth 20000 in
theorem C_m_atPlace {l : Launch} {G : Gt} {M : Me} {a1 : Int32} {a2 : Int32}  {o : Int32} (h : f_m_atPlace M a1 a2 = some o) : Ct l G (WM G) (rM G) y_m_atPlace b_m_atPlace 5 (some .int) rm_m_atPlace [.ref (G.1 + 0), .int a1, .int a2] M (some (.int o)) M := by
  refine Ct.mk (own := "RetryChainsModel") rfl (by decide) (Nat.le_of_ble_eq_true rfl) ⟨_, rfl⟩ (fun X hXl hXR hXn ok hG fin => ?_)
  subst hXl
  unfold f_m_atPlace at h
  show Wt X M 0 [(0, .ref (G.1 + 0)), (1, .int a1), (2, .int a2)] []
  refine r_bipush (v := (-9)) (n := 2) rfl ok d_m_atPlace_0 (by decide) ?_
  refine r_istore_n (lv' := [(3, .int (-9)), (0, .ref (G.1 + 0)), (1, .int a1), (2, .int a2)]) (n := 3) rfl ok d_m_atPlace_2 rfl (lt_n hXn (Nat.le_of_ble_eq_true rfl)) rfl ?_
  refine r_iconst (v := 0) (n := 4) rfl ok d_m_atPlace_3 (by decide) ?_
  refine r_istore (lv' := [(4, .int 0), (3, .int (-9)), (0, .ref (G.1 + 0)), (1, .int a1), (2, .int a2)]) (n := 6) rfl ok d_m_atPlace_4 (lt_n hXn (Nat.le_of_ble_eq_true rfl)) rfl ?_
  obtain ⟨t9, ht9, h⟩ := bd_ok h
  refine r_sub [2, 3, 4, 1, 0] rfl (show Wt X M 6 [(0, .ref (G.1 + 0)), (1, .int a1), (2, .int a2), (3, .int (-9)), (4, .int 0)] [] from w_m_atPlace_6 ok hG hXR hXn  ?_ _ _ ht9)
  · intro e10 he
    subst he
    refine r_iload_n (n := 55) rfl ok d_m_atPlace_54 rfl 0 rfl ?_
    obtain rfl := Option.some.inj h
    exact fin _ _ ⟨.int, rfl, rfl⟩ d_m_atPlace_55
set_option maxHeartbeats 4000000 in
set_option maxRecDepth 20000 in
theorem C_m_rateOfMode {l : Launch} {G : Gt} {M : Me} {a1 : Int32} {a2 : Int32}  {o : Int32} (h : f_m_rateOfMode M a1 a2 = some o) : Ct l G (WM G) (rM G) y_m_rateOfMode b_m_rateOfMode 3 (some .int) rm_m_rateOfMode [.ref (G.1 + 0), .int a1, .int a2] M (some (.int o)) M := by
  refine Ct.mk (own := "RetryChainsModel") rfl (by decide) (Nat.le_of_ble_eq_true rfl) ⟨_, rfl⟩ (fun X hXl hXR hXn ok hG fin => ?_)
  subst hXl
  unfold f_m_rateOfMode at h
  show Wt X M 0 [(0, .ref (G.1 + 0)), (1, .int a1), (2, .int a2)] []
  refine r_iload_n (n := 1) rfl ok d_m_rateOfMode_0 rfl 1 rfl ?_
  refine r_iconst (v := 0) (n := 2) rfl ok d_m_rateOfMode_1 (by decide) ?_
  refine r_iconst (v := 2) (n := 3) rfl ok d_m_rateOfMode_2 (by decide) ?_
  obtain ⟨r1, hr1, h⟩ := bd_ok h
  refine r_callS (n := 6) rfl ok hG mf_m_in k_1016 k_1015 (C_m_in  hr1) ⟨rfl, rfl⟩ (rR hXR ⟨Nat.le_of_ble_eq_true rfl, Nat.le_of_ble_eq_true rfl⟩) rfl rfl (Nat.le_of_ble_eq_true rfl) d_m_rateOfMode_3 ?_
  refine r_if_eq (tgt := 22) (n := 9) rfl ok d_m_rateOfMode_6 (by decide) (fun c2 => ?_) (fun c2 => ?_)
  · replace h := if_p c2 h
    refine r_iconst (v := (-1)) (n := 23) rfl ok d_m_rateOfMode_22 (by decide) ?_
    obtain rfl := Option.some.inj h
    exact fin _ _ ⟨.int, rfl, rfl⟩ d_m_rateOfMode_23
  · replace h := if_n c2 h
    refine r_iload_n (n := 10) rfl ok d_m_rateOfMode_9 rfl 2 rfl ?_
    refine r_if_lt (tgt := 22) (n := 13) rfl ok d_m_rateOfMode_10 (by decide) (fun c3 => ?_) (fun c3 => ?_)
    · replace h := if_p c3 h
      refine r_iconst (v := (-1)) (n := 23) rfl ok d_m_rateOfMode_22 (by decide) ?_
      obtain rfl := Option.some.inj h
      exact fin _ _ ⟨.int, rfl, rfl⟩ d_m_rateOfMode_23
    · replace h := if_n c3 h
      refine r_aload_n (n := 14) rfl ok d_m_rateOfMode_13 rfl 0 rfl ?_
      refine r_iload_n (n := 15) rfl ok d_m_rateOfMode_14 rfl 1 rfl ?_
      refine r_iload_n (n := 16) rfl ok d_m_rateOfMode_15 rfl 2 rfl ?_
      obtain ⟨r4, hr4, h⟩ := bd_ok h
      refine r_callV (n := 19) rfl ok hG mf_m_atPlace k_1361 ks_67 k_1359 (C_m_atPlace  hr4) ⟨rfl, rfl⟩ (rR hXR ⟨Nat.le_of_ble_eq_true rfl, Nat.le_of_ble_eq_true rfl⟩) rfl rfl (rv_MOD) rfl (Nat.le_of_ble_eq_true rfl) d_m_rateOfMode_16 ?_
      refine r_goto (tgt := 23) ok d_m_rateOfMode_19 (by decide) ?_
      obtain rfl := Option.some.inj h
      exact fin _ _ ⟨.int, rfl, rfl⟩ d_m_rateOfMode_23
set_option maxHeartbeats 4000000 in
set_option maxRecDepth 20000 in
theorem w_m_bestOfMode_25 {X : Cx Me} {G : Gt} (ok : Ok X b_m_bestOfMode "RetryChainsModel") (hG : GM X G) (hXR : X.R = rm_m_bestOfMode) (hXn : X.nL = 6) {M : Me} {y1 : Int32} {y2 : Int32}  {t : Int32} (kx : ∀ e : Int32, e = t → Wt X M 89 [(3, .int e)] [])  : ∀ (n : Nat) (x : Int32 × Int32), lp n (b_m_bestOfMode_25 M y1 y2) x = some t → Wt X M 25 [(0, .ref (G.1 + 0)), (1, .int y1), (2, .int y2), (3, .int x.1), (4, .int x.2)] [] := by
  intro n x h
  refine lp_W (P := fun x => Wt X M 25 [(0, .ref (G.1 + 0)), (1, .int y1), (2, .int y2), (3, .int x.1), (4, .int x.2)] []) (Z := fun t' => t' = t) (fun x r h hk hz => ?_) n x t h rfl
  unfold b_m_bestOfMode_25 at h
  refine r_iload (n := 27) rfl ok d_m_bestOfMode_25 4 rfl ?_
  refine r_bipush (v := 8) (n := 29) rfl ok d_m_bestOfMode_27 (by decide) ?_
  refine r_icmp_ge (tgt := 89) (n := 32) rfl ok d_m_bestOfMode_29 (by decide) (fun c5 => ?_) (fun c5 => ?_)
  · replace h := if_p c5 h
    obtain rfl := Option.some.inj h
    exact r_sub [3] rfl (show Wt X M 89 [(3, .int x.1)] [] from kx _ (hz _ rfl))
  · replace h := if_n c5 h
    refine r_aload_n (n := 33) rfl ok d_m_bestOfMode_32 rfl 0 rfl ?_
    refine r_iload_n (n := 34) rfl ok d_m_bestOfMode_33 rfl 2 rfl ?_
    refine r_iload (n := 36) rfl ok d_m_bestOfMode_34 4 rfl ?_
    obtain ⟨r6, hr6, h⟩ := bd_ok h
    refine r_callV (n := 39) rfl ok hG mf_m_atPlace k_1361 ks_67 k_1359 (C_m_atPlace  hr6) ⟨rfl, rfl⟩ (rR hXR ⟨Nat.le_of_ble_eq_true rfl, Nat.le_of_ble_eq_true rfl⟩) rfl rfl (rv_MOD) rfl (Nat.le_of_ble_eq_true rfl) d_m_bestOfMode_36 ?_
    refine r_istore (lv' := [(5, .int r6), (0, .ref (G.1 + 0)), (1, .int y1), (2, .int y2), (3, .int x.1), (4, .int x.2)]) (n := 41) rfl ok d_m_bestOfMode_39 (lt_n hXn (Nat.le_of_ble_eq_true rfl)) rfl ?_
    refine r_iload (n := 43) rfl ok d_m_bestOfMode_41 0 rfl ?_
    refine r_bipush (v := (-9)) (n := 45) rfl ok d_m_bestOfMode_43 (by decide) ?_
    refine r_icmp_eq (tgt := 83) (n := 48) rfl ok d_m_bestOfMode_45 (by decide) (fun c7 => ?_) (fun c7 => ?_)
    · replace h := if_p c7 h
      obtain ⟨x8, ex8, h⟩ := bd_ok h
      refine r_iinc (lv' := [(4, .int x8), (5, .int r6), (0, .ref (G.1 + 0)), (1, .int y1), (2, .int y2), (3, .int x.1)]) (n := 86) rfl ok d_m_bestOfMode_83 5 rfl (Option.some.inj ex8) (lt_n hXn (Nat.le_of_ble_eq_true rfl)) rfl ?_
      refine r_goto (tgt := 25) ok d_m_bestOfMode_86 (by decide) ?_
      obtain rfl := Option.some.inj h
      exact r_sub [2, 3, 4, 5, 0] rfl (show Wt X M 25 [(0, .ref (G.1 + 0)), (1, .int y1), (2, .int y2), (3, .int x.1), (4, .int x8)] [] from hk _ rfl)
    · replace h := if_n c7 h
      refine r_aload_n (n := 49) rfl ok d_m_bestOfMode_48 rfl 1 rfl ?_
      refine r_iload_n (n := 50) rfl ok d_m_bestOfMode_49 rfl 2 rfl ?_
      refine r_iload (n := 52) rfl ok d_m_bestOfMode_50 0 rfl ?_
      obtain ⟨r9, hr9, h⟩ := bd_ok h
      refine r_callV (n := 55) rfl ok hG mf_m_allows k_1042 ks_19 k_1040 (C_m_allows  hr9) ⟨rfl, rfl⟩ (rR hXR ⟨Nat.le_of_ble_eq_true rfl, Nat.le_of_ble_eq_true rfl⟩) rfl rfl (rv_MOD) rfl (Nat.le_of_ble_eq_true rfl) d_m_bestOfMode_52 ?_
      refine r_if_eq (tgt := 83) (n := 58) rfl ok d_m_bestOfMode_55 (by decide) (fun c10 => ?_) (fun c10 => ?_)
      · replace h := if_p c10 h
        obtain ⟨x11, ex11, h⟩ := bd_ok h
        refine r_iinc (lv' := [(4, .int x11), (5, .int r6), (0, .ref (G.1 + 0)), (1, .int y1), (2, .int y2), (3, .int x.1)]) (n := 86) rfl ok d_m_bestOfMode_83 5 rfl (Option.some.inj ex11) (lt_n hXn (Nat.le_of_ble_eq_true rfl)) rfl ?_
        refine r_goto (tgt := 25) ok d_m_bestOfMode_86 (by decide) ?_
        obtain rfl := Option.some.inj h
        exact r_sub [2, 3, 4, 5, 0] rfl (show Wt X M 25 [(0, .ref (G.1 + 0)), (1, .int y1), (2, .int y2), (3, .int x.1), (4, .int x11)] [] from hk _ rfl)
      · replace h := if_n c10 h
        refine r_iload_n (n := 59) rfl ok d_m_bestOfMode_58 rfl 4 rfl ?_
        refine r_bipush (v := (-9)) (n := 61) rfl ok d_m_bestOfMode_59 (by decide) ?_
        refine r_icmp_eq (tgt := 80) (n := 64) rfl ok d_m_bestOfMode_61 (by decide) (fun c12 => ?_) (fun c12 => ?_)
        · replace h := if_p c12 h
          refine r_iload (n := 82) rfl ok d_m_bestOfMode_80 0 rfl ?_
          refine r_istore_n (lv' := [(3, .int r6), (5, .int r6), (0, .ref (G.1 + 0)), (1, .int y1), (2, .int y2), (4, .int x.2)]) (n := 83) rfl ok d_m_bestOfMode_82 rfl (lt_n hXn (Nat.le_of_ble_eq_true rfl)) rfl ?_
          obtain ⟨x13, ex13, h⟩ := bd_ok h
          refine r_iinc (lv' := [(4, .int x13), (3, .int r6), (5, .int r6), (0, .ref (G.1 + 0)), (1, .int y1), (2, .int y2)]) (n := 86) rfl ok d_m_bestOfMode_83 5 rfl (Option.some.inj ex13) (lt_n hXn (Nat.le_of_ble_eq_true rfl)) rfl ?_
          refine r_goto (tgt := 25) ok d_m_bestOfMode_86 (by decide) ?_
          obtain rfl := Option.some.inj h
          exact r_sub [3, 4, 5, 1, 0] rfl (show Wt X M 25 [(0, .ref (G.1 + 0)), (1, .int y1), (2, .int y2), (3, .int r6), (4, .int x13)] [] from hk _ rfl)
        · replace h := if_n c12 h
          refine r_aload_n (n := 65) rfl ok d_m_bestOfMode_64 rfl 1 rfl ?_
          refine r_iload_n (n := 66) rfl ok d_m_bestOfMode_65 rfl 2 rfl ?_
          refine r_iload (n := 68) rfl ok d_m_bestOfMode_66 0 rfl ?_
          obtain ⟨r14, hr14, h⟩ := bd_ok h
          refine r_callV (n := 71) rfl ok hG mf_m_valueOf k_1054 ks_22 k_1052 (C_m_valueOf  hr14) ⟨rfl, rfl⟩ (rR hXR ⟨Nat.le_of_ble_eq_true rfl, Nat.le_of_ble_eq_true rfl⟩) rfl rfl (rv_MOD) rfl (Nat.le_of_ble_eq_true rfl) d_m_bestOfMode_68 ?_
          refine r_aload_n (n := 72) rfl ok d_m_bestOfMode_71 rfl 1 rfl ?_
          refine r_iload_n (n := 73) rfl ok d_m_bestOfMode_72 rfl 2 rfl ?_
          refine r_iload_n (n := 74) rfl ok d_m_bestOfMode_73 rfl 4 rfl ?_
          obtain ⟨r15, hr15, h⟩ := bd_ok h
          refine r_callV (n := 77) rfl ok hG mf_m_valueOf k_1054 ks_22 k_1052 (C_m_valueOf  hr15) ⟨rfl, rfl⟩ (rR hXR ⟨Nat.le_of_ble_eq_true rfl, Nat.le_of_ble_eq_true rfl⟩) rfl rfl (rv_MOD) rfl (Nat.le_of_ble_eq_true rfl) d_m_bestOfMode_74 ?_
          refine r_icmp_le (tgt := 83) (n := 80) rfl ok d_m_bestOfMode_77 (by decide) (fun c16 => ?_) (fun c16 => ?_)
          · replace h := if_p c16 h
            obtain ⟨x17, ex17, h⟩ := bd_ok h
            refine r_iinc (lv' := [(4, .int x17), (5, .int r6), (0, .ref (G.1 + 0)), (1, .int y1), (2, .int y2), (3, .int x.1)]) (n := 86) rfl ok d_m_bestOfMode_83 5 rfl (Option.some.inj ex17) (lt_n hXn (Nat.le_of_ble_eq_true rfl)) rfl ?_
            refine r_goto (tgt := 25) ok d_m_bestOfMode_86 (by decide) ?_
            obtain rfl := Option.some.inj h
            exact r_sub [2, 3, 4, 5, 0] rfl (show Wt X M 25 [(0, .ref (G.1 + 0)), (1, .int y1), (2, .int y2), (3, .int x.1), (4, .int x17)] [] from hk _ rfl)
          · replace h := if_n c16 h
            refine r_iload (n := 82) rfl ok d_m_bestOfMode_80 0 rfl ?_
            refine r_istore_n (lv' := [(3, .int r6), (5, .int r6), (0, .ref (G.1 + 0)), (1, .int y1), (2, .int y2), (4, .int x.2)]) (n := 83) rfl ok d_m_bestOfMode_82 rfl (lt_n hXn (Nat.le_of_ble_eq_true rfl)) rfl ?_
            obtain ⟨x18, ex18, h⟩ := bd_ok h
            refine r_iinc (lv' := [(4, .int x18), (3, .int r6), (5, .int r6), (0, .ref (G.1 + 0)), (1, .int y1), (2, .int y2)]) (n := 86) rfl ok d_m_bestOfMode_83 5 rfl (Option.some.inj ex18) (lt_n hXn (Nat.le_of_ble_eq_true rfl)) rfl ?_
            refine r_goto (tgt := 25) ok d_m_bestOfMode_86 (by decide) ?_
            obtain rfl := Option.some.inj h
            exact r_sub [3, 4, 5, 1, 0] rfl (show Wt X M 25 [(0, .ref (G.1 + 0)), (1, .int y1), (2, .int y2), (3, .int r6), (4, .int x18)] [] from hk _ rfl)
set_option maxHeartbeats 4000000 in
set_option maxRecDepth 20000 in
theorem C_m_bestOfMode {l : Launch} {G : Gt} {M : Me} {a1 : Int32} {a2 : Int32}  {o : Int32} (h : f_m_bestOfMode M a1 a2 = some o) : Ct l G (WM G) (rM G) y_m_bestOfMode b_m_bestOfMode 6 (some .int) rm_m_bestOfMode [.ref (G.1 + 0), .int a1, .int a2] M (some (.int o)) M := by
  refine Ct.mk (own := "RetryChainsModel") rfl (by decide) (Nat.le_of_ble_eq_true rfl) ⟨_, rfl⟩ (fun X hXl hXR hXn ok hG fin => ?_)
  subst hXl
  unfold f_m_bestOfMode at h
  show Wt X M 0 [(0, .ref (G.1 + 0)), (1, .int a1), (2, .int a2)] []
  refine r_aload_n (n := 1) rfl ok d_m_bestOfMode_0 rfl 0 rfl ?_
  refine r_iload_n (n := 2) rfl ok d_m_bestOfMode_1 rfl 1 rfl ?_
  obtain ⟨r1, hr1, h⟩ := bd_ok h
  refine r_callV (n := 5) rfl ok hG mf_m_isStation k_1096 ks_29 k_1094 (C_m_isStation  hr1) ⟨rfl, rfl⟩ (rR hXR ⟨Nat.le_of_ble_eq_true rfl, Nat.le_of_ble_eq_true rfl⟩) rfl rfl (rv_MOD) rfl (Nat.le_of_ble_eq_true rfl) d_m_bestOfMode_2 ?_
  refine r_if_eq (tgt := 17) (n := 8) rfl ok d_m_bestOfMode_5 (by decide) (fun c2 => ?_) (fun c2 => ?_)
  · replace h := if_p c2 h
    refine r_iconst (v := (-1)) (n := 18) rfl ok d_m_bestOfMode_17 (by decide) ?_
    obtain rfl := Option.some.inj h
    exact fin _ _ ⟨.int, rfl, rfl⟩ d_m_bestOfMode_18
  · replace h := if_n c2 h
    refine r_iload_n (n := 9) rfl ok d_m_bestOfMode_8 rfl 2 rfl ?_
    refine r_iconst (v := 0) (n := 10) rfl ok d_m_bestOfMode_9 (by decide) ?_
    refine r_iconst (v := 2) (n := 11) rfl ok d_m_bestOfMode_10 (by decide) ?_
    obtain ⟨r3, hr3, h⟩ := bd_ok h
    refine r_callS (n := 14) rfl ok hG mf_m_in k_1016 k_1015 (C_m_in  hr3) ⟨rfl, rfl⟩ (rR hXR ⟨Nat.le_of_ble_eq_true rfl, Nat.le_of_ble_eq_true rfl⟩) rfl rfl (Nat.le_of_ble_eq_true rfl) d_m_bestOfMode_11 ?_
    refine r_if_ne (tgt := 19) (n := 17) rfl ok d_m_bestOfMode_14 (by decide) (fun c4 => ?_) (fun c4 => ?_)
    · replace h := if_n c4 h
      refine r_bipush (v := (-9)) (n := 21) rfl ok d_m_bestOfMode_19 (by decide) ?_
      refine r_istore_n (lv' := [(3, .int (-9)), (0, .ref (G.1 + 0)), (1, .int a1), (2, .int a2)]) (n := 22) rfl ok d_m_bestOfMode_21 rfl (lt_n hXn (Nat.le_of_ble_eq_true rfl)) rfl ?_
      refine r_iconst (v := 0) (n := 23) rfl ok d_m_bestOfMode_22 (by decide) ?_
      refine r_istore (lv' := [(4, .int 0), (3, .int (-9)), (0, .ref (G.1 + 0)), (1, .int a1), (2, .int a2)]) (n := 25) rfl ok d_m_bestOfMode_23 (lt_n hXn (Nat.le_of_ble_eq_true rfl)) rfl ?_
      obtain ⟨t19, ht19, h⟩ := bd_ok h
      refine r_sub [2, 3, 4, 1, 0] rfl (show Wt X M 25 [(0, .ref (G.1 + 0)), (1, .int a1), (2, .int a2), (3, .int (-9)), (4, .int 0)] [] from w_m_bestOfMode_25 ok hG hXR hXn  ?_ _ _ ht19)
      · intro e20 he
        subst he
        refine r_iload_n (n := 90) rfl ok d_m_bestOfMode_89 rfl 0 rfl ?_
        obtain rfl := Option.some.inj h
        exact fin _ _ ⟨.int, rfl, rfl⟩ d_m_bestOfMode_90
    · replace h := if_p c4 h
      refine r_iconst (v := (-1)) (n := 18) rfl ok d_m_bestOfMode_17 (by decide) ?_
      obtain rfl := Option.some.inj h
      exact fin _ _ ⟨.int, rfl, rfl⟩ d_m_bestOfMode_18
set_option maxHeartbeats 4000000 in
set_option maxRecDepth 20000 in
theorem w_m_mostUsed_15 {X : Cx Me} {G : Gt} (ok : Ok X b_m_mostUsed "RetryChainsModel") (hG : GM X G) (hXR : X.R = rm_m_mostUsed) (hXn : X.nL = 5) {M : Me} {y1 : Int32}  {t : Int32} (kx : ∀ e : Int32, e = t → Wt X M 75 [(2, .int e)] [])  : ∀ (n : Nat) (x : Int32 × Int32), lp n (b_m_mostUsed_15 M y1) x = some t → Wt X M 15 [(0, .ref (G.1 + 0)), (1, .int y1), (2, .int x.1), (3, .int x.2)] [] := by
  intro n x h
  refine lp_W (P := fun x => Wt X M 15 [(0, .ref (G.1 + 0)), (1, .int y1), (2, .int x.1), (3, .int x.2)] []) (Z := fun t' => t' = t) (fun x r h hk hz => ?_) n x t h rfl
  unfold b_m_mostUsed_15 at h
  refine r_iload_n (n := 16) rfl ok d_m_mostUsed_15 rfl 3 rfl ?_
  refine r_aload_n (n := 17) rfl ok d_m_mostUsed_16 rfl 0 rfl ?_
  refine g_MOD_v (n := 20) rfl ok hG  k_986 d_m_mostUsed_17 ?_
  refine r_iconst (v := 1) (n := 21) rfl ok d_m_mostUsed_20 (by decide) ?_
  refine al_V (n := 22) rfl ok hG  (show gin 1 600 by decide) d_m_mostUsed_21 ?_
  refine r_icmp_ge (tgt := 75) (n := 25) rfl ok d_m_mostUsed_22 (by decide) (fun c3 => ?_) (fun c3 => ?_)
  · replace h := if_p c3 h
    obtain rfl := Option.some.inj h
    exact r_sub [2] rfl (show Wt X M 75 [(2, .int x.1)] [] from kx _ (hz _ rfl))
  · replace h := if_n c3 h
    refine r_aload_n (n := 26) rfl ok d_m_mostUsed_25 rfl 0 rfl ?_
    refine g_MOD_v (n := 29) rfl ok hG  k_986 d_m_mostUsed_26 ?_
    refine r_iload_n (n := 30) rfl ok d_m_mostUsed_29 rfl 1 rfl ?_
    refine r_iload_n (n := 31) rfl ok d_m_mostUsed_30 rfl 3 rfl ?_
    obtain ⟨r4, hr4, h⟩ := bd_ok h
    refine r_callS (n := 34) rfl ok hG mf_m_pair k_1027 k_1026 (C_m_pair  hr4) ⟨rfl, rfl⟩ (rR hXR ⟨Nat.le_of_ble_eq_true rfl, Nat.le_of_ble_eq_true rfl⟩) rfl rfl (Nat.le_of_ble_eq_true rfl) d_m_mostUsed_31 ?_
    refine r_iconst (v := 4) (n := 35) rfl ok d_m_mostUsed_34 (by decide) ?_
    refine r_iadd (n := 36) rfl ok d_m_mostUsed_35 ?_
    obtain ⟨g5, h⟩ := gd_ok h
    refine al_V (n := 37) rfl ok hG  g5 d_m_mostUsed_36 ?_
    refine r_istore (lv' := [(4, .int (M.1 100 0 0 (tN (r4 + (4 : Int32))))), (0, .ref (G.1 + 0)), (1, .int y1), (2, .int x.1), (3, .int x.2)]) (n := 39) rfl ok d_m_mostUsed_37 (lt_n hXn (Nat.le_of_ble_eq_true rfl)) rfl ?_
    refine r_iload (n := 41) rfl ok d_m_mostUsed_39 0 rfl ?_
    refine r_if_le (tgt := 69) (n := 44) rfl ok d_m_mostUsed_41 (by decide) (fun c6 => ?_) (fun c6 => ?_)
    · replace h := if_p c6 h
      obtain ⟨x7, ex7, h⟩ := bd_ok h
      refine r_iinc (lv' := [(3, .int x7), (4, .int (M.1 100 0 0 (tN (r4 + (4 : Int32))))), (0, .ref (G.1 + 0)), (1, .int y1), (2, .int x.1)]) (n := 72) rfl ok d_m_mostUsed_69 4 rfl (Option.some.inj ex7) (lt_n hXn (Nat.le_of_ble_eq_true rfl)) rfl ?_
      refine r_goto (tgt := 15) ok d_m_mostUsed_72 (by decide) ?_
      obtain rfl := Option.some.inj h
      exact r_sub [2, 3, 4, 0] rfl (show Wt X M 15 [(0, .ref (G.1 + 0)), (1, .int y1), (2, .int x.1), (3, .int x7)] [] from hk _ rfl)
    · replace h := if_n c6 h
      refine r_iload_n (n := 45) rfl ok d_m_mostUsed_44 rfl 3 rfl ?_
      refine r_bipush (v := (-9)) (n := 47) rfl ok d_m_mostUsed_45 (by decide) ?_
      refine r_icmp_eq (tgt := 67) (n := 50) rfl ok d_m_mostUsed_47 (by decide) (fun c8 => ?_) (fun c8 => ?_)
      · replace h := if_p c8 h
        refine r_iload_n (n := 68) rfl ok d_m_mostUsed_67 rfl 4 rfl ?_
        refine r_istore_n (lv' := [(2, .int x.2), (4, .int (M.1 100 0 0 (tN (r4 + (4 : Int32))))), (0, .ref (G.1 + 0)), (1, .int y1), (3, .int x.2)]) (n := 69) rfl ok d_m_mostUsed_68 rfl (lt_n hXn (Nat.le_of_ble_eq_true rfl)) rfl ?_
        obtain ⟨x9, ex9, h⟩ := bd_ok h
        refine r_iinc (lv' := [(3, .int x9), (2, .int x.2), (4, .int (M.1 100 0 0 (tN (r4 + (4 : Int32))))), (0, .ref (G.1 + 0)), (1, .int y1)]) (n := 72) rfl ok d_m_mostUsed_69 4 rfl (Option.some.inj ex9) (lt_n hXn (Nat.le_of_ble_eq_true rfl)) rfl ?_
        refine r_goto (tgt := 15) ok d_m_mostUsed_72 (by decide) ?_
        obtain rfl := Option.some.inj h
        exact r_sub [3, 4, 1, 0] rfl (show Wt X M 15 [(0, .ref (G.1 + 0)), (1, .int y1), (2, .int x.2), (3, .int x9)] [] from hk _ rfl)
      · replace h := if_n c8 h
        refine r_iload (n := 52) rfl ok d_m_mostUsed_50 0 rfl ?_
        refine r_aload_n (n := 53) rfl ok d_m_mostUsed_52 rfl 1 rfl ?_
        refine g_MOD_v (n := 56) rfl ok hG  k_986 d_m_mostUsed_53 ?_
        refine r_iload_n (n := 57) rfl ok d_m_mostUsed_56 rfl 2 rfl ?_
        refine r_iload_n (n := 58) rfl ok d_m_mostUsed_57 rfl 3 rfl ?_
        obtain ⟨r10, hr10, h⟩ := bd_ok h
        refine r_callS (n := 61) rfl ok hG mf_m_pair k_1027 k_1026 (C_m_pair  hr10) ⟨rfl, rfl⟩ (rR hXR ⟨Nat.le_of_ble_eq_true rfl, Nat.le_of_ble_eq_true rfl⟩) rfl rfl (Nat.le_of_ble_eq_true rfl) d_m_mostUsed_58 ?_
        refine r_iconst (v := 4) (n := 62) rfl ok d_m_mostUsed_61 (by decide) ?_
        refine r_iadd (n := 63) rfl ok d_m_mostUsed_62 ?_
        obtain ⟨g11, h⟩ := gd_ok h
        refine al_V (n := 64) rfl ok hG  g11 d_m_mostUsed_63 ?_
        refine r_icmp_le (tgt := 69) (n := 67) rfl ok d_m_mostUsed_64 (by decide) (fun c12 => ?_) (fun c12 => ?_)
        · replace h := if_p c12 h
          obtain ⟨x13, ex13, h⟩ := bd_ok h
          refine r_iinc (lv' := [(3, .int x13), (4, .int (M.1 100 0 0 (tN (r4 + (4 : Int32))))), (0, .ref (G.1 + 0)), (1, .int y1), (2, .int x.1)]) (n := 72) rfl ok d_m_mostUsed_69 4 rfl (Option.some.inj ex13) (lt_n hXn (Nat.le_of_ble_eq_true rfl)) rfl ?_
          refine r_goto (tgt := 15) ok d_m_mostUsed_72 (by decide) ?_
          obtain rfl := Option.some.inj h
          exact r_sub [2, 3, 4, 0] rfl (show Wt X M 15 [(0, .ref (G.1 + 0)), (1, .int y1), (2, .int x.1), (3, .int x13)] [] from hk _ rfl)
        · replace h := if_n c12 h
          refine r_iload_n (n := 68) rfl ok d_m_mostUsed_67 rfl 4 rfl ?_
          refine r_istore_n (lv' := [(2, .int x.2), (4, .int (M.1 100 0 0 (tN (r4 + (4 : Int32))))), (0, .ref (G.1 + 0)), (1, .int y1), (3, .int x.2)]) (n := 69) rfl ok d_m_mostUsed_68 rfl (lt_n hXn (Nat.le_of_ble_eq_true rfl)) rfl ?_
          obtain ⟨x14, ex14, h⟩ := bd_ok h
          refine r_iinc (lv' := [(3, .int x14), (2, .int x.2), (4, .int (M.1 100 0 0 (tN (r4 + (4 : Int32))))), (0, .ref (G.1 + 0)), (1, .int y1)]) (n := 72) rfl ok d_m_mostUsed_69 4 rfl (Option.some.inj ex14) (lt_n hXn (Nat.le_of_ble_eq_true rfl)) rfl ?_
          refine r_goto (tgt := 15) ok d_m_mostUsed_72 (by decide) ?_
          obtain rfl := Option.some.inj h
          exact r_sub [3, 4, 1, 0] rfl (show Wt X M 15 [(0, .ref (G.1 + 0)), (1, .int y1), (2, .int x.2), (3, .int x14)] [] from hk _ rfl)
set_option maxHeartbeats 4000000 in
set_option maxRecDepth 20000 in
theorem C_m_mostUsed {l : Launch} {G : Gt} {M : Me} {a1 : Int32}  {o : Int32} (h : f_m_mostUsed M a1 = some o) : Ct l G (WM G) (rM G) y_m_mostUsed b_m_mostUsed 5 (some .int) rm_m_mostUsed [.ref (G.1 + 0), .int a1] M (some (.int o)) M := by
  refine Ct.mk (own := "RetryChainsModel") rfl (by decide) (Nat.le_of_ble_eq_true rfl) ⟨_, rfl⟩ (fun X hXl hXR hXn ok hG fin => ?_)
  subst hXl
  unfold f_m_mostUsed at h
  show Wt X M 0 [(0, .ref (G.1 + 0)), (1, .int a1)] []
  refine r_aload_n (n := 1) rfl ok d_m_mostUsed_0 rfl 0 rfl ?_
  refine r_iload_n (n := 2) rfl ok d_m_mostUsed_1 rfl 1 rfl ?_
  obtain ⟨r1, hr1, h⟩ := bd_ok h
  refine r_callV (n := 5) rfl ok hG mf_m_isStation k_1096 ks_29 k_1094 (C_m_isStation  hr1) ⟨rfl, rfl⟩ (rR hXR ⟨Nat.le_of_ble_eq_true rfl, Nat.le_of_ble_eq_true rfl⟩) rfl rfl (rv_MOD) rfl (Nat.le_of_ble_eq_true rfl) d_m_mostUsed_2 ?_
  refine r_if_ne (tgt := 10) (n := 8) rfl ok d_m_mostUsed_5 (by decide) (fun c2 => ?_) (fun c2 => ?_)
  · replace h := if_n c2 h
    refine r_bipush (v := (-9)) (n := 12) rfl ok d_m_mostUsed_10 (by decide) ?_
    refine r_istore_n (lv' := [(2, .int (-9)), (0, .ref (G.1 + 0)), (1, .int a1)]) (n := 13) rfl ok d_m_mostUsed_12 rfl (lt_n hXn (Nat.le_of_ble_eq_true rfl)) rfl ?_
    refine r_iconst (v := 0) (n := 14) rfl ok d_m_mostUsed_13 (by decide) ?_
    refine r_istore_n (lv' := [(3, .int 0), (2, .int (-9)), (0, .ref (G.1 + 0)), (1, .int a1)]) (n := 15) rfl ok d_m_mostUsed_14 rfl (lt_n hXn (Nat.le_of_ble_eq_true rfl)) rfl ?_
    obtain ⟨t15, ht15, h⟩ := bd_ok h
    refine r_sub [2, 3, 1, 0] rfl (show Wt X M 15 [(0, .ref (G.1 + 0)), (1, .int a1), (2, .int (-9)), (3, .int 0)] [] from w_m_mostUsed_15 ok hG hXR hXn  ?_ _ _ ht15)
    · intro e16 he
      subst he
      refine r_iload_n (n := 76) rfl ok d_m_mostUsed_75 rfl 0 rfl ?_
      obtain rfl := Option.some.inj h
      exact fin _ _ ⟨.int, rfl, rfl⟩ d_m_mostUsed_76
  · replace h := if_p c2 h
    refine r_iconst (v := (-1)) (n := 9) rfl ok d_m_mostUsed_8 (by decide) ?_
    obtain rfl := Option.some.inj h
    exact fin _ _ ⟨.int, rfl, rfl⟩ d_m_mostUsed_9
set_option maxHeartbeats 4000000 in
set_option maxRecDepth 20000 in
theorem w_m_walks_43 {X : Cx Me} {G : Gt} (ok : Ok X b_m_walks "RetryChainsModel") (hG : GM X G) (hXR : X.R = rm_m_walks) (hXn : X.nL = 8) {y1 : Int32} {y2 : Int32} {y3 : Int32} {y4 : Int32} {y5 : Int32} {y6 : Int32}  {t : Me} (kx : ∀ e : Me, e = t → Wt X e 104 [(0, .ref (G.1 + 0)), (1, .int y1), (2, .int y2), (3, .int y3), (4, .int y4)] [])  : ∀ (n : Nat) (x : Int32 × Me), lp n (b_m_walks_43 y1 y2 y3 y4 y5 y6) x = some t → Wt X x.2 43 [(0, .ref (G.1 + 0)), (1, .int y1), (2, .int y2), (3, .int y3), (4, .int y4), (5, .int y5), (6, .int y6), (7, .int x.1)] [] := by
  intro n x h
  refine lp_W (P := fun x => Wt X x.2 43 [(0, .ref (G.1 + 0)), (1, .int y1), (2, .int y2), (3, .int y3), (4, .int y4), (5, .int y5), (6, .int y6), (7, .int x.1)] []) (Z := fun t' => t' = t) (fun x r h hk hz => ?_) n x t h rfl
  unfold b_m_walks_43 at h
  refine r_iload (n := 45) rfl ok d_m_walks_43 7 rfl ?_
  refine r_iload (n := 47) rfl ok d_m_walks_45 6 rfl ?_
  refine r_icmp_ge (tgt := 104) (n := 50) rfl ok d_m_walks_47 (by decide) (fun c6 => ?_) (fun c6 => ?_)
  · replace h := if_p c6 h
    obtain rfl := Option.some.inj h
    exact r_sub [0, 1, 2, 3, 4] rfl (show Wt X x.2 104 [(0, .ref (G.1 + 0)), (1, .int y1), (2, .int y2), (3, .int y3), (4, .int y4)] [] from kx _ (hz _ rfl))
  · replace h := if_n c6 h
    refine r_aload_n (n := 51) rfl ok d_m_walks_50 rfl 0 rfl ?_
    refine r_dup (n := 52) rfl ok d_m_walks_51 rfl ?_
    refine g_MOD_trySum (n := 55) rfl ok hG  k_993 d_m_walks_52 ?_
    refine r_aload_n (n := 56) rfl ok d_m_walks_55 rfl 0 rfl ?_
    refine g_MOD_tryReach (n := 59) rfl ok hG  k_992 d_m_walks_56 ?_
    refine r_aload_n (n := 60) rfl ok d_m_walks_59 rfl 0 rfl ?_
    refine r_iload (n := 62) rfl ok d_m_walks_60 5 rfl ?_
    refine r_iload_n (n := 63) rfl ok d_m_walks_62 rfl 2 rfl ?_
    refine r_iload (n := 65) rfl ok d_m_walks_63 7 rfl ?_
    obtain ⟨r7, hr7, h⟩ := bd_ok h
    refine r_callV (n := 68) rfl ok hG mf_m_timeOf k_1160 ks_39 k_1158 (C_m_timeOf  hr7) ⟨rfl, rfl⟩ (rR hXR ⟨Nat.le_of_ble_eq_true rfl, Nat.le_of_ble_eq_true rfl⟩) rfl rfl (rv_MOD) rfl (Nat.le_of_ble_eq_true rfl) d_m_walks_65 ?_
    refine r_i2l (n := 69) rfl ok d_m_walks_68 ?_
    refine r_lmul (n := 70) rfl ok d_m_walks_69 ?_
    refine r_ladd (n := 71) rfl ok d_m_walks_70 ?_
    obtain ⟨M8, eM8, h⟩ := bd_ok h
    refine p_MOD_trySum (n := 74) rfl ok hG  k_993 d_m_walks_71 ?_
    refine r_mem (Option.some.inj eM8) ?_
    refine r_aload_n (n := 75) rfl ok d_m_walks_74 rfl 0 rfl ?_
    refine r_aload_n (n := 76) rfl ok d_m_walks_75 rfl 0 rfl ?_
    refine g_MOD_tryReach (n := 79) rfl ok hG  k_992 d_m_walks_76 ?_
    refine r_ldc (n := 81) rfl ok d_m_walks_79 k_1320 ?_
    refine r_aload_n (n := 82) rfl ok d_m_walks_81 rfl 0 rfl ?_
    refine r_iload_n (n := 83) rfl ok d_m_walks_82 rfl 1 rfl ?_
    refine r_iload (n := 85) rfl ok d_m_walks_83 5 rfl ?_
    obtain ⟨r9, hr9, h⟩ := bd_ok h
    refine r_callV (n := 88) rfl ok hG mf_m_known k_1046 ks_20 k_1044 (C_m_known  hr9) ⟨rfl, rfl⟩ (rR hXR ⟨Nat.le_of_ble_eq_true rfl, Nat.le_of_ble_eq_true rfl⟩) rfl rfl (rv_MOD) rfl (Nat.le_of_ble_eq_true rfl) d_m_walks_85 ?_
    refine r_isub (n := 89) rfl ok d_m_walks_88 ?_
    refine r_i2l (n := 90) rfl ok d_m_walks_89 ?_
    refine r_lmul (n := 91) rfl ok d_m_walks_90 ?_
    refine r_ldc2 (n := 94) rfl ok d_m_walks_91 k_1275 ?_
    refine r_ldiv (n := 95) rfl ok d_m_walks_94 (by decide) ?_
    obtain ⟨M10, eM10, h⟩ := bd_ok h
    refine p_MOD_tryReach (n := 98) rfl ok hG  k_992 d_m_walks_95 ?_
    refine r_mem (Option.some.inj eM10) ?_
    obtain ⟨x11, ex11, h⟩ := bd_ok h
    refine r_iinc (lv' := [(7, .int x11), (0, .ref (G.1 + 0)), (1, .int y1), (2, .int y2), (3, .int y3), (4, .int y4), (5, .int y5), (6, .int y6)]) (n := 101) rfl ok d_m_walks_98 7 rfl (Option.some.inj ex11) (lt_n hXn (Nat.le_of_ble_eq_true rfl)) rfl ?_
    refine r_goto (tgt := 43) ok d_m_walks_101 (by decide) ?_
    obtain rfl := Option.some.inj h
    exact r_sub [1, 2, 3, 4, 5, 6, 7, 0] rfl (show Wt X M10 43 [(0, .ref (G.1 + 0)), (1, .int y1), (2, .int y2), (3, .int y3), (4, .int y4), (5, .int y5), (6, .int y6), (7, .int x11)] [] from hk _ rfl)
set_option maxHeartbeats 4000000 in
set_option maxRecDepth 20000 in
theorem w_m_walks_15 {X : Cx Me} {G : Gt} (ok : Ok X b_m_walks "RetryChainsModel") (hG : GM X G) (hXR : X.R = rm_m_walks) (hXn : X.nL = 8) {y1 : Int32} {y2 : Int32} {y3 : Int32}  {t : Me} (kx : ∀ e : Me, e = t → Wt X e 110 [] [])  : ∀ (n : Nat) (x : Int32 × Me), lp n (b_m_walks_15 y1 y2 y3) x = some t → Wt X x.2 15 [(0, .ref (G.1 + 0)), (1, .int y1), (2, .int y2), (3, .int y3), (4, .int x.1)] [] := by
  intro n x h
  refine lp_W (P := fun x => Wt X x.2 15 [(0, .ref (G.1 + 0)), (1, .int y1), (2, .int y2), (3, .int y3), (4, .int x.1)] []) (Z := fun t' => t' = t) (fun x r h hk hz => ?_) n x t h rfl
  unfold b_m_walks_15 at h
  refine r_iload (n := 17) rfl ok d_m_walks_15 4 rfl ?_
  refine r_if_lt (tgt := 110) (n := 20) rfl ok d_m_walks_17 (by decide) (fun c3 => ?_) (fun c3 => ?_)
  · replace h := if_p c3 h
    obtain rfl := Option.some.inj h
    exact r_sub [] rfl (show Wt X x.2 110 [] [] from kx _ (hz _ rfl))
  · replace h := if_n c3 h
    refine r_iload_n (n := 21) rfl ok d_m_walks_20 rfl 3 rfl ?_
    refine r_iconst (v := 3) (n := 22) rfl ok d_m_walks_21 (by decide) ?_
    refine r_iload (n := 24) rfl ok d_m_walks_22 4 rfl ?_
    refine r_imul (n := 25) rfl ok d_m_walks_24 ?_
    refine r_ishr (n := 26) rfl ok d_m_walks_25 ?_
    refine r_bipush (v := 7) (n := 28) rfl ok d_m_walks_26 (by decide) ?_
    refine r_iand (n := 29) rfl ok d_m_walks_28 ?_
    obtain ⟨x4, ex4, h⟩ := bd_ok h
    refine r_ti (Option.some.inj ex4).symm ?_
    refine r_istore (lv' := [(5, .int x4), (0, .ref (G.1 + 0)), (1, .int y1), (2, .int y2), (3, .int y3), (4, .int x.1)]) (n := 31) rfl ok d_m_walks_29 (lt_n hXn (Nat.le_of_ble_eq_true rfl)) rfl ?_
    refine r_aload_n (n := 32) rfl ok d_m_walks_31 rfl 1 rfl ?_
    refine r_iload (n := 34) rfl ok d_m_walks_32 0 rfl ?_
    refine r_iload_n (n := 35) rfl ok d_m_walks_34 rfl 3 rfl ?_
    obtain ⟨r5, hr5, h⟩ := bd_ok h
    refine r_callV (n := 38) rfl ok hG mf_m_triesFor k_1156 ks_38 k_1154 (C_m_triesFor  hr5) ⟨rfl, rfl⟩ (rR hXR ⟨Nat.le_of_ble_eq_true rfl, Nat.le_of_ble_eq_true rfl⟩) rfl rfl (rv_MOD) rfl (Nat.le_of_ble_eq_true rfl) d_m_walks_35 ?_
    refine r_istore (lv' := [(6, .int r5), (5, .int x4), (0, .ref (G.1 + 0)), (1, .int y1), (2, .int y2), (3, .int y3), (4, .int x.1)]) (n := 40) rfl ok d_m_walks_38 (lt_n hXn (Nat.le_of_ble_eq_true rfl)) rfl ?_
    refine r_iconst (v := 0) (n := 41) rfl ok d_m_walks_40 (by decide) ?_
    refine r_istore (lv' := [(7, .int 0), (6, .int r5), (5, .int x4), (0, .ref (G.1 + 0)), (1, .int y1), (2, .int y2), (3, .int y3), (4, .int x.1)]) (n := 43) rfl ok d_m_walks_41 (lt_n hXn (Nat.le_of_ble_eq_true rfl)) rfl ?_
    obtain ⟨t12, ht12, h⟩ := bd_ok h
    refine r_sub [3, 4, 5, 6, 7, 2, 1, 0] rfl (show Wt X x.2 43 [(0, .ref (G.1 + 0)), (1, .int y1), (2, .int y2), (3, .int y3), (4, .int x.1), (5, .int x4), (6, .int r5), (7, .int 0)] [] from w_m_walks_43 ok hG hXR hXn  ?_ _ _ ht12)
    · intro e13 he
      subst he
      obtain ⟨x14, ex14, h⟩ := bd_ok h
      refine r_iinc (lv' := [(4, .int x14), (0, .ref (G.1 + 0)), (1, .int y1), (2, .int y2), (3, .int y3)]) (n := 107) rfl ok d_m_walks_104 4 rfl (Option.some.inj ex14) (lt_n hXn (Nat.le_of_ble_eq_true rfl)) rfl ?_
      refine r_goto (tgt := 15) ok d_m_walks_107 (by decide) ?_
      obtain rfl := Option.some.inj h
      exact r_sub [1, 2, 3, 4, 0] rfl (show Wt X e13 15 [(0, .ref (G.1 + 0)), (1, .int y1), (2, .int y2), (3, .int y3), (4, .int x14)] [] from hk _ rfl)
set_option maxHeartbeats 4000000 in
set_option maxRecDepth 20000 in
theorem C_m_walks {l : Launch} {G : Gt} {M : Me} {a1 : Int32} {a2 : Int32} {a3 : Int32}  {o : Me} (h : f_m_walks M a1 a2 a3 = some o) : Ct l G (WM G) (rM G) y_m_walks b_m_walks 8 none rm_m_walks [.ref (G.1 + 0), .int a1, .int a2, .int a3] M (none) o := by
  refine Ct.mk (own := "RetryChainsModel") rfl (by decide) (Nat.le_of_ble_eq_true rfl) rfl (fun X hXl hXR hXn ok hG fin => ?_)
  subst hXl
  unfold f_m_walks at h
  show Wt X M 0 [(0, .ref (G.1 + 0)), (1, .int a1), (2, .int a2), (3, .int a3)] []
  refine r_aload_n (n := 1) rfl ok d_m_walks_0 rfl 0 rfl ?_
  refine r_ldc2 (n := 4) rfl ok d_m_walks_1 k_1275 ?_
  obtain ⟨M1, eM1, h⟩ := bd_ok h
  refine p_MOD_tryReach (n := 7) rfl ok hG  k_992 d_m_walks_4 ?_
  refine r_mem (Option.some.inj eM1) ?_
  refine r_aload_n (n := 8) rfl ok d_m_walks_7 rfl 0 rfl ?_
  refine r_lconst (v := 0) (n := 9) rfl ok d_m_walks_8 (by decide) ?_
  obtain ⟨M2, eM2, h⟩ := bd_ok h
  refine p_MOD_trySum (n := 12) rfl ok hG  k_993 d_m_walks_9 ?_
  refine r_mem (Option.some.inj eM2) ?_
  refine r_iconst (v := 3) (n := 13) rfl ok d_m_walks_12 (by decide) ?_
  refine r_istore (lv' := [(4, .int 3), (0, .ref (G.1 + 0)), (1, .int a1), (2, .int a2), (3, .int a3)]) (n := 15) rfl ok d_m_walks_13 (lt_n hXn (Nat.le_of_ble_eq_true rfl)) rfl ?_
  obtain ⟨t15, ht15, h⟩ := bd_ok h
  refine r_sub [1, 2, 3, 4, 0] rfl (show Wt X M2 15 [(0, .ref (G.1 + 0)), (1, .int a1), (2, .int a2), (3, .int a3), (4, .int 3)] [] from w_m_walks_15 ok hG hXR hXn  ?_ _ _ ht15)
  · intro e16 he
    subst he
    obtain rfl := Option.some.inj h
    exact fin _ _ d_m_walks_110
set_option maxHeartbeats 4000000 in
set_option maxRecDepth 20000 in
theorem w_m_isSequence_5 {X : Cx Me} {G : Gt} (ok : Ok X b_m_isSequence "RetryChainsModel") (hG : GM X G) (hXR : X.R = rm_m_isSequence) (hXn : X.nL = 6) {M : Me} {y1 : Int32} {y2 : Int32}  {t : Int32} (kx : ∀ e : Int32, e = t → Wt X M 59 [(3, .int e)] [])  : ∀ (n : Nat) (x : Int32 × Int32), lp n (b_m_isSequence_5 M y1 y2) x = some t → Wt X M 5 [(0, .ref (G.1 + 0)), (1, .int y1), (2, .int y2), (3, .int x.1), (4, .int x.2)] [] := by
  intro n x h
  refine lp_W (P := fun x => Wt X M 5 [(0, .ref (G.1 + 0)), (1, .int y1), (2, .int y2), (3, .int x.1), (4, .int x.2)] []) (Z := fun t' => t' = t) (fun x r h hk hz => ?_) n x t h rfl
  unfold b_m_isSequence_5 at h
  refine r_iload (n := 7) rfl ok d_m_isSequence_5 4 rfl ?_
  refine r_iconst (v := 4) (n := 8) rfl ok d_m_isSequence_7 (by decide) ?_
  refine r_icmp_ge (tgt := 59) (n := 11) rfl ok d_m_isSequence_8 (by decide) (fun c1 => ?_) (fun c1 => ?_)
  · replace h := if_p c1 h
    obtain rfl := Option.some.inj h
    exact r_sub [3] rfl (show Wt X M 59 [(3, .int x.1)] [] from kx _ (hz _ rfl))
  · replace h := if_n c1 h
    refine r_iload_n (n := 12) rfl ok d_m_isSequence_11 rfl 2 rfl ?_
    refine r_iconst (v := 3) (n := 13) rfl ok d_m_isSequence_12 (by decide) ?_
    refine r_iload (n := 15) rfl ok d_m_isSequence_13 4 rfl ?_
    refine r_imul (n := 16) rfl ok d_m_isSequence_15 ?_
    refine r_ishr (n := 17) rfl ok d_m_isSequence_16 ?_
    refine r_bipush (v := 7) (n := 19) rfl ok d_m_isSequence_17 (by decide) ?_
    refine r_iand (n := 20) rfl ok d_m_isSequence_19 ?_
    obtain ⟨x2, ex2, h⟩ := bd_ok h
    refine r_ti (Option.some.inj ex2).symm ?_
    refine r_istore (lv' := [(5, .int x2), (0, .ref (G.1 + 0)), (1, .int y1), (2, .int y2), (3, .int x.1), (4, .int x.2)]) (n := 22) rfl ok d_m_isSequence_20 (lt_n hXn (Nat.le_of_ble_eq_true rfl)) rfl ?_
    refine r_iload_n (n := 23) rfl ok d_m_isSequence_22 rfl 4 rfl ?_
    refine r_if_eq (tgt := 51) (n := 26) rfl ok d_m_isSequence_23 (by decide) (fun c3 => ?_) (fun c3 => ?_)
    · replace h := if_p c3 h
      refine r_iconst (v := 0) (n := 52) rfl ok d_m_isSequence_51 (by decide) ?_
      refine r_istore_n (lv' := [(3, .int 0), (5, .int x2), (0, .ref (G.1 + 0)), (1, .int y1), (2, .int y2), (4, .int x.2)]) (n := 53) rfl ok d_m_isSequence_52 rfl (lt_n hXn (Nat.le_of_ble_eq_true rfl)) rfl ?_
      obtain ⟨x4, ex4, h⟩ := bd_ok h
      refine r_iinc (lv' := [(4, .int x4), (3, .int 0), (5, .int x2), (0, .ref (G.1 + 0)), (1, .int y1), (2, .int y2)]) (n := 56) rfl ok d_m_isSequence_53 5 rfl (Option.some.inj ex4) (lt_n hXn (Nat.le_of_ble_eq_true rfl)) rfl ?_
      refine r_goto (tgt := 5) ok d_m_isSequence_56 (by decide) ?_
      obtain rfl := Option.some.inj h
      exact r_sub [3, 4, 5, 1, 0] rfl (show Wt X M 5 [(0, .ref (G.1 + 0)), (1, .int y1), (2, .int y2), (3, .int 0), (4, .int x4)] [] from hk _ rfl)
    · replace h := if_n c3 h
      refine r_iload (n := 28) rfl ok d_m_isSequence_26 0 rfl ?_
      refine r_aload_n (n := 29) rfl ok d_m_isSequence_28 rfl 1 rfl ?_
      refine g_MOD_v (n := 32) rfl ok hG  k_986 d_m_isSequence_29 ?_
      refine r_iconst (v := 1) (n := 33) rfl ok d_m_isSequence_32 (by decide) ?_
      refine al_V (n := 34) rfl ok hG  (show gin 1 600 by decide) d_m_isSequence_33 ?_
      refine r_icmp_ge (tgt := 51) (n := 37) rfl ok d_m_isSequence_34 (by decide) (fun c5 => ?_) (fun c5 => ?_)
      · replace h := if_p c5 h
        refine r_iconst (v := 0) (n := 52) rfl ok d_m_isSequence_51 (by decide) ?_
        refine r_istore_n (lv' := [(3, .int 0), (5, .int x2), (0, .ref (G.1 + 0)), (1, .int y1), (2, .int y2), (4, .int x.2)]) (n := 53) rfl ok d_m_isSequence_52 rfl (lt_n hXn (Nat.le_of_ble_eq_true rfl)) rfl ?_
        obtain ⟨x6, ex6, h⟩ := bd_ok h
        refine r_iinc (lv' := [(4, .int x6), (3, .int 0), (5, .int x2), (0, .ref (G.1 + 0)), (1, .int y1), (2, .int y2)]) (n := 56) rfl ok d_m_isSequence_53 5 rfl (Option.some.inj ex6) (lt_n hXn (Nat.le_of_ble_eq_true rfl)) rfl ?_
        refine r_goto (tgt := 5) ok d_m_isSequence_56 (by decide) ?_
        obtain rfl := Option.some.inj h
        exact r_sub [3, 4, 5, 1, 0] rfl (show Wt X M 5 [(0, .ref (G.1 + 0)), (1, .int y1), (2, .int y2), (3, .int 0), (4, .int x6)] [] from hk _ rfl)
      · replace h := if_n c5 h
        refine r_aload_n (n := 38) rfl ok d_m_isSequence_37 rfl 1 rfl ?_
        refine r_iload_n (n := 39) rfl ok d_m_isSequence_38 rfl 2 rfl ?_
        refine r_iload (n := 41) rfl ok d_m_isSequence_39 0 rfl ?_
        obtain ⟨r7, hr7, h⟩ := bd_ok h
        refine r_callV (n := 44) rfl ok hG mf_m_allows k_1042 ks_19 k_1040 (C_m_allows  hr7) ⟨rfl, rfl⟩ (rR hXR ⟨Nat.le_of_ble_eq_true rfl, Nat.le_of_ble_eq_true rfl⟩) rfl rfl (rv_MOD) rfl (Nat.le_of_ble_eq_true rfl) d_m_isSequence_41 ?_
        refine r_if_eq (tgt := 51) (n := 47) rfl ok d_m_isSequence_44 (by decide) (fun c8 => ?_) (fun c8 => ?_)
        · replace h := if_p c8 h
          refine r_iconst (v := 0) (n := 52) rfl ok d_m_isSequence_51 (by decide) ?_
          refine r_istore_n (lv' := [(3, .int 0), (5, .int x2), (0, .ref (G.1 + 0)), (1, .int y1), (2, .int y2), (4, .int x.2)]) (n := 53) rfl ok d_m_isSequence_52 rfl (lt_n hXn (Nat.le_of_ble_eq_true rfl)) rfl ?_
          obtain ⟨x9, ex9, h⟩ := bd_ok h
          refine r_iinc (lv' := [(4, .int x9), (3, .int 0), (5, .int x2), (0, .ref (G.1 + 0)), (1, .int y1), (2, .int y2)]) (n := 56) rfl ok d_m_isSequence_53 5 rfl (Option.some.inj ex9) (lt_n hXn (Nat.le_of_ble_eq_true rfl)) rfl ?_
          refine r_goto (tgt := 5) ok d_m_isSequence_56 (by decide) ?_
          obtain rfl := Option.some.inj h
          exact r_sub [3, 4, 5, 1, 0] rfl (show Wt X M 5 [(0, .ref (G.1 + 0)), (1, .int y1), (2, .int y2), (3, .int 0), (4, .int x9)] [] from hk _ rfl)
        · replace h := if_n c8 h
          refine r_iconst (v := 1) (n := 48) rfl ok d_m_isSequence_47 (by decide) ?_
          refine r_goto (tgt := 52) ok d_m_isSequence_48 (by decide) ?_
          refine r_istore_n (lv' := [(3, .int 1), (5, .int x2), (0, .ref (G.1 + 0)), (1, .int y1), (2, .int y2), (4, .int x.2)]) (n := 53) rfl ok d_m_isSequence_52 rfl (lt_n hXn (Nat.le_of_ble_eq_true rfl)) rfl ?_
          obtain ⟨x10, ex10, h⟩ := bd_ok h
          refine r_iinc (lv' := [(4, .int x10), (3, .int 1), (5, .int x2), (0, .ref (G.1 + 0)), (1, .int y1), (2, .int y2)]) (n := 56) rfl ok d_m_isSequence_53 5 rfl (Option.some.inj ex10) (lt_n hXn (Nat.le_of_ble_eq_true rfl)) rfl ?_
          refine r_goto (tgt := 5) ok d_m_isSequence_56 (by decide) ?_
          obtain rfl := Option.some.inj h
          exact r_sub [3, 4, 5, 1, 0] rfl (show Wt X M 5 [(0, .ref (G.1 + 0)), (1, .int y1), (2, .int y2), (3, .int 1), (4, .int x10)] [] from hk _ rfl)
set_option maxHeartbeats 4000000 in
set_option maxRecDepth 20000 in
theorem C_m_isSequence {l : Launch} {G : Gt} {M : Me} {a1 : Int32} {a2 : Int32}  {o : Int32} (h : f_m_isSequence M a1 a2 = some o) : Ct l G (WM G) (rM G) y_m_isSequence b_m_isSequence 6 (some .boolean) rm_m_isSequence [.ref (G.1 + 0), .int a1, .int a2] M (some (.int o)) M := by
  refine Ct.mk (own := "RetryChainsModel") rfl (by decide) (Nat.le_of_ble_eq_true rfl) ⟨_, rfl⟩ (fun X hXl hXR hXn ok hG fin => ?_)
  subst hXl
  unfold f_m_isSequence at h
  show Wt X M 0 [(0, .ref (G.1 + 0)), (1, .int a1), (2, .int a2)] []
  refine r_iconst (v := 1) (n := 1) rfl ok d_m_isSequence_0 (by decide) ?_
  refine r_istore_n (lv' := [(3, .int 1), (0, .ref (G.1 + 0)), (1, .int a1), (2, .int a2)]) (n := 2) rfl ok d_m_isSequence_1 rfl (lt_n hXn (Nat.le_of_ble_eq_true rfl)) rfl ?_
  refine r_iconst (v := 0) (n := 3) rfl ok d_m_isSequence_2 (by decide) ?_
  refine r_istore (lv' := [(4, .int 0), (3, .int 1), (0, .ref (G.1 + 0)), (1, .int a1), (2, .int a2)]) (n := 5) rfl ok d_m_isSequence_3 (lt_n hXn (Nat.le_of_ble_eq_true rfl)) rfl ?_
  obtain ⟨t11, ht11, h⟩ := bd_ok h
  refine r_sub [2, 3, 4, 1, 0] rfl (show Wt X M 5 [(0, .ref (G.1 + 0)), (1, .int a1), (2, .int a2), (3, .int 1), (4, .int 0)] [] from w_m_isSequence_5 ok hG hXR hXn  ?_ _ _ ht11)
  · intro e12 he
    subst he
    refine r_iload_n (n := 60) rfl ok d_m_isSequence_59 rfl 0 rfl ?_
    obtain ⟨g13, h⟩ := gd_ok h
    obtain rfl := Option.some.inj h
    exact fin _ _ ⟨.boolean, rfl, nz_ok g13⟩ d_m_isSequence_60
