set_option maxHeartbeats 4000000 in
set_option maxRecDepth 20000 in
theorem w_m_layFallback_26 {X : Cx Me} {G : Gt} (ok : Ok X b_m_layFallback "RetryChainsModel") (hG : GM X G) (hXR : X.R = rm_m_layFallback) (hXn : X.nL = 4) {y1 : Int32} {y2 : Int32}  {t : Me} (kx : ∀ e : Me, e = t → Wt X e 49 [(0, .ref (G.1 + 0)), (2, .int y2)] [])  : ∀ (n : Nat) (x : Int32 × Me), lp n (b_m_layFallback_26 y1 y2) x = some t → Wt X x.2 26 [(0, .ref (G.1 + 0)), (1, .int y1), (2, .int y2), (3, .int x.1)] [] := by
  intro n x h
  refine lp_W (P := fun x => Wt X x.2 26 [(0, .ref (G.1 + 0)), (1, .int y1), (2, .int y2), (3, .int x.1)] []) (Z := fun t' => t' = t) (fun x r h hk hz => ?_) n x t h rfl
  unfold b_m_layFallback_26 at h
  refine r_iload_n (n := 27) rfl ok d_m_layFallback_26 rfl 3 rfl ?_
  refine r_iconst (v := 4) (n := 28) rfl ok d_m_layFallback_27 (by decide) ?_
  refine r_icmp_ge (tgt := 49) (n := 31) rfl ok d_m_layFallback_28 (by decide) (fun c6 => ?_) (fun c6 => ?_)
  · replace h := if_p c6 h
    obtain rfl := Option.some.inj h
    exact r_sub [0, 2] rfl (show Wt X x.2 49 [(0, .ref (G.1 + 0)), (2, .int y2)] [] from kx _ (hz _ rfl))
  · replace h := if_n c6 h
    refine r_aload_n (n := 32) rfl ok d_m_layFallback_31 rfl 0 rfl ?_
    refine r_iload_n (n := 33) rfl ok d_m_layFallback_32 rfl 1 rfl ?_
    refine r_iload_n (n := 34) rfl ok d_m_layFallback_33 rfl 3 rfl ?_
    refine r_aload_n (n := 35) rfl ok d_m_layFallback_34 rfl 0 rfl ?_
    refine r_iload_n (n := 36) rfl ok d_m_layFallback_35 rfl 2 rfl ?_
    refine r_iconst (v := 3) (n := 37) rfl ok d_m_layFallback_36 (by decide) ?_
    obtain ⟨r7, hr7, h⟩ := bd_ok h
    refine r_callV (n := 40) rfl ok hG mf_m_roleOf k_1148 ks_36 k_1146 (C_m_roleOf  hr7) ⟨rfl, rfl⟩ (rR hXR ⟨Nat.le_of_ble_eq_true rfl, Nat.le_of_ble_eq_true rfl⟩) rfl rfl (rv_MOD) rfl (Nat.le_of_ble_eq_true rfl) d_m_layFallback_37 ?_
    obtain ⟨r8, hr8, h⟩ := bd_ok h
    refine r_callV (n := 43) rfl ok hG mf_m_fullEntry k_1152 ks_37 k_1150 (C_m_fullEntry  hr8) ⟨rfl, rfl⟩ (rR hXR ⟨Nat.le_of_ble_eq_true rfl, Nat.le_of_ble_eq_true rfl⟩) rfl rfl (rv_MOD) rfl (Nat.le_of_ble_eq_true rfl) d_m_layFallback_40 ?_
    obtain ⟨x9, ex9, h⟩ := bd_ok h
    refine r_iinc (lv' := [(3, .int x9), (0, .ref (G.1 + 0)), (1, .int y1), (2, .int y2)]) (n := 46) rfl ok d_m_layFallback_43 3 rfl (Option.some.inj ex9) (lt_n hXn (Nat.le_of_ble_eq_true rfl)) rfl ?_
    refine r_goto (tgt := 26) ok d_m_layFallback_46 (by decide) ?_
    obtain rfl := Option.some.inj h
    exact r_sub [1, 2, 3, 0] rfl (show Wt X r8 26 [(0, .ref (G.1 + 0)), (1, .int y1), (2, .int y2), (3, .int x9)] [] from hk _ rfl)
set_option maxHeartbeats 4000000 in
set_option maxRecDepth 20000 in
theorem C_m_layFallback {l : Launch} {G : Gt} {M : Me} {a1 : Int32} {a2 : Int32}  {o : Me} (h : f_m_layFallback M a1 a2 = some o) : Ct l G (WM G) (rM G) y_m_layFallback b_m_layFallback 4 none rm_m_layFallback [.ref (G.1 + 0), .int a1, .int a2] M (none) o := by
  refine Ct.mk (own := "RetryChainsModel") rfl (by decide) (Nat.le_of_ble_eq_true rfl) rfl (fun X hXl hXR hXn ok hG fin => ?_)
  subst hXl
  unfold f_m_layFallback at h
  show Wt X M 0 [(0, .ref (G.1 + 0)), (1, .int a1), (2, .int a2)] []
  refine r_aload_n (n := 1) rfl ok d_m_layFallback_0 rfl 0 rfl ?_
  refine g_MOD_v (n := 4) rfl ok hG  k_986 d_m_layFallback_1 ?_
  refine r_iload_n (n := 5) rfl ok d_m_layFallback_4 rfl 1 rfl ?_
  obtain ⟨r1, hr1, h⟩ := bd_ok h
  refine r_callS (n := 8) rfl ok hG mf_m_open k_1136 k_1135 (C_m_open  hr1) ⟨rfl, rfl⟩ (rR hXR ⟨Nat.le_of_ble_eq_true rfl, Nat.le_of_ble_eq_true rfl⟩) rfl rfl (Nat.le_of_ble_eq_true rfl) d_m_layFallback_5 ?_
  refine r_iconst (v := 3) (n := 9) rfl ok d_m_layFallback_8 (by decide) ?_
  refine r_iadd (n := 10) rfl ok d_m_layFallback_9 ?_
  refine r_iconst (v := 2) (n := 11) rfl ok d_m_layFallback_10 (by decide) ?_
  obtain ⟨g2, h⟩ := gd_ok h
  obtain ⟨M3, eM3, h⟩ := bd_ok h
  refine as_V (n := 12) rfl ok hG  g2 d_m_layFallback_11 ?_
  refine r_mem (Option.some.inj eM3) ?_
  refine r_aload_n (n := 13) rfl ok d_m_layFallback_12 rfl 0 rfl ?_
  refine r_iload_n (n := 14) rfl ok d_m_layFallback_13 rfl 1 rfl ?_
  refine r_iconst (v := 0) (n := 15) rfl ok d_m_layFallback_14 (by decide) ?_
  refine r_aload_n (n := 16) rfl ok d_m_layFallback_15 rfl 0 rfl ?_
  refine r_iload_n (n := 17) rfl ok d_m_layFallback_16 rfl 2 rfl ?_
  refine r_iconst (v := 2) (n := 18) rfl ok d_m_layFallback_17 (by decide) ?_
  obtain ⟨r4, hr4, h⟩ := bd_ok h
  refine r_callV (n := 21) rfl ok hG mf_m_roleOf k_1148 ks_36 k_1146 (C_m_roleOf  hr4) ⟨rfl, rfl⟩ (rR hXR ⟨Nat.le_of_ble_eq_true rfl, Nat.le_of_ble_eq_true rfl⟩) rfl rfl (rv_MOD) rfl (Nat.le_of_ble_eq_true rfl) d_m_layFallback_18 ?_
  obtain ⟨r5, hr5, h⟩ := bd_ok h
  refine r_callV (n := 24) rfl ok hG mf_m_fullEntry k_1152 ks_37 k_1150 (C_m_fullEntry  hr5) ⟨rfl, rfl⟩ (rR hXR ⟨Nat.le_of_ble_eq_true rfl, Nat.le_of_ble_eq_true rfl⟩) rfl rfl (rv_MOD) rfl (Nat.le_of_ble_eq_true rfl) d_m_layFallback_21 ?_
  refine r_iconst (v := 1) (n := 25) rfl ok d_m_layFallback_24 (by decide) ?_
  refine r_istore_n (lv' := [(3, .int 1), (0, .ref (G.1 + 0)), (1, .int a1), (2, .int a2)]) (n := 26) rfl ok d_m_layFallback_25 rfl (lt_n hXn (Nat.le_of_ble_eq_true rfl)) rfl ?_
  obtain ⟨t10, ht10, h⟩ := bd_ok h
  refine r_sub [1, 2, 3, 0] rfl (show Wt X r5 26 [(0, .ref (G.1 + 0)), (1, .int a1), (2, .int a2), (3, .int 1)] [] from w_m_layFallback_26 ok hG hXR hXn  ?_ _ _ ht10)
  · intro e11 he
    subst he
    refine r_aload_n (n := 50) rfl ok d_m_layFallback_49 rfl 0 rfl ?_
    refine r_iload_n (n := 51) rfl ok d_m_layFallback_50 rfl 1 rfl ?_
    refine r_bipush (v := (-9)) (n := 53) rfl ok d_m_layFallback_51 (by decide) ?_
    refine r_bipush (v := (-9)) (n := 55) rfl ok d_m_layFallback_53 (by decide) ?_
    refine r_bipush (v := (-9)) (n := 57) rfl ok d_m_layFallback_55 (by decide) ?_
    obtain ⟨r12, hr12, h⟩ := bd_ok h
    refine r_callV (n := 60) rfl ok hG mf_m_refuse k_1171 ks_41 k_1169 (C_m_refuse  hr12) ⟨rfl, rfl⟩ (rR hXR ⟨Nat.le_of_ble_eq_true rfl, Nat.le_of_ble_eq_true rfl⟩) rfl rfl (rv_MOD) rfl (Nat.le_of_ble_eq_true rfl) d_m_layFallback_57 ?_
    obtain rfl := Option.some.inj h
    exact fin _ _ d_m_layFallback_60
set_option maxHeartbeats 4000000 in
set_option maxRecDepth 20000 in
theorem w_m_layPlain_14 {X : Cx Me} {G : Gt} (ok : Ok X b_m_layPlain "RetryChainsModel") (hG : GM X G) (hXR : X.R = rm_m_layPlain) (hXn : X.nL = 4) {y1 : Int32} {y2 : Int32}  {t : Me} (kx : ∀ e : Me, e = t → Wt X e 37 [] [])  : ∀ (n : Nat) (x : Int32 × Me), lp n (b_m_layPlain_14 y1 y2) x = some t → Wt X x.2 14 [(0, .ref (G.1 + 0)), (1, .int y1), (2, .int y2), (3, .int x.1)] [] := by
  intro n x h
  refine lp_W (P := fun x => Wt X x.2 14 [(0, .ref (G.1 + 0)), (1, .int y1), (2, .int y2), (3, .int x.1)] []) (Z := fun t' => t' = t) (fun x r h hk hz => ?_) n x t h rfl
  unfold b_m_layPlain_14 at h
  refine r_iload_n (n := 15) rfl ok d_m_layPlain_14 rfl 3 rfl ?_
  refine r_iconst (v := 4) (n := 16) rfl ok d_m_layPlain_15 (by decide) ?_
  refine r_icmp_ge (tgt := 37) (n := 19) rfl ok d_m_layPlain_16 (by decide) (fun c4 => ?_) (fun c4 => ?_)
  · replace h := if_p c4 h
    obtain rfl := Option.some.inj h
    exact r_sub [] rfl (show Wt X x.2 37 [] [] from kx _ (hz _ rfl))
  · replace h := if_n c4 h
    refine r_aload_n (n := 20) rfl ok d_m_layPlain_19 rfl 0 rfl ?_
    refine r_iload_n (n := 21) rfl ok d_m_layPlain_20 rfl 1 rfl ?_
    refine r_iload_n (n := 22) rfl ok d_m_layPlain_21 rfl 3 rfl ?_
    refine r_aload_n (n := 23) rfl ok d_m_layPlain_22 rfl 0 rfl ?_
    refine r_iload_n (n := 24) rfl ok d_m_layPlain_23 rfl 2 rfl ?_
    refine r_iload_n (n := 25) rfl ok d_m_layPlain_24 rfl 3 rfl ?_
    obtain ⟨r5, hr5, h⟩ := bd_ok h
    refine r_callV (n := 28) rfl ok hG mf_m_roleOf k_1148 ks_36 k_1146 (C_m_roleOf  hr5) ⟨rfl, rfl⟩ (rR hXR ⟨Nat.le_of_ble_eq_true rfl, Nat.le_of_ble_eq_true rfl⟩) rfl rfl (rv_MOD) rfl (Nat.le_of_ble_eq_true rfl) d_m_layPlain_25 ?_
    obtain ⟨r6, hr6, h⟩ := bd_ok h
    refine r_callV (n := 31) rfl ok hG mf_m_fullEntry k_1152 ks_37 k_1150 (C_m_fullEntry  hr6) ⟨rfl, rfl⟩ (rR hXR ⟨Nat.le_of_ble_eq_true rfl, Nat.le_of_ble_eq_true rfl⟩) rfl rfl (rv_MOD) rfl (Nat.le_of_ble_eq_true rfl) d_m_layPlain_28 ?_
    obtain ⟨x7, ex7, h⟩ := bd_ok h
    refine r_iinc (lv' := [(3, .int x7), (0, .ref (G.1 + 0)), (1, .int y1), (2, .int y2)]) (n := 34) rfl ok d_m_layPlain_31 3 rfl (Option.some.inj ex7) (lt_n hXn (Nat.le_of_ble_eq_true rfl)) rfl ?_
    refine r_goto (tgt := 14) ok d_m_layPlain_34 (by decide) ?_
    obtain rfl := Option.some.inj h
    exact r_sub [1, 2, 3, 0] rfl (show Wt X r6 14 [(0, .ref (G.1 + 0)), (1, .int y1), (2, .int y2), (3, .int x7)] [] from hk _ rfl)
set_option maxHeartbeats 4000000 in
set_option maxRecDepth 20000 in
theorem C_m_layPlain {l : Launch} {G : Gt} {M : Me} {a1 : Int32} {a2 : Int32}  {o : Me} (h : f_m_layPlain M a1 a2 = some o) : Ct l G (WM G) (rM G) y_m_layPlain b_m_layPlain 4 none rm_m_layPlain [.ref (G.1 + 0), .int a1, .int a2] M (none) o := by
  refine Ct.mk (own := "RetryChainsModel") rfl (by decide) (Nat.le_of_ble_eq_true rfl) rfl (fun X hXl hXR hXn ok hG fin => ?_)
  subst hXl
  unfold f_m_layPlain at h
  show Wt X M 0 [(0, .ref (G.1 + 0)), (1, .int a1), (2, .int a2)] []
  refine r_aload_n (n := 1) rfl ok d_m_layPlain_0 rfl 0 rfl ?_
  refine g_MOD_v (n := 4) rfl ok hG  k_986 d_m_layPlain_1 ?_
  refine r_iload_n (n := 5) rfl ok d_m_layPlain_4 rfl 1 rfl ?_
  obtain ⟨r1, hr1, h⟩ := bd_ok h
  refine r_callS (n := 8) rfl ok hG mf_m_open k_1136 k_1135 (C_m_open  hr1) ⟨rfl, rfl⟩ (rR hXR ⟨Nat.le_of_ble_eq_true rfl, Nat.le_of_ble_eq_true rfl⟩) rfl rfl (Nat.le_of_ble_eq_true rfl) d_m_layPlain_5 ?_
  refine r_iconst (v := 3) (n := 9) rfl ok d_m_layPlain_8 (by decide) ?_
  refine r_iadd (n := 10) rfl ok d_m_layPlain_9 ?_
  refine r_iconst (v := 0) (n := 11) rfl ok d_m_layPlain_10 (by decide) ?_
  obtain ⟨g2, h⟩ := gd_ok h
  obtain ⟨M3, eM3, h⟩ := bd_ok h
  refine as_V (n := 12) rfl ok hG  g2 d_m_layPlain_11 ?_
  refine r_mem (Option.some.inj eM3) ?_
  refine r_iconst (v := 0) (n := 13) rfl ok d_m_layPlain_12 (by decide) ?_
  refine r_istore_n (lv' := [(3, .int 0), (0, .ref (G.1 + 0)), (1, .int a1), (2, .int a2)]) (n := 14) rfl ok d_m_layPlain_13 rfl (lt_n hXn (Nat.le_of_ble_eq_true rfl)) rfl ?_
  obtain ⟨t8, ht8, h⟩ := bd_ok h
  refine r_sub [1, 2, 3, 0] rfl (show Wt X M3 14 [(0, .ref (G.1 + 0)), (1, .int a1), (2, .int a2), (3, .int 0)] [] from w_m_layPlain_14 ok hG hXR hXn  ?_ _ _ ht8)
  · intro e9 he
    subst he
    obtain rfl := Option.some.inj h
    exact fin _ _ d_m_layPlain_37
set_option maxHeartbeats 4000000 in
set_option maxRecDepth 20000 in
theorem C_m_laySampling {l : Launch} {G : Gt} {M : Me} {a1 : Int32} {a2 : Int32} {a3 : Int32}  {o : Me} (h : f_m_laySampling M a1 a2 a3 = some o) : Ct l G (WM G) (rM G) y_m_laySampling b_m_laySampling 5 none rm_m_laySampling [.ref (G.1 + 0), .int a1, .int a2, .int a3] M (none) o := by
  refine Ct.mk (own := "RetryChainsModel") rfl (by decide) (Nat.le_of_ble_eq_true rfl) rfl (fun X hXl hXR hXn ok hG fin => ?_)
  subst hXl
  unfold f_m_laySampling at h
  show Wt X M 0 [(0, .ref (G.1 + 0)), (1, .int a1), (2, .int a2), (3, .int a3)] []
  refine r_aload_n (n := 1) rfl ok d_m_laySampling_0 rfl 0 rfl ?_
  refine g_MOD_v (n := 4) rfl ok hG  k_986 d_m_laySampling_1 ?_
  refine r_iload_n (n := 5) rfl ok d_m_laySampling_4 rfl 1 rfl ?_
  obtain ⟨r1, hr1, h⟩ := bd_ok h
  refine r_callS (n := 8) rfl ok hG mf_m_open k_1136 k_1135 (C_m_open  hr1) ⟨rfl, rfl⟩ (rR hXR ⟨Nat.le_of_ble_eq_true rfl, Nat.le_of_ble_eq_true rfl⟩) rfl rfl (Nat.le_of_ble_eq_true rfl) d_m_laySampling_5 ?_
  refine r_iconst (v := 3) (n := 9) rfl ok d_m_laySampling_8 (by decide) ?_
  refine r_iadd (n := 10) rfl ok d_m_laySampling_9 ?_
  refine r_iconst (v := 1) (n := 11) rfl ok d_m_laySampling_10 (by decide) ?_
  obtain ⟨g2, h⟩ := gd_ok h
  obtain ⟨M3, eM3, h⟩ := bd_ok h
  refine as_V (n := 12) rfl ok hG  g2 d_m_laySampling_11 ?_
  refine r_mem (Option.some.inj eM3) ?_
  refine r_aload_n (n := 13) rfl ok d_m_laySampling_12 rfl 0 rfl ?_
  refine g_MOD_v (n := 16) rfl ok hG  k_986 d_m_laySampling_13 ?_
  refine r_iload_n (n := 17) rfl ok d_m_laySampling_16 rfl 1 rfl ?_
  obtain ⟨r4, hr4, h⟩ := bd_ok h
  refine r_callS (n := 20) rfl ok hG mf_m_open k_1136 k_1135 (C_m_open  hr4) ⟨rfl, rfl⟩ (rR hXR ⟨Nat.le_of_ble_eq_true rfl, Nat.le_of_ble_eq_true rfl⟩) rfl rfl (Nat.le_of_ble_eq_true rfl) d_m_laySampling_17 ?_
  refine r_iconst (v := 4) (n := 21) rfl ok d_m_laySampling_20 (by decide) ?_
  refine r_iadd (n := 22) rfl ok d_m_laySampling_21 ?_
  refine r_iload_n (n := 23) rfl ok d_m_laySampling_22 rfl 3 rfl ?_
  obtain ⟨g5, h⟩ := gd_ok h
  obtain ⟨M6, eM6, h⟩ := bd_ok h
  refine as_V (n := 24) rfl ok hG  g5 d_m_laySampling_23 ?_
  refine r_mem (Option.some.inj eM6) ?_
  refine r_aload_n (n := 25) rfl ok d_m_laySampling_24 rfl 0 rfl ?_
  refine r_iload_n (n := 26) rfl ok d_m_laySampling_25 rfl 3 rfl ?_
  obtain ⟨r7, hr7, h⟩ := bd_ok h
  refine r_callV (n := 29) rfl ok hG mf_m_nominal k_1059 ks_23 k_1057 (C_m_nominal  hr7) ⟨rfl, rfl⟩ (rR hXR ⟨Nat.le_of_ble_eq_true rfl, Nat.le_of_ble_eq_true rfl⟩) rfl rfl (rv_MOD) rfl (Nat.le_of_ble_eq_true rfl) d_m_laySampling_26 ?_
  refine r_aload_n (n := 30) rfl ok d_m_laySampling_29 rfl 0 rfl ?_
  refine r_aload_n (n := 31) rfl ok d_m_laySampling_30 rfl 0 rfl ?_
  refine r_iload_n (n := 32) rfl ok d_m_laySampling_31 rfl 2 rfl ?_
  refine r_iconst (v := 0) (n := 33) rfl ok d_m_laySampling_32 (by decide) ?_
  obtain ⟨r8, hr8, h⟩ := bd_ok h
  refine r_callV (n := 36) rfl ok hG mf_m_roleOf k_1148 ks_36 k_1146 (C_m_roleOf  hr8) ⟨rfl, rfl⟩ (rR hXR ⟨Nat.le_of_ble_eq_true rfl, Nat.le_of_ble_eq_true rfl⟩) rfl rfl (rv_MOD) rfl (Nat.le_of_ble_eq_true rfl) d_m_laySampling_33 ?_
  obtain ⟨r9, hr9, h⟩ := bd_ok h
  refine r_callV (n := 39) rfl ok hG mf_m_nominal k_1059 ks_23 k_1057 (C_m_nominal  hr9) ⟨rfl, rfl⟩ (rR hXR ⟨Nat.le_of_ble_eq_true rfl, Nat.le_of_ble_eq_true rfl⟩) rfl rfl (rv_MOD) rfl (Nat.le_of_ble_eq_true rfl) d_m_laySampling_36 ?_
  refine r_icmp_gt (tgt := 46) (n := 42) rfl ok d_m_laySampling_39 (by decide) (fun c10 => ?_) (fun c10 => ?_)
  · replace h := if_p c10 h
    refine r_iconst (v := 1) (n := 47) rfl ok d_m_laySampling_46 (by decide) ?_
    refine r_istore (lv' := [(4, .int 1), (0, .ref (G.1 + 0)), (1, .int a1), (2, .int a2), (3, .int a3)]) (n := 49) rfl ok d_m_laySampling_47 (lt_n hXn (Nat.le_of_ble_eq_true rfl)) rfl ?_
    refine r_aload_n (n := 50) rfl ok d_m_laySampling_49 rfl 1 rfl ?_
    refine r_iload_n (n := 51) rfl ok d_m_laySampling_50 rfl 2 rfl ?_
    refine r_iload (n := 53) rfl ok d_m_laySampling_51 0 rfl ?_
    refine r_iload_n (n := 54) rfl ok d_m_laySampling_53 rfl 4 rfl ?_
    refine r_iconst (v := 1) (n := 55) rfl ok d_m_laySampling_54 (by decide) ?_
    obtain ⟨r11, hr11, h⟩ := bd_ok h
    refine r_callV (n := 58) rfl ok hG mf_m_entry k_1167 ks_40 k_1165 (C_m_entry  hr11) ⟨rfl, rfl⟩ (rR hXR ⟨Nat.le_of_ble_eq_true rfl, Nat.le_of_ble_eq_true rfl⟩) rfl rfl (rv_MOD) rfl (Nat.le_of_ble_eq_true rfl) d_m_laySampling_55 ?_
    refine r_aload_n (n := 59) rfl ok d_m_laySampling_58 rfl 1 rfl ?_
    refine r_iload_n (n := 60) rfl ok d_m_laySampling_59 rfl 2 rfl ?_
    refine r_iconst (v := 1) (n := 61) rfl ok d_m_laySampling_60 (by decide) ?_
    refine r_iload (n := 63) rfl ok d_m_laySampling_61 0 rfl ?_
    refine r_isub (n := 64) rfl ok d_m_laySampling_63 ?_
    refine r_aload_n (n := 65) rfl ok d_m_laySampling_64 rfl 1 rfl ?_
    refine r_iload_n (n := 66) rfl ok d_m_laySampling_65 rfl 3 rfl ?_
    refine r_iconst (v := 0) (n := 67) rfl ok d_m_laySampling_66 (by decide) ?_
    obtain ⟨r12, hr12, h⟩ := bd_ok h
    refine r_callV (n := 70) rfl ok hG mf_m_roleOf k_1148 ks_36 k_1146 (C_m_roleOf  hr12) ⟨rfl, rfl⟩ (rR hXR ⟨Nat.le_of_ble_eq_true rfl, Nat.le_of_ble_eq_true rfl⟩) rfl rfl (rv_MOD) rfl (Nat.le_of_ble_eq_true rfl) d_m_laySampling_67 ?_
    obtain ⟨r13, hr13, h⟩ := bd_ok h
    refine r_callV (n := 73) rfl ok hG mf_m_fullEntry k_1152 ks_37 k_1150 (C_m_fullEntry  hr13) ⟨rfl, rfl⟩ (rR hXR ⟨Nat.le_of_ble_eq_true rfl, Nat.le_of_ble_eq_true rfl⟩) rfl rfl (rv_MOD) rfl (Nat.le_of_ble_eq_true rfl) d_m_laySampling_70 ?_
    refine r_aload_n (n := 74) rfl ok d_m_laySampling_73 rfl 1 rfl ?_
    refine r_iload_n (n := 75) rfl ok d_m_laySampling_74 rfl 2 rfl ?_
    refine r_iconst (v := 2) (n := 76) rfl ok d_m_laySampling_75 (by decide) ?_
    refine r_aload_n (n := 77) rfl ok d_m_laySampling_76 rfl 1 rfl ?_
    refine r_iload_n (n := 78) rfl ok d_m_laySampling_77 rfl 3 rfl ?_
    refine r_iconst (v := 2) (n := 79) rfl ok d_m_laySampling_78 (by decide) ?_
    obtain ⟨r14, hr14, h⟩ := bd_ok h
    refine r_callV (n := 82) rfl ok hG mf_m_roleOf k_1148 ks_36 k_1146 (C_m_roleOf  hr14) ⟨rfl, rfl⟩ (rR hXR ⟨Nat.le_of_ble_eq_true rfl, Nat.le_of_ble_eq_true rfl⟩) rfl rfl (rv_MOD) rfl (Nat.le_of_ble_eq_true rfl) d_m_laySampling_79 ?_
    obtain ⟨r15, hr15, h⟩ := bd_ok h
    refine r_callV (n := 85) rfl ok hG mf_m_fullEntry k_1152 ks_37 k_1150 (C_m_fullEntry  hr15) ⟨rfl, rfl⟩ (rR hXR ⟨Nat.le_of_ble_eq_true rfl, Nat.le_of_ble_eq_true rfl⟩) rfl rfl (rv_MOD) rfl (Nat.le_of_ble_eq_true rfl) d_m_laySampling_82 ?_
    refine r_aload_n (n := 86) rfl ok d_m_laySampling_85 rfl 1 rfl ?_
    refine r_iload_n (n := 87) rfl ok d_m_laySampling_86 rfl 2 rfl ?_
    refine r_iconst (v := 3) (n := 88) rfl ok d_m_laySampling_87 (by decide) ?_
    refine r_aload_n (n := 89) rfl ok d_m_laySampling_88 rfl 1 rfl ?_
    refine r_iload_n (n := 90) rfl ok d_m_laySampling_89 rfl 3 rfl ?_
    refine r_iconst (v := 3) (n := 91) rfl ok d_m_laySampling_90 (by decide) ?_
    obtain ⟨r16, hr16, h⟩ := bd_ok h
    refine r_callV (n := 94) rfl ok hG mf_m_roleOf k_1148 ks_36 k_1146 (C_m_roleOf  hr16) ⟨rfl, rfl⟩ (rR hXR ⟨Nat.le_of_ble_eq_true rfl, Nat.le_of_ble_eq_true rfl⟩) rfl rfl (rv_MOD) rfl (Nat.le_of_ble_eq_true rfl) d_m_laySampling_91 ?_
    obtain ⟨r17, hr17, h⟩ := bd_ok h
    refine r_callV (n := 97) rfl ok hG mf_m_fullEntry k_1152 ks_37 k_1150 (C_m_fullEntry  hr17) ⟨rfl, rfl⟩ (rR hXR ⟨Nat.le_of_ble_eq_true rfl, Nat.le_of_ble_eq_true rfl⟩) rfl rfl (rv_MOD) rfl (Nat.le_of_ble_eq_true rfl) d_m_laySampling_94 ?_
    refine r_aload_n (n := 98) rfl ok d_m_laySampling_97 rfl 1 rfl ?_
    refine g_MOD_v (n := 101) rfl ok hG  k_986 d_m_laySampling_98 ?_
    refine r_iload_n (n := 102) rfl ok d_m_laySampling_101 rfl 3 rfl ?_
    obtain ⟨r18, hr18, h⟩ := bd_ok h
    refine r_callS (n := 105) rfl ok hG mf_m_side k_1034 k_1033 (C_m_side  hr18) ⟨rfl, rfl⟩ (rR hXR ⟨Nat.le_of_ble_eq_true rfl, Nat.le_of_ble_eq_true rfl⟩) rfl rfl (Nat.le_of_ble_eq_true rfl) d_m_laySampling_102 ?_
    refine r_iconst (v := 1) (n := 106) rfl ok d_m_laySampling_105 (by decide) ?_
    refine r_iadd (n := 107) rfl ok d_m_laySampling_106 ?_
    refine r_dup2 (n := 108) rfl ok d_m_laySampling_107 rfl rfl ?_
    obtain ⟨g19, h⟩ := gd_ok h
    refine al_V (n := 109) rfl ok hG  g19 d_m_laySampling_108 ?_
    refine r_iconst (v := 1) (n := 110) rfl ok d_m_laySampling_109 (by decide) ?_
    refine r_iadd (n := 111) rfl ok d_m_laySampling_110 ?_
    obtain ⟨g20, h⟩ := gd_ok h
    obtain ⟨M21, eM21, h⟩ := bd_ok h
    refine as_V (n := 112) rfl ok hG  g20 d_m_laySampling_111 ?_
    refine r_mem (Option.some.inj eM21) ?_
    obtain rfl := Option.some.inj h
    exact fin _ _ d_m_laySampling_112
  · replace h := if_n c10 h
    refine r_iconst (v := 0) (n := 43) rfl ok d_m_laySampling_42 (by decide) ?_
    refine r_goto (tgt := 47) ok d_m_laySampling_43 (by decide) ?_
    refine r_istore (lv' := [(4, .int 0), (0, .ref (G.1 + 0)), (1, .int a1), (2, .int a2), (3, .int a3)]) (n := 49) rfl ok d_m_laySampling_47 (lt_n hXn (Nat.le_of_ble_eq_true rfl)) rfl ?_
    refine r_aload_n (n := 50) rfl ok d_m_laySampling_49 rfl 1 rfl ?_
    refine r_iload_n (n := 51) rfl ok d_m_laySampling_50 rfl 2 rfl ?_
    refine r_iload (n := 53) rfl ok d_m_laySampling_51 0 rfl ?_
    refine r_iload_n (n := 54) rfl ok d_m_laySampling_53 rfl 4 rfl ?_
    refine r_iconst (v := 1) (n := 55) rfl ok d_m_laySampling_54 (by decide) ?_
    obtain ⟨r22, hr22, h⟩ := bd_ok h
    refine r_callV (n := 58) rfl ok hG mf_m_entry k_1167 ks_40 k_1165 (C_m_entry  hr22) ⟨rfl, rfl⟩ (rR hXR ⟨Nat.le_of_ble_eq_true rfl, Nat.le_of_ble_eq_true rfl⟩) rfl rfl (rv_MOD) rfl (Nat.le_of_ble_eq_true rfl) d_m_laySampling_55 ?_
    refine r_aload_n (n := 59) rfl ok d_m_laySampling_58 rfl 1 rfl ?_
    refine r_iload_n (n := 60) rfl ok d_m_laySampling_59 rfl 2 rfl ?_
    refine r_iconst (v := 1) (n := 61) rfl ok d_m_laySampling_60 (by decide) ?_
    refine r_iload (n := 63) rfl ok d_m_laySampling_61 0 rfl ?_
    refine r_isub (n := 64) rfl ok d_m_laySampling_63 ?_
    refine r_aload_n (n := 65) rfl ok d_m_laySampling_64 rfl 1 rfl ?_
    refine r_iload_n (n := 66) rfl ok d_m_laySampling_65 rfl 3 rfl ?_
    refine r_iconst (v := 0) (n := 67) rfl ok d_m_laySampling_66 (by decide) ?_
    obtain ⟨r23, hr23, h⟩ := bd_ok h
    refine r_callV (n := 70) rfl ok hG mf_m_roleOf k_1148 ks_36 k_1146 (C_m_roleOf  hr23) ⟨rfl, rfl⟩ (rR hXR ⟨Nat.le_of_ble_eq_true rfl, Nat.le_of_ble_eq_true rfl⟩) rfl rfl (rv_MOD) rfl (Nat.le_of_ble_eq_true rfl) d_m_laySampling_67 ?_
    obtain ⟨r24, hr24, h⟩ := bd_ok h
    refine r_callV (n := 73) rfl ok hG mf_m_fullEntry k_1152 ks_37 k_1150 (C_m_fullEntry  hr24) ⟨rfl, rfl⟩ (rR hXR ⟨Nat.le_of_ble_eq_true rfl, Nat.le_of_ble_eq_true rfl⟩) rfl rfl (rv_MOD) rfl (Nat.le_of_ble_eq_true rfl) d_m_laySampling_70 ?_
    refine r_aload_n (n := 74) rfl ok d_m_laySampling_73 rfl 1 rfl ?_
    refine r_iload_n (n := 75) rfl ok d_m_laySampling_74 rfl 2 rfl ?_
    refine r_iconst (v := 2) (n := 76) rfl ok d_m_laySampling_75 (by decide) ?_
    refine r_aload_n (n := 77) rfl ok d_m_laySampling_76 rfl 1 rfl ?_
    refine r_iload_n (n := 78) rfl ok d_m_laySampling_77 rfl 3 rfl ?_
    refine r_iconst (v := 2) (n := 79) rfl ok d_m_laySampling_78 (by decide) ?_
    obtain ⟨r25, hr25, h⟩ := bd_ok h
    refine r_callV (n := 82) rfl ok hG mf_m_roleOf k_1148 ks_36 k_1146 (C_m_roleOf  hr25) ⟨rfl, rfl⟩ (rR hXR ⟨Nat.le_of_ble_eq_true rfl, Nat.le_of_ble_eq_true rfl⟩) rfl rfl (rv_MOD) rfl (Nat.le_of_ble_eq_true rfl) d_m_laySampling_79 ?_
    obtain ⟨r26, hr26, h⟩ := bd_ok h
    refine r_callV (n := 85) rfl ok hG mf_m_fullEntry k_1152 ks_37 k_1150 (C_m_fullEntry  hr26) ⟨rfl, rfl⟩ (rR hXR ⟨Nat.le_of_ble_eq_true rfl, Nat.le_of_ble_eq_true rfl⟩) rfl rfl (rv_MOD) rfl (Nat.le_of_ble_eq_true rfl) d_m_laySampling_82 ?_
    refine r_aload_n (n := 86) rfl ok d_m_laySampling_85 rfl 1 rfl ?_
    refine r_iload_n (n := 87) rfl ok d_m_laySampling_86 rfl 2 rfl ?_
    refine r_iconst (v := 3) (n := 88) rfl ok d_m_laySampling_87 (by decide) ?_
    refine r_aload_n (n := 89) rfl ok d_m_laySampling_88 rfl 1 rfl ?_
    refine r_iload_n (n := 90) rfl ok d_m_laySampling_89 rfl 3 rfl ?_
    refine r_iconst (v := 3) (n := 91) rfl ok d_m_laySampling_90 (by decide) ?_
    obtain ⟨r27, hr27, h⟩ := bd_ok h
    refine r_callV (n := 94) rfl ok hG mf_m_roleOf k_1148 ks_36 k_1146 (C_m_roleOf  hr27) ⟨rfl, rfl⟩ (rR hXR ⟨Nat.le_of_ble_eq_true rfl, Nat.le_of_ble_eq_true rfl⟩) rfl rfl (rv_MOD) rfl (Nat.le_of_ble_eq_true rfl) d_m_laySampling_91 ?_
    obtain ⟨r28, hr28, h⟩ := bd_ok h
    refine r_callV (n := 97) rfl ok hG mf_m_fullEntry k_1152 ks_37 k_1150 (C_m_fullEntry  hr28) ⟨rfl, rfl⟩ (rR hXR ⟨Nat.le_of_ble_eq_true rfl, Nat.le_of_ble_eq_true rfl⟩) rfl rfl (rv_MOD) rfl (Nat.le_of_ble_eq_true rfl) d_m_laySampling_94 ?_
    refine r_aload_n (n := 98) rfl ok d_m_laySampling_97 rfl 1 rfl ?_
    refine g_MOD_v (n := 101) rfl ok hG  k_986 d_m_laySampling_98 ?_
    refine r_iload_n (n := 102) rfl ok d_m_laySampling_101 rfl 3 rfl ?_
    obtain ⟨r29, hr29, h⟩ := bd_ok h
    refine r_callS (n := 105) rfl ok hG mf_m_side k_1034 k_1033 (C_m_side  hr29) ⟨rfl, rfl⟩ (rR hXR ⟨Nat.le_of_ble_eq_true rfl, Nat.le_of_ble_eq_true rfl⟩) rfl rfl (Nat.le_of_ble_eq_true rfl) d_m_laySampling_102 ?_
    refine r_iconst (v := 1) (n := 106) rfl ok d_m_laySampling_105 (by decide) ?_
    refine r_iadd (n := 107) rfl ok d_m_laySampling_106 ?_
    refine r_dup2 (n := 108) rfl ok d_m_laySampling_107 rfl rfl ?_
    obtain ⟨g30, h⟩ := gd_ok h
    refine al_V (n := 109) rfl ok hG  g30 d_m_laySampling_108 ?_
    refine r_iconst (v := 1) (n := 110) rfl ok d_m_laySampling_109 (by decide) ?_
    refine r_iadd (n := 111) rfl ok d_m_laySampling_110 ?_
    obtain ⟨g31, h⟩ := gd_ok h
    obtain ⟨M32, eM32, h⟩ := bd_ok h
    refine as_V (n := 112) rfl ok hG  g31 d_m_laySampling_111 ?_
    refine r_mem (Option.some.inj eM32) ?_
    obtain rfl := Option.some.inj h
    exact fin _ _ d_m_laySampling_112
set_option maxHeartbeats 4000000 in
set_option maxRecDepth 20000 in
theorem C_m_lays {l : Launch} {G : Gt} {M : Me} {a1 : Int32} {a2 : Int32}  {o : Int32 × Me} (h : f_m_lays M a1 a2 = some o) : Ct l G (WM G) (rM G) y_m_lays b_m_lays 5 (some .int) rm_m_lays [.ref (G.1 + 0), .int a1, .int a2] M (some (.int o.1)) o.2 := by
  refine Ct.mk (own := "RetryChainsModel") rfl (by decide) (Nat.le_of_ble_eq_true rfl) ⟨_, rfl⟩ (fun X hXl hXR hXn ok hG fin => ?_)
  subst hXl
  unfold f_m_lays at h
  show Wt X M 0 [(0, .ref (G.1 + 0)), (1, .int a1), (2, .int a2)] []
  refine r_aload_n (n := 1) rfl ok d_m_lays_0 rfl 0 rfl ?_
  obtain ⟨r1, hr1, h⟩ := bd_ok h
  refine r_callV (n := 4) rfl ok hG mf_m_freeChain k_1133 ks_33 k_1131 (C_m_freeChain  hr1) ⟨rfl, rfl⟩ (rR hXR ⟨Nat.le_of_ble_eq_true rfl, Nat.le_of_ble_eq_true rfl⟩) rfl rfl (rv_MOD) rfl (Nat.le_of_ble_eq_true rfl) d_m_lays_1 ?_
  refine r_istore_n (lv' := [(3, .int r1), (0, .ref (G.1 + 0)), (1, .int a1), (2, .int a2)]) (n := 5) rfl ok d_m_lays_4 rfl (lt_n hXn (Nat.le_of_ble_eq_true rfl)) rfl ?_
  refine r_aload_n (n := 6) rfl ok d_m_lays_5 rfl 1 rfl ?_
  refine g_MOD_v (n := 9) rfl ok hG  k_986 d_m_lays_6 ?_
  refine r_iload_n (n := 10) rfl ok d_m_lays_9 rfl 0 rfl ?_
  obtain ⟨r2, hr2, h⟩ := bd_ok h
  refine r_callS (n := 13) rfl ok hG mf_m_open k_1136 k_1135 (C_m_open  hr2) ⟨rfl, rfl⟩ (rR hXR ⟨Nat.le_of_ble_eq_true rfl, Nat.le_of_ble_eq_true rfl⟩) rfl rfl (Nat.le_of_ble_eq_true rfl) d_m_lays_10 ?_
  refine r_iconst (v := 0) (n := 14) rfl ok d_m_lays_13 (by decide) ?_
  refine r_iadd (n := 15) rfl ok d_m_lays_14 ?_
  refine r_iconst (v := 1) (n := 16) rfl ok d_m_lays_15 (by decide) ?_
  obtain ⟨g3, h⟩ := gd_ok h
  obtain ⟨M4, eM4, h⟩ := bd_ok h
  refine as_V (n := 17) rfl ok hG  g3 d_m_lays_16 ?_
  refine r_mem (Option.some.inj eM4) ?_
  refine r_aload_n (n := 18) rfl ok d_m_lays_17 rfl 1 rfl ?_
  refine g_MOD_v (n := 21) rfl ok hG  k_986 d_m_lays_18 ?_
  refine r_iload_n (n := 22) rfl ok d_m_lays_21 rfl 0 rfl ?_
  obtain ⟨r5, hr5, h⟩ := bd_ok h
  refine r_callS (n := 25) rfl ok hG mf_m_open k_1136 k_1135 (C_m_open  hr5) ⟨rfl, rfl⟩ (rR hXR ⟨Nat.le_of_ble_eq_true rfl, Nat.le_of_ble_eq_true rfl⟩) rfl rfl (Nat.le_of_ble_eq_true rfl) d_m_lays_22 ?_
  refine r_iconst (v := 1) (n := 26) rfl ok d_m_lays_25 (by decide) ?_
  refine r_iadd (n := 27) rfl ok d_m_lays_26 ?_
  refine r_iload_n (n := 28) rfl ok d_m_lays_27 rfl 2 rfl ?_
  obtain ⟨g6, h⟩ := gd_ok h
  obtain ⟨M7, eM7, h⟩ := bd_ok h
  refine as_V (n := 29) rfl ok hG  g6 d_m_lays_28 ?_
  refine r_mem (Option.some.inj eM7) ?_
  refine r_aload_n (n := 30) rfl ok d_m_lays_29 rfl 1 rfl ?_
  refine g_MOD_v (n := 33) rfl ok hG  k_986 d_m_lays_30 ?_
  refine r_iload_n (n := 34) rfl ok d_m_lays_33 rfl 0 rfl ?_
  obtain ⟨r8, hr8, h⟩ := bd_ok h
  refine r_callS (n := 37) rfl ok hG mf_m_open k_1136 k_1135 (C_m_open  hr8) ⟨rfl, rfl⟩ (rR hXR ⟨Nat.le_of_ble_eq_true rfl, Nat.le_of_ble_eq_true rfl⟩) rfl rfl (Nat.le_of_ble_eq_true rfl) d_m_lays_34 ?_
  refine r_iconst (v := 2) (n := 38) rfl ok d_m_lays_37 (by decide) ?_
  refine r_iadd (n := 39) rfl ok d_m_lays_38 ?_
  refine r_iload_n (n := 40) rfl ok d_m_lays_39 rfl 3 rfl ?_
  obtain ⟨g9, h⟩ := gd_ok h
  obtain ⟨M10, eM10, h⟩ := bd_ok h
  refine as_V (n := 41) rfl ok hG  g9 d_m_lays_40 ?_
  refine r_mem (Option.some.inj eM10) ?_
  refine r_aload_n (n := 42) rfl ok d_m_lays_41 rfl 1 rfl ?_
  refine g_MOD_v (n := 45) rfl ok hG  k_986 d_m_lays_42 ?_
  refine r_iload_n (n := 46) rfl ok d_m_lays_45 rfl 2 rfl ?_
  obtain ⟨r11, hr11, h⟩ := bd_ok h
  refine r_callS (n := 49) rfl ok hG mf_m_side k_1034 k_1033 (C_m_side  hr11) ⟨rfl, rfl⟩ (rR hXR ⟨Nat.le_of_ble_eq_true rfl, Nat.le_of_ble_eq_true rfl⟩) rfl rfl (Nat.le_of_ble_eq_true rfl) d_m_lays_46 ?_
  refine r_iconst (v := 0) (n := 50) rfl ok d_m_lays_49 (by decide) ?_
  refine r_iadd (n := 51) rfl ok d_m_lays_50 ?_
  refine r_dup2 (n := 52) rfl ok d_m_lays_51 rfl rfl ?_
  obtain ⟨g12, h⟩ := gd_ok h
  refine al_V (n := 53) rfl ok hG  g12 d_m_lays_52 ?_
  refine r_iconst (v := 1) (n := 54) rfl ok d_m_lays_53 (by decide) ?_
  refine r_iadd (n := 55) rfl ok d_m_lays_54 ?_
  obtain ⟨g13, h⟩ := gd_ok h
  obtain ⟨M14, eM14, h⟩ := bd_ok h
  refine as_V (n := 56) rfl ok hG  g13 d_m_lays_55 ?_
  refine r_mem (Option.some.inj eM14) ?_
  refine r_aload_n (n := 57) rfl ok d_m_lays_56 rfl 1 rfl ?_
  refine g_MOD_v (n := 60) rfl ok hG  k_986 d_m_lays_57 ?_
  refine r_iload_n (n := 61) rfl ok d_m_lays_60 rfl 2 rfl ?_
  obtain ⟨r15, hr15, h⟩ := bd_ok h
  refine r_callS (n := 64) rfl ok hG mf_m_side k_1034 k_1033 (C_m_side  hr15) ⟨rfl, rfl⟩ (rR hXR ⟨Nat.le_of_ble_eq_true rfl, Nat.le_of_ble_eq_true rfl⟩) rfl rfl (Nat.le_of_ble_eq_true rfl) d_m_lays_61 ?_
  refine r_iconst (v := 5) (n := 65) rfl ok d_m_lays_64 (by decide) ?_
  refine r_iadd (n := 66) rfl ok d_m_lays_65 ?_
  obtain ⟨g16, h⟩ := gd_ok h
  refine al_V (n := 67) rfl ok hG  g16 d_m_lays_66 ?_
  refine r_iconst (v := 1) (n := 68) rfl ok d_m_lays_67 (by decide) ?_
  refine r_icmp_ne (tgt := 79) (n := 71) rfl ok d_m_lays_68 (by decide) (fun c17 => ?_) (fun c17 => ?_)
  · replace h := if_n c17 h
    refine r_aload_n (n := 80) rfl ok d_m_lays_79 rfl 1 rfl ?_
    refine r_iload_n (n := 81) rfl ok d_m_lays_80 rfl 2 rfl ?_
    obtain ⟨r18, hr18, h⟩ := bd_ok h
    refine r_callV (n := 84) rfl ok hG mf_m_sampledBy k_1175 ks_42 k_1173 (C_m_sampledBy  hr18) ⟨rfl, rfl⟩ (rR hXR ⟨Nat.le_of_ble_eq_true rfl, Nat.le_of_ble_eq_true rfl⟩) rfl rfl (rv_MOD) rfl (Nat.le_of_ble_eq_true rfl) d_m_lays_81 ?_
    refine r_istore (lv' := [(4, .int r18.1), (3, .int r1), (0, .ref (G.1 + 0)), (1, .int a1), (2, .int a2)]) (n := 86) rfl ok d_m_lays_84 (lt_n hXn (Nat.le_of_ble_eq_true rfl)) rfl ?_
    refine r_iload (n := 88) rfl ok d_m_lays_86 0 rfl ?_
    refine r_bipush (v := (-9)) (n := 90) rfl ok d_m_lays_88 (by decide) ?_
    refine r_icmp_ne (tgt := 102) (n := 93) rfl ok d_m_lays_90 (by decide) (fun c19 => ?_) (fun c19 => ?_)
    · replace h := if_n c19 h
      refine r_aload_n (n := 103) rfl ok d_m_lays_102 rfl 2 rfl ?_
      refine r_iload_n (n := 104) rfl ok d_m_lays_103 rfl 1 rfl ?_
      refine r_iload_n (n := 105) rfl ok d_m_lays_104 rfl 3 rfl ?_
      refine r_iload (n := 107) rfl ok d_m_lays_105 0 rfl ?_
      obtain ⟨r20, hr20, h⟩ := bd_ok h
      refine r_callV (n := 110) rfl ok hG mf_m_laySampling k_1188 ks_45 k_1186 (C_m_laySampling  hr20) ⟨rfl, rfl⟩ (rR hXR ⟨Nat.le_of_ble_eq_true rfl, Nat.le_of_ble_eq_true rfl⟩) rfl rfl (rv_MOD) rfl (Nat.le_of_ble_eq_true rfl) d_m_lays_107 ?_
      refine r_iload_n (n := 111) rfl ok d_m_lays_110 rfl 1 rfl ?_
      obtain rfl := Option.some.inj h
      exact fin _ _ ⟨.int, rfl, rfl⟩ d_m_lays_111
    · replace h := if_p c19 h
      refine r_aload_n (n := 94) rfl ok d_m_lays_93 rfl 2 rfl ?_
      refine r_iload_n (n := 95) rfl ok d_m_lays_94 rfl 1 rfl ?_
      refine r_iload_n (n := 96) rfl ok d_m_lays_95 rfl 3 rfl ?_
      obtain ⟨r21, hr21, h⟩ := bd_ok h
      refine r_callV (n := 99) rfl ok hG mf_m_layPlain k_1184 ks_44 k_1182 (C_m_layPlain  hr21) ⟨rfl, rfl⟩ (rR hXR ⟨Nat.le_of_ble_eq_true rfl, Nat.le_of_ble_eq_true rfl⟩) rfl rfl (rv_MOD) rfl (Nat.le_of_ble_eq_true rfl) d_m_lays_96 ?_
      refine r_goto (tgt := 110) ok d_m_lays_99 (by decide) ?_
      refine r_iload_n (n := 111) rfl ok d_m_lays_110 rfl 1 rfl ?_
      obtain rfl := Option.some.inj h
      exact fin _ _ ⟨.int, rfl, rfl⟩ d_m_lays_111
  · replace h := if_p c17 h
    refine r_aload_n (n := 72) rfl ok d_m_lays_71 rfl 1 rfl ?_
    refine r_iload_n (n := 73) rfl ok d_m_lays_72 rfl 0 rfl ?_
    refine r_iload_n (n := 74) rfl ok d_m_lays_73 rfl 2 rfl ?_
    obtain ⟨r22, hr22, h⟩ := bd_ok h
    refine r_callV (n := 77) rfl ok hG mf_m_layFallback k_1144 ks_35 k_1142 (C_m_layFallback  hr22) ⟨rfl, rfl⟩ (rR hXR ⟨Nat.le_of_ble_eq_true rfl, Nat.le_of_ble_eq_true rfl⟩) rfl rfl (rv_MOD) rfl (Nat.le_of_ble_eq_true rfl) d_m_lays_74 ?_
    refine r_iload_n (n := 78) rfl ok d_m_lays_77 rfl 0 rfl ?_
    obtain rfl := Option.some.inj h
    exact fin _ _ ⟨.int, rfl, rfl⟩ d_m_lays_78
set_option maxHeartbeats 4000000 in
set_option maxRecDepth 20000 in
theorem C_m_lay {l : Launch} {G : Gt} {M : Me} {a1 : Int32} {a2 : Int32}  {o : Int32 × Me} (h : f_m_lay M a1 a2 = some o) : Ct l G (WM G) (rM G) y_m_lay b_m_lay 3 (some .int) rm_m_lay [.ref (G.1 + 0), .int a1, .int a2] M (some (.int o.1)) o.2 := by
  refine Ct.mk (own := "RetryChainsModel") rfl (by decide) (Nat.le_of_ble_eq_true rfl) ⟨_, rfl⟩ (fun X hXl hXR hXn ok hG fin => ?_)
  subst hXl
  unfold f_m_lay at h
  show Wt X M 0 [(0, .ref (G.1 + 0)), (1, .int a1), (2, .int a2)] []
  refine r_aload_n (n := 1) rfl ok d_m_lay_0 rfl 0 rfl ?_
  refine r_iload_n (n := 2) rfl ok d_m_lay_1 rfl 1 rfl ?_
  obtain ⟨r1, hr1, h⟩ := bd_ok h
  refine r_callV (n := 5) rfl ok hG mf_m_isStation k_1096 ks_29 k_1094 (C_m_isStation  hr1) ⟨rfl, rfl⟩ (rR hXR ⟨Nat.le_of_ble_eq_true rfl, Nat.le_of_ble_eq_true rfl⟩) rfl rfl (rv_MOD) rfl (Nat.le_of_ble_eq_true rfl) d_m_lay_2 ?_
  refine r_if_eq (tgt := 19) (n := 8) rfl ok d_m_lay_5 (by decide) (fun c2 => ?_) (fun c2 => ?_)
  · replace h := if_p c2 h
    refine r_iconst (v := (-1)) (n := 20) rfl ok d_m_lay_19 (by decide) ?_
    obtain rfl := Option.some.inj h
    exact fin _ _ ⟨.int, rfl, rfl⟩ d_m_lay_20
  · replace h := if_n c2 h
    refine r_iload_n (n := 9) rfl ok d_m_lay_8 rfl 2 rfl ?_
    refine r_iconst (v := 1) (n := 10) rfl ok d_m_lay_9 (by decide) ?_
    refine r_sipush (v := 4000) (n := 13) rfl ok d_m_lay_10 (by decide) ?_
    obtain ⟨r3, hr3, h⟩ := bd_ok h
    refine r_callS (n := 16) rfl ok hG mf_m_in k_1016 k_1015 (C_m_in  hr3) ⟨rfl, rfl⟩ (rR hXR ⟨Nat.le_of_ble_eq_true rfl, Nat.le_of_ble_eq_true rfl⟩) rfl rfl (Nat.le_of_ble_eq_true rfl) d_m_lay_13 ?_
    refine r_if_ne (tgt := 21) (n := 19) rfl ok d_m_lay_16 (by decide) (fun c4 => ?_) (fun c4 => ?_)
    · replace h := if_n c4 h
      refine r_aload_n (n := 22) rfl ok d_m_lay_21 rfl 0 rfl ?_
      refine r_iload_n (n := 23) rfl ok d_m_lay_22 rfl 1 rfl ?_
      obtain ⟨r5, hr5, h⟩ := bd_ok h
      refine r_callV (n := 26) rfl ok hG mf_m_hasAllowed k_1129 ks_32 k_1127 (C_m_hasAllowed  hr5) ⟨rfl, rfl⟩ (rR hXR ⟨Nat.le_of_ble_eq_true rfl, Nat.le_of_ble_eq_true rfl⟩) rfl rfl (rv_MOD) rfl (Nat.le_of_ble_eq_true rfl) d_m_lay_23 ?_
      refine r_if_ne (tgt := 32) (n := 29) rfl ok d_m_lay_26 (by decide) (fun c6 => ?_) (fun c6 => ?_)
      · replace h := if_n c6 h
        refine r_aload_n (n := 33) rfl ok d_m_lay_32 rfl 0 rfl ?_
        obtain ⟨r7, hr7, h⟩ := bd_ok h
        refine r_callV (n := 36) rfl ok hG mf_m_freeChain k_1133 ks_33 k_1131 (C_m_freeChain  hr7) ⟨rfl, rfl⟩ (rR hXR ⟨Nat.le_of_ble_eq_true rfl, Nat.le_of_ble_eq_true rfl⟩) rfl rfl (rv_MOD) rfl (Nat.le_of_ble_eq_true rfl) d_m_lay_33 ?_
        refine r_bipush (v := (-9)) (n := 38) rfl ok d_m_lay_36 (by decide) ?_
        refine r_icmp_ne (tgt := 44) (n := 41) rfl ok d_m_lay_38 (by decide) (fun c8 => ?_) (fun c8 => ?_)
        · replace h := if_n c8 h
          refine r_aload_n (n := 45) rfl ok d_m_lay_44 rfl 0 rfl ?_
          obtain ⟨r9, hr9, h⟩ := bd_ok h
          refine r_callV (n := 48) rfl ok hG mf_m_act k_1020 ks_15 k_1018 (C_m_act  hr9) ⟨rfl, rfl⟩ (rR hXR ⟨Nat.le_of_ble_eq_true rfl, Nat.le_of_ble_eq_true rfl⟩) rfl rfl (rv_MOD) rfl (Nat.le_of_ble_eq_true rfl) d_m_lay_45 ?_
          refine r_aload_n (n := 49) rfl ok d_m_lay_48 rfl 0 rfl ?_
          refine r_iload_n (n := 50) rfl ok d_m_lay_49 rfl 1 rfl ?_
          refine r_iload_n (n := 51) rfl ok d_m_lay_50 rfl 2 rfl ?_
          obtain ⟨r10, hr10, h⟩ := bd_ok h
          refine r_callV (n := 54) rfl ok hG mf_m_lays k_1140 ks_34 k_1138 (C_m_lays  hr10) ⟨rfl, rfl⟩ (rR hXR ⟨Nat.le_of_ble_eq_true rfl, Nat.le_of_ble_eq_true rfl⟩) rfl rfl (rv_MOD) rfl (Nat.le_of_ble_eq_true rfl) d_m_lay_51 ?_
          obtain rfl := Option.some.inj h
          exact fin _ _ ⟨.int, rfl, rfl⟩ d_m_lay_54
        · replace h := if_p c8 h
          refine r_bipush (v := (-3)) (n := 43) rfl ok d_m_lay_41 (by decide) ?_
          obtain rfl := Option.some.inj h
          exact fin _ _ ⟨.int, rfl, rfl⟩ d_m_lay_43
      · replace h := if_p c6 h
        refine r_bipush (v := (-2)) (n := 31) rfl ok d_m_lay_29 (by decide) ?_
        obtain rfl := Option.some.inj h
        exact fin _ _ ⟨.int, rfl, rfl⟩ d_m_lay_31
    · replace h := if_p c4 h
      refine r_iconst (v := (-1)) (n := 20) rfl ok d_m_lay_19 (by decide) ?_
      obtain rfl := Option.some.inj h
      exact fin _ _ ⟨.int, rfl, rfl⟩ d_m_lay_20
set_option maxHeartbeats 4000000 in
set_option maxRecDepth 20000 in
theorem C_m_enqueue {l : Launch} {G : Gt} {M : Me} {a1 : Int32} {a2 : Int32}  {o : Int32 × Me} (h : f_m_enqueue M a1 a2 = some o) : Ct l G (WM G) (rM G) y_m_enqueue b_m_enqueue 4 (some .int) rm_m_enqueue [.ref (G.1 + 0), .int a1, .int a2] M (some (.int o.1)) o.2 := by
  refine Ct.mk (own := "RetryChainsModel") rfl (by decide) (Nat.le_of_ble_eq_true rfl) ⟨_, rfl⟩ (fun X hXl hXR hXn ok hG fin => ?_)
  subst hXl
  unfold f_m_enqueue at h
  show Wt X M 0 [(0, .ref (G.1 + 0)), (1, .int a1), (2, .int a2)] []
  refine r_aload_n (n := 1) rfl ok d_m_enqueue_0 rfl 0 rfl ?_
  refine r_iload_n (n := 2) rfl ok d_m_enqueue_1 rfl 1 rfl ?_
  obtain ⟨r1, hr1, h⟩ := bd_ok h
  refine r_callV (n := 5) rfl ok hG mf_m_isStation k_1096 ks_29 k_1094 (C_m_isStation  hr1) ⟨rfl, rfl⟩ (rR hXR ⟨Nat.le_of_ble_eq_true rfl, Nat.le_of_ble_eq_true rfl⟩) rfl rfl (rv_MOD) rfl (Nat.le_of_ble_eq_true rfl) d_m_enqueue_2 ?_
  refine r_if_eq (tgt := 19) (n := 8) rfl ok d_m_enqueue_5 (by decide) (fun c2 => ?_) (fun c2 => ?_)
  · replace h := if_p c2 h
    refine r_iconst (v := (-1)) (n := 20) rfl ok d_m_enqueue_19 (by decide) ?_
    obtain rfl := Option.some.inj h
    exact fin _ _ ⟨.int, rfl, rfl⟩ d_m_enqueue_20
  · replace h := if_n c2 h
    refine r_iload_n (n := 9) rfl ok d_m_enqueue_8 rfl 2 rfl ?_
    refine r_iconst (v := 1) (n := 10) rfl ok d_m_enqueue_9 (by decide) ?_
    refine r_sipush (v := 4000) (n := 13) rfl ok d_m_enqueue_10 (by decide) ?_
    obtain ⟨r3, hr3, h⟩ := bd_ok h
    refine r_callS (n := 16) rfl ok hG mf_m_in k_1016 k_1015 (C_m_in  hr3) ⟨rfl, rfl⟩ (rR hXR ⟨Nat.le_of_ble_eq_true rfl, Nat.le_of_ble_eq_true rfl⟩) rfl rfl (Nat.le_of_ble_eq_true rfl) d_m_enqueue_13 ?_
    refine r_if_ne (tgt := 21) (n := 19) rfl ok d_m_enqueue_16 (by decide) (fun c4 => ?_) (fun c4 => ?_)
    · replace h := if_n c4 h
      refine r_iload_n (n := 22) rfl ok d_m_enqueue_21 rfl 1 rfl ?_
      obtain ⟨r5, hr5, h⟩ := bd_ok h
      refine r_callS (n := 25) rfl ok hG mf_m_side k_1034 k_1033 (C_m_side  hr5) ⟨rfl, rfl⟩ (rR hXR ⟨Nat.le_of_ble_eq_true rfl, Nat.le_of_ble_eq_true rfl⟩) rfl rfl (Nat.le_of_ble_eq_true rfl) d_m_enqueue_22 ?_
      refine r_istore_n (lv' := [(3, .int r5), (0, .ref (G.1 + 0)), (1, .int a1), (2, .int a2)]) (n := 26) rfl ok d_m_enqueue_25 rfl (lt_n hXn (Nat.le_of_ble_eq_true rfl)) rfl ?_
      refine r_aload_n (n := 27) rfl ok d_m_enqueue_26 rfl 1 rfl ?_
      refine g_MOD_v (n := 30) rfl ok hG  k_986 d_m_enqueue_27 ?_
      refine r_iload_n (n := 31) rfl ok d_m_enqueue_30 rfl 0 rfl ?_
      refine r_bipush (v := 6) (n := 33) rfl ok d_m_enqueue_31 (by decide) ?_
      refine r_iadd (n := 34) rfl ok d_m_enqueue_33 ?_
      obtain ⟨g6, h⟩ := gd_ok h
      refine al_V (n := 35) rfl ok hG  g6 d_m_enqueue_34 ?_
      refine r_bipush (v := 8) (n := 37) rfl ok d_m_enqueue_35 (by decide) ?_
      refine r_icmp_ne (tgt := 43) (n := 40) rfl ok d_m_enqueue_37 (by decide) (fun c7 => ?_) (fun c7 => ?_)
      · replace h := if_n c7 h
        refine r_aload_n (n := 44) rfl ok d_m_enqueue_43 rfl 1 rfl ?_
        obtain ⟨r8, hr8, h⟩ := bd_ok h
        refine r_callV (n := 47) rfl ok hG mf_m_act k_1020 ks_15 k_1018 (C_m_act  hr8) ⟨rfl, rfl⟩ (rR hXR ⟨Nat.le_of_ble_eq_true rfl, Nat.le_of_ble_eq_true rfl⟩) rfl rfl (rv_MOD) rfl (Nat.le_of_ble_eq_true rfl) d_m_enqueue_44 ?_
        refine r_aload_n (n := 48) rfl ok d_m_enqueue_47 rfl 1 rfl ?_
        refine g_MOD_v (n := 51) rfl ok hG  k_986 d_m_enqueue_48 ?_
        refine r_iload_n (n := 52) rfl ok d_m_enqueue_51 rfl 0 rfl ?_
        refine r_bipush (v := 7) (n := 54) rfl ok d_m_enqueue_52 (by decide) ?_
        refine r_iadd (n := 55) rfl ok d_m_enqueue_54 ?_
        refine r_aload_n (n := 56) rfl ok d_m_enqueue_55 rfl 1 rfl ?_
        refine g_MOD_v (n := 59) rfl ok hG  k_986 d_m_enqueue_56 ?_
        refine r_iload_n (n := 60) rfl ok d_m_enqueue_59 rfl 0 rfl ?_
        refine r_bipush (v := 6) (n := 62) rfl ok d_m_enqueue_60 (by decide) ?_
        refine r_iadd (n := 63) rfl ok d_m_enqueue_62 ?_
        obtain ⟨g9, h⟩ := gd_ok h
        refine al_V (n := 64) rfl ok hG  g9 d_m_enqueue_63 ?_
        refine r_iadd (n := 65) rfl ok d_m_enqueue_64 ?_
        refine r_iload_n (n := 66) rfl ok d_m_enqueue_65 rfl 3 rfl ?_
        obtain ⟨g10, h⟩ := gd_ok h
        obtain ⟨M11, eM11, h⟩ := bd_ok h
        refine as_V (n := 67) rfl ok hG  g10 d_m_enqueue_66 ?_
        refine r_mem (Option.some.inj eM11) ?_
        refine r_aload_n (n := 68) rfl ok d_m_enqueue_67 rfl 1 rfl ?_
        refine g_MOD_v (n := 71) rfl ok hG  k_986 d_m_enqueue_68 ?_
        refine r_iload_n (n := 72) rfl ok d_m_enqueue_71 rfl 0 rfl ?_
        refine r_bipush (v := 6) (n := 74) rfl ok d_m_enqueue_72 (by decide) ?_
        refine r_iadd (n := 75) rfl ok d_m_enqueue_74 ?_
        refine r_dup2 (n := 76) rfl ok d_m_enqueue_75 rfl rfl ?_
        obtain ⟨g12, h⟩ := gd_ok h
        refine al_V (n := 77) rfl ok hG  g12 d_m_enqueue_76 ?_
        refine r_iconst (v := 1) (n := 78) rfl ok d_m_enqueue_77 (by decide) ?_
        refine r_iadd (n := 79) rfl ok d_m_enqueue_78 ?_
        obtain ⟨g13, h⟩ := gd_ok h
        obtain ⟨M14, eM14, h⟩ := bd_ok h
        refine as_V (n := 80) rfl ok hG  g13 d_m_enqueue_79 ?_
        refine r_mem (Option.some.inj eM14) ?_
        refine r_aload_n (n := 81) rfl ok d_m_enqueue_80 rfl 1 rfl ?_
        refine g_MOD_v (n := 84) rfl ok hG  k_986 d_m_enqueue_81 ?_
        refine r_iload_n (n := 85) rfl ok d_m_enqueue_84 rfl 0 rfl ?_
        refine r_bipush (v := 6) (n := 87) rfl ok d_m_enqueue_85 (by decide) ?_
        refine r_iadd (n := 88) rfl ok d_m_enqueue_87 ?_
        obtain ⟨g15, h⟩ := gd_ok h
        refine al_V (n := 89) rfl ok hG  g15 d_m_enqueue_88 ?_
        obtain rfl := Option.some.inj h
        exact fin _ _ ⟨.int, rfl, rfl⟩ d_m_enqueue_89
      · replace h := if_p c7 h
        refine r_bipush (v := (-3)) (n := 42) rfl ok d_m_enqueue_40 (by decide) ?_
        obtain rfl := Option.some.inj h
        exact fin _ _ ⟨.int, rfl, rfl⟩ d_m_enqueue_42
    · replace h := if_p c4 h
      refine r_iconst (v := (-1)) (n := 20) rfl ok d_m_enqueue_19 (by decide) ?_
      obtain rfl := Option.some.inj h
      exact fin _ _ ⟨.int, rfl, rfl⟩ d_m_enqueue_20
set_option maxHeartbeats 4000000 in
set_option maxRecDepth 20000 in
theorem C_m_isReady {l : Launch} {G : Gt} {M : Me} {a1 : Int32}  {o : Int32} (h : f_m_isReady M a1 = some o) : Ct l G (WM G) (rM G) y_m_isReady b_m_isReady 2 (some .boolean) rm_m_isReady [.ref (G.1 + 0), .int a1] M (some (.int o)) M := by
  refine Ct.mk (own := "RetryChainsModel") rfl (by decide) (Nat.le_of_ble_eq_true rfl) ⟨_, rfl⟩ (fun X hXl hXR hXn ok hG fin => ?_)
  subst hXl
  unfold f_m_isReady at h
  show Wt X M 0 [(0, .ref (G.1 + 0)), (1, .int a1)] []
  refine r_aload_n (n := 1) rfl ok d_m_isReady_0 rfl 0 rfl ?_
  refine g_MOD_v (n := 4) rfl ok hG  k_986 d_m_isReady_1 ?_
  refine r_iload_n (n := 5) rfl ok d_m_isReady_4 rfl 1 rfl ?_
  obtain ⟨r1, hr1, h⟩ := bd_ok h
  refine r_callS (n := 8) rfl ok hG mf_m_side k_1034 k_1033 (C_m_side  hr1) ⟨rfl, rfl⟩ (rR hXR ⟨Nat.le_of_ble_eq_true rfl, Nat.le_of_ble_eq_true rfl⟩) rfl rfl (Nat.le_of_ble_eq_true rfl) d_m_isReady_5 ?_
  refine r_bipush (v := 6) (n := 10) rfl ok d_m_isReady_8 (by decide) ?_
  refine r_iadd (n := 11) rfl ok d_m_isReady_10 ?_
  obtain ⟨g2, h⟩ := gd_ok h
  refine al_V (n := 12) rfl ok hG  g2 d_m_isReady_11 ?_
  refine r_if_le (tgt := 27) (n := 15) rfl ok d_m_isReady_12 (by decide) (fun c3 => ?_) (fun c3 => ?_)
  · replace h := if_p c3 h
    refine r_iconst (v := 0) (n := 28) rfl ok d_m_isReady_27 (by decide) ?_
    obtain rfl := Option.some.inj h
    exact fin _ _ ⟨.boolean, rfl, nz0⟩ d_m_isReady_28
  · replace h := if_n c3 h
    refine r_aload_n (n := 16) rfl ok d_m_isReady_15 rfl 0 rfl ?_
    refine r_iload_n (n := 17) rfl ok d_m_isReady_16 rfl 1 rfl ?_
    obtain ⟨r4, hr4, h⟩ := bd_ok h
    refine r_callV (n := 20) rfl ok hG mf_m_hasAllowed k_1129 ks_32 k_1127 (C_m_hasAllowed  hr4) ⟨rfl, rfl⟩ (rR hXR ⟨Nat.le_of_ble_eq_true rfl, Nat.le_of_ble_eq_true rfl⟩) rfl rfl (rv_MOD) rfl (Nat.le_of_ble_eq_true rfl) d_m_isReady_17 ?_
    refine r_if_eq (tgt := 27) (n := 23) rfl ok d_m_isReady_20 (by decide) (fun c5 => ?_) (fun c5 => ?_)
    · replace h := if_p c5 h
      refine r_iconst (v := 0) (n := 28) rfl ok d_m_isReady_27 (by decide) ?_
      obtain rfl := Option.some.inj h
      exact fin _ _ ⟨.boolean, rfl, nz0⟩ d_m_isReady_28
    · replace h := if_n c5 h
      refine r_iconst (v := 1) (n := 24) rfl ok d_m_isReady_23 (by decide) ?_
      refine r_goto (tgt := 28) ok d_m_isReady_24 (by decide) ?_
      obtain rfl := Option.some.inj h
      exact fin _ _ ⟨.boolean, rfl, nz1⟩ d_m_isReady_28
set_option maxHeartbeats 4000000 in
set_option maxRecDepth 20000 in
theorem w_m_isAnyReady_4 {X : Cx Me} {G : Gt} (ok : Ok X b_m_isAnyReady "RetryChainsModel") (hG : GM X G) (hXR : X.R = rm_m_isAnyReady) (hXn : X.nL = 3) {M : Me}  {t : Int32} (kx : ∀ e : Int32, e = t → Wt X M 38 [(1, .int e)] [])  : ∀ (n : Nat) (x : Int32 × Int32), lp n (b_m_isAnyReady_4 M) x = some t → Wt X M 4 [(0, .ref (G.1 + 0)), (1, .int x.1), (2, .int x.2)] [] := by
  intro n x h
  refine lp_W (P := fun x => Wt X M 4 [(0, .ref (G.1 + 0)), (1, .int x.1), (2, .int x.2)] []) (Z := fun t' => t' = t) (fun x r h hk hz => ?_) n x t h rfl
  unfold b_m_isAnyReady_4 at h
  refine r_iload_n (n := 5) rfl ok d_m_isAnyReady_4 rfl 2 rfl ?_
  refine r_aload_n (n := 6) rfl ok d_m_isAnyReady_5 rfl 0 rfl ?_
  refine g_MOD_v (n := 9) rfl ok hG  k_986 d_m_isAnyReady_6 ?_
  refine r_iconst (v := 2) (n := 10) rfl ok d_m_isAnyReady_9 (by decide) ?_
  refine al_V (n := 11) rfl ok hG  (show gin 2 600 by decide) d_m_isAnyReady_10 ?_
  refine r_icmp_ge (tgt := 38) (n := 14) rfl ok d_m_isAnyReady_11 (by decide) (fun c1 => ?_) (fun c1 => ?_)
  · replace h := if_p c1 h
    obtain rfl := Option.some.inj h
    exact r_sub [1] rfl (show Wt X M 38 [(1, .int x.1)] [] from kx _ (hz _ rfl))
  · replace h := if_n c1 h
    refine r_iload_n (n := 15) rfl ok d_m_isAnyReady_14 rfl 1 rfl ?_
    refine r_if_ne (tgt := 26) (n := 18) rfl ok d_m_isAnyReady_15 (by decide) (fun c2 => ?_) (fun c2 => ?_)
    · replace h := if_n c2 h
      refine r_iconst (v := 1) (n := 27) rfl ok d_m_isAnyReady_26 (by decide) ?_
      refine r_goto (tgt := 31) ok d_m_isAnyReady_27 (by decide) ?_
      refine r_istore_n (lv' := [(1, .int 1), (0, .ref (G.1 + 0)), (2, .int x.2)]) (n := 32) rfl ok d_m_isAnyReady_31 rfl (lt_n hXn (Nat.le_of_ble_eq_true rfl)) rfl ?_
      obtain ⟨x3, ex3, h⟩ := bd_ok h
      refine r_iinc (lv' := [(2, .int x3), (1, .int 1), (0, .ref (G.1 + 0))]) (n := 35) rfl ok d_m_isAnyReady_32 2 rfl (Option.some.inj ex3) (lt_n hXn (Nat.le_of_ble_eq_true rfl)) rfl ?_
      refine r_goto (tgt := 4) ok d_m_isAnyReady_35 (by decide) ?_
      obtain rfl := Option.some.inj h
      exact r_sub [2, 1, 0] rfl (show Wt X M 4 [(0, .ref (G.1 + 0)), (1, .int 1), (2, .int x3)] [] from hk _ rfl)
    · replace h := if_p c2 h
      refine r_aload_n (n := 19) rfl ok d_m_isAnyReady_18 rfl 0 rfl ?_
      refine r_iload_n (n := 20) rfl ok d_m_isAnyReady_19 rfl 2 rfl ?_
      obtain ⟨r4, hr4, h⟩ := bd_ok h
      refine r_callV (n := 23) rfl ok hG mf_m_isReady k_1204 ks_47 k_1202 (C_m_isReady  hr4) ⟨rfl, rfl⟩ (rR hXR ⟨Nat.le_of_ble_eq_true rfl, Nat.le_of_ble_eq_true rfl⟩) rfl rfl (rv_MOD) rfl (Nat.le_of_ble_eq_true rfl) d_m_isAnyReady_20 ?_
      refine r_if_eq (tgt := 30) (n := 26) rfl ok d_m_isAnyReady_23 (by decide) (fun c5 => ?_) (fun c5 => ?_)
      · replace h := if_p c5 h
        refine r_iconst (v := 0) (n := 31) rfl ok d_m_isAnyReady_30 (by decide) ?_
        refine r_istore_n (lv' := [(1, .int 0), (0, .ref (G.1 + 0)), (2, .int x.2)]) (n := 32) rfl ok d_m_isAnyReady_31 rfl (lt_n hXn (Nat.le_of_ble_eq_true rfl)) rfl ?_
        obtain ⟨x6, ex6, h⟩ := bd_ok h
        refine r_iinc (lv' := [(2, .int x6), (1, .int 0), (0, .ref (G.1 + 0))]) (n := 35) rfl ok d_m_isAnyReady_32 2 rfl (Option.some.inj ex6) (lt_n hXn (Nat.le_of_ble_eq_true rfl)) rfl ?_
        refine r_goto (tgt := 4) ok d_m_isAnyReady_35 (by decide) ?_
        obtain rfl := Option.some.inj h
        exact r_sub [2, 1, 0] rfl (show Wt X M 4 [(0, .ref (G.1 + 0)), (1, .int 0), (2, .int x6)] [] from hk _ rfl)
      · replace h := if_n c5 h
        refine r_iconst (v := 1) (n := 27) rfl ok d_m_isAnyReady_26 (by decide) ?_
        refine r_goto (tgt := 31) ok d_m_isAnyReady_27 (by decide) ?_
        refine r_istore_n (lv' := [(1, .int 1), (0, .ref (G.1 + 0)), (2, .int x.2)]) (n := 32) rfl ok d_m_isAnyReady_31 rfl (lt_n hXn (Nat.le_of_ble_eq_true rfl)) rfl ?_
        obtain ⟨x7, ex7, h⟩ := bd_ok h
        refine r_iinc (lv' := [(2, .int x7), (1, .int 1), (0, .ref (G.1 + 0))]) (n := 35) rfl ok d_m_isAnyReady_32 2 rfl (Option.some.inj ex7) (lt_n hXn (Nat.le_of_ble_eq_true rfl)) rfl ?_
        refine r_goto (tgt := 4) ok d_m_isAnyReady_35 (by decide) ?_
        obtain rfl := Option.some.inj h
        exact r_sub [2, 1, 0] rfl (show Wt X M 4 [(0, .ref (G.1 + 0)), (1, .int 1), (2, .int x7)] [] from hk _ rfl)
set_option maxHeartbeats 4000000 in
set_option maxRecDepth 20000 in
theorem C_m_isAnyReady {l : Launch} {G : Gt} {M : Me}   {o : Int32} (h : f_m_isAnyReady M = some o) : Ct l G (WM G) (rM G) y_m_isAnyReady b_m_isAnyReady 3 (some .boolean) rm_m_isAnyReady [.ref (G.1 + 0)] M (some (.int o)) M := by
  refine Ct.mk (own := "RetryChainsModel") rfl (by decide) (Nat.le_of_ble_eq_true rfl) ⟨_, rfl⟩ (fun X hXl hXR hXn ok hG fin => ?_)
  subst hXl
  unfold f_m_isAnyReady at h
  show Wt X M 0 [(0, .ref (G.1 + 0))] []
  refine r_iconst (v := 0) (n := 1) rfl ok d_m_isAnyReady_0 (by decide) ?_
  refine r_istore_n (lv' := [(1, .int 0), (0, .ref (G.1 + 0))]) (n := 2) rfl ok d_m_isAnyReady_1 rfl (lt_n hXn (Nat.le_of_ble_eq_true rfl)) rfl ?_
  refine r_iconst (v := 0) (n := 3) rfl ok d_m_isAnyReady_2 (by decide) ?_
  refine r_istore_n (lv' := [(2, .int 0), (1, .int 0), (0, .ref (G.1 + 0))]) (n := 4) rfl ok d_m_isAnyReady_3 rfl (lt_n hXn (Nat.le_of_ble_eq_true rfl)) rfl ?_
  obtain ⟨t8, ht8, h⟩ := bd_ok h
  refine r_sub [2, 1, 0] rfl (show Wt X M 4 [(0, .ref (G.1 + 0)), (1, .int 0), (2, .int 0)] [] from w_m_isAnyReady_4 ok hG hXR hXn  ?_ _ _ ht8)
  · intro e9 he
    subst he
    refine r_iload_n (n := 39) rfl ok d_m_isAnyReady_38 rfl 0 rfl ?_
    obtain ⟨g10, h⟩ := gd_ok h
    obtain rfl := Option.some.inj h
    exact fin _ _ ⟨.boolean, rfl, nz_ok g10⟩ d_m_isAnyReady_39
set_option maxHeartbeats 4000000 in
set_option maxRecDepth 20000 in
theorem C_m_turns {l : Launch} {G : Gt} {M : Me}   {o : Me} (h : f_m_turns M = some o) : Ct l G (WM G) (rM G) y_m_turns b_m_turns 1 none rm_m_turns [.ref (G.1 + 0)] M (none) o := by
  refine Ct.mk (own := "RetryChainsModel") rfl (by decide) (Nat.le_of_ble_eq_true rfl) rfl (fun X hXl hXR hXn ok hG fin => ?_)
  subst hXl
  unfold f_m_turns at h
  show Wt X M 0 [(0, .ref (G.1 + 0))] []
  refine r_aload_n (n := 1) rfl ok d_m_turns_0 rfl 0 rfl ?_
  refine g_MOD_v (n := 4) rfl ok hG  k_986 d_m_turns_1 ?_
  refine r_bipush (v := 7) (n := 6) rfl ok d_m_turns_4 (by decide) ?_
  refine r_aload_n (n := 7) rfl ok d_m_turns_6 rfl 0 rfl ?_
  refine g_MOD_v (n := 10) rfl ok hG  k_986 d_m_turns_7 ?_
  refine r_bipush (v := 7) (n := 12) rfl ok d_m_turns_10 (by decide) ?_
  refine al_V (n := 13) rfl ok hG  (show gin 7 600 by decide) d_m_turns_12 ?_
  refine r_iconst (v := 1) (n := 14) rfl ok d_m_turns_13 (by decide) ?_
  refine r_iadd (n := 15) rfl ok d_m_turns_14 ?_
  refine r_aload_n (n := 16) rfl ok d_m_turns_15 rfl 0 rfl ?_
  refine g_MOD_v (n := 19) rfl ok hG  k_986 d_m_turns_16 ?_
  refine r_iconst (v := 2) (n := 20) rfl ok d_m_turns_19 (by decide) ?_
  refine al_V (n := 21) rfl ok hG  (show gin 2 600 by decide) d_m_turns_20 ?_
  refine r_icmp_lt (tgt := 28) (n := 24) rfl ok d_m_turns_21 (by decide) (fun c1 => ?_) (fun c1 => ?_)
  · replace h := if_p c1 h
    refine r_aload_n (n := 29) rfl ok d_m_turns_28 rfl 0 rfl ?_
    refine g_MOD_v (n := 32) rfl ok hG  k_986 d_m_turns_29 ?_
    refine r_bipush (v := 7) (n := 34) rfl ok d_m_turns_32 (by decide) ?_
    refine al_V (n := 35) rfl ok hG  (show gin 7 600 by decide) d_m_turns_34 ?_
    refine r_iconst (v := 1) (n := 36) rfl ok d_m_turns_35 (by decide) ?_
    refine r_iadd (n := 37) rfl ok d_m_turns_36 ?_
    obtain ⟨M2, eM2, h⟩ := bd_ok h
    refine as_V (n := 38) rfl ok hG  (show gin 7 600 by decide) d_m_turns_37 ?_
    refine r_mem (Option.some.inj eM2) ?_
    obtain rfl := Option.some.inj h
    exact fin _ _ d_m_turns_38
  · replace h := if_n c1 h
    refine r_iconst (v := 0) (n := 25) rfl ok d_m_turns_24 (by decide) ?_
    refine r_goto (tgt := 37) ok d_m_turns_25 (by decide) ?_
    obtain ⟨M3, eM3, h⟩ := bd_ok h
    refine as_V (n := 38) rfl ok hG  (show gin 7 600 by decide) d_m_turns_37 ?_
    refine r_mem (Option.some.inj eM3) ?_
    obtain rfl := Option.some.inj h
    exact fin _ _ d_m_turns_38
set_option maxHeartbeats 4000000 in
set_option maxRecDepth 20000 in
theorem w_m_dispatch_28 {X : Cx Me} {G : Gt} (ok : Ok X b_m_dispatch "RetryChainsModel") (hG : GM X G) (hXR : X.R = rm_m_dispatch) (hXn : X.nL = 4)   {t : Me} (kx : ∀ e : Me, e = t → Wt X e 118 [(0, .ref (G.1 + 0))] [])  : ∀ (n : Nat) (x : Int32 × Me), lp n b_m_dispatch_28 x = some t → Wt X x.2 28 [(0, .ref (G.1 + 0)), (1, .int x.1)] [] := by
  intro n x h
  refine lp_W (P := fun x => Wt X x.2 28 [(0, .ref (G.1 + 0)), (1, .int x.1)] []) (Z := fun t' => t' = t) (fun x r h hk hz => ?_) n x t h rfl
  unfold b_m_dispatch_28 at h
  refine r_iload_n (n := 29) rfl ok d_m_dispatch_28 rfl 1 rfl ?_
  refine r_sipush (v := 2000) (n := 32) rfl ok d_m_dispatch_29 (by decide) ?_
  refine r_icmp_ge (tgt := 118) (n := 35) rfl ok d_m_dispatch_32 (by decide) (fun c6 => ?_) (fun c6 => ?_)
  · replace h := if_p c6 h
    obtain rfl := Option.some.inj h
    exact r_sub [0] rfl (show Wt X x.2 118 [(0, .ref (G.1 + 0))] [] from kx _ (hz _ rfl))
  · replace h := if_n c6 h
    refine r_aload_n (n := 36) rfl ok d_m_dispatch_35 rfl 0 rfl ?_
    refine r_aload_n (n := 37) rfl ok d_m_dispatch_36 rfl 0 rfl ?_
    refine g_MOD_v (n := 40) rfl ok hG  k_986 d_m_dispatch_37 ?_
    refine r_bipush (v := 7) (n := 42) rfl ok d_m_dispatch_40 (by decide) ?_
    refine al_V (n := 43) rfl ok hG  (show gin 7 600 by decide) d_m_dispatch_42 ?_
    obtain ⟨r7, hr7, h⟩ := bd_ok h
    refine r_callV (n := 46) rfl ok hG mf_m_isReady k_1204 ks_47 k_1202 (C_m_isReady  hr7) ⟨rfl, rfl⟩ (rR hXR ⟨Nat.le_of_ble_eq_true rfl, Nat.le_of_ble_eq_true rfl⟩) rfl rfl (rv_MOD) rfl (Nat.le_of_ble_eq_true rfl) d_m_dispatch_43 ?_
    refine r_if_eq (tgt := 70) (n := 49) rfl ok d_m_dispatch_46 (by decide) (fun c8 => ?_) (fun c8 => ?_)
    · replace h := if_p c8 h
      refine r_aload_n (n := 71) rfl ok d_m_dispatch_70 rfl 0 rfl ?_
      refine r_aload_n (n := 72) rfl ok d_m_dispatch_71 rfl 0 rfl ?_
      refine g_MOD_v (n := 75) rfl ok hG  k_986 d_m_dispatch_72 ?_
      refine r_bipush (v := 7) (n := 77) rfl ok d_m_dispatch_75 (by decide) ?_
      refine al_V (n := 78) rfl ok hG  (show gin 7 600 by decide) d_m_dispatch_77 ?_
      obtain ⟨r9, hr9, h⟩ := bd_ok h
      refine r_callV (n := 81) rfl ok hG mf_m_isReady k_1204 ks_47 k_1202 (C_m_isReady  hr9) ⟨rfl, rfl⟩ (rR hXR ⟨Nat.le_of_ble_eq_true rfl, Nat.le_of_ble_eq_true rfl⟩) rfl rfl (rv_MOD) rfl (Nat.le_of_ble_eq_true rfl) d_m_dispatch_78 ?_
      refine r_if_eq (tgt := 108) (n := 84) rfl ok d_m_dispatch_81 (by decide) (fun c10 => ?_) (fun c10 => ?_)
      · replace h := if_p c10 h
        refine r_aload_n (n := 109) rfl ok d_m_dispatch_108 rfl 0 rfl ?_
        obtain ⟨r11, hr11, h⟩ := bd_ok h
        refine r_callV (n := 112) rfl ok hG mf_m_turns k_1208 ks_48 k_1206 (C_m_turns  hr11) ⟨rfl, rfl⟩ (rR hXR ⟨Nat.le_of_ble_eq_true rfl, Nat.le_of_ble_eq_true rfl⟩) rfl rfl (rv_MOD) rfl (Nat.le_of_ble_eq_true rfl) d_m_dispatch_109 ?_
        obtain ⟨x12, ex12, h⟩ := bd_ok h
        refine r_iinc (lv' := [(1, .int x12), (0, .ref (G.1 + 0))]) (n := 115) rfl ok d_m_dispatch_112 1 rfl (Option.some.inj ex12) (lt_n hXn (Nat.le_of_ble_eq_true rfl)) rfl ?_
        refine r_goto (tgt := 28) ok d_m_dispatch_115 (by decide) ?_
        obtain rfl := Option.some.inj h
        exact r_sub [1, 0] rfl (show Wt X r11 28 [(0, .ref (G.1 + 0)), (1, .int x12)] [] from hk _ rfl)
      · replace h := if_n c10 h
        refine r_aload_n (n := 85) rfl ok d_m_dispatch_84 rfl 0 rfl ?_
        refine g_MOD_v (n := 88) rfl ok hG  k_986 d_m_dispatch_85 ?_
        refine r_aload_n (n := 89) rfl ok d_m_dispatch_88 rfl 0 rfl ?_
        refine g_MOD_v (n := 92) rfl ok hG  k_986 d_m_dispatch_89 ?_
        refine r_bipush (v := 7) (n := 94) rfl ok d_m_dispatch_92 (by decide) ?_
        refine al_V (n := 95) rfl ok hG  (show gin 7 600 by decide) d_m_dispatch_94 ?_
        obtain ⟨r13, hr13, h⟩ := bd_ok h
        refine r_callS (n := 98) rfl ok hG mf_m_side k_1034 k_1033 (C_m_side  hr13) ⟨rfl, rfl⟩ (rR hXR ⟨Nat.le_of_ble_eq_true rfl, Nat.le_of_ble_eq_true rfl⟩) rfl rfl (Nat.le_of_ble_eq_true rfl) d_m_dispatch_95 ?_
        refine r_bipush (v := 15) (n := 100) rfl ok d_m_dispatch_98 (by decide) ?_
        refine r_iadd (n := 101) rfl ok d_m_dispatch_100 ?_
        refine r_dup2 (n := 102) rfl ok d_m_dispatch_101 rfl rfl ?_
        obtain ⟨g14, h⟩ := gd_ok h
        refine al_V (n := 103) rfl ok hG  g14 d_m_dispatch_102 ?_
        refine r_sipush (v := 4000) (n := 106) rfl ok d_m_dispatch_103 (by decide) ?_
        refine r_iadd (n := 107) rfl ok d_m_dispatch_106 ?_
        obtain ⟨g15, h⟩ := gd_ok h
        obtain ⟨M16, eM16, h⟩ := bd_ok h
        refine as_V (n := 108) rfl ok hG  g15 d_m_dispatch_107 ?_
        refine r_mem (Option.some.inj eM16) ?_
        refine r_aload_n (n := 109) rfl ok d_m_dispatch_108 rfl 0 rfl ?_
        obtain ⟨r17, hr17, h⟩ := bd_ok h
        refine r_callV (n := 112) rfl ok hG mf_m_turns k_1208 ks_48 k_1206 (C_m_turns  hr17) ⟨rfl, rfl⟩ (rR hXR ⟨Nat.le_of_ble_eq_true rfl, Nat.le_of_ble_eq_true rfl⟩) rfl rfl (rv_MOD) rfl (Nat.le_of_ble_eq_true rfl) d_m_dispatch_109 ?_
        obtain ⟨x18, ex18, h⟩ := bd_ok h
        refine r_iinc (lv' := [(1, .int x18), (0, .ref (G.1 + 0))]) (n := 115) rfl ok d_m_dispatch_112 1 rfl (Option.some.inj ex18) (lt_n hXn (Nat.le_of_ble_eq_true rfl)) rfl ?_
        refine r_goto (tgt := 28) ok d_m_dispatch_115 (by decide) ?_
        obtain rfl := Option.some.inj h
        exact r_sub [1, 0] rfl (show Wt X r17 28 [(0, .ref (G.1 + 0)), (1, .int x18)] [] from hk _ rfl)
    · replace h := if_n c8 h
      refine r_aload_n (n := 50) rfl ok d_m_dispatch_49 rfl 0 rfl ?_
      refine g_MOD_v (n := 53) rfl ok hG  k_986 d_m_dispatch_50 ?_
      refine r_aload_n (n := 54) rfl ok d_m_dispatch_53 rfl 0 rfl ?_
      refine g_MOD_v (n := 57) rfl ok hG  k_986 d_m_dispatch_54 ?_
      refine r_bipush (v := 7) (n := 59) rfl ok d_m_dispatch_57 (by decide) ?_
      refine al_V (n := 60) rfl ok hG  (show gin 7 600 by decide) d_m_dispatch_59 ?_
      obtain ⟨r19, hr19, h⟩ := bd_ok h
      refine r_callS (n := 63) rfl ok hG mf_m_side k_1034 k_1033 (C_m_side  hr19) ⟨rfl, rfl⟩ (rR hXR ⟨Nat.le_of_ble_eq_true rfl, Nat.le_of_ble_eq_true rfl⟩) rfl rfl (Nat.le_of_ble_eq_true rfl) d_m_dispatch_60 ?_
      refine r_bipush (v := 15) (n := 65) rfl ok d_m_dispatch_63 (by decide) ?_
      refine r_iadd (n := 66) rfl ok d_m_dispatch_65 ?_
      obtain ⟨g20, h⟩ := gd_ok h
      refine al_V (n := 67) rfl ok hG  g20 d_m_dispatch_66 ?_
      refine r_if_gt (tgt := 118) (n := 70) rfl ok d_m_dispatch_67 (by decide) (fun c21 => ?_) (fun c21 => ?_)
      · replace h := if_p c21 h
        obtain rfl := Option.some.inj h
        exact r_sub [0] rfl (show Wt X x.2 118 [(0, .ref (G.1 + 0))] [] from kx _ (hz _ rfl))
      · replace h := if_n c21 h
        refine r_aload_n (n := 71) rfl ok d_m_dispatch_70 rfl 0 rfl ?_
        refine r_aload_n (n := 72) rfl ok d_m_dispatch_71 rfl 0 rfl ?_
        refine g_MOD_v (n := 75) rfl ok hG  k_986 d_m_dispatch_72 ?_
        refine r_bipush (v := 7) (n := 77) rfl ok d_m_dispatch_75 (by decide) ?_
        refine al_V (n := 78) rfl ok hG  (show gin 7 600 by decide) d_m_dispatch_77 ?_
        obtain ⟨r22, hr22, h⟩ := bd_ok h
        refine r_callV (n := 81) rfl ok hG mf_m_isReady k_1204 ks_47 k_1202 (C_m_isReady  hr22) ⟨rfl, rfl⟩ (rR hXR ⟨Nat.le_of_ble_eq_true rfl, Nat.le_of_ble_eq_true rfl⟩) rfl rfl (rv_MOD) rfl (Nat.le_of_ble_eq_true rfl) d_m_dispatch_78 ?_
        refine r_if_eq (tgt := 108) (n := 84) rfl ok d_m_dispatch_81 (by decide) (fun c23 => ?_) (fun c23 => ?_)
        · replace h := if_p c23 h
          refine r_aload_n (n := 109) rfl ok d_m_dispatch_108 rfl 0 rfl ?_
          obtain ⟨r24, hr24, h⟩ := bd_ok h
          refine r_callV (n := 112) rfl ok hG mf_m_turns k_1208 ks_48 k_1206 (C_m_turns  hr24) ⟨rfl, rfl⟩ (rR hXR ⟨Nat.le_of_ble_eq_true rfl, Nat.le_of_ble_eq_true rfl⟩) rfl rfl (rv_MOD) rfl (Nat.le_of_ble_eq_true rfl) d_m_dispatch_109 ?_
          obtain ⟨x25, ex25, h⟩ := bd_ok h
          refine r_iinc (lv' := [(1, .int x25), (0, .ref (G.1 + 0))]) (n := 115) rfl ok d_m_dispatch_112 1 rfl (Option.some.inj ex25) (lt_n hXn (Nat.le_of_ble_eq_true rfl)) rfl ?_
          refine r_goto (tgt := 28) ok d_m_dispatch_115 (by decide) ?_
          obtain rfl := Option.some.inj h
          exact r_sub [1, 0] rfl (show Wt X r24 28 [(0, .ref (G.1 + 0)), (1, .int x25)] [] from hk _ rfl)
        · replace h := if_n c23 h
          refine r_aload_n (n := 85) rfl ok d_m_dispatch_84 rfl 0 rfl ?_
          refine g_MOD_v (n := 88) rfl ok hG  k_986 d_m_dispatch_85 ?_
          refine r_aload_n (n := 89) rfl ok d_m_dispatch_88 rfl 0 rfl ?_
          refine g_MOD_v (n := 92) rfl ok hG  k_986 d_m_dispatch_89 ?_
          refine r_bipush (v := 7) (n := 94) rfl ok d_m_dispatch_92 (by decide) ?_
          refine al_V (n := 95) rfl ok hG  (show gin 7 600 by decide) d_m_dispatch_94 ?_
          obtain ⟨r26, hr26, h⟩ := bd_ok h
          refine r_callS (n := 98) rfl ok hG mf_m_side k_1034 k_1033 (C_m_side  hr26) ⟨rfl, rfl⟩ (rR hXR ⟨Nat.le_of_ble_eq_true rfl, Nat.le_of_ble_eq_true rfl⟩) rfl rfl (Nat.le_of_ble_eq_true rfl) d_m_dispatch_95 ?_
          refine r_bipush (v := 15) (n := 100) rfl ok d_m_dispatch_98 (by decide) ?_
          refine r_iadd (n := 101) rfl ok d_m_dispatch_100 ?_
          refine r_dup2 (n := 102) rfl ok d_m_dispatch_101 rfl rfl ?_
          obtain ⟨g27, h⟩ := gd_ok h
          refine al_V (n := 103) rfl ok hG  g27 d_m_dispatch_102 ?_
          refine r_sipush (v := 4000) (n := 106) rfl ok d_m_dispatch_103 (by decide) ?_
          refine r_iadd (n := 107) rfl ok d_m_dispatch_106 ?_
          obtain ⟨g28, h⟩ := gd_ok h
          obtain ⟨M29, eM29, h⟩ := bd_ok h
          refine as_V (n := 108) rfl ok hG  g28 d_m_dispatch_107 ?_
          refine r_mem (Option.some.inj eM29) ?_
          refine r_aload_n (n := 109) rfl ok d_m_dispatch_108 rfl 0 rfl ?_
          obtain ⟨r30, hr30, h⟩ := bd_ok h
          refine r_callV (n := 112) rfl ok hG mf_m_turns k_1208 ks_48 k_1206 (C_m_turns  hr30) ⟨rfl, rfl⟩ (rR hXR ⟨Nat.le_of_ble_eq_true rfl, Nat.le_of_ble_eq_true rfl⟩) rfl rfl (rv_MOD) rfl (Nat.le_of_ble_eq_true rfl) d_m_dispatch_109 ?_
          obtain ⟨x31, ex31, h⟩ := bd_ok h
          refine r_iinc (lv' := [(1, .int x31), (0, .ref (G.1 + 0))]) (n := 115) rfl ok d_m_dispatch_112 1 rfl (Option.some.inj ex31) (lt_n hXn (Nat.le_of_ble_eq_true rfl)) rfl ?_
          refine r_goto (tgt := 28) ok d_m_dispatch_115 (by decide) ?_
          obtain rfl := Option.some.inj h
          exact r_sub [1, 0] rfl (show Wt X r30 28 [(0, .ref (G.1 + 0)), (1, .int x31)] [] from hk _ rfl)
set_option maxHeartbeats 4000000 in
set_option maxRecDepth 20000 in
theorem w_m_dispatch_154 {X : Cx Me} {G : Gt} (ok : Ok X b_m_dispatch "RetryChainsModel") (hG : GM X G) (hXR : X.R = rm_m_dispatch) (hXn : X.nL = 4) {y1 : Int32} {y2 : Int32}  {t : Me} (kx : ∀ e : Me, e = t → Wt X e 197 [(0, .ref (G.1 + 0)), (2, .int y2)] [])  : ∀ (n : Nat) (x : Int32 × Me), lp n (b_m_dispatch_154 y1 y2) x = some t → Wt X x.2 154 [(0, .ref (G.1 + 0)), (1, .int y1), (2, .int y2), (3, .int x.1)] [] := by
  intro n x h
  refine lp_W (P := fun x => Wt X x.2 154 [(0, .ref (G.1 + 0)), (1, .int y1), (2, .int y2), (3, .int x.1)] []) (Z := fun t' => t' = t) (fun x r h hk hz => ?_) n x t h rfl
  unfold b_m_dispatch_154 at h
  refine r_iload_n (n := 155) rfl ok d_m_dispatch_154 rfl 3 rfl ?_
  refine r_aload_n (n := 156) rfl ok d_m_dispatch_155 rfl 0 rfl ?_
  refine g_MOD_v (n := 159) rfl ok hG  k_986 d_m_dispatch_156 ?_
  refine r_iload_n (n := 160) rfl ok d_m_dispatch_159 rfl 1 rfl ?_
  refine r_bipush (v := 6) (n := 162) rfl ok d_m_dispatch_160 (by decide) ?_
  refine r_iadd (n := 163) rfl ok d_m_dispatch_162 ?_
  obtain ⟨g39, h⟩ := gd_ok h
  refine al_V (n := 164) rfl ok hG  g39 d_m_dispatch_163 ?_
  refine r_icmp_ge (tgt := 197) (n := 167) rfl ok d_m_dispatch_164 (by decide) (fun c40 => ?_) (fun c40 => ?_)
  · replace h := if_p c40 h
    obtain rfl := Option.some.inj h
    exact r_sub [0, 2] rfl (show Wt X x.2 197 [(0, .ref (G.1 + 0)), (2, .int y2)] [] from kx _ (hz _ rfl))
  · replace h := if_n c40 h
    refine r_aload_n (n := 168) rfl ok d_m_dispatch_167 rfl 0 rfl ?_
    refine g_MOD_v (n := 171) rfl ok hG  k_986 d_m_dispatch_168 ?_
    refine r_iload_n (n := 172) rfl ok d_m_dispatch_171 rfl 1 rfl ?_
    refine r_bipush (v := 7) (n := 174) rfl ok d_m_dispatch_172 (by decide) ?_
    refine r_iadd (n := 175) rfl ok d_m_dispatch_174 ?_
    refine r_iload_n (n := 176) rfl ok d_m_dispatch_175 rfl 3 rfl ?_
    refine r_iadd (n := 177) rfl ok d_m_dispatch_176 ?_
    refine r_aload_n (n := 178) rfl ok d_m_dispatch_177 rfl 0 rfl ?_
    refine g_MOD_v (n := 181) rfl ok hG  k_986 d_m_dispatch_178 ?_
    refine r_iload_n (n := 182) rfl ok d_m_dispatch_181 rfl 1 rfl ?_
    refine r_bipush (v := 7) (n := 184) rfl ok d_m_dispatch_182 (by decide) ?_
    refine r_iadd (n := 185) rfl ok d_m_dispatch_184 ?_
    refine r_iload_n (n := 186) rfl ok d_m_dispatch_185 rfl 3 rfl ?_
    refine r_iadd (n := 187) rfl ok d_m_dispatch_186 ?_
    refine r_iconst (v := 1) (n := 188) rfl ok d_m_dispatch_187 (by decide) ?_
    refine r_iadd (n := 189) rfl ok d_m_dispatch_188 ?_
    obtain ⟨g41, h⟩ := gd_ok h
    refine al_V (n := 190) rfl ok hG  g41 d_m_dispatch_189 ?_
    obtain ⟨g42, h⟩ := gd_ok h
    obtain ⟨M43, eM43, h⟩ := bd_ok h
    refine as_V (n := 191) rfl ok hG  g42 d_m_dispatch_190 ?_
    refine r_mem (Option.some.inj eM43) ?_
    obtain ⟨x44, ex44, h⟩ := bd_ok h
    refine r_iinc (lv' := [(3, .int x44), (0, .ref (G.1 + 0)), (1, .int y1), (2, .int y2)]) (n := 194) rfl ok d_m_dispatch_191 3 rfl (Option.some.inj ex44) (lt_n hXn (Nat.le_of_ble_eq_true rfl)) rfl ?_
    refine r_goto (tgt := 154) ok d_m_dispatch_194 (by decide) ?_
    obtain rfl := Option.some.inj h
    exact r_sub [1, 2, 3, 0] rfl (show Wt X M43 154 [(0, .ref (G.1 + 0)), (1, .int y1), (2, .int y2), (3, .int x44)] [] from hk _ rfl)
set_option maxHeartbeats 4000000 in
set_option maxRecDepth 20000 in
theorem C_m_dispatch {l : Launch} {G : Gt} {M : Me}   {o : Int32 × Me} (h : f_m_dispatch M = some o) : Ct l G (WM G) (rM G) y_m_dispatch b_m_dispatch 4 (some .int) rm_m_dispatch [.ref (G.1 + 0)] M (some (.int o.1)) o.2 := by
  refine Ct.mk (own := "RetryChainsModel") rfl (by decide) (Nat.le_of_ble_eq_true rfl) ⟨_, rfl⟩ (fun X hXl hXR hXn ok hG fin => ?_)
  subst hXl
  unfold f_m_dispatch at h
  show Wt X M 0 [(0, .ref (G.1 + 0))] []
  refine r_aload_n (n := 1) rfl ok d_m_dispatch_0 rfl 0 rfl ?_
  obtain ⟨r1, hr1, h⟩ := bd_ok h
  refine r_callV (n := 4) rfl ok hG mf_m_freeChain k_1133 ks_33 k_1131 (C_m_freeChain  hr1) ⟨rfl, rfl⟩ (rR hXR ⟨Nat.le_of_ble_eq_true rfl, Nat.le_of_ble_eq_true rfl⟩) rfl rfl (rv_MOD) rfl (Nat.le_of_ble_eq_true rfl) d_m_dispatch_1 ?_
  refine r_bipush (v := (-9)) (n := 6) rfl ok d_m_dispatch_4 (by decide) ?_
  refine r_icmp_ne (tgt := 12) (n := 9) rfl ok d_m_dispatch_6 (by decide) (fun c2 => ?_) (fun c2 => ?_)
  · replace h := if_n c2 h
    refine r_aload_n (n := 13) rfl ok d_m_dispatch_12 rfl 0 rfl ?_
    obtain ⟨r3, hr3, h⟩ := bd_ok h
    refine r_callV (n := 16) rfl ok hG mf_m_isAnyReady k_1200 ks_46 k_1198 (C_m_isAnyReady  hr3) ⟨rfl, rfl⟩ (rR hXR ⟨Nat.le_of_ble_eq_true rfl, Nat.le_of_ble_eq_true rfl⟩) rfl rfl (rv_MOD) rfl (Nat.le_of_ble_eq_true rfl) d_m_dispatch_13 ?_
    refine r_if_ne (tgt := 22) (n := 19) rfl ok d_m_dispatch_16 (by decide) (fun c4 => ?_) (fun c4 => ?_)
    · replace h := if_n c4 h
      refine r_aload_n (n := 23) rfl ok d_m_dispatch_22 rfl 0 rfl ?_
      obtain ⟨r5, hr5, h⟩ := bd_ok h
      refine r_callV (n := 26) rfl ok hG mf_m_act k_1020 ks_15 k_1018 (C_m_act  hr5) ⟨rfl, rfl⟩ (rR hXR ⟨Nat.le_of_ble_eq_true rfl, Nat.le_of_ble_eq_true rfl⟩) rfl rfl (rv_MOD) rfl (Nat.le_of_ble_eq_true rfl) d_m_dispatch_23 ?_
      refine r_iconst (v := 0) (n := 27) rfl ok d_m_dispatch_26 (by decide) ?_
      refine r_istore_n (lv' := [(1, .int 0), (0, .ref (G.1 + 0))]) (n := 28) rfl ok d_m_dispatch_27 rfl (lt_n hXn (Nat.le_of_ble_eq_true rfl)) rfl ?_
      obtain ⟨t32, ht32, h⟩ := bd_ok h
      refine r_sub [1, 0] rfl (show Wt X r5 28 [(0, .ref (G.1 + 0)), (1, .int 0)] [] from w_m_dispatch_28 ok hG hXR hXn  ?_ _ _ ht32)
      · intro e33 he
        subst he
        refine r_aload_n (n := 119) rfl ok d_m_dispatch_118 rfl 0 rfl ?_
        refine g_MOD_v (n := 122) rfl ok hG  k_986 d_m_dispatch_119 ?_
        refine r_bipush (v := 7) (n := 124) rfl ok d_m_dispatch_122 (by decide) ?_
        refine al_V (n := 125) rfl ok hG  (show gin 7 600 by decide) d_m_dispatch_124 ?_
        obtain ⟨r34, hr34, h⟩ := bd_ok h
        refine r_callS (n := 128) rfl ok hG mf_m_side k_1034 k_1033 (C_m_side  hr34) ⟨rfl, rfl⟩ (rR hXR ⟨Nat.le_of_ble_eq_true rfl, Nat.le_of_ble_eq_true rfl⟩) rfl rfl (Nat.le_of_ble_eq_true rfl) d_m_dispatch_125 ?_
        refine r_istore_n (lv' := [(1, .int r34), (0, .ref (G.1 + 0))]) (n := 129) rfl ok d_m_dispatch_128 rfl (lt_n hXn (Nat.le_of_ble_eq_true rfl)) rfl ?_
        refine r_aload_n (n := 130) rfl ok d_m_dispatch_129 rfl 1 rfl ?_
        refine g_MOD_v (n := 133) rfl ok hG  k_986 d_m_dispatch_130 ?_
        refine r_iload_n (n := 134) rfl ok d_m_dispatch_133 rfl 0 rfl ?_
        refine r_bipush (v := 7) (n := 136) rfl ok d_m_dispatch_134 (by decide) ?_
        refine r_iadd (n := 137) rfl ok d_m_dispatch_136 ?_
        obtain ⟨g35, h⟩ := gd_ok h
        refine al_V (n := 138) rfl ok hG  g35 d_m_dispatch_137 ?_
        refine r_istore_n (lv' := [(2, .int (e33.1 100 0 0 (tN (r34 + (7 : Int32))))), (1, .int r34), (0, .ref (G.1 + 0))]) (n := 139) rfl ok d_m_dispatch_138 rfl (lt_n hXn (Nat.le_of_ble_eq_true rfl)) rfl ?_
        refine r_aload_n (n := 140) rfl ok d_m_dispatch_139 rfl 2 rfl ?_
        refine g_MOD_v (n := 143) rfl ok hG  k_986 d_m_dispatch_140 ?_
        refine r_iload_n (n := 144) rfl ok d_m_dispatch_143 rfl 1 rfl ?_
        refine r_bipush (v := 6) (n := 146) rfl ok d_m_dispatch_144 (by decide) ?_
        refine r_iadd (n := 147) rfl ok d_m_dispatch_146 ?_
        refine r_dup2 (n := 148) rfl ok d_m_dispatch_147 rfl rfl ?_
        obtain ⟨g36, h⟩ := gd_ok h
        refine al_V (n := 149) rfl ok hG  g36 d_m_dispatch_148 ?_
        refine r_iconst (v := 1) (n := 150) rfl ok d_m_dispatch_149 (by decide) ?_
        refine r_isub (n := 151) rfl ok d_m_dispatch_150 ?_
        obtain ⟨g37, h⟩ := gd_ok h
        obtain ⟨M38, eM38, h⟩ := bd_ok h
        refine as_V (n := 152) rfl ok hG  g37 d_m_dispatch_151 ?_
        refine r_mem (Option.some.inj eM38) ?_
        refine r_iconst (v := 0) (n := 153) rfl ok d_m_dispatch_152 (by decide) ?_
        refine r_istore_n (lv' := [(3, .int 0), (2, .int (e33.1 100 0 0 (tN (r34 + (7 : Int32))))), (1, .int r34), (0, .ref (G.1 + 0))]) (n := 154) rfl ok d_m_dispatch_153 rfl (lt_n hXn (Nat.le_of_ble_eq_true rfl)) rfl ?_
        obtain ⟨t45, ht45, h⟩ := bd_ok h
        refine r_sub [3, 2, 1, 0] rfl (show Wt X M38 154 [(0, .ref (G.1 + 0)), (1, .int r34), (2, .int (e33.1 100 0 0 (tN (r34 + (7 : Int32))))), (3, .int 0)] [] from w_m_dispatch_154 ok hG hXR hXn  ?_ _ _ ht45)
        · intro e46 he
          subst he
          refine r_aload_n (n := 198) rfl ok d_m_dispatch_197 rfl 0 rfl ?_
          refine r_aload_n (n := 199) rfl ok d_m_dispatch_198 rfl 0 rfl ?_
          refine g_MOD_v (n := 202) rfl ok hG  k_986 d_m_dispatch_199 ?_
          refine r_bipush (v := 7) (n := 204) rfl ok d_m_dispatch_202 (by decide) ?_
          refine al_V (n := 205) rfl ok hG  (show gin 7 600 by decide) d_m_dispatch_204 ?_
          refine r_iload_n (n := 206) rfl ok d_m_dispatch_205 rfl 1 rfl ?_
          obtain ⟨r47, hr47, h⟩ := bd_ok h
          refine r_callV (n := 209) rfl ok hG mf_m_lays k_1140 ks_34 k_1138 (C_m_lays  hr47) ⟨rfl, rfl⟩ (rR hXR ⟨Nat.le_of_ble_eq_true rfl, Nat.le_of_ble_eq_true rfl⟩) rfl rfl (rv_MOD) rfl (Nat.le_of_ble_eq_true rfl) d_m_dispatch_206 ?_
          obtain rfl := Option.some.inj h
          exact fin _ _ ⟨.int, rfl, rfl⟩ d_m_dispatch_209
    · replace h := if_p c4 h
      refine r_bipush (v := (-9)) (n := 21) rfl ok d_m_dispatch_19 (by decide) ?_
      obtain rfl := Option.some.inj h
      exact fin _ _ ⟨.int, rfl, rfl⟩ d_m_dispatch_21
  · replace h := if_p c2 h
    refine r_bipush (v := (-3)) (n := 11) rfl ok d_m_dispatch_9 (by decide) ?_
    obtain rfl := Option.some.inj h
    exact fin _ _ ⟨.int, rfl, rfl⟩ d_m_dispatch_11
set_option maxHeartbeats 4000000 in
set_option maxRecDepth 20000 in
theorem w_m_triesOfAll_4 {X : Cx Me} {G : Gt} (ok : Ok X b_m_triesOfAll "RetryChainsModel") (hG : GM X G) (hXR : X.R = rm_m_triesOfAll) (hXn : X.nL = 4) {M : Me} {y1 : Int32}  {t : Int32} (kx : ∀ e : Int32, e = t → Wt X M 32 [(2, .int e)] [])  : ∀ (n : Nat) (x : Int32 × Int32), lp n (b_m_triesOfAll_4 M y1) x = some t → Wt X M 4 [(0, .ref (G.1 + 0)), (1, .int y1), (2, .int x.1), (3, .int x.2)] [] := by
  intro n x h
  refine lp_W (P := fun x => Wt X M 4 [(0, .ref (G.1 + 0)), (1, .int y1), (2, .int x.1), (3, .int x.2)] []) (Z := fun t' => t' = t) (fun x r h hk hz => ?_) n x t h rfl
  unfold b_m_triesOfAll_4 at h
  refine r_iload_n (n := 5) rfl ok d_m_triesOfAll_4 rfl 3 rfl ?_
  refine r_iconst (v := 4) (n := 6) rfl ok d_m_triesOfAll_5 (by decide) ?_
  refine r_icmp_ge (tgt := 32) (n := 9) rfl ok d_m_triesOfAll_6 (by decide) (fun c1 => ?_) (fun c1 => ?_)
  · replace h := if_p c1 h
    obtain rfl := Option.some.inj h
    exact r_sub [2] rfl (show Wt X M 32 [(2, .int x.1)] [] from kx _ (hz _ rfl))
  · replace h := if_n c1 h
    refine r_iload_n (n := 10) rfl ok d_m_triesOfAll_9 rfl 2 rfl ?_
    refine r_aload_n (n := 11) rfl ok d_m_triesOfAll_10 rfl 0 rfl ?_
    refine g_MOD_v (n := 14) rfl ok hG  k_986 d_m_triesOfAll_11 ?_
    refine r_iload_n (n := 15) rfl ok d_m_triesOfAll_14 rfl 1 rfl ?_
    obtain ⟨r2, hr2, h⟩ := bd_ok h
    refine r_callS (n := 18) rfl ok hG mf_m_open k_1136 k_1135 (C_m_open  hr2) ⟨rfl, rfl⟩ (rR hXR ⟨Nat.le_of_ble_eq_true rfl, Nat.le_of_ble_eq_true rfl⟩) rfl rfl (Nat.le_of_ble_eq_true rfl) d_m_triesOfAll_15 ?_
    refine r_bipush (v := 9) (n := 20) rfl ok d_m_triesOfAll_18 (by decide) ?_
    refine r_iadd (n := 21) rfl ok d_m_triesOfAll_20 ?_
    refine r_iload_n (n := 22) rfl ok d_m_triesOfAll_21 rfl 3 rfl ?_
    refine r_iadd (n := 23) rfl ok d_m_triesOfAll_22 ?_
    obtain ⟨g3, h⟩ := gd_ok h
    refine al_V (n := 24) rfl ok hG  g3 d_m_triesOfAll_23 ?_
    refine r_iadd (n := 25) rfl ok d_m_triesOfAll_24 ?_
    obtain ⟨x4, ex4, h⟩ := bd_ok h
    refine r_ti (Option.some.inj ex4).symm ?_
    refine r_istore_n (lv' := [(2, .int x4), (0, .ref (G.1 + 0)), (1, .int y1), (3, .int x.2)]) (n := 26) rfl ok d_m_triesOfAll_25 rfl (lt_n hXn (Nat.le_of_ble_eq_true rfl)) rfl ?_
    obtain ⟨x5, ex5, h⟩ := bd_ok h
    refine r_iinc (lv' := [(3, .int x5), (2, .int x4), (0, .ref (G.1 + 0)), (1, .int y1)]) (n := 29) rfl ok d_m_triesOfAll_26 3 rfl (Option.some.inj ex5) (lt_n hXn (Nat.le_of_ble_eq_true rfl)) rfl ?_
    refine r_goto (tgt := 4) ok d_m_triesOfAll_29 (by decide) ?_
    obtain rfl := Option.some.inj h
    exact r_sub [2, 3, 1, 0] rfl (show Wt X M 4 [(0, .ref (G.1 + 0)), (1, .int y1), (2, .int x4), (3, .int x5)] [] from hk _ rfl)
set_option maxHeartbeats 4000000 in
set_option maxRecDepth 20000 in
theorem C_m_triesOfAll {l : Launch} {G : Gt} {M : Me} {a1 : Int32}  {o : Int32} (h : f_m_triesOfAll M a1 = some o) : Ct l G (WM G) (rM G) y_m_triesOfAll b_m_triesOfAll 4 (some .int) rm_m_triesOfAll [.ref (G.1 + 0), .int a1] M (some (.int o)) M := by
  refine Ct.mk (own := "RetryChainsModel") rfl (by decide) (Nat.le_of_ble_eq_true rfl) ⟨_, rfl⟩ (fun X hXl hXR hXn ok hG fin => ?_)
  subst hXl
  unfold f_m_triesOfAll at h
  show Wt X M 0 [(0, .ref (G.1 + 0)), (1, .int a1)] []
  refine r_iconst (v := 0) (n := 1) rfl ok d_m_triesOfAll_0 (by decide) ?_
  refine r_istore_n (lv' := [(2, .int 0), (0, .ref (G.1 + 0)), (1, .int a1)]) (n := 2) rfl ok d_m_triesOfAll_1 rfl (lt_n hXn (Nat.le_of_ble_eq_true rfl)) rfl ?_
  refine r_iconst (v := 0) (n := 3) rfl ok d_m_triesOfAll_2 (by decide) ?_
  refine r_istore_n (lv' := [(3, .int 0), (2, .int 0), (0, .ref (G.1 + 0)), (1, .int a1)]) (n := 4) rfl ok d_m_triesOfAll_3 rfl (lt_n hXn (Nat.le_of_ble_eq_true rfl)) rfl ?_
  obtain ⟨t6, ht6, h⟩ := bd_ok h
  refine r_sub [2, 3, 1, 0] rfl (show Wt X M 4 [(0, .ref (G.1 + 0)), (1, .int a1), (2, .int 0), (3, .int 0)] [] from w_m_triesOfAll_4 ok hG hXR hXn  ?_ _ _ ht6)
  · intro e7 he
    subst he
    refine r_iload_n (n := 33) rfl ok d_m_triesOfAll_32 rfl 0 rfl ?_
    obtain rfl := Option.some.inj h
    exact fin _ _ ⟨.int, rfl, rfl⟩ d_m_triesOfAll_33
set_option maxHeartbeats 4000000 in
set_option maxRecDepth 20000 in
theorem w_m_entryOf_5 {X : Cx Me} {G : Gt} (ok : Ok X b_m_entryOf "RetryChainsModel") (hG : GM X G) (hXR : X.R = rm_m_entryOf) (hXn : X.nL = 5) {M : Me} {y1 : Int32}  {t : Int32} (kx : ∀ e : Int32, e = t → Wt X M 54 [(3, .int e)] [])  : ∀ (n : Nat) (x : Int32 × Int32), lp n (b_m_entryOf_5 M y1) x = some t → Wt X M 5 [(0, .ref (G.1 + 0)), (1, .int y1), (3, .int x.1), (4, .int x.2)] [] := by
  intro n x h
  refine lp_W (P := fun x => Wt X M 5 [(0, .ref (G.1 + 0)), (1, .int y1), (3, .int x.1), (4, .int x.2)] []) (Z := fun t' => t' = t) (fun x r h hk hz => ?_) n x t h rfl
  unfold b_m_entryOf_5 at h
  refine r_iload_n (n := 6) rfl ok d_m_entryOf_5 rfl 2 rfl ?_
  refine r_iconst (v := 3) (n := 7) rfl ok d_m_entryOf_6 (by decide) ?_
  refine r_icmp_ge (tgt := 54) (n := 10) rfl ok d_m_entryOf_7 (by decide) (fun c1 => ?_) (fun c1 => ?_)
  · replace h := if_p c1 h
    obtain rfl := Option.some.inj h
    exact r_sub [2] rfl (show Wt X M 54 [(3, .int x.1)] [] from kx _ (hz _ rfl))
  · replace h := if_n c1 h
    refine r_iload (n := 12) rfl ok d_m_entryOf_10 3 rfl ?_
    refine r_aload_n (n := 13) rfl ok d_m_entryOf_12 rfl 0 rfl ?_
    refine g_MOD_v (n := 16) rfl ok hG  k_986 d_m_entryOf_13 ?_
    refine r_iload_n (n := 17) rfl ok d_m_entryOf_16 rfl 1 rfl ?_
    obtain ⟨r2, hr2, h⟩ := bd_ok h
    refine r_callS (n := 20) rfl ok hG mf_m_open k_1136 k_1135 (C_m_open  hr2) ⟨rfl, rfl⟩ (rR hXR ⟨Nat.le_of_ble_eq_true rfl, Nat.le_of_ble_eq_true rfl⟩) rfl rfl (Nat.le_of_ble_eq_true rfl) d_m_entryOf_17 ?_
    refine r_bipush (v := 9) (n := 22) rfl ok d_m_entryOf_20 (by decide) ?_
    refine r_iadd (n := 23) rfl ok d_m_entryOf_22 ?_
    refine r_iload_n (n := 24) rfl ok d_m_entryOf_23 rfl 2 rfl ?_
    refine r_iadd (n := 25) rfl ok d_m_entryOf_24 ?_
    obtain ⟨g3, h⟩ := gd_ok h
    refine al_V (n := 26) rfl ok hG  g3 d_m_entryOf_25 ?_
    refine r_icmp_lt (tgt := 54) (n := 29) rfl ok d_m_entryOf_26 (by decide) (fun c4 => ?_) (fun c4 => ?_)
    · replace h := if_p c4 h
      obtain rfl := Option.some.inj h
      exact r_sub [2] rfl (show Wt X M 54 [(3, .int x.1)] [] from kx _ (hz _ rfl))
    · replace h := if_n c4 h
      refine r_iload (n := 31) rfl ok d_m_entryOf_29 3 rfl ?_
      refine r_aload_n (n := 32) rfl ok d_m_entryOf_31 rfl 0 rfl ?_
      refine g_MOD_v (n := 35) rfl ok hG  k_986 d_m_entryOf_32 ?_
      refine r_iload_n (n := 36) rfl ok d_m_entryOf_35 rfl 1 rfl ?_
      obtain ⟨r5, hr5, h⟩ := bd_ok h
      refine r_callS (n := 39) rfl ok hG mf_m_open k_1136 k_1135 (C_m_open  hr5) ⟨rfl, rfl⟩ (rR hXR ⟨Nat.le_of_ble_eq_true rfl, Nat.le_of_ble_eq_true rfl⟩) rfl rfl (Nat.le_of_ble_eq_true rfl) d_m_entryOf_36 ?_
      refine r_bipush (v := 9) (n := 41) rfl ok d_m_entryOf_39 (by decide) ?_
      refine r_iadd (n := 42) rfl ok d_m_entryOf_41 ?_
      refine r_iload_n (n := 43) rfl ok d_m_entryOf_42 rfl 2 rfl ?_
      refine r_iadd (n := 44) rfl ok d_m_entryOf_43 ?_
      obtain ⟨g6, h⟩ := gd_ok h
      refine al_V (n := 45) rfl ok hG  g6 d_m_entryOf_44 ?_
      refine r_isub (n := 46) rfl ok d_m_entryOf_45 ?_
      obtain ⟨x7, ex7, h⟩ := bd_ok h
      refine r_ti (Option.some.inj ex7).symm ?_
      refine r_istore (lv' := [(4, .int x7), (0, .ref (G.1 + 0)), (1, .int y1), (3, .int x.1)]) (n := 48) rfl ok d_m_entryOf_46 (lt_n hXn (Nat.le_of_ble_eq_true rfl)) rfl ?_
      obtain ⟨x8, ex8, h⟩ := bd_ok h
      refine r_iinc (lv' := [(3, .int x8), (4, .int x7), (0, .ref (G.1 + 0)), (1, .int y1)]) (n := 51) rfl ok d_m_entryOf_48 3 rfl (Option.some.inj ex8) (lt_n hXn (Nat.le_of_ble_eq_true rfl)) rfl ?_
      refine r_goto (tgt := 5) ok d_m_entryOf_51 (by decide) ?_
      obtain rfl := Option.some.inj h
      exact r_sub [2, 3, 0, 1] rfl (show Wt X M 5 [(0, .ref (G.1 + 0)), (1, .int y1), (3, .int x8), (4, .int x7)] [] from hk _ rfl)
set_option maxHeartbeats 4000000 in
set_option maxRecDepth 20000 in
theorem C_m_entryOf {l : Launch} {G : Gt} {M : Me} {a1 : Int32} {a2 : Int32}  {o : Int32} (h : f_m_entryOf M a1 a2 = some o) : Ct l G (WM G) (rM G) y_m_entryOf b_m_entryOf 5 (some .int) rm_m_entryOf [.ref (G.1 + 0), .int a1, .int a2] M (some (.int o)) M := by
  refine Ct.mk (own := "RetryChainsModel") rfl (by decide) (Nat.le_of_ble_eq_true rfl) ⟨_, rfl⟩ (fun X hXl hXR hXn ok hG fin => ?_)
  subst hXl
  unfold f_m_entryOf at h
  show Wt X M 0 [(0, .ref (G.1 + 0)), (1, .int a1), (2, .int a2)] []
  refine r_iconst (v := 0) (n := 1) rfl ok d_m_entryOf_0 (by decide) ?_
  refine r_istore_n (lv' := [(3, .int 0), (0, .ref (G.1 + 0)), (1, .int a1), (2, .int a2)]) (n := 2) rfl ok d_m_entryOf_1 rfl (lt_n hXn (Nat.le_of_ble_eq_true rfl)) rfl ?_
  refine r_iload_n (n := 3) rfl ok d_m_entryOf_2 rfl 3 rfl ?_
  refine r_istore (lv' := [(4, .int a2), (3, .int 0), (0, .ref (G.1 + 0)), (1, .int a1), (2, .int a2)]) (n := 5) rfl ok d_m_entryOf_3 (lt_n hXn (Nat.le_of_ble_eq_true rfl)) rfl ?_
  obtain ⟨t9, ht9, h⟩ := bd_ok h
  refine r_sub [2, 3, 1, 0] rfl (show Wt X M 5 [(0, .ref (G.1 + 0)), (1, .int a1), (3, .int 0), (4, .int a2)] [] from w_m_entryOf_5 ok hG hXR hXn  ?_ _ _ ht9)
  · intro e10 he
    subst he
    refine r_iload_n (n := 55) rfl ok d_m_entryOf_54 rfl 0 rfl ?_
    obtain rfl := Option.some.inj h
    exact fin _ _ ⟨.int, rfl, rfl⟩ d_m_entryOf_55
set_option maxHeartbeats 4000000 in
set_option maxRecDepth 20000 in
theorem w_m_tryOf_5 {X : Cx Me} {G : Gt} (ok : Ok X b_m_tryOf "RetryChainsModel") (hG : GM X G) (hXR : X.R = rm_m_tryOf) (hXn : X.nL = 5) {M : Me} {y1 : Int32} {y2 : Int32}  {t : Int32} (kx : ∀ e : Int32, e = t → Wt X M 40 [(3, .int e)] [])  : ∀ (n : Nat) (x : Int32 × Int32), lp n (b_m_tryOf_5 M y1 y2) x = some t → Wt X M 5 [(0, .ref (G.1 + 0)), (1, .int y1), (2, .int y2), (3, .int x.1), (4, .int x.2)] [] := by
  intro n x h
  refine lp_W (P := fun x => Wt X M 5 [(0, .ref (G.1 + 0)), (1, .int y1), (2, .int y2), (3, .int x.1), (4, .int x.2)] []) (Z := fun t' => t' = t) (fun x r h hk hz => ?_) n x t h rfl
  unfold b_m_tryOf_5 at h
  refine r_iload (n := 7) rfl ok d_m_tryOf_5 4 rfl ?_
  refine r_aload_n (n := 8) rfl ok d_m_tryOf_7 rfl 0 rfl ?_
  refine r_iload_n (n := 9) rfl ok d_m_tryOf_8 rfl 1 rfl ?_
  refine r_iload_n (n := 10) rfl ok d_m_tryOf_9 rfl 2 rfl ?_
  obtain ⟨r1, hr1, h⟩ := bd_ok h
  refine r_callV (n := 13) rfl ok hG mf_m_entryOf k_1236 ks_54 k_1234 (C_m_entryOf  hr1) ⟨rfl, rfl⟩ (rR hXR ⟨Nat.le_of_ble_eq_true rfl, Nat.le_of_ble_eq_true rfl⟩) rfl rfl (rv_MOD) rfl (Nat.le_of_ble_eq_true rfl) d_m_tryOf_10 ?_
  refine r_icmp_ge (tgt := 40) (n := 16) rfl ok d_m_tryOf_13 (by decide) (fun c2 => ?_) (fun c2 => ?_)
  · replace h := if_p c2 h
    obtain rfl := Option.some.inj h
    exact r_sub [3] rfl (show Wt X M 40 [(3, .int x.1)] [] from kx _ (hz _ rfl))
  · replace h := if_n c2 h
    refine r_iload_n (n := 17) rfl ok d_m_tryOf_16 rfl 3 rfl ?_
    refine r_aload_n (n := 18) rfl ok d_m_tryOf_17 rfl 0 rfl ?_
    refine g_MOD_v (n := 21) rfl ok hG  k_986 d_m_tryOf_18 ?_
    refine r_iload_n (n := 22) rfl ok d_m_tryOf_21 rfl 1 rfl ?_
    obtain ⟨r3, hr3, h⟩ := bd_ok h
    refine r_callS (n := 25) rfl ok hG mf_m_open k_1136 k_1135 (C_m_open  hr3) ⟨rfl, rfl⟩ (rR hXR ⟨Nat.le_of_ble_eq_true rfl, Nat.le_of_ble_eq_true rfl⟩) rfl rfl (Nat.le_of_ble_eq_true rfl) d_m_tryOf_22 ?_
    refine r_bipush (v := 9) (n := 27) rfl ok d_m_tryOf_25 (by decide) ?_
    refine r_iadd (n := 28) rfl ok d_m_tryOf_27 ?_
    refine r_iload (n := 30) rfl ok d_m_tryOf_28 4 rfl ?_
    refine r_iadd (n := 31) rfl ok d_m_tryOf_30 ?_
    obtain ⟨g4, h⟩ := gd_ok h
    refine al_V (n := 32) rfl ok hG  g4 d_m_tryOf_31 ?_
    refine r_isub (n := 33) rfl ok d_m_tryOf_32 ?_
    obtain ⟨x5, ex5, h⟩ := bd_ok h
    refine r_ti (Option.some.inj ex5).symm ?_
    refine r_istore_n (lv' := [(3, .int x5), (0, .ref (G.1 + 0)), (1, .int y1), (2, .int y2), (4, .int x.2)]) (n := 34) rfl ok d_m_tryOf_33 rfl (lt_n hXn (Nat.le_of_ble_eq_true rfl)) rfl ?_
    obtain ⟨x6, ex6, h⟩ := bd_ok h
    refine r_iinc (lv' := [(4, .int x6), (3, .int x5), (0, .ref (G.1 + 0)), (1, .int y1), (2, .int y2)]) (n := 37) rfl ok d_m_tryOf_34 4 rfl (Option.some.inj ex6) (lt_n hXn (Nat.le_of_ble_eq_true rfl)) rfl ?_
    refine r_goto (tgt := 5) ok d_m_tryOf_37 (by decide) ?_
    obtain rfl := Option.some.inj h
    exact r_sub [2, 3, 4, 1, 0] rfl (show Wt X M 5 [(0, .ref (G.1 + 0)), (1, .int y1), (2, .int y2), (3, .int x5), (4, .int x6)] [] from hk _ rfl)
set_option maxHeartbeats 4000000 in
set_option maxRecDepth 20000 in
theorem C_m_tryOf {l : Launch} {G : Gt} {M : Me} {a1 : Int32} {a2 : Int32}  {o : Int32} (h : f_m_tryOf M a1 a2 = some o) : Ct l G (WM G) (rM G) y_m_tryOf b_m_tryOf 5 (some .int) rm_m_tryOf [.ref (G.1 + 0), .int a1, .int a2] M (some (.int o)) M := by
  refine Ct.mk (own := "RetryChainsModel") rfl (by decide) (Nat.le_of_ble_eq_true rfl) ⟨_, rfl⟩ (fun X hXl hXR hXn ok hG fin => ?_)
  subst hXl
  unfold f_m_tryOf at h
  show Wt X M 0 [(0, .ref (G.1 + 0)), (1, .int a1), (2, .int a2)] []
  refine r_iload_n (n := 1) rfl ok d_m_tryOf_0 rfl 2 rfl ?_
  refine r_istore_n (lv' := [(3, .int a2), (0, .ref (G.1 + 0)), (1, .int a1), (2, .int a2)]) (n := 2) rfl ok d_m_tryOf_1 rfl (lt_n hXn (Nat.le_of_ble_eq_true rfl)) rfl ?_
  refine r_iconst (v := 0) (n := 3) rfl ok d_m_tryOf_2 (by decide) ?_
  refine r_istore (lv' := [(4, .int 0), (3, .int a2), (0, .ref (G.1 + 0)), (1, .int a1), (2, .int a2)]) (n := 5) rfl ok d_m_tryOf_3 (lt_n hXn (Nat.le_of_ble_eq_true rfl)) rfl ?_
  obtain ⟨t7, ht7, h⟩ := bd_ok h
  refine r_sub [2, 3, 4, 1, 0] rfl (show Wt X M 5 [(0, .ref (G.1 + 0)), (1, .int a1), (2, .int a2), (3, .int a2), (4, .int 0)] [] from w_m_tryOf_5 ok hG hXR hXn  ?_ _ _ ht7)
  · intro e8 he
    subst he
    refine r_iload_n (n := 41) rfl ok d_m_tryOf_40 rfl 0 rfl ?_
    obtain rfl := Option.some.inj h
    exact fin _ _ ⟨.int, rfl, rfl⟩ d_m_tryOf_41
set_option maxHeartbeats 4000000 in
set_option maxRecDepth 20000 in
theorem C_m_rateOfTry {l : Launch} {G : Gt} {M : Me} {a1 : Int32} {a2 : Int32}  {o : Int32} (h : f_m_rateOfTry M a1 a2 = some o) : Ct l G (WM G) (rM G) y_m_rateOfTry b_m_rateOfTry 3 (some .int) rm_m_rateOfTry [.ref (G.1 + 0), .int a1, .int a2] M (some (.int o)) M := by
  refine Ct.mk (own := "RetryChainsModel") rfl (by decide) (Nat.le_of_ble_eq_true rfl) ⟨_, rfl⟩ (fun X hXl hXR hXn ok hG fin => ?_)
  subst hXl
  unfold f_m_rateOfTry at h
  show Wt X M 0 [(0, .ref (G.1 + 0)), (1, .int a1), (2, .int a2)] []
  refine r_aload_n (n := 1) rfl ok d_m_rateOfTry_0 rfl 0 rfl ?_
  refine g_MOD_v (n := 4) rfl ok hG  k_986 d_m_rateOfTry_1 ?_
  refine r_iload_n (n := 5) rfl ok d_m_rateOfTry_4 rfl 1 rfl ?_
  obtain ⟨r1, hr1, h⟩ := bd_ok h
  refine r_callS (n := 8) rfl ok hG mf_m_open k_1136 k_1135 (C_m_open  hr1) ⟨rfl, rfl⟩ (rR hXR ⟨Nat.le_of_ble_eq_true rfl, Nat.le_of_ble_eq_true rfl⟩) rfl rfl (Nat.le_of_ble_eq_true rfl) d_m_rateOfTry_5 ?_
  refine r_iconst (v := 5) (n := 9) rfl ok d_m_rateOfTry_8 (by decide) ?_
  refine r_iadd (n := 10) rfl ok d_m_rateOfTry_9 ?_
  refine r_aload_n (n := 11) rfl ok d_m_rateOfTry_10 rfl 0 rfl ?_
  refine r_iload_n (n := 12) rfl ok d_m_rateOfTry_11 rfl 1 rfl ?_
  refine r_iload_n (n := 13) rfl ok d_m_rateOfTry_12 rfl 2 rfl ?_
  obtain ⟨r2, hr2, h⟩ := bd_ok h
  refine r_callV (n := 16) rfl ok hG mf_m_entryOf k_1236 ks_54 k_1234 (C_m_entryOf  hr2) ⟨rfl, rfl⟩ (rR hXR ⟨Nat.le_of_ble_eq_true rfl, Nat.le_of_ble_eq_true rfl⟩) rfl rfl (rv_MOD) rfl (Nat.le_of_ble_eq_true rfl) d_m_rateOfTry_13 ?_
  refine r_iadd (n := 17) rfl ok d_m_rateOfTry_16 ?_
  obtain ⟨g3, h⟩ := gd_ok h
  refine al_V (n := 18) rfl ok hG  g3 d_m_rateOfTry_17 ?_
  obtain rfl := Option.some.inj h
  exact fin _ _ ⟨.int, rfl, rfl⟩ d_m_rateOfTry_18
set_option maxHeartbeats 4000000 in
set_option maxRecDepth 20000 in
theorem C_m_timeOfTry {l : Launch} {G : Gt} {M : Me} {a1 : Int32} {a2 : Int32}  {o : Int32} (h : f_m_timeOfTry M a1 a2 = some o) : Ct l G (WM G) (rM G) y_m_timeOfTry b_m_timeOfTry 3 (some .int) rm_m_timeOfTry [.ref (G.1 + 0), .int a1, .int a2] M (some (.int o)) M := by
  refine Ct.mk (own := "RetryChainsModel") rfl (by decide) (Nat.le_of_ble_eq_true rfl) ⟨_, rfl⟩ (fun X hXl hXR hXn ok hG fin => ?_)
  subst hXl
  unfold f_m_timeOfTry at h
  show Wt X M 0 [(0, .ref (G.1 + 0)), (1, .int a1), (2, .int a2)] []
  refine r_aload_n (n := 1) rfl ok d_m_timeOfTry_0 rfl 0 rfl ?_
  refine r_aload_n (n := 2) rfl ok d_m_timeOfTry_1 rfl 0 rfl ?_
  refine r_iload_n (n := 3) rfl ok d_m_timeOfTry_2 rfl 1 rfl ?_
  refine r_iload_n (n := 4) rfl ok d_m_timeOfTry_3 rfl 2 rfl ?_
  obtain ⟨r1, hr1, h⟩ := bd_ok h
  refine r_callV (n := 7) rfl ok hG mf_m_rateOfTry k_1232 ks_53 k_1230 (C_m_rateOfTry  hr1) ⟨rfl, rfl⟩ (rR hXR ⟨Nat.le_of_ble_eq_true rfl, Nat.le_of_ble_eq_true rfl⟩) rfl rfl (rv_MOD) rfl (Nat.le_of_ble_eq_true rfl) d_m_timeOfTry_4 ?_
  refine r_aload_n (n := 8) rfl ok d_m_timeOfTry_7 rfl 0 rfl ?_
  refine g_MOD_v (n := 11) rfl ok hG  k_986 d_m_timeOfTry_8 ?_
  refine r_iload_n (n := 12) rfl ok d_m_timeOfTry_11 rfl 1 rfl ?_
  obtain ⟨r2, hr2, h⟩ := bd_ok h
  refine r_callS (n := 15) rfl ok hG mf_m_open k_1136 k_1135 (C_m_open  hr2) ⟨rfl, rfl⟩ (rR hXR ⟨Nat.le_of_ble_eq_true rfl, Nat.le_of_ble_eq_true rfl⟩) rfl rfl (Nat.le_of_ble_eq_true rfl) d_m_timeOfTry_12 ?_
  refine r_iconst (v := 2) (n := 16) rfl ok d_m_timeOfTry_15 (by decide) ?_
  refine r_iadd (n := 17) rfl ok d_m_timeOfTry_16 ?_
  obtain ⟨g3, h⟩ := gd_ok h
  refine al_V (n := 18) rfl ok hG  g3 d_m_timeOfTry_17 ?_
  refine r_aload_n (n := 19) rfl ok d_m_timeOfTry_18 rfl 0 rfl ?_
  refine r_iload_n (n := 20) rfl ok d_m_timeOfTry_19 rfl 1 rfl ?_
  refine r_iload_n (n := 21) rfl ok d_m_timeOfTry_20 rfl 2 rfl ?_
  obtain ⟨r4, hr4, h⟩ := bd_ok h
  refine r_callV (n := 24) rfl ok hG mf_m_tryOf k_1240 ks_55 k_1238 (C_m_tryOf  hr4) ⟨rfl, rfl⟩ (rR hXR ⟨Nat.le_of_ble_eq_true rfl, Nat.le_of_ble_eq_true rfl⟩) rfl rfl (rv_MOD) rfl (Nat.le_of_ble_eq_true rfl) d_m_timeOfTry_21 ?_
  obtain ⟨r5, hr5, h⟩ := bd_ok h
  refine r_callV (n := 27) rfl ok hG mf_m_timeOf k_1160 ks_39 k_1158 (C_m_timeOf  hr5) ⟨rfl, rfl⟩ (rR hXR ⟨Nat.le_of_ble_eq_true rfl, Nat.le_of_ble_eq_true rfl⟩) rfl rfl (rv_MOD) rfl (Nat.le_of_ble_eq_true rfl) d_m_timeOfTry_24 ?_
  obtain rfl := Option.some.inj h
  exact fin _ _ ⟨.int, rfl, rfl⟩ d_m_timeOfTry_27
set_option maxHeartbeats 4000000 in
set_option maxRecDepth 20000 in
theorem w_m_timeOfTries_5 {X : Cx Me} {G : Gt} (ok : Ok X b_m_timeOfTries "RetryChainsModel") (hG : GM X G) (hXR : X.R = rm_m_timeOfTries) (hXn : X.nL = 5) {M : Me} {y1 : Int32} {y2 : Int32}  {t : Int32} (kx : ∀ e : Int32, e = t → Wt X M 27 [(3, .int e)] [])  : ∀ (n : Nat) (x : Int32 × Int32), lp n (b_m_timeOfTries_5 M y1 y2) x = some t → Wt X M 5 [(0, .ref (G.1 + 0)), (1, .int y1), (2, .int y2), (3, .int x.1), (4, .int x.2)] [] := by
  intro n x h
  refine lp_W (P := fun x => Wt X M 5 [(0, .ref (G.1 + 0)), (1, .int y1), (2, .int y2), (3, .int x.1), (4, .int x.2)] []) (Z := fun t' => t' = t) (fun x r h hk hz => ?_) n x t h rfl
  unfold b_m_timeOfTries_5 at h
  refine r_iload (n := 7) rfl ok d_m_timeOfTries_5 4 rfl ?_
  refine r_iload_n (n := 8) rfl ok d_m_timeOfTries_7 rfl 2 rfl ?_
  refine r_icmp_ge (tgt := 27) (n := 11) rfl ok d_m_timeOfTries_8 (by decide) (fun c1 => ?_) (fun c1 => ?_)
  · replace h := if_p c1 h
    obtain rfl := Option.some.inj h
    exact r_sub [3] rfl (show Wt X M 27 [(3, .int x.1)] [] from kx _ (hz _ rfl))
  · replace h := if_n c1 h
    refine r_iload_n (n := 12) rfl ok d_m_timeOfTries_11 rfl 3 rfl ?_
    refine r_aload_n (n := 13) rfl ok d_m_timeOfTries_12 rfl 0 rfl ?_
    refine r_iload_n (n := 14) rfl ok d_m_timeOfTries_13 rfl 1 rfl ?_
    refine r_iload (n := 16) rfl ok d_m_timeOfTries_14 4 rfl ?_
    obtain ⟨r2, hr2, h⟩ := bd_ok h
    refine r_callV (n := 19) rfl ok hG mf_m_timeOfTry k_1228 ks_52 k_1226 (C_m_timeOfTry  hr2) ⟨rfl, rfl⟩ (rR hXR ⟨Nat.le_of_ble_eq_true rfl, Nat.le_of_ble_eq_true rfl⟩) rfl rfl (rv_MOD) rfl (Nat.le_of_ble_eq_true rfl) d_m_timeOfTries_16 ?_
    refine r_iadd (n := 20) rfl ok d_m_timeOfTries_19 ?_
    obtain ⟨x3, ex3, h⟩ := bd_ok h
    refine r_ti (Option.some.inj ex3).symm ?_
    refine r_istore_n (lv' := [(3, .int x3), (0, .ref (G.1 + 0)), (1, .int y1), (2, .int y2), (4, .int x.2)]) (n := 21) rfl ok d_m_timeOfTries_20 rfl (lt_n hXn (Nat.le_of_ble_eq_true rfl)) rfl ?_
    obtain ⟨x4, ex4, h⟩ := bd_ok h
    refine r_iinc (lv' := [(4, .int x4), (3, .int x3), (0, .ref (G.1 + 0)), (1, .int y1), (2, .int y2)]) (n := 24) rfl ok d_m_timeOfTries_21 4 rfl (Option.some.inj ex4) (lt_n hXn (Nat.le_of_ble_eq_true rfl)) rfl ?_
    refine r_goto (tgt := 5) ok d_m_timeOfTries_24 (by decide) ?_
    obtain rfl := Option.some.inj h
    exact r_sub [2, 3, 4, 1, 0] rfl (show Wt X M 5 [(0, .ref (G.1 + 0)), (1, .int y1), (2, .int y2), (3, .int x3), (4, .int x4)] [] from hk _ rfl)
set_option maxHeartbeats 4000000 in
set_option maxRecDepth 20000 in
theorem C_m_timeOfTries {l : Launch} {G : Gt} {M : Me} {a1 : Int32} {a2 : Int32}  {o : Int32} (h : f_m_timeOfTries M a1 a2 = some o) : Ct l G (WM G) (rM G) y_m_timeOfTries b_m_timeOfTries 5 (some .int) rm_m_timeOfTries [.ref (G.1 + 0), .int a1, .int a2] M (some (.int o)) M := by
  refine Ct.mk (own := "RetryChainsModel") rfl (by decide) (Nat.le_of_ble_eq_true rfl) ⟨_, rfl⟩ (fun X hXl hXR hXn ok hG fin => ?_)
  subst hXl
  unfold f_m_timeOfTries at h
  show Wt X M 0 [(0, .ref (G.1 + 0)), (1, .int a1), (2, .int a2)] []
  refine r_iconst (v := 0) (n := 1) rfl ok d_m_timeOfTries_0 (by decide) ?_
  refine r_istore_n (lv' := [(3, .int 0), (0, .ref (G.1 + 0)), (1, .int a1), (2, .int a2)]) (n := 2) rfl ok d_m_timeOfTries_1 rfl (lt_n hXn (Nat.le_of_ble_eq_true rfl)) rfl ?_
  refine r_iconst (v := 0) (n := 3) rfl ok d_m_timeOfTries_2 (by decide) ?_
  refine r_istore (lv' := [(4, .int 0), (3, .int 0), (0, .ref (G.1 + 0)), (1, .int a1), (2, .int a2)]) (n := 5) rfl ok d_m_timeOfTries_3 (lt_n hXn (Nat.le_of_ble_eq_true rfl)) rfl ?_
  obtain ⟨t5, ht5, h⟩ := bd_ok h
  refine r_sub [2, 3, 4, 1, 0] rfl (show Wt X M 5 [(0, .ref (G.1 + 0)), (1, .int a1), (2, .int a2), (3, .int 0), (4, .int 0)] [] from w_m_timeOfTries_5 ok hG hXR hXn  ?_ _ _ ht5)
  · intro e6 he
    subst he
    refine r_iload_n (n := 28) rfl ok d_m_timeOfTries_27 rfl 0 rfl ?_
    obtain rfl := Option.some.inj h
    exact fin _ _ ⟨.int, rfl, rfl⟩ d_m_timeOfTries_28
set_option maxHeartbeats 4000000 in
set_option maxRecDepth 20000 in
theorem C_m_ends {l : Launch} {G : Gt} {M : Me} {a1 : Int32} {a2 : Int32}  {o : Me} (h : f_m_ends M a1 a2 = some o) : Ct l G (WM G) (rM G) y_m_ends b_m_ends 4 none rm_m_ends [.ref (G.1 + 0), .int a1, .int a2] M (none) o := by
  refine Ct.mk (own := "RetryChainsModel") rfl (by decide) (Nat.le_of_ble_eq_true rfl) rfl (fun X hXl hXR hXn ok hG fin => ?_)
  subst hXl
  unfold f_m_ends at h
  show Wt X M 0 [(0, .ref (G.1 + 0)), (1, .int a1), (2, .int a2)] []
  refine r_iload_n (n := 1) rfl ok d_m_ends_0 rfl 1 rfl ?_
  obtain ⟨r1, hr1, h⟩ := bd_ok h
  refine r_callS (n := 4) rfl ok hG mf_m_side k_1034 k_1033 (C_m_side  hr1) ⟨rfl, rfl⟩ (rR hXR ⟨Nat.le_of_ble_eq_true rfl, Nat.le_of_ble_eq_true rfl⟩) rfl rfl (Nat.le_of_ble_eq_true rfl) d_m_ends_1 ?_
  refine r_istore_n (lv' := [(3, .int r1), (0, .ref (G.1 + 0)), (1, .int a1), (2, .int a2)]) (n := 5) rfl ok d_m_ends_4 rfl (lt_n hXn (Nat.le_of_ble_eq_true rfl)) rfl ?_
  refine r_iload_n (n := 6) rfl ok d_m_ends_5 rfl 3 rfl ?_
  refine r_if_eq (tgt := 60) (n := 9) rfl ok d_m_ends_6 (by decide) (fun c2 => ?_) (fun c2 => ?_)
  · replace h := if_p c2 h
    refine r_aload_n (n := 61) rfl ok d_m_ends_60 rfl 1 rfl ?_
    refine g_MOD_v (n := 64) rfl ok hG  k_986 d_m_ends_61 ?_
    refine r_iload_n (n := 65) rfl ok d_m_ends_64 rfl 0 rfl ?_
    refine r_iconst (v := 3) (n := 66) rfl ok d_m_ends_65 (by decide) ?_
    refine r_iadd (n := 67) rfl ok d_m_ends_66 ?_
    refine r_dup2 (n := 68) rfl ok d_m_ends_67 rfl rfl ?_
    obtain ⟨g3, h⟩ := gd_ok h
    refine al_V (n := 69) rfl ok hG  g3 d_m_ends_68 ?_
    refine r_iconst (v := 1) (n := 70) rfl ok d_m_ends_69 (by decide) ?_
    refine r_iadd (n := 71) rfl ok d_m_ends_70 ?_
    obtain ⟨g4, h⟩ := gd_ok h
    obtain ⟨M5, eM5, h⟩ := bd_ok h
    refine as_V (n := 72) rfl ok hG  g4 d_m_ends_71 ?_
    refine r_mem (Option.some.inj eM5) ?_
    refine r_aload_n (n := 73) rfl ok d_m_ends_72 rfl 1 rfl ?_
    refine g_MOD_v (n := 76) rfl ok hG  k_986 d_m_ends_73 ?_
    refine r_iload_n (n := 77) rfl ok d_m_ends_76 rfl 0 rfl ?_
    refine r_iconst (v := 4) (n := 78) rfl ok d_m_ends_77 (by decide) ?_
    refine r_iadd (n := 79) rfl ok d_m_ends_78 ?_
    refine r_dup2 (n := 80) rfl ok d_m_ends_79 rfl rfl ?_
    obtain ⟨g6, h⟩ := gd_ok h
    refine al_V (n := 81) rfl ok hG  g6 d_m_ends_80 ?_
    refine r_iconst (v := 1) (n := 82) rfl ok d_m_ends_81 (by decide) ?_
    refine r_iadd (n := 83) rfl ok d_m_ends_82 ?_
    obtain ⟨g7, h⟩ := gd_ok h
    obtain ⟨M8, eM8, h⟩ := bd_ok h
    refine as_V (n := 84) rfl ok hG  g7 d_m_ends_83 ?_
    refine r_mem (Option.some.inj eM8) ?_
    refine r_aload_n (n := 85) rfl ok d_m_ends_84 rfl 1 rfl ?_
    refine g_MOD_v (n := 88) rfl ok hG  k_986 d_m_ends_85 ?_
    refine r_iload_n (n := 89) rfl ok d_m_ends_88 rfl 0 rfl ?_
    refine r_iconst (v := 4) (n := 90) rfl ok d_m_ends_89 (by decide) ?_
    refine r_iadd (n := 91) rfl ok d_m_ends_90 ?_
    obtain ⟨g9, h⟩ := gd_ok h
    refine al_V (n := 92) rfl ok hG  g9 d_m_ends_91 ?_
    refine r_iconst (v := 3) (n := 93) rfl ok d_m_ends_92 (by decide) ?_
    refine r_icmp_ne (tgt := 124) (n := 96) rfl ok d_m_ends_93 (by decide) (fun c10 => ?_) (fun c10 => ?_)
    · replace h := if_n c10 h
      obtain rfl := Option.some.inj h
      exact fin _ _ d_m_ends_124
    · replace h := if_p c10 h
      refine r_aload_n (n := 97) rfl ok d_m_ends_96 rfl 1 rfl ?_
      refine g_MOD_v (n := 100) rfl ok hG  k_986 d_m_ends_97 ?_
      refine r_iload_n (n := 101) rfl ok d_m_ends_100 rfl 0 rfl ?_
      refine r_iconst (v := 5) (n := 102) rfl ok d_m_ends_101 (by decide) ?_
      refine r_iadd (n := 103) rfl ok d_m_ends_102 ?_
      obtain ⟨g11, h⟩ := gd_ok h
      refine al_V (n := 104) rfl ok hG  g11 d_m_ends_103 ?_
      refine r_if_ne (tgt := 124) (n := 107) rfl ok d_m_ends_104 (by decide) (fun c12 => ?_) (fun c12 => ?_)
      · replace h := if_n c12 h
        obtain rfl := Option.some.inj h
        exact fin _ _ d_m_ends_124
      · replace h := if_p c12 h
        refine r_aload_n (n := 108) rfl ok d_m_ends_107 rfl 1 rfl ?_
        refine g_MOD_v (n := 111) rfl ok hG  k_986 d_m_ends_108 ?_
        refine r_iload_n (n := 112) rfl ok d_m_ends_111 rfl 0 rfl ?_
        refine r_iconst (v := 5) (n := 113) rfl ok d_m_ends_112 (by decide) ?_
        refine r_iadd (n := 114) rfl ok d_m_ends_113 ?_
        refine r_iconst (v := 1) (n := 115) rfl ok d_m_ends_114 (by decide) ?_
        obtain ⟨g13, h⟩ := gd_ok h
        obtain ⟨M14, eM14, h⟩ := bd_ok h
        refine as_V (n := 116) rfl ok hG  g13 d_m_ends_115 ?_
        refine r_mem (Option.some.inj eM14) ?_
        refine r_aload_n (n := 117) rfl ok d_m_ends_116 rfl 1 rfl ?_
        refine r_iconst (v := 3) (n := 118) rfl ok d_m_ends_117 (by decide) ?_
        refine r_iload_n (n := 119) rfl ok d_m_ends_118 rfl 2 rfl ?_
        refine r_bipush (v := (-9)) (n := 121) rfl ok d_m_ends_119 (by decide) ?_
        obtain ⟨r15, hr15, h⟩ := bd_ok h
        refine r_callV (n := 124) rfl ok hG mf_m_log k_1253 ks_58 k_1251 (C_m_log  hr15) ⟨rfl, rfl⟩ (rR hXR ⟨Nat.le_of_ble_eq_true rfl, Nat.le_of_ble_eq_true rfl⟩) rfl rfl (rv_MOD) rfl (Nat.le_of_ble_eq_true rfl) d_m_ends_121 ?_
        obtain rfl := Option.some.inj h
        exact fin _ _ d_m_ends_124
  · replace h := if_n c2 h
    refine r_aload_n (n := 10) rfl ok d_m_ends_9 rfl 1 rfl ?_
    refine g_MOD_v (n := 13) rfl ok hG  k_986 d_m_ends_10 ?_
    refine r_iload_n (n := 14) rfl ok d_m_ends_13 rfl 0 rfl ?_
    refine r_iconst (v := 2) (n := 15) rfl ok d_m_ends_14 (by decide) ?_
    refine r_iadd (n := 16) rfl ok d_m_ends_15 ?_
    refine r_dup2 (n := 17) rfl ok d_m_ends_16 rfl rfl ?_
    obtain ⟨g16, h⟩ := gd_ok h
    refine al_V (n := 18) rfl ok hG  g16 d_m_ends_17 ?_
    refine r_iconst (v := 1) (n := 19) rfl ok d_m_ends_18 (by decide) ?_
    refine r_iadd (n := 20) rfl ok d_m_ends_19 ?_
    obtain ⟨g17, h⟩ := gd_ok h
    obtain ⟨M18, eM18, h⟩ := bd_ok h
    refine as_V (n := 21) rfl ok hG  g17 d_m_ends_20 ?_
    refine r_mem (Option.some.inj eM18) ?_
    refine r_aload_n (n := 22) rfl ok d_m_ends_21 rfl 1 rfl ?_
    refine g_MOD_v (n := 25) rfl ok hG  k_986 d_m_ends_22 ?_
    refine r_iload_n (n := 26) rfl ok d_m_ends_25 rfl 0 rfl ?_
    refine r_iconst (v := 4) (n := 27) rfl ok d_m_ends_26 (by decide) ?_
    refine r_iadd (n := 28) rfl ok d_m_ends_27 ?_
    refine r_iconst (v := 0) (n := 29) rfl ok d_m_ends_28 (by decide) ?_
    obtain ⟨g19, h⟩ := gd_ok h
    obtain ⟨M20, eM20, h⟩ := bd_ok h
    refine as_V (n := 30) rfl ok hG  g19 d_m_ends_29 ?_
    refine r_mem (Option.some.inj eM20) ?_
    refine r_aload_n (n := 31) rfl ok d_m_ends_30 rfl 1 rfl ?_
    refine g_MOD_v (n := 34) rfl ok hG  k_986 d_m_ends_31 ?_
    refine r_iload_n (n := 35) rfl ok d_m_ends_34 rfl 0 rfl ?_
    refine r_iconst (v := 5) (n := 36) rfl ok d_m_ends_35 (by decide) ?_
    refine r_iadd (n := 37) rfl ok d_m_ends_36 ?_
    obtain ⟨g21, h⟩ := gd_ok h
    refine al_V (n := 38) rfl ok hG  g21 d_m_ends_37 ?_
    refine r_iconst (v := 1) (n := 39) rfl ok d_m_ends_38 (by decide) ?_
    refine r_icmp_ne (tgt := 59) (n := 42) rfl ok d_m_ends_39 (by decide) (fun c22 => ?_) (fun c22 => ?_)
    · replace h := if_n c22 h
      obtain rfl := Option.some.inj h
      exact fin _ _ d_m_ends_59
    · replace h := if_p c22 h
      refine r_aload_n (n := 43) rfl ok d_m_ends_42 rfl 1 rfl ?_
      refine g_MOD_v (n := 46) rfl ok hG  k_986 d_m_ends_43 ?_
      refine r_iload_n (n := 47) rfl ok d_m_ends_46 rfl 0 rfl ?_
      refine r_iconst (v := 5) (n := 48) rfl ok d_m_ends_47 (by decide) ?_
      refine r_iadd (n := 49) rfl ok d_m_ends_48 ?_
      refine r_iconst (v := 0) (n := 50) rfl ok d_m_ends_49 (by decide) ?_
      obtain ⟨g23, h⟩ := gd_ok h
      obtain ⟨M24, eM24, h⟩ := bd_ok h
      refine as_V (n := 51) rfl ok hG  g23 d_m_ends_50 ?_
      refine r_mem (Option.some.inj eM24) ?_
      refine r_aload_n (n := 52) rfl ok d_m_ends_51 rfl 1 rfl ?_
      refine r_iconst (v := 4) (n := 53) rfl ok d_m_ends_52 (by decide) ?_
      refine r_iload_n (n := 54) rfl ok d_m_ends_53 rfl 2 rfl ?_
      refine r_bipush (v := (-9)) (n := 56) rfl ok d_m_ends_54 (by decide) ?_
      obtain ⟨r25, hr25, h⟩ := bd_ok h
      refine r_callV (n := 59) rfl ok hG mf_m_log k_1253 ks_58 k_1251 (C_m_log  hr25) ⟨rfl, rfl⟩ (rR hXR ⟨Nat.le_of_ble_eq_true rfl, Nat.le_of_ble_eq_true rfl⟩) rfl rfl (rv_MOD) rfl (Nat.le_of_ble_eq_true rfl) d_m_ends_56 ?_
      obtain rfl := Option.some.inj h
      exact fin _ _ d_m_ends_59
set_option maxHeartbeats 4000000 in
set_option maxRecDepth 20000 in
theorem w_m_reports_24 {X : Cx Me} {G : Gt} (ok : Ok X b_m_reports "RetryChainsModel") (hG : GM X G) (hXR : X.R = rm_m_reports) (hXn : X.nL = 9) {y1 : Int32} {y2 : Int32} {y3 : Int32} {y4 : Int32} {y5 : Int32}  {t : Me} (kx : ∀ e : Me, e = t → Wt X e 123 [(0, .ref (G.1 + 0)), (1, .int y1), (3, .int y3), (4, .int y4), (5, .int y5)] [])  : ∀ (n : Nat) (x : Int32 × Me), lp n (b_m_reports_24 y1 y2 y3 y4 y5) x = some t → Wt X x.2 24 [(0, .ref (G.1 + 0)), (1, .int y1), (2, .int y2), (3, .int y3), (4, .int y4), (5, .int y5), (6, .int x.1)] [] := by
  intro n x h
  refine lp_W (P := fun x => Wt X x.2 24 [(0, .ref (G.1 + 0)), (1, .int y1), (2, .int y2), (3, .int y3), (4, .int y4), (5, .int y5), (6, .int x.1)] []) (Z := fun t' => t' = t) (fun x r h hk hz => ?_) n x t h rfl
  unfold b_m_reports_24 at h
  refine r_iload (n := 26) rfl ok d_m_reports_24 6 rfl ?_
  refine r_iload_n (n := 27) rfl ok d_m_reports_26 rfl 2 rfl ?_
  refine r_icmp_ge (tgt := 123) (n := 30) rfl ok d_m_reports_27 (by decide) (fun c4 => ?_) (fun c4 => ?_)
  · replace h := if_p c4 h
    obtain rfl := Option.some.inj h
    exact r_sub [0, 1, 3, 4, 5] rfl (show Wt X x.2 123 [(0, .ref (G.1 + 0)), (1, .int y1), (3, .int y3), (4, .int y4), (5, .int y5)] [] from kx _ (hz _ rfl))
  · replace h := if_n c4 h
    refine r_iload (n := 32) rfl ok d_m_reports_30 4 rfl ?_
    refine r_aload_n (n := 33) rfl ok d_m_reports_32 rfl 0 rfl ?_
    refine r_iload_n (n := 34) rfl ok d_m_reports_33 rfl 1 rfl ?_
    refine r_iload (n := 36) rfl ok d_m_reports_34 6 rfl ?_
    obtain ⟨r5, hr5, h⟩ := bd_ok h
    refine r_callV (n := 39) rfl ok hG mf_m_rateOfTry k_1232 ks_53 k_1230 (C_m_rateOfTry  hr5) ⟨rfl, rfl⟩ (rR hXR ⟨Nat.le_of_ble_eq_true rfl, Nat.le_of_ble_eq_true rfl⟩) rfl rfl (rv_MOD) rfl (Nat.le_of_ble_eq_true rfl) d_m_reports_36 ?_
    obtain ⟨r6, hr6, h⟩ := bd_ok h
    refine r_callS (n := 42) rfl ok hG mf_m_pair k_1027 k_1026 (C_m_pair  hr6) ⟨rfl, rfl⟩ (rR hXR ⟨Nat.le_of_ble_eq_true rfl, Nat.le_of_ble_eq_true rfl⟩) rfl rfl (Nat.le_of_ble_eq_true rfl) d_m_reports_39 ?_
    refine r_istore (lv' := [(7, .int r6), (0, .ref (G.1 + 0)), (1, .int y1), (2, .int y2), (3, .int y3), (4, .int y4), (5, .int y5), (6, .int x.1)]) (n := 44) rfl ok d_m_reports_42 (lt_n hXn (Nat.le_of_ble_eq_true rfl)) rfl ?_
    refine r_iload_n (n := 45) rfl ok d_m_reports_44 rfl 4 rfl ?_
    refine r_if_eq (tgt := 60) (n := 48) rfl ok d_m_reports_45 (by decide) (fun c7 => ?_) (fun c7 => ?_)
    · replace h := if_p c7 h
      refine r_iconst (v := 0) (n := 61) rfl ok d_m_reports_60 (by decide) ?_
      refine r_istore (lv' := [(8, .int 0), (7, .int r6), (0, .ref (G.1 + 0)), (1, .int y1), (2, .int y2), (3, .int y3), (4, .int y4), (5, .int y5), (6, .int x.1)]) (n := 63) rfl ok d_m_reports_61 (lt_n hXn (Nat.le_of_ble_eq_true rfl)) rfl ?_
      refine r_aload_n (n := 64) rfl ok d_m_reports_63 rfl 2 rfl ?_
      refine g_MOD_v (n := 67) rfl ok hG  k_986 d_m_reports_64 ?_
      refine r_iload (n := 69) rfl ok d_m_reports_67 1 rfl ?_
      refine r_iconst (v := 2) (n := 70) rfl ok d_m_reports_69 (by decide) ?_
      refine r_iadd (n := 71) rfl ok d_m_reports_70 ?_
      refine r_dup2 (n := 72) rfl ok d_m_reports_71 rfl rfl ?_
      obtain ⟨g8, h⟩ := gd_ok h
      refine al_V (n := 73) rfl ok hG  g8 d_m_reports_72 ?_
      refine r_iconst (v := 1) (n := 74) rfl ok d_m_reports_73 (by decide) ?_
      refine r_iadd (n := 75) rfl ok d_m_reports_74 ?_
      obtain ⟨g9, h⟩ := gd_ok h
      obtain ⟨M10, eM10, h⟩ := bd_ok h
      refine as_V (n := 76) rfl ok hG  g9 d_m_reports_75 ?_
      refine r_mem (Option.some.inj eM10) ?_
      refine r_aload_n (n := 77) rfl ok d_m_reports_76 rfl 2 rfl ?_
      refine g_MOD_v (n := 80) rfl ok hG  k_986 d_m_reports_77 ?_
      refine r_iload (n := 82) rfl ok d_m_reports_80 1 rfl ?_
      refine r_iconst (v := 4) (n := 83) rfl ok d_m_reports_82 (by decide) ?_
      refine r_iadd (n := 84) rfl ok d_m_reports_83 ?_
      refine r_dup2 (n := 85) rfl ok d_m_reports_84 rfl rfl ?_
      obtain ⟨g11, h⟩ := gd_ok h
      refine al_V (n := 86) rfl ok hG  g11 d_m_reports_85 ?_
      refine r_iconst (v := 1) (n := 87) rfl ok d_m_reports_86 (by decide) ?_
      refine r_iadd (n := 88) rfl ok d_m_reports_87 ?_
      obtain ⟨g12, h⟩ := gd_ok h
      obtain ⟨M13, eM13, h⟩ := bd_ok h
      refine as_V (n := 89) rfl ok hG  g12 d_m_reports_88 ?_
      refine r_mem (Option.some.inj eM13) ?_
      refine r_aload_n (n := 90) rfl ok d_m_reports_89 rfl 2 rfl ?_
      refine g_MOD_v (n := 93) rfl ok hG  k_986 d_m_reports_90 ?_
      refine r_iload (n := 95) rfl ok d_m_reports_93 1 rfl ?_
      refine r_iconst (v := 3) (n := 96) rfl ok d_m_reports_95 (by decide) ?_
      refine r_iadd (n := 97) rfl ok d_m_reports_96 ?_
      refine r_dup2 (n := 98) rfl ok d_m_reports_97 rfl rfl ?_
      obtain ⟨g14, h⟩ := gd_ok h
      refine al_V (n := 99) rfl ok hG  g14 d_m_reports_98 ?_
      refine r_iload (n := 101) rfl ok d_m_reports_99 0 rfl ?_
      refine r_iadd (n := 102) rfl ok d_m_reports_101 ?_
      obtain ⟨g15, h⟩ := gd_ok h
      obtain ⟨M16, eM16, h⟩ := bd_ok h
      refine as_V (n := 103) rfl ok hG  g15 d_m_reports_102 ?_
      refine r_mem (Option.some.inj eM16) ?_
      refine r_aload_n (n := 104) rfl ok d_m_reports_103 rfl 2 rfl ?_
      refine g_MOD_v (n := 107) rfl ok hG  k_986 d_m_reports_104 ?_
      refine r_iload (n := 109) rfl ok d_m_reports_107 1 rfl ?_
      refine r_iconst (v := 5) (n := 110) rfl ok d_m_reports_109 (by decide) ?_
      refine r_iadd (n := 111) rfl ok d_m_reports_110 ?_
      refine r_dup2 (n := 112) rfl ok d_m_reports_111 rfl rfl ?_
      obtain ⟨g17, h⟩ := gd_ok h
      refine al_V (n := 113) rfl ok hG  g17 d_m_reports_112 ?_
      refine r_iload (n := 115) rfl ok d_m_reports_113 0 rfl ?_
      refine r_iadd (n := 116) rfl ok d_m_reports_115 ?_
      obtain ⟨g18, h⟩ := gd_ok h
      obtain ⟨M19, eM19, h⟩ := bd_ok h
      refine as_V (n := 117) rfl ok hG  g18 d_m_reports_116 ?_
      refine r_mem (Option.some.inj eM19) ?_
      obtain ⟨x20, ex20, h⟩ := bd_ok h
      refine r_iinc (lv' := [(6, .int x20), (8, .int 0), (7, .int r6), (0, .ref (G.1 + 0)), (1, .int y1), (2, .int y2), (3, .int y3), (4, .int y4), (5, .int y5)]) (n := 120) rfl ok d_m_reports_117 8 rfl (Option.some.inj ex20) (lt_n hXn (Nat.le_of_ble_eq_true rfl)) rfl ?_
      refine r_goto (tgt := 24) ok d_m_reports_120 (by decide) ?_
      obtain rfl := Option.some.inj h
      exact r_sub [3, 4, 5, 6, 7, 8, 0] rfl (show Wt X M19 24 [(0, .ref (G.1 + 0)), (1, .int y1), (2, .int y2), (3, .int y3), (4, .int y4), (5, .int y5), (6, .int x20)] [] from hk _ rfl)
    · replace h := if_n c7 h
      refine r_iload (n := 50) rfl ok d_m_reports_48 7 rfl ?_
      refine r_iload_n (n := 51) rfl ok d_m_reports_50 rfl 3 rfl ?_
      refine r_iconst (v := 1) (n := 52) rfl ok d_m_reports_51 (by decide) ?_
      refine r_isub (n := 53) rfl ok d_m_reports_52 ?_
      refine r_icmp_ne (tgt := 60) (n := 56) rfl ok d_m_reports_53 (by decide) (fun c21 => ?_) (fun c21 => ?_)
      · replace h := if_n c21 h
        refine r_iconst (v := 0) (n := 61) rfl ok d_m_reports_60 (by decide) ?_
        refine r_istore (lv' := [(8, .int 0), (7, .int r6), (0, .ref (G.1 + 0)), (1, .int y1), (2, .int y2), (3, .int y3), (4, .int y4), (5, .int y5), (6, .int x.1)]) (n := 63) rfl ok d_m_reports_61 (lt_n hXn (Nat.le_of_ble_eq_true rfl)) rfl ?_
        refine r_aload_n (n := 64) rfl ok d_m_reports_63 rfl 2 rfl ?_
        refine g_MOD_v (n := 67) rfl ok hG  k_986 d_m_reports_64 ?_
        refine r_iload (n := 69) rfl ok d_m_reports_67 1 rfl ?_
        refine r_iconst (v := 2) (n := 70) rfl ok d_m_reports_69 (by decide) ?_
        refine r_iadd (n := 71) rfl ok d_m_reports_70 ?_
        refine r_dup2 (n := 72) rfl ok d_m_reports_71 rfl rfl ?_
        obtain ⟨g22, h⟩ := gd_ok h
        refine al_V (n := 73) rfl ok hG  g22 d_m_reports_72 ?_
        refine r_iconst (v := 1) (n := 74) rfl ok d_m_reports_73 (by decide) ?_
        refine r_iadd (n := 75) rfl ok d_m_reports_74 ?_
        obtain ⟨g23, h⟩ := gd_ok h
        obtain ⟨M24, eM24, h⟩ := bd_ok h
        refine as_V (n := 76) rfl ok hG  g23 d_m_reports_75 ?_
        refine r_mem (Option.some.inj eM24) ?_
        refine r_aload_n (n := 77) rfl ok d_m_reports_76 rfl 2 rfl ?_
        refine g_MOD_v (n := 80) rfl ok hG  k_986 d_m_reports_77 ?_
        refine r_iload (n := 82) rfl ok d_m_reports_80 1 rfl ?_
        refine r_iconst (v := 4) (n := 83) rfl ok d_m_reports_82 (by decide) ?_
        refine r_iadd (n := 84) rfl ok d_m_reports_83 ?_
        refine r_dup2 (n := 85) rfl ok d_m_reports_84 rfl rfl ?_
        obtain ⟨g25, h⟩ := gd_ok h
        refine al_V (n := 86) rfl ok hG  g25 d_m_reports_85 ?_
        refine r_iconst (v := 1) (n := 87) rfl ok d_m_reports_86 (by decide) ?_
        refine r_iadd (n := 88) rfl ok d_m_reports_87 ?_
        obtain ⟨g26, h⟩ := gd_ok h
        obtain ⟨M27, eM27, h⟩ := bd_ok h
        refine as_V (n := 89) rfl ok hG  g26 d_m_reports_88 ?_
        refine r_mem (Option.some.inj eM27) ?_
        refine r_aload_n (n := 90) rfl ok d_m_reports_89 rfl 2 rfl ?_
        refine g_MOD_v (n := 93) rfl ok hG  k_986 d_m_reports_90 ?_
        refine r_iload (n := 95) rfl ok d_m_reports_93 1 rfl ?_
        refine r_iconst (v := 3) (n := 96) rfl ok d_m_reports_95 (by decide) ?_
        refine r_iadd (n := 97) rfl ok d_m_reports_96 ?_
        refine r_dup2 (n := 98) rfl ok d_m_reports_97 rfl rfl ?_
        obtain ⟨g28, h⟩ := gd_ok h
        refine al_V (n := 99) rfl ok hG  g28 d_m_reports_98 ?_
        refine r_iload (n := 101) rfl ok d_m_reports_99 0 rfl ?_
        refine r_iadd (n := 102) rfl ok d_m_reports_101 ?_
        obtain ⟨g29, h⟩ := gd_ok h
        obtain ⟨M30, eM30, h⟩ := bd_ok h
        refine as_V (n := 103) rfl ok hG  g29 d_m_reports_102 ?_
        refine r_mem (Option.some.inj eM30) ?_
        refine r_aload_n (n := 104) rfl ok d_m_reports_103 rfl 2 rfl ?_
        refine g_MOD_v (n := 107) rfl ok hG  k_986 d_m_reports_104 ?_
        refine r_iload (n := 109) rfl ok d_m_reports_107 1 rfl ?_
        refine r_iconst (v := 5) (n := 110) rfl ok d_m_reports_109 (by decide) ?_
        refine r_iadd (n := 111) rfl ok d_m_reports_110 ?_
        refine r_dup2 (n := 112) rfl ok d_m_reports_111 rfl rfl ?_
        obtain ⟨g31, h⟩ := gd_ok h
        refine al_V (n := 113) rfl ok hG  g31 d_m_reports_112 ?_
        refine r_iload (n := 115) rfl ok d_m_reports_113 0 rfl ?_
        refine r_iadd (n := 116) rfl ok d_m_reports_115 ?_
        obtain ⟨g32, h⟩ := gd_ok h
        obtain ⟨M33, eM33, h⟩ := bd_ok h
        refine as_V (n := 117) rfl ok hG  g32 d_m_reports_116 ?_
        refine r_mem (Option.some.inj eM33) ?_
        obtain ⟨x34, ex34, h⟩ := bd_ok h
        refine r_iinc (lv' := [(6, .int x34), (8, .int 0), (7, .int r6), (0, .ref (G.1 + 0)), (1, .int y1), (2, .int y2), (3, .int y3), (4, .int y4), (5, .int y5)]) (n := 120) rfl ok d_m_reports_117 8 rfl (Option.some.inj ex34) (lt_n hXn (Nat.le_of_ble_eq_true rfl)) rfl ?_
        refine r_goto (tgt := 24) ok d_m_reports_120 (by decide) ?_
        obtain rfl := Option.some.inj h
        exact r_sub [3, 4, 5, 6, 7, 8, 0] rfl (show Wt X M33 24 [(0, .ref (G.1 + 0)), (1, .int y1), (2, .int y2), (3, .int y3), (4, .int y4), (5, .int y5), (6, .int x34)] [] from hk _ rfl)
      · replace h := if_p c21 h
        refine r_iconst (v := 1) (n := 57) rfl ok d_m_reports_56 (by decide) ?_
        refine r_goto (tgt := 61) ok d_m_reports_57 (by decide) ?_
        refine r_istore (lv' := [(8, .int 1), (7, .int r6), (0, .ref (G.1 + 0)), (1, .int y1), (2, .int y2), (3, .int y3), (4, .int y4), (5, .int y5), (6, .int x.1)]) (n := 63) rfl ok d_m_reports_61 (lt_n hXn (Nat.le_of_ble_eq_true rfl)) rfl ?_
        refine r_aload_n (n := 64) rfl ok d_m_reports_63 rfl 2 rfl ?_
        refine g_MOD_v (n := 67) rfl ok hG  k_986 d_m_reports_64 ?_
        refine r_iload (n := 69) rfl ok d_m_reports_67 1 rfl ?_
        refine r_iconst (v := 2) (n := 70) rfl ok d_m_reports_69 (by decide) ?_
        refine r_iadd (n := 71) rfl ok d_m_reports_70 ?_
        refine r_dup2 (n := 72) rfl ok d_m_reports_71 rfl rfl ?_
        obtain ⟨g35, h⟩ := gd_ok h
        refine al_V (n := 73) rfl ok hG  g35 d_m_reports_72 ?_
        refine r_iconst (v := 1) (n := 74) rfl ok d_m_reports_73 (by decide) ?_
        refine r_iadd (n := 75) rfl ok d_m_reports_74 ?_
        obtain ⟨g36, h⟩ := gd_ok h
        obtain ⟨M37, eM37, h⟩ := bd_ok h
        refine as_V (n := 76) rfl ok hG  g36 d_m_reports_75 ?_
        refine r_mem (Option.some.inj eM37) ?_
        refine r_aload_n (n := 77) rfl ok d_m_reports_76 rfl 2 rfl ?_
        refine g_MOD_v (n := 80) rfl ok hG  k_986 d_m_reports_77 ?_
        refine r_iload (n := 82) rfl ok d_m_reports_80 1 rfl ?_
        refine r_iconst (v := 4) (n := 83) rfl ok d_m_reports_82 (by decide) ?_
        refine r_iadd (n := 84) rfl ok d_m_reports_83 ?_
        refine r_dup2 (n := 85) rfl ok d_m_reports_84 rfl rfl ?_
        obtain ⟨g38, h⟩ := gd_ok h
        refine al_V (n := 86) rfl ok hG  g38 d_m_reports_85 ?_
        refine r_iconst (v := 1) (n := 87) rfl ok d_m_reports_86 (by decide) ?_
        refine r_iadd (n := 88) rfl ok d_m_reports_87 ?_
        obtain ⟨g39, h⟩ := gd_ok h
        obtain ⟨M40, eM40, h⟩ := bd_ok h
        refine as_V (n := 89) rfl ok hG  g39 d_m_reports_88 ?_
        refine r_mem (Option.some.inj eM40) ?_
        refine r_aload_n (n := 90) rfl ok d_m_reports_89 rfl 2 rfl ?_
        refine g_MOD_v (n := 93) rfl ok hG  k_986 d_m_reports_90 ?_
        refine r_iload (n := 95) rfl ok d_m_reports_93 1 rfl ?_
        refine r_iconst (v := 3) (n := 96) rfl ok d_m_reports_95 (by decide) ?_
        refine r_iadd (n := 97) rfl ok d_m_reports_96 ?_
        refine r_dup2 (n := 98) rfl ok d_m_reports_97 rfl rfl ?_
        obtain ⟨g41, h⟩ := gd_ok h
        refine al_V (n := 99) rfl ok hG  g41 d_m_reports_98 ?_
        refine r_iload (n := 101) rfl ok d_m_reports_99 0 rfl ?_
        refine r_iadd (n := 102) rfl ok d_m_reports_101 ?_
        obtain ⟨g42, h⟩ := gd_ok h
        obtain ⟨M43, eM43, h⟩ := bd_ok h
        refine as_V (n := 103) rfl ok hG  g42 d_m_reports_102 ?_
        refine r_mem (Option.some.inj eM43) ?_
        refine r_aload_n (n := 104) rfl ok d_m_reports_103 rfl 2 rfl ?_
        refine g_MOD_v (n := 107) rfl ok hG  k_986 d_m_reports_104 ?_
        refine r_iload (n := 109) rfl ok d_m_reports_107 1 rfl ?_
        refine r_iconst (v := 5) (n := 110) rfl ok d_m_reports_109 (by decide) ?_
        refine r_iadd (n := 111) rfl ok d_m_reports_110 ?_
        refine r_dup2 (n := 112) rfl ok d_m_reports_111 rfl rfl ?_
        obtain ⟨g44, h⟩ := gd_ok h
        refine al_V (n := 113) rfl ok hG  g44 d_m_reports_112 ?_
        refine r_iload (n := 115) rfl ok d_m_reports_113 0 rfl ?_
        refine r_iadd (n := 116) rfl ok d_m_reports_115 ?_
        obtain ⟨g45, h⟩ := gd_ok h
        obtain ⟨M46, eM46, h⟩ := bd_ok h
        refine as_V (n := 117) rfl ok hG  g45 d_m_reports_116 ?_
        refine r_mem (Option.some.inj eM46) ?_
        obtain ⟨x47, ex47, h⟩ := bd_ok h
        refine r_iinc (lv' := [(6, .int x47), (8, .int 1), (7, .int r6), (0, .ref (G.1 + 0)), (1, .int y1), (2, .int y2), (3, .int y3), (4, .int y4), (5, .int y5)]) (n := 120) rfl ok d_m_reports_117 8 rfl (Option.some.inj ex47) (lt_n hXn (Nat.le_of_ble_eq_true rfl)) rfl ?_
        refine r_goto (tgt := 24) ok d_m_reports_120 (by decide) ?_
        obtain rfl := Option.some.inj h
        exact r_sub [3, 4, 5, 6, 7, 8, 0] rfl (show Wt X M46 24 [(0, .ref (G.1 + 0)), (1, .int y1), (2, .int y2), (3, .int y3), (4, .int y4), (5, .int y5), (6, .int x47)] [] from hk _ rfl)
set_option maxHeartbeats 4000000 in
set_option maxRecDepth 20000 in
theorem C_m_reports {l : Launch} {G : Gt} {M : Me} {a1 : Int32} {a2 : Int32} {a3 : Int32}  {o : Int32 × Me} (h : f_m_reports M a1 a2 a3 = some o) : Ct l G (WM G) (rM G) y_m_reports b_m_reports 9 (some .int) rm_m_reports [.ref (G.1 + 0), .int a1, .int a2, .int a3] M (some (.int o.1)) o.2 := by
  refine Ct.mk (own := "RetryChainsModel") rfl (by decide) (Nat.le_of_ble_eq_true rfl) ⟨_, rfl⟩ (fun X hXl hXR hXn ok hG fin => ?_)
  subst hXl
  unfold f_m_reports at h
  show Wt X M 0 [(0, .ref (G.1 + 0)), (1, .int a1), (2, .int a2), (3, .int a3)] []
  refine r_aload_n (n := 1) rfl ok d_m_reports_0 rfl 0 rfl ?_
  refine g_MOD_v (n := 4) rfl ok hG  k_986 d_m_reports_1 ?_
  refine r_iload_n (n := 5) rfl ok d_m_reports_4 rfl 1 rfl ?_
  obtain ⟨r1, hr1, h⟩ := bd_ok h
  refine r_callS (n := 8) rfl ok hG mf_m_open k_1136 k_1135 (C_m_open  hr1) ⟨rfl, rfl⟩ (rR hXR ⟨Nat.le_of_ble_eq_true rfl, Nat.le_of_ble_eq_true rfl⟩) rfl rfl (Nat.le_of_ble_eq_true rfl) d_m_reports_5 ?_
  refine r_iconst (v := 1) (n := 9) rfl ok d_m_reports_8 (by decide) ?_
  refine r_iadd (n := 10) rfl ok d_m_reports_9 ?_
  obtain ⟨g2, h⟩ := gd_ok h
  refine al_V (n := 11) rfl ok hG  g2 d_m_reports_10 ?_
  refine r_istore (lv' := [(4, .int (M.1 100 0 0 (tN (r1 + (1 : Int32))))), (0, .ref (G.1 + 0)), (1, .int a1), (2, .int a2), (3, .int a3)]) (n := 13) rfl ok d_m_reports_11 (lt_n hXn (Nat.le_of_ble_eq_true rfl)) rfl ?_
  refine r_aload_n (n := 14) rfl ok d_m_reports_13 rfl 1 rfl ?_
  refine r_iload_n (n := 15) rfl ok d_m_reports_14 rfl 2 rfl ?_
  refine r_iload_n (n := 16) rfl ok d_m_reports_15 rfl 3 rfl ?_
  obtain ⟨r3, hr3, h⟩ := bd_ok h
  refine r_callV (n := 19) rfl ok hG mf_m_timeOfTries k_1224 ks_51 k_1222 (C_m_timeOfTries  hr3) ⟨rfl, rfl⟩ (rR hXR ⟨Nat.le_of_ble_eq_true rfl, Nat.le_of_ble_eq_true rfl⟩) rfl rfl (rv_MOD) rfl (Nat.le_of_ble_eq_true rfl) d_m_reports_16 ?_
  refine r_istore (lv' := [(5, .int r3), (4, .int (M.1 100 0 0 (tN (r1 + (1 : Int32))))), (0, .ref (G.1 + 0)), (1, .int a1), (2, .int a2), (3, .int a3)]) (n := 21) rfl ok d_m_reports_19 (lt_n hXn (Nat.le_of_ble_eq_true rfl)) rfl ?_
  refine r_iconst (v := 0) (n := 22) rfl ok d_m_reports_21 (by decide) ?_
  refine r_istore (lv' := [(6, .int 0), (5, .int r3), (4, .int (M.1 100 0 0 (tN (r1 + (1 : Int32))))), (0, .ref (G.1 + 0)), (1, .int a1), (2, .int a2), (3, .int a3)]) (n := 24) rfl ok d_m_reports_22 (lt_n hXn (Nat.le_of_ble_eq_true rfl)) rfl ?_
  obtain ⟨t48, ht48, h⟩ := bd_ok h
  refine r_sub [3, 4, 5, 6, 2, 1, 0] rfl (show Wt X M 24 [(0, .ref (G.1 + 0)), (1, .int a1), (2, .int a2), (3, .int a3), (4, .int (M.1 100 0 0 (tN (r1 + (1 : Int32))))), (5, .int r3), (6, .int 0)] [] from w_m_reports_24 ok hG hXR hXn  ?_ _ _ ht48)
  · intro e49 he
    subst he
    refine r_aload_n (n := 124) rfl ok d_m_reports_123 rfl 0 rfl ?_
    refine g_MOD_v (n := 127) rfl ok hG  k_986 d_m_reports_124 ?_
    refine r_iload_n (n := 128) rfl ok d_m_reports_127 rfl 1 rfl ?_
    obtain ⟨r50, hr50, h⟩ := bd_ok h
    refine r_callS (n := 131) rfl ok hG mf_m_open k_1136 k_1135 (C_m_open  hr50) ⟨rfl, rfl⟩ (rR hXR ⟨Nat.le_of_ble_eq_true rfl, Nat.le_of_ble_eq_true rfl⟩) rfl rfl (Nat.le_of_ble_eq_true rfl) d_m_reports_128 ?_
    refine r_iconst (v := 0) (n := 132) rfl ok d_m_reports_131 (by decide) ?_
    refine r_iadd (n := 133) rfl ok d_m_reports_132 ?_
    refine r_iconst (v := 0) (n := 134) rfl ok d_m_reports_133 (by decide) ?_
    obtain ⟨g51, h⟩ := gd_ok h
    obtain ⟨M52, eM52, h⟩ := bd_ok h
    refine as_V (n := 135) rfl ok hG  g51 d_m_reports_134 ?_
    refine r_mem (Option.some.inj eM52) ?_
    refine r_aload_n (n := 136) rfl ok d_m_reports_135 rfl 0 rfl ?_
    refine g_MOD_v (n := 139) rfl ok hG  k_986 d_m_reports_136 ?_
    refine r_iconst (v := 0) (n := 140) rfl ok d_m_reports_139 (by decide) ?_
    refine r_dup2 (n := 141) rfl ok d_m_reports_140 rfl rfl ?_
    refine al_V (n := 142) rfl ok hG  (show gin 0 600 by decide) d_m_reports_141 ?_
    refine r_iload (n := 144) rfl ok d_m_reports_142 4 rfl ?_
    refine r_iadd (n := 145) rfl ok d_m_reports_144 ?_
    obtain ⟨M53, eM53, h⟩ := bd_ok h
    refine as_V (n := 146) rfl ok hG  (show gin 0 600 by decide) d_m_reports_145 ?_
    refine r_mem (Option.some.inj eM53) ?_
    refine r_aload_n (n := 147) rfl ok d_m_reports_146 rfl 0 rfl ?_
    refine g_MOD_v (n := 150) rfl ok hG  k_986 d_m_reports_147 ?_
    refine r_iload (n := 152) rfl ok d_m_reports_150 3 rfl ?_
    obtain ⟨r54, hr54, h⟩ := bd_ok h
    refine r_callS (n := 155) rfl ok hG mf_m_side k_1034 k_1033 (C_m_side  hr54) ⟨rfl, rfl⟩ (rR hXR ⟨Nat.le_of_ble_eq_true rfl, Nat.le_of_ble_eq_true rfl⟩) rfl rfl (Nat.le_of_ble_eq_true rfl) d_m_reports_152 ?_
    refine r_bipush (v := 15) (n := 157) rfl ok d_m_reports_155 (by decide) ?_
    refine r_iadd (n := 158) rfl ok d_m_reports_157 ?_
    obtain ⟨g55, h⟩ := gd_ok h
    refine al_V (n := 159) rfl ok hG  g55 d_m_reports_158 ?_
    refine r_iload (n := 161) rfl ok d_m_reports_159 4 rfl ?_
    refine r_isub (n := 162) rfl ok d_m_reports_161 ?_
    obtain ⟨x56, ex56, h⟩ := bd_ok h
    refine r_ti (Option.some.inj ex56).symm ?_
    refine r_istore (lv' := [(6, .int x56), (0, .ref (G.1 + 0)), (1, .int a1), (3, .int a3), (4, .int (M.1 100 0 0 (tN (r1 + (1 : Int32))))), (5, .int r3)]) (n := 164) rfl ok d_m_reports_162 (lt_n hXn (Nat.le_of_ble_eq_true rfl)) rfl ?_
    refine r_aload_n (n := 165) rfl ok d_m_reports_164 rfl 1 rfl ?_
    refine g_MOD_v (n := 168) rfl ok hG  k_986 d_m_reports_165 ?_
    refine r_iload (n := 170) rfl ok d_m_reports_168 4 rfl ?_
    obtain ⟨r57, hr57, h⟩ := bd_ok h
    refine r_callS (n := 173) rfl ok hG mf_m_side k_1034 k_1033 (C_m_side  hr57) ⟨rfl, rfl⟩ (rR hXR ⟨Nat.le_of_ble_eq_true rfl, Nat.le_of_ble_eq_true rfl⟩) rfl rfl (Nat.le_of_ble_eq_true rfl) d_m_reports_170 ?_
    refine r_bipush (v := 15) (n := 175) rfl ok d_m_reports_173 (by decide) ?_
    refine r_iadd (n := 176) rfl ok d_m_reports_175 ?_
    refine r_iload (n := 178) rfl ok d_m_reports_176 0 rfl ?_
    refine r_ldc (n := 180) rfl ok d_m_reports_178 k_1246 ?_
    refine r_icmp_ge (tgt := 188) (n := 183) rfl ok d_m_reports_180 (by decide) (fun c58 => ?_) (fun c58 => ?_)
    · replace h := if_p c58 h
      refine r_iload (n := 190) rfl ok d_m_reports_188 0 rfl ?_
      obtain ⟨g59, h⟩ := gd_ok h
      obtain ⟨M60, eM60, h⟩ := bd_ok h
      refine as_V (n := 191) rfl ok hG  g59 d_m_reports_190 ?_
      refine r_mem (Option.some.inj eM60) ?_
      refine r_aload_n (n := 192) rfl ok d_m_reports_191 rfl 1 rfl ?_
      refine r_iload (n := 194) rfl ok d_m_reports_192 4 rfl ?_
      refine r_iload_n (n := 195) rfl ok d_m_reports_194 rfl 3 rfl ?_
      obtain ⟨r61, hr61, h⟩ := bd_ok h
      refine r_callV (n := 198) rfl ok hG mf_m_ends k_1249 ks_57 k_1247 (C_m_ends  hr61) ⟨rfl, rfl⟩ (rR hXR ⟨Nat.le_of_ble_eq_true rfl, Nat.le_of_ble_eq_true rfl⟩) rfl rfl (rv_MOD) rfl (Nat.le_of_ble_eq_true rfl) d_m_reports_195 ?_
      refine r_aload_n (n := 199) rfl ok d_m_reports_198 rfl 1 rfl ?_
      obtain ⟨r62, hr62, h⟩ := bd_ok h
      refine r_callV (n := 202) rfl ok hG mf_m_updatesDue k_1257 ks_59 k_1255 (C_m_updatesDue  hr62) ⟨rfl, rfl⟩ (rR hXR ⟨Nat.le_of_ble_eq_true rfl, Nat.le_of_ble_eq_true rfl⟩) rfl rfl (rv_MOD) rfl (Nat.le_of_ble_eq_true rfl) d_m_reports_199 ?_
      refine r_iload (n := 204) rfl ok d_m_reports_202 5 rfl ?_
      obtain rfl := Option.some.inj h
      exact fin _ _ ⟨.int, rfl, rfl⟩ d_m_reports_204
    · replace h := if_n c58 h
      refine r_ldc (n := 185) rfl ok d_m_reports_183 k_1246 ?_
      refine r_goto (tgt := 190) ok d_m_reports_185 (by decide) ?_
      obtain ⟨g63, h⟩ := gd_ok h
      obtain ⟨M64, eM64, h⟩ := bd_ok h
      refine as_V (n := 191) rfl ok hG  g63 d_m_reports_190 ?_
      refine r_mem (Option.some.inj eM64) ?_
      refine r_aload_n (n := 192) rfl ok d_m_reports_191 rfl 1 rfl ?_
      refine r_iload (n := 194) rfl ok d_m_reports_192 4 rfl ?_
      refine r_iload_n (n := 195) rfl ok d_m_reports_194 rfl 3 rfl ?_
      obtain ⟨r65, hr65, h⟩ := bd_ok h
      refine r_callV (n := 198) rfl ok hG mf_m_ends k_1249 ks_57 k_1247 (C_m_ends  hr65) ⟨rfl, rfl⟩ (rR hXR ⟨Nat.le_of_ble_eq_true rfl, Nat.le_of_ble_eq_true rfl⟩) rfl rfl (rv_MOD) rfl (Nat.le_of_ble_eq_true rfl) d_m_reports_195 ?_
      refine r_aload_n (n := 199) rfl ok d_m_reports_198 rfl 1 rfl ?_
      obtain ⟨r66, hr66, h⟩ := bd_ok h
      refine r_callV (n := 202) rfl ok hG mf_m_updatesDue k_1257 ks_59 k_1255 (C_m_updatesDue  hr66) ⟨rfl, rfl⟩ (rR hXR ⟨Nat.le_of_ble_eq_true rfl, Nat.le_of_ble_eq_true rfl⟩) rfl rfl (rv_MOD) rfl (Nat.le_of_ble_eq_true rfl) d_m_reports_199 ?_
      refine r_iload (n := 204) rfl ok d_m_reports_202 5 rfl ?_
      obtain rfl := Option.some.inj h
      exact fin _ _ ⟨.int, rfl, rfl⟩ d_m_reports_204
