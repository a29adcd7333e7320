set_option maxHeartbeats 4000000 in
set_option maxRecDepth 20000 in
theorem w_rc_digest_24 {X : Cx Me} {G : Gt} (ok : Ok X b_rc_digest "RetryChains") (hG : GC X G) (hXR : X.R = rm_rc_digest) (hXn : X.nL = 4) {M : Me}  {t : Int64} (kx : ∀ e : Int64, e = t → Wt X M 48 [(0, .ref (G.1 + oRC)), (1, .long e)] [])  : ∀ (n : Nat) (x : Int64 × Int32), lp n (b_rc_digest_24 M) x = some t → Wt X M 24 [(0, .ref (G.1 + oRC)), (1, .long x.1), (3, .int x.2)] [] := by
  intro n x h
  refine lp_W (P := fun x => Wt X M 24 [(0, .ref (G.1 + oRC)), (1, .long x.1), (3, .int x.2)] []) (Z := fun t' => t' = t) (fun x r h hk hz => ?_) n x t h rfl
  unfold b_rc_digest_24 at h
  refine r_iload_n (n := 25) rfl ok d_rc_digest_24 rfl 2 rfl ?_
  refine r_aload_n (n := 26) rfl ok d_rc_digest_25 rfl 0 rfl ?_
  refine g_RC_now (n := 29) rfl ok hG  k_349 d_rc_digest_26 ?_
  refine g_NET_stationCount (n := 32) rfl ok hG (by decide) k_247 d_rc_digest_29 ?_
  refine r_icmp_ge (tgt := 48) (n := 35) rfl ok d_rc_digest_32 (by decide) (fun c5 => ?_) (fun c5 => ?_)
  · replace h := if_p c5 h
    obtain rfl := Option.some.inj h
    exact r_sub [0, 1] rfl (show Wt X M 48 [(0, .ref (G.1 + oRC)), (1, .long x.1)] [] from kx _ (hz _ rfl))
  · replace h := if_n c5 h
    refine r_aload_n (n := 36) rfl ok d_rc_digest_35 rfl 0 rfl ?_
    refine r_lload_n (n := 37) rfl ok d_rc_digest_36 rfl 1 rfl ?_
    refine r_iload_n (n := 38) rfl ok d_rc_digest_37 rfl 2 rfl ?_
    obtain ⟨r6, hr6, h⟩ := bd_ok h
    refine r_callV (n := 41) rfl ok hG mf_rc_digestOfStation k_965 ks_14 k_963 (C_rc_digestOfStation  hr6) ⟨rfl, rfl⟩ (rR hXR ⟨Nat.le_of_ble_eq_true rfl, Nat.le_of_ble_eq_true rfl⟩) rfl rfl (rv_RC) rfl (Nat.le_of_ble_eq_true rfl) d_rc_digest_38 ?_
    refine r_lstore_n (lv' := [(1, .long r6), (0, .ref (G.1 + oRC)), (3, .int x.2)]) (n := 42) rfl ok d_rc_digest_41 rfl (lt_n hXn (Nat.le_of_ble_eq_true rfl)) rfl ?_
    obtain ⟨x7, ex7, h⟩ := bd_ok h
    refine r_iinc (lv' := [(3, .int x7), (1, .long r6), (0, .ref (G.1 + oRC))]) (n := 45) rfl ok d_rc_digest_42 2 rfl (Option.some.inj ex7) (lt_n hXn (Nat.le_of_ble_eq_true rfl)) rfl ?_
    refine r_goto (tgt := 24) ok d_rc_digest_45 (by decide) ?_
    obtain rfl := Option.some.inj h
    exact r_sub [2, 1, 0] rfl (show Wt X M 24 [(0, .ref (G.1 + oRC)), (1, .long r6), (3, .int x7)] [] from hk _ rfl)
set_option maxHeartbeats 4000000 in
set_option maxRecDepth 20000 in
theorem w_rc_digest_50 {X : Cx Me} {G : Gt} (ok : Ok X b_rc_digest "RetryChains") (hG : GC X G) (hXR : X.R = rm_rc_digest) (hXn : X.nL = 4) {M : Me}  {t : Int64} (kx : ∀ e : Int64, e = t → Wt X M 75 [(1, .long e)] [])  : ∀ (n : Nat) (x : Int64 × Int32), lp n (b_rc_digest_50 M) x = some t → Wt X M 50 [(0, .ref (G.1 + oRC)), (1, .long x.1), (3, .int x.2)] [] := by
  intro n x h
  refine lp_W (P := fun x => Wt X M 50 [(0, .ref (G.1 + oRC)), (1, .long x.1), (3, .int x.2)] []) (Z := fun t' => t' = t) (fun x r h hk hz => ?_) n x t h rfl
  unfold b_rc_digest_50 at h
  refine r_iload_n (n := 51) rfl ok d_rc_digest_50 rfl 2 rfl ?_
  refine r_bipush (v := 6) (n := 53) rfl ok d_rc_digest_51 (by decide) ?_
  refine r_icmp_ge (tgt := 75) (n := 56) rfl ok d_rc_digest_53 (by decide) (fun c10 => ?_) (fun c10 => ?_)
  · replace h := if_p c10 h
    obtain rfl := Option.some.inj h
    exact r_sub [1] rfl (show Wt X M 75 [(1, .long x.1)] [] from kx _ (hz _ rfl))
  · replace h := if_n c10 h
    refine r_ldc2 (n := 59) rfl ok d_rc_digest_56 k_961 ?_
    refine r_lload_n (n := 60) rfl ok d_rc_digest_59 rfl 1 rfl ?_
    refine r_lmul (n := 61) rfl ok d_rc_digest_60 ?_
    refine r_aload_n (n := 62) rfl ok d_rc_digest_61 rfl 0 rfl ?_
    refine r_iload_n (n := 63) rfl ok d_rc_digest_62 rfl 2 rfl ?_
    obtain ⟨r11, hr11, h⟩ := bd_ok h
    refine r_callV (n := 66) rfl ok hG mf_rc_kind k_698 k_699 k_978 (C_rc_kind  hr11) ⟨rfl, rfl⟩ (rR hXR ⟨Nat.le_of_ble_eq_true rfl, Nat.le_of_ble_eq_true rfl⟩) rfl rfl (rv_RC) rfl (Nat.le_of_ble_eq_true rfl) d_rc_digest_63 ?_
    refine r_i2l (n := 67) rfl ok d_rc_digest_66 ?_
    refine r_ladd (n := 68) rfl ok d_rc_digest_67 ?_
    obtain ⟨x12, ex12, h⟩ := bd_ok h
    refine r_tl (Option.some.inj ex12).symm ?_
    refine r_lstore_n (lv' := [(1, .long x12), (0, .ref (G.1 + oRC)), (3, .int x.2)]) (n := 69) rfl ok d_rc_digest_68 rfl (lt_n hXn (Nat.le_of_ble_eq_true rfl)) rfl ?_
    obtain ⟨x13, ex13, h⟩ := bd_ok h
    refine r_iinc (lv' := [(3, .int x13), (1, .long x12), (0, .ref (G.1 + oRC))]) (n := 72) rfl ok d_rc_digest_69 2 rfl (Option.some.inj ex13) (lt_n hXn (Nat.le_of_ble_eq_true rfl)) rfl ?_
    refine r_goto (tgt := 50) ok d_rc_digest_72 (by decide) ?_
    obtain rfl := Option.some.inj h
    exact r_sub [2, 1, 0] rfl (show Wt X M 50 [(0, .ref (G.1 + oRC)), (1, .long x12), (3, .int x13)] [] from hk _ rfl)
set_option maxHeartbeats 4000000 in
set_option maxRecDepth 20000 in
theorem C_rc_digest {l : Launch} {G : Gt} {M : Me}   {o : Int64} (h : f_rc_digest M = some o) : Ct l G (WC G) (rC G) y_rc_digest b_rc_digest 4 (some .long) rm_rc_digest [.ref (G.1 + oRC)] M (some (.long o)) M := by
  refine Ct.mk (own := "RetryChains") rfl (by decide) (Nat.le_of_ble_eq_true rfl) rfl (fun X hXl hXR hXn ok hG fin => ?_)
  subst hXl
  unfold f_rc_digest at h
  show Wt X M 0 [(0, .ref (G.1 + oRC))] []
  refine r_ldc2 (n := 3) rfl ok d_rc_digest_0 k_959 ?_
  refine r_aload_n (n := 4) rfl ok d_rc_digest_3 rfl 0 rfl ?_
  obtain ⟨r1, hr1, h⟩ := bd_ok h
  refine r_callV (n := 7) rfl ok hG mf_rc_time k_870 k_871 k_960 (C_rc_time  hr1) ⟨rfl, rfl⟩ (rR hXR ⟨Nat.le_of_ble_eq_true rfl, Nat.le_of_ble_eq_true rfl⟩) rfl rfl (rv_RC) rfl (Nat.le_of_ble_eq_true rfl) d_rc_digest_4 ?_
  refine r_i2l (n := 8) rfl ok d_rc_digest_7 ?_
  refine r_ladd (n := 9) rfl ok d_rc_digest_8 ?_
  obtain ⟨x2, ex2, h⟩ := bd_ok h
  refine r_tl (Option.some.inj ex2).symm ?_
  refine r_lstore_n (lv' := [(1, .long x2), (0, .ref (G.1 + oRC))]) (n := 10) rfl ok d_rc_digest_9 rfl (lt_n hXn (Nat.le_of_ble_eq_true rfl)) rfl ?_
  refine r_ldc2 (n := 13) rfl ok d_rc_digest_10 k_961 ?_
  refine r_lload_n (n := 14) rfl ok d_rc_digest_13 rfl 0 rfl ?_
  refine r_lmul (n := 15) rfl ok d_rc_digest_14 ?_
  refine r_aload_n (n := 16) rfl ok d_rc_digest_15 rfl 1 rfl ?_
  obtain ⟨r3, hr3, h⟩ := bd_ok h
  refine r_callV (n := 19) rfl ok hG mf_rc_events k_914 k_915 k_962 (C_rc_events  hr3) ⟨rfl, rfl⟩ (rR hXR ⟨Nat.le_of_ble_eq_true rfl, Nat.le_of_ble_eq_true rfl⟩) rfl rfl (rv_RC) rfl (Nat.le_of_ble_eq_true rfl) d_rc_digest_16 ?_
  refine r_i2l (n := 20) rfl ok d_rc_digest_19 ?_
  refine r_ladd (n := 21) rfl ok d_rc_digest_20 ?_
  obtain ⟨x4, ex4, h⟩ := bd_ok h
  refine r_tl (Option.some.inj ex4).symm ?_
  refine r_lstore_n (lv' := [(1, .long x4), (0, .ref (G.1 + oRC))]) (n := 22) rfl ok d_rc_digest_21 rfl (lt_n hXn (Nat.le_of_ble_eq_true rfl)) rfl ?_
  refine r_iconst (v := 0) (n := 23) rfl ok d_rc_digest_22 (by decide) ?_
  refine r_istore_n (lv' := [(3, .int 0), (1, .long x4), (0, .ref (G.1 + oRC))]) (n := 24) rfl ok d_rc_digest_23 rfl (lt_n hXn (Nat.le_of_ble_eq_true rfl)) rfl ?_
  obtain ⟨t8, ht8, h⟩ := bd_ok h
  refine r_sub [2, 1, 0] rfl (show Wt X M 24 [(0, .ref (G.1 + oRC)), (1, .long x4), (3, .int 0)] [] from w_rc_digest_24 ok hG hXR hXn  ?_ _ _ ht8)
  · intro e9 he
    subst he
    refine r_iconst (v := 0) (n := 49) rfl ok d_rc_digest_48 (by decide) ?_
    refine r_istore_n (lv' := [(3, .int 0), (0, .ref (G.1 + oRC)), (1, .long e9)]) (n := 50) rfl ok d_rc_digest_49 rfl (lt_n hXn (Nat.le_of_ble_eq_true rfl)) rfl ?_
    obtain ⟨t14, ht14, h⟩ := bd_ok h
    refine r_sub [1, 2, 0] rfl (show Wt X M 50 [(0, .ref (G.1 + oRC)), (1, .long e9), (3, .int 0)] [] from w_rc_digest_50 ok hG hXR hXn  ?_ _ _ ht14)
    · intro e15 he
      subst he
      refine r_lload_n (n := 76) rfl ok d_rc_digest_75 rfl 0 rfl ?_
      obtain rfl := Option.some.inj h
      exact fin _ _ d_rc_digest_76
set_option maxHeartbeats 4000000 in
set_option maxRecDepth 20000 in
theorem C_m_in {l : Launch} {G : Gt} {W0 : Me → Heap → Prop} {A : Nat → Prop} {M : Me} {a1 : Int32} {a2 : Int32} {a3 : Int32}  {o : Int32} (h : f_m_in a1 a2 a3 = some o) : Ct l G W0 A y_m_in b_m_in 3 (some .boolean) rm_m_in [.int a1, .int a2, .int a3] M (some (.int o)) M := by
  refine Ct.mk (own := "RetryChainsModel") rfl (by decide) (Nat.le_of_ble_eq_true rfl) ⟨_, rfl⟩ (fun X hXl hXR hXn ok hG fin => ?_)
  subst hXl
  unfold f_m_in at h
  show Wt X M 0 [(0, .int a1), (1, .int a2), (2, .int a3)] []
  refine r_iload_n (n := 1) rfl ok d_m_in_0 rfl 0 rfl ?_
  refine r_iload_n (n := 2) rfl ok d_m_in_1 rfl 1 rfl ?_
  refine r_icmp_lt (tgt := 14) (n := 5) rfl ok d_m_in_2 (by decide) (fun c1 => ?_) (fun c1 => ?_)
  · replace h := if_p c1 h
    refine r_iconst (v := 0) (n := 15) rfl ok d_m_in_14 (by decide) ?_
    obtain rfl := Option.some.inj h
    exact fin _ _ ⟨.boolean, rfl, nz0⟩ d_m_in_15
  · replace h := if_n c1 h
    refine r_iload_n (n := 6) rfl ok d_m_in_5 rfl 0 rfl ?_
    refine r_iload_n (n := 7) rfl ok d_m_in_6 rfl 2 rfl ?_
    refine r_icmp_gt (tgt := 14) (n := 10) rfl ok d_m_in_7 (by decide) (fun c2 => ?_) (fun c2 => ?_)
    · replace h := if_p c2 h
      refine r_iconst (v := 0) (n := 15) rfl ok d_m_in_14 (by decide) ?_
      obtain rfl := Option.some.inj h
      exact fin _ _ ⟨.boolean, rfl, nz0⟩ d_m_in_15
    · replace h := if_n c2 h
      refine r_iconst (v := 1) (n := 11) rfl ok d_m_in_10 (by decide) ?_
      refine r_goto (tgt := 15) ok d_m_in_11 (by decide) ?_
      obtain rfl := Option.some.inj h
      exact fin _ _ ⟨.boolean, rfl, nz1⟩ d_m_in_15
set_option maxHeartbeats 4000000 in
set_option maxRecDepth 20000 in
theorem w_m_act_51 {X : Cx Me} {G : Gt} (ok : Ok X b_m_act "RetryChainsModel") (hG : GM X G) (hXR : X.R = rm_m_act) (hXn : X.nL = 2)   {t : Me} (kx : ∀ e : Me, e = t → Wt X e 85 [(0, .ref (G.1 + 0))] [])  : ∀ (n : Nat) (x : Int32 × Me), lp n b_m_act_51 x = some t → Wt X x.2 51 [(0, .ref (G.1 + 0)), (1, .int x.1)] [] := by
  intro n x h
  refine lp_W (P := fun x => Wt X x.2 51 [(0, .ref (G.1 + 0)), (1, .int x.1)] []) (Z := fun t' => t' = t) (fun x r h hk hz => ?_) n x t h rfl
  unfold b_m_act_51 at h
  refine r_iload_n (n := 52) rfl ok d_m_act_51 rfl 1 rfl ?_
  refine r_sipush (v := 600) (n := 55) rfl ok d_m_act_52 (by decide) ?_
  refine r_icmp_ge (tgt := 85) (n := 58) rfl ok d_m_act_55 (by decide) (fun c2 => ?_) (fun c2 => ?_)
  · replace h := if_p c2 h
    obtain rfl := Option.some.inj h
    exact r_sub [0] rfl (show Wt X x.2 85 [(0, .ref (G.1 + 0))] [] from kx _ (hz _ rfl))
  · replace h := if_n c2 h
    refine r_aload_n (n := 59) rfl ok d_m_act_58 rfl 0 rfl ?_
    refine g_MOD_past (n := 62) rfl ok hG  k_989 d_m_act_59 ?_
    refine r_sipush (v := 600) (n := 65) rfl ok d_m_act_62 (by decide) ?_
    refine r_aload_n (n := 66) rfl ok d_m_act_65 rfl 0 rfl ?_
    refine g_MOD_pastMany (n := 69) rfl ok hG  k_991 d_m_act_66 ?_
    refine r_imul (n := 70) rfl ok d_m_act_69 ?_
    refine r_iload_n (n := 71) rfl ok d_m_act_70 rfl 1 rfl ?_
    refine r_iadd (n := 72) rfl ok d_m_act_71 ?_
    refine r_aload_n (n := 73) rfl ok d_m_act_72 rfl 0 rfl ?_
    refine g_MOD_v (n := 76) rfl ok hG  k_986 d_m_act_73 ?_
    refine r_iload_n (n := 77) rfl ok d_m_act_76 rfl 1 rfl ?_
    obtain ⟨g3, h⟩ := gd_ok h
    refine al_V (n := 78) rfl ok hG  g3 d_m_act_77 ?_
    obtain ⟨g4, h⟩ := gd_ok h
    obtain ⟨M5, eM5, h⟩ := bd_ok h
    refine as_PAST (n := 79) rfl ok hG  g4 d_m_act_78 ?_
    refine r_mem (Option.some.inj eM5) ?_
    obtain ⟨x6, ex6, h⟩ := bd_ok h
    refine r_iinc (lv' := [(1, .int x6), (0, .ref (G.1 + 0))]) (n := 82) rfl ok d_m_act_79 1 rfl (Option.some.inj ex6) (lt_n hXn (Nat.le_of_ble_eq_true rfl)) rfl ?_
    refine r_goto (tgt := 51) ok d_m_act_82 (by decide) ?_
    obtain rfl := Option.some.inj h
    exact r_sub [1, 0] rfl (show Wt X M5 51 [(0, .ref (G.1 + 0)), (1, .int x6)] [] from hk _ rfl)
set_option maxHeartbeats 4000000 in
set_option maxRecDepth 20000 in
theorem w_m_act_10 {X : Cx Me} {G : Gt} (ok : Ok X b_m_act "RetryChainsModel") (hG : GM X G) (hXR : X.R = rm_m_act) (hXn : X.nL = 2)   {t : Me} (kx : ∀ e : Me, e = t → Wt X e 39 [(0, .ref (G.1 + 0))] [])  : ∀ (n : Nat) (x : Int32 × Me), lp n b_m_act_10 x = some t → Wt X x.2 10 [(0, .ref (G.1 + 0)), (1, .int x.1)] [] := by
  intro n x h
  refine lp_W (P := fun x => Wt X x.2 10 [(0, .ref (G.1 + 0)), (1, .int x.1)] []) (Z := fun t' => t' = t) (fun x r h hk hz => ?_) n x t h rfl
  unfold b_m_act_10 at h
  refine r_iload_n (n := 11) rfl ok d_m_act_10 rfl 1 rfl ?_
  refine r_sipush (v := 2400) (n := 14) rfl ok d_m_act_11 (by decide) ?_
  refine r_icmp_ge (tgt := 39) (n := 17) rfl ok d_m_act_14 (by decide) (fun c10 => ?_) (fun c10 => ?_)
  · replace h := if_p c10 h
    obtain rfl := Option.some.inj h
    exact r_sub [0] rfl (show Wt X x.2 39 [(0, .ref (G.1 + 0))] [] from kx _ (hz _ rfl))
  · replace h := if_n c10 h
    refine r_aload_n (n := 18) rfl ok d_m_act_17 rfl 0 rfl ?_
    refine g_MOD_past (n := 21) rfl ok hG  k_989 d_m_act_18 ?_
    refine r_iload_n (n := 22) rfl ok d_m_act_21 rfl 1 rfl ?_
    refine r_aload_n (n := 23) rfl ok d_m_act_22 rfl 0 rfl ?_
    refine g_MOD_past (n := 26) rfl ok hG  k_989 d_m_act_23 ?_
    refine r_iload_n (n := 27) rfl ok d_m_act_26 rfl 1 rfl ?_
    refine r_sipush (v := 600) (n := 30) rfl ok d_m_act_27 (by decide) ?_
    refine r_iadd (n := 31) rfl ok d_m_act_30 ?_
    obtain ⟨g11, h⟩ := gd_ok h
    refine al_PAST (n := 32) rfl ok hG  g11 d_m_act_31 ?_
    obtain ⟨g12, h⟩ := gd_ok h
    obtain ⟨M13, eM13, h⟩ := bd_ok h
    refine as_PAST (n := 33) rfl ok hG  g12 d_m_act_32 ?_
    refine r_mem (Option.some.inj eM13) ?_
    obtain ⟨x14, ex14, h⟩ := bd_ok h
    refine r_iinc (lv' := [(1, .int x14), (0, .ref (G.1 + 0))]) (n := 36) rfl ok d_m_act_33 1 rfl (Option.some.inj ex14) (lt_n hXn (Nat.le_of_ble_eq_true rfl)) rfl ?_
    refine r_goto (tgt := 10) ok d_m_act_36 (by decide) ?_
    obtain rfl := Option.some.inj h
    exact r_sub [1, 0] rfl (show Wt X M13 10 [(0, .ref (G.1 + 0)), (1, .int x14)] [] from hk _ rfl)
set_option maxHeartbeats 4000000 in
set_option maxRecDepth 20000 in
theorem C_m_act {l : Launch} {G : Gt} {M : Me}   {o : Me} (h : f_m_act M = some o) : Ct l G (WM G) (rM G) y_m_act b_m_act 2 none rm_m_act [.ref (G.1 + 0)] M (none) o := by
  refine Ct.mk (own := "RetryChainsModel") rfl (by decide) (Nat.le_of_ble_eq_true rfl) rfl (fun X hXl hXR hXn ok hG fin => ?_)
  subst hXl
  unfold f_m_act at h
  show Wt X M 0 [(0, .ref (G.1 + 0))] []
  refine r_aload_n (n := 1) rfl ok d_m_act_0 rfl 0 rfl ?_
  refine g_MOD_pastMany (n := 4) rfl ok hG  k_991 d_m_act_1 ?_
  refine r_iconst (v := 5) (n := 5) rfl ok d_m_act_4 (by decide) ?_
  refine r_icmp_ne (tgt := 49) (n := 8) rfl ok d_m_act_5 (by decide) (fun c1 => ?_) (fun c1 => ?_)
  · replace h := if_n c1 h
    refine r_iconst (v := 0) (n := 50) rfl ok d_m_act_49 (by decide) ?_
    refine r_istore_n (lv' := [(1, .int 0), (0, .ref (G.1 + 0))]) (n := 51) rfl ok d_m_act_50 rfl (lt_n hXn (Nat.le_of_ble_eq_true rfl)) rfl ?_
    obtain ⟨t7, ht7, h⟩ := bd_ok h
    refine r_sub [1, 0] rfl (show Wt X M 51 [(0, .ref (G.1 + 0)), (1, .int 0)] [] from w_m_act_51 ok hG hXR hXn  ?_ _ _ ht7)
    · intro e8 he
      subst he
      refine r_aload_n (n := 86) rfl ok d_m_act_85 rfl 0 rfl ?_
      refine r_dup (n := 87) rfl ok d_m_act_86 rfl ?_
      refine g_MOD_pastMany (n := 90) rfl ok hG  k_991 d_m_act_87 ?_
      refine r_iconst (v := 1) (n := 91) rfl ok d_m_act_90 (by decide) ?_
      refine r_iadd (n := 92) rfl ok d_m_act_91 ?_
      obtain ⟨M9, eM9, h⟩ := bd_ok h
      refine p_MOD_pastMany (n := 95) rfl ok hG  k_991 d_m_act_92 ?_
      refine r_mem (Option.some.inj eM9) ?_
      obtain rfl := Option.some.inj h
      exact fin _ _ d_m_act_95
  · replace h := if_p c1 h
    refine r_iconst (v := 0) (n := 9) rfl ok d_m_act_8 (by decide) ?_
    refine r_istore_n (lv' := [(1, .int 0), (0, .ref (G.1 + 0))]) (n := 10) rfl ok d_m_act_9 rfl (lt_n hXn (Nat.le_of_ble_eq_true rfl)) rfl ?_
    obtain ⟨t15, ht15, h⟩ := bd_ok h
    refine r_sub [1, 0] rfl (show Wt X M 10 [(0, .ref (G.1 + 0)), (1, .int 0)] [] from w_m_act_10 ok hG hXR hXn  ?_ _ _ ht15)
    · intro e16 he
      subst he
      refine r_aload_n (n := 40) rfl ok d_m_act_39 rfl 0 rfl ?_
      refine r_dup (n := 41) rfl ok d_m_act_40 rfl ?_
      refine g_MOD_pastMany (n := 44) rfl ok hG  k_991 d_m_act_41 ?_
      refine r_iconst (v := 1) (n := 45) rfl ok d_m_act_44 (by decide) ?_
      refine r_isub (n := 46) rfl ok d_m_act_45 ?_
      obtain ⟨M17, eM17, h⟩ := bd_ok h
      refine p_MOD_pastMany (n := 49) rfl ok hG  k_991 d_m_act_46 ?_
      refine r_mem (Option.some.inj eM17) ?_
      refine r_iconst (v := 0) (n := 50) rfl ok d_m_act_49 (by decide) ?_
      refine r_istore_n (lv' := [(1, .int 0), (0, .ref (G.1 + 0))]) (n := 51) rfl ok d_m_act_50 rfl (lt_n hXn (Nat.le_of_ble_eq_true rfl)) rfl ?_
      obtain ⟨t18, ht18, h⟩ := bd_ok h
      refine r_sub [1, 0] rfl (show Wt X M17 51 [(0, .ref (G.1 + 0)), (1, .int 0)] [] from w_m_act_51 ok hG hXR hXn  ?_ _ _ ht18)
      · intro e19 he
        subst he
        refine r_aload_n (n := 86) rfl ok d_m_act_85 rfl 0 rfl ?_
        refine r_dup (n := 87) rfl ok d_m_act_86 rfl ?_
        refine g_MOD_pastMany (n := 90) rfl ok hG  k_991 d_m_act_87 ?_
        refine r_iconst (v := 1) (n := 91) rfl ok d_m_act_90 (by decide) ?_
        refine r_iadd (n := 92) rfl ok d_m_act_91 ?_
        obtain ⟨M20, eM20, h⟩ := bd_ok h
        refine p_MOD_pastMany (n := 95) rfl ok hG  k_991 d_m_act_92 ?_
        refine r_mem (Option.some.inj eM20) ?_
        obtain rfl := Option.some.inj h
        exact fin _ _ d_m_act_95
set_option maxHeartbeats 4000000 in
set_option maxRecDepth 20000 in
theorem C_m_isRate {l : Launch} {G : Gt} {M : Me} {a1 : Int32}  {o : Int32} (h : f_m_isRate M a1 = some o) : Ct l G (WM G) (rM G) y_m_isRate b_m_isRate 2 (some .boolean) rm_m_isRate [.ref (G.1 + 0), .int a1] M (some (.int o)) M := by
  refine Ct.mk (own := "RetryChainsModel") rfl (by decide) (Nat.le_of_ble_eq_true rfl) ⟨_, rfl⟩ (fun X hXl hXR hXn ok hG fin => ?_)
  subst hXl
  unfold f_m_isRate at h
  show Wt X M 0 [(0, .ref (G.1 + 0)), (1, .int a1)] []
  refine r_iload_n (n := 1) rfl ok d_m_isRate_0 rfl 1 rfl ?_
  refine r_iconst (v := 0) (n := 2) rfl ok d_m_isRate_1 (by decide) ?_
  refine r_aload_n (n := 3) rfl ok d_m_isRate_2 rfl 0 rfl ?_
  refine g_MOD_v (n := 6) rfl ok hG  k_986 d_m_isRate_3 ?_
  refine r_iconst (v := 1) (n := 7) rfl ok d_m_isRate_6 (by decide) ?_
  refine al_V (n := 8) rfl ok hG  (show gin 1 600 by decide) d_m_isRate_7 ?_
  refine r_iconst (v := 1) (n := 9) rfl ok d_m_isRate_8 (by decide) ?_
  refine r_isub (n := 10) rfl ok d_m_isRate_9 ?_
  obtain ⟨r1, hr1, h⟩ := bd_ok h
  refine r_callS (n := 13) rfl ok hG mf_m_in k_1016 k_1015 (C_m_in  hr1) ⟨rfl, rfl⟩ (rR hXR ⟨Nat.le_of_ble_eq_true rfl, Nat.le_of_ble_eq_true rfl⟩) rfl rfl (Nat.le_of_ble_eq_true rfl) d_m_isRate_10 ?_
  obtain ⟨g2, h⟩ := gd_ok h
  obtain rfl := Option.some.inj h
  exact fin _ _ ⟨.boolean, rfl, nz_ok g2⟩ d_m_isRate_13
set_option maxHeartbeats 4000000 in
set_option maxRecDepth 20000 in
theorem C_m_isStation {l : Launch} {G : Gt} {M : Me} {a1 : Int32}  {o : Int32} (h : f_m_isStation M a1 = some o) : Ct l G (WM G) (rM G) y_m_isStation b_m_isStation 2 (some .boolean) rm_m_isStation [.ref (G.1 + 0), .int a1] M (some (.int o)) M := by
  refine Ct.mk (own := "RetryChainsModel") rfl (by decide) (Nat.le_of_ble_eq_true rfl) ⟨_, rfl⟩ (fun X hXl hXR hXn ok hG fin => ?_)
  subst hXl
  unfold f_m_isStation at h
  show Wt X M 0 [(0, .ref (G.1 + 0)), (1, .int a1)] []
  refine r_iload_n (n := 1) rfl ok d_m_isStation_0 rfl 1 rfl ?_
  refine r_iconst (v := 0) (n := 2) rfl ok d_m_isStation_1 (by decide) ?_
  refine r_aload_n (n := 3) rfl ok d_m_isStation_2 rfl 0 rfl ?_
  refine g_MOD_v (n := 6) rfl ok hG  k_986 d_m_isStation_3 ?_
  refine r_iconst (v := 2) (n := 7) rfl ok d_m_isStation_6 (by decide) ?_
  refine al_V (n := 8) rfl ok hG  (show gin 2 600 by decide) d_m_isStation_7 ?_
  refine r_iconst (v := 1) (n := 9) rfl ok d_m_isStation_8 (by decide) ?_
  refine r_isub (n := 10) rfl ok d_m_isStation_9 ?_
  obtain ⟨r1, hr1, h⟩ := bd_ok h
  refine r_callS (n := 13) rfl ok hG mf_m_in k_1016 k_1015 (C_m_in  hr1) ⟨rfl, rfl⟩ (rR hXR ⟨Nat.le_of_ble_eq_true rfl, Nat.le_of_ble_eq_true rfl⟩) rfl rfl (Nat.le_of_ble_eq_true rfl) d_m_isStation_10 ?_
  obtain ⟨g2, h⟩ := gd_ok h
  obtain rfl := Option.some.inj h
  exact fin _ _ ⟨.boolean, rfl, nz_ok g2⟩ d_m_isStation_13
set_option maxHeartbeats 4000000 in
set_option maxRecDepth 20000 in
theorem C_m_areBoth {l : Launch} {G : Gt} {M : Me} {a1 : Int32} {a2 : Int32}  {o : Int32} (h : f_m_areBoth M a1 a2 = some o) : Ct l G (WM G) (rM G) y_m_areBoth b_m_areBoth 3 (some .boolean) rm_m_areBoth [.ref (G.1 + 0), .int a1, .int a2] M (some (.int o)) M := by
  refine Ct.mk (own := "RetryChainsModel") rfl (by decide) (Nat.le_of_ble_eq_true rfl) ⟨_, rfl⟩ (fun X hXl hXR hXn ok hG fin => ?_)
  subst hXl
  unfold f_m_areBoth at h
  show Wt X M 0 [(0, .ref (G.1 + 0)), (1, .int a1), (2, .int a2)] []
  refine r_aload_n (n := 1) rfl ok d_m_areBoth_0 rfl 0 rfl ?_
  refine r_iload_n (n := 2) rfl ok d_m_areBoth_1 rfl 1 rfl ?_
  obtain ⟨r1, hr1, h⟩ := bd_ok h
  refine r_callV (n := 5) rfl ok hG mf_m_isStation k_1096 ks_29 k_1094 (C_m_isStation  hr1) ⟨rfl, rfl⟩ (rR hXR ⟨Nat.le_of_ble_eq_true rfl, Nat.le_of_ble_eq_true rfl⟩) rfl rfl (rv_MOD) rfl (Nat.le_of_ble_eq_true rfl) d_m_areBoth_2 ?_
  refine r_if_eq (tgt := 20) (n := 8) rfl ok d_m_areBoth_5 (by decide) (fun c2 => ?_) (fun c2 => ?_)
  · replace h := if_p c2 h
    refine r_iconst (v := 0) (n := 21) rfl ok d_m_areBoth_20 (by decide) ?_
    obtain rfl := Option.some.inj h
    exact fin _ _ ⟨.boolean, rfl, nz0⟩ d_m_areBoth_21
  · replace h := if_n c2 h
    refine r_aload_n (n := 9) rfl ok d_m_areBoth_8 rfl 0 rfl ?_
    refine r_iload_n (n := 10) rfl ok d_m_areBoth_9 rfl 2 rfl ?_
    obtain ⟨r3, hr3, h⟩ := bd_ok h
    refine r_callV (n := 13) rfl ok hG mf_m_isRate k_1100 ks_30 k_1098 (C_m_isRate  hr3) ⟨rfl, rfl⟩ (rR hXR ⟨Nat.le_of_ble_eq_true rfl, Nat.le_of_ble_eq_true rfl⟩) rfl rfl (rv_MOD) rfl (Nat.le_of_ble_eq_true rfl) d_m_areBoth_10 ?_
    refine r_if_eq (tgt := 20) (n := 16) rfl ok d_m_areBoth_13 (by decide) (fun c4 => ?_) (fun c4 => ?_)
    · replace h := if_p c4 h
      refine r_iconst (v := 0) (n := 21) rfl ok d_m_areBoth_20 (by decide) ?_
      obtain rfl := Option.some.inj h
      exact fin _ _ ⟨.boolean, rfl, nz0⟩ d_m_areBoth_21
    · replace h := if_n c4 h
      refine r_iconst (v := 1) (n := 17) rfl ok d_m_areBoth_16 (by decide) ?_
      refine r_goto (tgt := 21) ok d_m_areBoth_17 (by decide) ?_
      obtain rfl := Option.some.inj h
      exact fin _ _ ⟨.boolean, rfl, nz1⟩ d_m_areBoth_21
set_option maxHeartbeats 4000000 in
set_option maxRecDepth 20000 in
theorem C_m_pair {l : Launch} {G : Gt} {W0 : Me → Heap → Prop} {A : Nat → Prop} {M : Me} {a1 : Int32} {a2 : Int32}  {o : Int32} (h : f_m_pair a1 a2 = some o) : Ct l G W0 A y_m_pair b_m_pair 2 (some .int) rm_m_pair [.int a1, .int a2] M (some (.int o)) M := by
  refine Ct.mk (own := "RetryChainsModel") rfl (by decide) (Nat.le_of_ble_eq_true rfl) ⟨_, rfl⟩ (fun X hXl hXR hXn ok hG fin => ?_)
  subst hXl
  unfold f_m_pair at h
  show Wt X M 0 [(0, .int a1), (1, .int a2)] []
  refine r_bipush (v := 30) (n := 2) rfl ok d_m_pair_0 (by decide) ?_
  refine r_bipush (v := 8) (n := 4) rfl ok d_m_pair_2 (by decide) ?_
  refine r_bipush (v := 8) (n := 6) rfl ok d_m_pair_4 (by decide) ?_
  refine r_iload_n (n := 7) rfl ok d_m_pair_6 rfl 0 rfl ?_
  refine r_imul (n := 8) rfl ok d_m_pair_7 ?_
  refine r_iload_n (n := 9) rfl ok d_m_pair_8 rfl 1 rfl ?_
  refine r_iadd (n := 10) rfl ok d_m_pair_9 ?_
  refine r_imul (n := 11) rfl ok d_m_pair_10 ?_
  refine r_iadd (n := 12) rfl ok d_m_pair_11 ?_
  obtain rfl := Option.some.inj h
  exact fin _ _ ⟨.int, rfl, rfl⟩ d_m_pair_12
set_option maxHeartbeats 4000000 in
set_option maxRecDepth 20000 in
theorem C_m_side {l : Launch} {G : Gt} {W0 : Me → Heap → Prop} {A : Nat → Prop} {M : Me} {a1 : Int32}  {o : Int32} (h : f_m_side a1 = some o) : Ct l G W0 A y_m_side b_m_side 1 (some .int) rm_m_side [.int a1] M (some (.int o)) M := by
  refine Ct.mk (own := "RetryChainsModel") rfl (by decide) (Nat.le_of_ble_eq_true rfl) ⟨_, rfl⟩ (fun X hXl hXR hXn ok hG fin => ?_)
  subst hXl
  unfold f_m_side at h
  show Wt X M 0 [(0, .int a1)] []
  refine r_sipush (v := 290) (n := 3) rfl ok d_m_side_0 (by decide) ?_
  refine r_bipush (v := 32) (n := 5) rfl ok d_m_side_3 (by decide) ?_
  refine r_iload_n (n := 6) rfl ok d_m_side_5 rfl 0 rfl ?_
  refine r_imul (n := 7) rfl ok d_m_side_6 ?_
  refine r_iadd (n := 8) rfl ok d_m_side_7 ?_
  obtain rfl := Option.some.inj h
  exact fin _ _ ⟨.int, rfl, rfl⟩ d_m_side_8
set_option maxHeartbeats 4000000 in
set_option maxRecDepth 20000 in
theorem C_m_open {l : Launch} {G : Gt} {W0 : Me → Heap → Prop} {A : Nat → Prop} {M : Me} {a1 : Int32}  {o : Int32} (h : f_m_open a1 = some o) : Ct l G W0 A y_m_open b_m_open 1 (some .int) rm_m_open [.int a1] M (some (.int o)) M := by
  refine Ct.mk (own := "RetryChainsModel") rfl (by decide) (Nat.le_of_ble_eq_true rfl) ⟨_, rfl⟩ (fun X hXl hXR hXn ok hG fin => ?_)
  subst hXl
  unfold f_m_open at h
  show Wt X M 0 [(0, .int a1)] []
  refine r_sipush (v := 420) (n := 3) rfl ok d_m_open_0 (by decide) ?_
  refine r_bipush (v := 16) (n := 5) rfl ok d_m_open_3 (by decide) ?_
  refine r_iload_n (n := 6) rfl ok d_m_open_5 rfl 0 rfl ?_
  refine r_imul (n := 7) rfl ok d_m_open_6 ?_
  refine r_iadd (n := 8) rfl ok d_m_open_7 ?_
  obtain rfl := Option.some.inj h
  exact fin _ _ ⟨.int, rfl, rfl⟩ d_m_open_8
set_option maxHeartbeats 4000000 in
set_option maxRecDepth 20000 in
theorem C_m_up {l : Launch} {G : Gt} {W0 : Me → Heap → Prop} {A : Nat → Prop} {M : Me} {a1 : Int32} {a2 : Int32}  {o : Int32} (h : f_m_up a1 a2 = some o) : Ct l G W0 A y_m_up b_m_up 2 (some .int) rm_m_up [.int a1, .int a2] M (some (.int o)) M := by
  refine Ct.mk (own := "RetryChainsModel") rfl (by decide) (Nat.le_of_ble_eq_true rfl) ⟨_, rfl⟩ (fun X hXl hXR hXn ok hG fin => ?_)
  subst hXl
  unfold f_m_up at h
  show Wt X M 0 [(0, .int a1), (1, .int a2)] []
  refine r_iload_n (n := 1) rfl ok d_m_up_0 rfl 0 rfl ?_
  refine r_iload_n (n := 2) rfl ok d_m_up_1 rfl 1 rfl ?_
  refine r_iadd (n := 3) rfl ok d_m_up_2 ?_
  refine r_iconst (v := 1) (n := 4) rfl ok d_m_up_3 (by decide) ?_
  refine r_isub (n := 5) rfl ok d_m_up_4 ?_
  refine r_iload_n (n := 6) rfl ok d_m_up_5 rfl 1 rfl ?_
  obtain ⟨g1, h⟩ := gd_ok h
  refine r_idiv (n := 7) rfl ok d_m_up_6 g1 ?_
  obtain rfl := Option.some.inj h
  exact fin _ _ ⟨.int, rfl, rfl⟩ d_m_up_7
set_option maxHeartbeats 4000000 in
set_option maxRecDepth 20000 in
theorem C_m_air {l : Launch} {G : Gt} {M : Me} {a1 : Int32} {a2 : Int32}  {o : Int32} (h : f_m_air M a1 a2 = some o) : Ct l G (WM G) (rM G) y_m_air b_m_air 5 (some .int) rm_m_air [.ref (G.1 + 0), .int a1, .int a2] M (some (.int o)) M := by
  refine Ct.mk (own := "RetryChainsModel") rfl (by decide) (Nat.le_of_ble_eq_true rfl) ⟨_, rfl⟩ (fun X hXl hXR hXn ok hG fin => ?_)
  subst hXl
  unfold f_m_air at h
  show Wt X M 0 [(0, .ref (G.1 + 0)), (1, .int a1), (2, .int a2)] []
  refine r_aload_n (n := 1) rfl ok d_m_air_0 rfl 0 rfl ?_
  refine g_MOD_v (n := 4) rfl ok hG  k_986 d_m_air_1 ?_
  refine r_bipush (v := 18) (n := 6) rfl ok d_m_air_4 (by decide) ?_
  refine r_iload_n (n := 7) rfl ok d_m_air_6 rfl 1 rfl ?_
  refine r_iadd (n := 8) rfl ok d_m_air_7 ?_
  obtain ⟨g1, h⟩ := gd_ok h
  refine al_V (n := 9) rfl ok hG  g1 d_m_air_8 ?_
  refine r_istore_n (lv' := [(3, .int (M.1 100 0 0 (tN ((18 : Int32) + a1)))), (0, .ref (G.1 + 0)), (1, .int a1), (2, .int a2)]) (n := 10) rfl ok d_m_air_9 rfl (lt_n hXn (Nat.le_of_ble_eq_true rfl)) rfl ?_
  refine r_aload_n (n := 11) rfl ok d_m_air_10 rfl 1 rfl ?_
  refine g_MOD_v (n := 14) rfl ok hG  k_986 d_m_air_11 ?_
  refine r_bipush (v := 10) (n := 16) rfl ok d_m_air_14 (by decide) ?_
  refine r_iload_n (n := 17) rfl ok d_m_air_16 rfl 2 rfl ?_
  refine r_iadd (n := 18) rfl ok d_m_air_17 ?_
  obtain ⟨g2, h⟩ := gd_ok h
  refine al_V (n := 19) rfl ok hG  g2 d_m_air_18 ?_
  refine r_if_ne (tgt := 35) (n := 22) rfl ok d_m_air_19 (by decide) (fun c3 => ?_) (fun c3 => ?_)
  · replace h := if_n c3 h
    refine r_sipush (v := 220) (n := 38) rfl ok d_m_air_35 (by decide) ?_
    refine r_bipush (v := 80) (n := 40) rfl ok d_m_air_38 (by decide) ?_
    refine r_iload_n (n := 41) rfl ok d_m_air_40 rfl 3 rfl ?_
    refine r_imul (n := 42) rfl ok d_m_air_41 ?_
    refine r_iadd (n := 43) rfl ok d_m_air_42 ?_
    refine r_iconst (v := 4) (n := 44) rfl ok d_m_air_43 (by decide) ?_
    refine r_iload_n (n := 45) rfl ok d_m_air_44 rfl 0 rfl ?_
    refine r_imul (n := 46) rfl ok d_m_air_45 ?_
    obtain ⟨r4, hr4, h⟩ := bd_ok h
    refine r_callS (n := 49) rfl ok hG mf_m_up k_1066 k_1065 (C_m_up  hr4) ⟨rfl, rfl⟩ (rR hXR ⟨Nat.le_of_ble_eq_true rfl, Nat.le_of_ble_eq_true rfl⟩) rfl rfl (Nat.le_of_ble_eq_true rfl) d_m_air_46 ?_
    refine r_istore (lv' := [(4, .int r4), (3, .int (M.1 100 0 0 (tN ((18 : Int32) + a1)))), (0, .ref (G.1 + 0)), (1, .int a1), (2, .int a2)]) (n := 51) rfl ok d_m_air_49 (lt_n hXn (Nat.le_of_ble_eq_true rfl)) rfl ?_
    refine r_aload_n (n := 52) rfl ok d_m_air_51 rfl 2 rfl ?_
    refine g_MOD_v (n := 55) rfl ok hG  k_986 d_m_air_52 ?_
    refine r_bipush (v := 10) (n := 57) rfl ok d_m_air_55 (by decide) ?_
    refine r_iload_n (n := 58) rfl ok d_m_air_57 rfl 3 rfl ?_
    refine r_iadd (n := 59) rfl ok d_m_air_58 ?_
    obtain ⟨g5, h⟩ := gd_ok h
    refine al_V (n := 60) rfl ok hG  g5 d_m_air_59 ?_
    refine r_iconst (v := 1) (n := 61) rfl ok d_m_air_60 (by decide) ?_
    refine r_icmp_ne (tgt := 74) (n := 64) rfl ok d_m_air_61 (by decide) (fun c6 => ?_) (fun c6 => ?_)
    · replace h := if_n c6 h
      refine r_bipush (v := 100) (n := 76) rfl ok d_m_air_74 (by decide) ?_
      refine r_bipush (v := 18) (n := 78) rfl ok d_m_air_76 (by decide) ?_
      refine r_iload (n := 80) rfl ok d_m_air_78 0 rfl ?_
      refine r_imul (n := 81) rfl ok d_m_air_80 ?_
      refine r_iconst (v := 5) (n := 82) rfl ok d_m_air_81 (by decide) ?_
      obtain ⟨r7, hr7, h⟩ := bd_ok h
      refine r_callS (n := 85) rfl ok hG mf_m_up k_1066 k_1065 (C_m_up  hr7) ⟨rfl, rfl⟩ (rR hXR ⟨Nat.le_of_ble_eq_true rfl, Nat.le_of_ble_eq_true rfl⟩) rfl rfl (Nat.le_of_ble_eq_true rfl) d_m_air_82 ?_
      refine r_iadd (n := 86) rfl ok d_m_air_85 ?_
      obtain rfl := Option.some.inj h
      exact fin _ _ ⟨.int, rfl, rfl⟩ d_m_air_86
    · replace h := if_p c6 h
      refine r_bipush (v := 80) (n := 66) rfl ok d_m_air_64 (by decide) ?_
      refine r_iconst (v := 4) (n := 67) rfl ok d_m_air_66 (by decide) ?_
      refine r_iload (n := 69) rfl ok d_m_air_67 0 rfl ?_
      refine r_imul (n := 70) rfl ok d_m_air_69 ?_
      refine r_iadd (n := 71) rfl ok d_m_air_70 ?_
      refine r_goto (tgt := 86) ok d_m_air_71 (by decide) ?_
      obtain rfl := Option.some.inj h
      exact fin _ _ ⟨.int, rfl, rfl⟩ d_m_air_86
  · replace h := if_p c3 h
    refine r_sipush (v := 252) (n := 25) rfl ok d_m_air_22 (by decide) ?_
    refine r_bipush (v := 80) (n := 27) rfl ok d_m_air_25 (by decide) ?_
    refine r_iload_n (n := 28) rfl ok d_m_air_27 rfl 3 rfl ?_
    refine r_imul (n := 29) rfl ok d_m_air_28 ?_
    refine r_iload_n (n := 30) rfl ok d_m_air_29 rfl 0 rfl ?_
    obtain ⟨r8, hr8, h⟩ := bd_ok h
    refine r_callS (n := 33) rfl ok hG mf_m_up k_1066 k_1065 (C_m_up  hr8) ⟨rfl, rfl⟩ (rR hXR ⟨Nat.le_of_ble_eq_true rfl, Nat.le_of_ble_eq_true rfl⟩) rfl rfl (Nat.le_of_ble_eq_true rfl) d_m_air_30 ?_
    refine r_iadd (n := 34) rfl ok d_m_air_33 ?_
    obtain rfl := Option.some.inj h
    exact fin _ _ ⟨.int, rfl, rfl⟩ d_m_air_34
set_option maxHeartbeats 4000000 in
set_option maxRecDepth 20000 in
theorem C_m_nominal {l : Launch} {G : Gt} {M : Me} {a1 : Int32}  {o : Int32} (h : f_m_nominal M a1 = some o) : Ct l G (WM G) (rM G) y_m_nominal b_m_nominal 2 (some .int) rm_m_nominal [.ref (G.1 + 0), .int a1] M (some (.int o)) M := by
  refine Ct.mk (own := "RetryChainsModel") rfl (by decide) (Nat.le_of_ble_eq_true rfl) ⟨_, rfl⟩ (fun X hXl hXR hXn ok hG fin => ?_)
  subst hXl
  unfold f_m_nominal at h
  show Wt X M 0 [(0, .ref (G.1 + 0)), (1, .int a1)] []
  refine r_aload_n (n := 1) rfl ok d_m_nominal_0 rfl 0 rfl ?_
  refine r_iload_n (n := 2) rfl ok d_m_nominal_1 rfl 1 rfl ?_
  refine r_sipush (v := 1200) (n := 5) rfl ok d_m_nominal_2 (by decide) ?_
  obtain ⟨r1, hr1, h⟩ := bd_ok h
  refine r_callV (n := 8) rfl ok hG mf_m_air k_1063 ks_24 k_1061 (C_m_air  hr1) ⟨rfl, rfl⟩ (rR hXR ⟨Nat.le_of_ble_eq_true rfl, Nat.le_of_ble_eq_true rfl⟩) rfl rfl (rv_MOD) rfl (Nat.le_of_ble_eq_true rfl) d_m_nominal_5 ?_
  obtain rfl := Option.some.inj h
  exact fin _ _ ⟨.int, rfl, rfl⟩ d_m_nominal_8
set_option maxHeartbeats 4000000 in
set_option maxRecDepth 20000 in
theorem w_m_backoff_5 {X : Cx Me} {G : Gt} {W0 : Me → Heap → Prop} {A : Nat → Prop} {M : Me} (ok : Ok X b_m_backoff "RetryChainsModel") (hG : Gx X G W0 A) (hXR : X.R = rm_m_backoff) (hXn : X.nL = 3) {y0 : Int32}  {t : Int32} (kx : ∀ e : Int32, e = t → Wt X M 20 [(1, .int e)] [])  : ∀ (n : Nat) (x : Int32 × Int32), lp n (b_m_backoff_5 y0) x = some t → Wt X M 5 [(0, .int y0), (1, .int x.1), (2, .int x.2)] [] := by
  intro n x h
  refine lp_W (P := fun x => Wt X M 5 [(0, .int y0), (1, .int x.1), (2, .int x.2)] []) (Z := fun t' => t' = t) (fun x r h hk hz => ?_) n x t h rfl
  unfold b_m_backoff_5 at h
  refine r_iload_n (n := 6) rfl ok d_m_backoff_5 rfl 2 rfl ?_
  refine r_iload_n (n := 7) rfl ok d_m_backoff_6 rfl 0 rfl ?_
  refine r_icmp_ge (tgt := 20) (n := 10) rfl ok d_m_backoff_7 (by decide) (fun c1 => ?_) (fun c1 => ?_)
  · replace h := if_p c1 h
    obtain rfl := Option.some.inj h
    exact r_sub [1] rfl (show Wt X M 20 [(1, .int x.1)] [] from kx _ (hz _ rfl))
  · replace h := if_n c1 h
    refine r_iload_n (n := 11) rfl ok d_m_backoff_10 rfl 1 rfl ?_
    refine r_iconst (v := 2) (n := 12) rfl ok d_m_backoff_11 (by decide) ?_
    refine r_imul (n := 13) rfl ok d_m_backoff_12 ?_
    obtain ⟨x2, ex2, h⟩ := bd_ok h
    refine r_ti (Option.some.inj ex2).symm ?_
    refine r_istore_n (lv' := [(1, .int x2), (0, .int y0), (2, .int x.2)]) (n := 14) rfl ok d_m_backoff_13 rfl (lt_n hXn (Nat.le_of_ble_eq_true rfl)) rfl ?_
    obtain ⟨x3, ex3, h⟩ := bd_ok h
    refine r_iinc (lv' := [(2, .int x3), (1, .int x2), (0, .int y0)]) (n := 17) rfl ok d_m_backoff_14 2 rfl (Option.some.inj ex3) (lt_n hXn (Nat.le_of_ble_eq_true rfl)) rfl ?_
    refine r_goto (tgt := 5) ok d_m_backoff_17 (by decide) ?_
    obtain rfl := Option.some.inj h
    exact r_sub [2, 1, 0] rfl (show Wt X M 5 [(0, .int y0), (1, .int x2), (2, .int x3)] [] from hk _ rfl)
set_option maxHeartbeats 4000000 in
set_option maxRecDepth 20000 in
theorem C_m_backoff {l : Launch} {G : Gt} {W0 : Me → Heap → Prop} {A : Nat → Prop} {M : Me} {a1 : Int32}  {o : Int32} (h : f_m_backoff a1 = some o) : Ct l G W0 A y_m_backoff b_m_backoff 3 (some .int) rm_m_backoff [.int a1] M (some (.int o)) M := by
  refine Ct.mk (own := "RetryChainsModel") rfl (by decide) (Nat.le_of_ble_eq_true rfl) ⟨_, rfl⟩ (fun X hXl hXR hXn ok hG fin => ?_)
  subst hXl
  unfold f_m_backoff at h
  show Wt X M 0 [(0, .int a1)] []
  refine r_bipush (v := 16) (n := 2) rfl ok d_m_backoff_0 (by decide) ?_
  refine r_istore_n (lv' := [(1, .int 16), (0, .int a1)]) (n := 3) rfl ok d_m_backoff_2 rfl (lt_n hXn (Nat.le_of_ble_eq_true rfl)) rfl ?_
  refine r_iconst (v := 0) (n := 4) rfl ok d_m_backoff_3 (by decide) ?_
  refine r_istore_n (lv' := [(2, .int 0), (1, .int 16), (0, .int a1)]) (n := 5) rfl ok d_m_backoff_4 rfl (lt_n hXn (Nat.le_of_ble_eq_true rfl)) rfl ?_
  obtain ⟨t4, ht4, h⟩ := bd_ok h
  refine r_sub [2, 1, 0] rfl (show Wt X M 5 [(0, .int a1), (1, .int 16), (2, .int 0)] [] from w_m_backoff_5 ok hG hXR hXn  ?_ _ _ ht4)
  · intro e5 he
    subst he
    refine r_bipush (v := 9) (n := 22) rfl ok d_m_backoff_20 (by decide) ?_
    refine r_iload_n (n := 23) rfl ok d_m_backoff_22 rfl 0 rfl ?_
    refine r_iconst (v := 1) (n := 24) rfl ok d_m_backoff_23 (by decide) ?_
    refine r_isub (n := 25) rfl ok d_m_backoff_24 ?_
    refine r_sipush (v := 1023) (n := 28) rfl ok d_m_backoff_25 (by decide) ?_
    refine r_icmp_le (tgt := 37) (n := 31) rfl ok d_m_backoff_28 (by decide) (fun c6 => ?_) (fun c6 => ?_)
    · replace h := if_p c6 h
      refine r_iload_n (n := 38) rfl ok d_m_backoff_37 rfl 0 rfl ?_
      refine r_iconst (v := 1) (n := 39) rfl ok d_m_backoff_38 (by decide) ?_
      refine r_isub (n := 40) rfl ok d_m_backoff_39 ?_
      refine r_imul (n := 41) rfl ok d_m_backoff_40 ?_
      refine r_iconst (v := 2) (n := 42) rfl ok d_m_backoff_41 (by decide) ?_
      refine r_idiv (n := 43) rfl ok d_m_backoff_42 (by decide) ?_
      obtain rfl := Option.some.inj h
      exact fin _ _ ⟨.int, rfl, rfl⟩ d_m_backoff_43
    · replace h := if_n c6 h
      refine r_sipush (v := 1023) (n := 34) rfl ok d_m_backoff_31 (by decide) ?_
      refine r_goto (tgt := 40) ok d_m_backoff_34 (by decide) ?_
      refine r_imul (n := 41) rfl ok d_m_backoff_40 ?_
      refine r_iconst (v := 2) (n := 42) rfl ok d_m_backoff_41 (by decide) ?_
      refine r_idiv (n := 43) rfl ok d_m_backoff_42 (by decide) ?_
      obtain rfl := Option.some.inj h
      exact fin _ _ ⟨.int, rfl, rfl⟩ d_m_backoff_43
set_option maxHeartbeats 4000000 in
set_option maxRecDepth 20000 in
theorem C_m_timeOf {l : Launch} {G : Gt} {M : Me} {a1 : Int32} {a2 : Int32} {a3 : Int32}  {o : Int32} (h : f_m_timeOf M a1 a2 a3 = some o) : Ct l G (WM G) (rM G) y_m_timeOf b_m_timeOf 4 (some .int) rm_m_timeOf [.ref (G.1 + 0), .int a1, .int a2, .int a3] M (some (.int o)) M := by
  refine Ct.mk (own := "RetryChainsModel") rfl (by decide) (Nat.le_of_ble_eq_true rfl) ⟨_, rfl⟩ (fun X hXl hXR hXn ok hG fin => ?_)
  subst hXl
  unfold f_m_timeOf at h
  show Wt X M 0 [(0, .ref (G.1 + 0)), (1, .int a1), (2, .int a2), (3, .int a3)] []
  refine r_aload_n (n := 1) rfl ok d_m_timeOf_0 rfl 0 rfl ?_
  refine r_iload_n (n := 2) rfl ok d_m_timeOf_1 rfl 1 rfl ?_
  refine r_iload_n (n := 3) rfl ok d_m_timeOf_2 rfl 2 rfl ?_
  obtain ⟨r1, hr1, h⟩ := bd_ok h
  refine r_callV (n := 6) rfl ok hG mf_m_air k_1063 ks_24 k_1061 (C_m_air  hr1) ⟨rfl, rfl⟩ (rR hXR ⟨Nat.le_of_ble_eq_true rfl, Nat.le_of_ble_eq_true rfl⟩) rfl rfl (rv_MOD) rfl (Nat.le_of_ble_eq_true rfl) d_m_timeOf_3 ?_
  refine r_iload_n (n := 7) rfl ok d_m_timeOf_6 rfl 3 rfl ?_
  obtain ⟨r2, hr2, h⟩ := bd_ok h
  refine r_callS (n := 10) rfl ok hG mf_m_backoff k_1163 k_1162 (C_m_backoff  hr2) ⟨rfl, rfl⟩ (rR hXR ⟨Nat.le_of_ble_eq_true rfl, Nat.le_of_ble_eq_true rfl⟩) rfl rfl (Nat.le_of_ble_eq_true rfl) d_m_timeOf_7 ?_
  refine r_iadd (n := 11) rfl ok d_m_timeOf_10 ?_
  obtain rfl := Option.some.inj h
  exact fin _ _ ⟨.int, rfl, rfl⟩ d_m_timeOf_11
set_option maxHeartbeats 4000000 in
set_option maxRecDepth 20000 in
theorem w_m_triesFor_8 {X : Cx Me} {G : Gt} (ok : Ok X b_m_triesFor "RetryChainsModel") (hG : GM X G) (hXR : X.R = rm_m_triesFor) (hXn : X.nL = 6) {M : Me} {y1 : Int32} {y2 : Int32}  {t : Int32} (kx : ∀ e : Int32, e = t → Wt X M 54 [(4, .int e)] [])  : ∀ (n : Nat) (x : Int32 × Int32 × Int32), lp n (b_m_triesFor_8 M y1 y2) x = some t → Wt X M 8 [(0, .ref (G.1 + 0)), (1, .int y1), (2, .int y2), (3, .int x.1), (4, .int x.2.1), (5, .int x.2.2)] [] := by
  intro n x h
  refine lp_W (P := fun x => Wt X M 8 [(0, .ref (G.1 + 0)), (1, .int y1), (2, .int y2), (3, .int x.1), (4, .int x.2.1), (5, .int x.2.2)] []) (Z := fun t' => t' = t) (fun x r h hk hz => ?_) n x t h rfl
  unfold b_m_triesFor_8 at h
  refine r_iload (n := 10) rfl ok d_m_triesFor_8 5 rfl ?_
  refine r_bipush (v := 7) (n := 12) rfl ok d_m_triesFor_10 (by decide) ?_
  refine r_icmp_ge (tgt := 54) (n := 15) rfl ok d_m_triesFor_12 (by decide) (fun c1 => ?_) (fun c1 => ?_)
  · replace h := if_p c1 h
    obtain rfl := Option.some.inj h
    exact r_sub [4] rfl (show Wt X M 54 [(4, .int x.2.1)] [] from kx _ (hz _ rfl))
  · replace h := if_n c1 h
    refine r_iload_n (n := 16) rfl ok d_m_triesFor_15 rfl 3 rfl ?_
    refine r_aload_n (n := 17) rfl ok d_m_triesFor_16 rfl 0 rfl ?_
    refine r_iload_n (n := 18) rfl ok d_m_triesFor_17 rfl 1 rfl ?_
    refine r_iload_n (n := 19) rfl ok d_m_triesFor_18 rfl 2 rfl ?_
    refine r_iload (n := 21) rfl ok d_m_triesFor_19 5 rfl ?_
    obtain ⟨r2, hr2, h⟩ := bd_ok h
    refine r_callV (n := 24) rfl ok hG mf_m_timeOf k_1160 ks_39 k_1158 (C_m_timeOf  hr2) ⟨rfl, rfl⟩ (rR hXR ⟨Nat.le_of_ble_eq_true rfl, Nat.le_of_ble_eq_true rfl⟩) rfl rfl (rv_MOD) rfl (Nat.le_of_ble_eq_true rfl) d_m_triesFor_21 ?_
    refine r_iadd (n := 25) rfl ok d_m_triesFor_24 ?_
    obtain ⟨x3, ex3, h⟩ := bd_ok h
    refine r_ti (Option.some.inj ex3).symm ?_
    refine r_istore_n (lv' := [(3, .int x3), (0, .ref (G.1 + 0)), (1, .int y1), (2, .int y2), (4, .int x.2.1), (5, .int x.2.2)]) (n := 26) rfl ok d_m_triesFor_25 rfl (lt_n hXn (Nat.le_of_ble_eq_true rfl)) rfl ?_
    refine r_iload_n (n := 27) rfl ok d_m_triesFor_26 rfl 0 rfl ?_
    refine r_aload_n (n := 28) rfl ok d_m_triesFor_27 rfl 1 rfl ?_
    refine g_MOD_v (n := 31) rfl ok hG  k_986 d_m_triesFor_28 ?_
    refine r_bipush (v := 6) (n := 33) rfl ok d_m_triesFor_31 (by decide) ?_
    refine al_V (n := 34) rfl ok hG  (show gin 6 600 by decide) d_m_triesFor_33 ?_
    refine r_icmp_gt (tgt := 44) (n := 37) rfl ok d_m_triesFor_34 (by decide) (fun c4 => ?_) (fun c4 => ?_)
    · replace h := if_p c4 h
      refine r_iload (n := 46) rfl ok d_m_triesFor_44 4 rfl ?_
      refine r_istore (lv' := [(4, .int x.2.1), (3, .int x3), (0, .ref (G.1 + 0)), (1, .int y1), (2, .int y2), (5, .int x.2.2)]) (n := 48) rfl ok d_m_triesFor_46 (lt_n hXn (Nat.le_of_ble_eq_true rfl)) rfl ?_
      obtain ⟨x5, ex5, h⟩ := bd_ok h
      refine r_iinc (lv' := [(5, .int x5), (4, .int x.2.1), (3, .int x3), (0, .ref (G.1 + 0)), (1, .int y1), (2, .int y2)]) (n := 51) rfl ok d_m_triesFor_48 5 rfl (Option.some.inj ex5) (lt_n hXn (Nat.le_of_ble_eq_true rfl)) rfl ?_
      refine r_goto (tgt := 8) ok d_m_triesFor_51 (by decide) ?_
      obtain rfl := Option.some.inj h
      exact r_sub [3, 4, 5, 2, 1, 0] rfl (show Wt X M 8 [(0, .ref (G.1 + 0)), (1, .int y1), (2, .int y2), (3, .int x3), (4, .int x.2.1), (5, .int x5)] [] from hk _ rfl)
    · replace h := if_n c4 h
      refine r_iload (n := 39) rfl ok d_m_triesFor_37 5 rfl ?_
      refine r_iconst (v := 1) (n := 40) rfl ok d_m_triesFor_39 (by decide) ?_
      refine r_iadd (n := 41) rfl ok d_m_triesFor_40 ?_
      refine r_goto (tgt := 46) ok d_m_triesFor_41 (by decide) ?_
      obtain ⟨x6, ex6, h⟩ := bd_ok h
      refine r_ti (Option.some.inj ex6).symm ?_
      refine r_istore (lv' := [(4, .int x6), (3, .int x3), (0, .ref (G.1 + 0)), (1, .int y1), (2, .int y2), (5, .int x.2.2)]) (n := 48) rfl ok d_m_triesFor_46 (lt_n hXn (Nat.le_of_ble_eq_true rfl)) rfl ?_
      obtain ⟨x7, ex7, h⟩ := bd_ok h
      refine r_iinc (lv' := [(5, .int x7), (4, .int x6), (3, .int x3), (0, .ref (G.1 + 0)), (1, .int y1), (2, .int y2)]) (n := 51) rfl ok d_m_triesFor_48 5 rfl (Option.some.inj ex7) (lt_n hXn (Nat.le_of_ble_eq_true rfl)) rfl ?_
      refine r_goto (tgt := 8) ok d_m_triesFor_51 (by decide) ?_
      obtain rfl := Option.some.inj h
      exact r_sub [3, 4, 5, 2, 1, 0] rfl (show Wt X M 8 [(0, .ref (G.1 + 0)), (1, .int y1), (2, .int y2), (3, .int x3), (4, .int x6), (5, .int x7)] [] from hk _ rfl)
set_option maxHeartbeats 4000000 in
set_option maxRecDepth 20000 in
theorem C_m_triesFor {l : Launch} {G : Gt} {M : Me} {a1 : Int32} {a2 : Int32}  {o : Int32} (h : f_m_triesFor M a1 a2 = some o) : Ct l G (WM G) (rM G) y_m_triesFor b_m_triesFor 6 (some .int) rm_m_triesFor [.ref (G.1 + 0), .int a1, .int a2] M (some (.int o)) M := by
  refine Ct.mk (own := "RetryChainsModel") rfl (by decide) (Nat.le_of_ble_eq_true rfl) ⟨_, rfl⟩ (fun X hXl hXR hXn ok hG fin => ?_)
  subst hXl
  unfold f_m_triesFor at h
  show Wt X M 0 [(0, .ref (G.1 + 0)), (1, .int a1), (2, .int a2)] []
  refine r_iconst (v := 0) (n := 1) rfl ok d_m_triesFor_0 (by decide) ?_
  refine r_istore_n (lv' := [(3, .int 0), (0, .ref (G.1 + 0)), (1, .int a1), (2, .int a2)]) (n := 2) rfl ok d_m_triesFor_1 rfl (lt_n hXn (Nat.le_of_ble_eq_true rfl)) rfl ?_
  refine r_iconst (v := 0) (n := 3) rfl ok d_m_triesFor_2 (by decide) ?_
  refine r_istore (lv' := [(4, .int 0), (3, .int 0), (0, .ref (G.1 + 0)), (1, .int a1), (2, .int a2)]) (n := 5) rfl ok d_m_triesFor_3 (lt_n hXn (Nat.le_of_ble_eq_true rfl)) rfl ?_
  refine r_iconst (v := 0) (n := 6) rfl ok d_m_triesFor_5 (by decide) ?_
  refine r_istore (lv' := [(5, .int 0), (4, .int 0), (3, .int 0), (0, .ref (G.1 + 0)), (1, .int a1), (2, .int a2)]) (n := 8) rfl ok d_m_triesFor_6 (lt_n hXn (Nat.le_of_ble_eq_true rfl)) rfl ?_
  obtain ⟨t8, ht8, h⟩ := bd_ok h
  refine r_sub [3, 4, 5, 2, 1, 0] rfl (show Wt X M 8 [(0, .ref (G.1 + 0)), (1, .int a1), (2, .int a2), (3, .int 0), (4, .int 0), (5, .int 0)] [] from w_m_triesFor_8 ok hG hXR hXn  ?_ _ _ ht8)
  · intro e9 he
    subst he
    refine r_iload (n := 56) rfl ok d_m_triesFor_54 0 rfl ?_
    refine r_if_ne (tgt := 63) (n := 59) rfl ok d_m_triesFor_56 (by decide) (fun c10 => ?_) (fun c10 => ?_)
    · replace h := if_n c10 h
      refine r_iload (n := 65) rfl ok d_m_triesFor_63 0 rfl ?_
      obtain rfl := Option.some.inj h
      exact fin _ _ ⟨.int, rfl, rfl⟩ d_m_triesFor_65
    · replace h := if_p c10 h
      refine r_iconst (v := 1) (n := 60) rfl ok d_m_triesFor_59 (by decide) ?_
      refine r_goto (tgt := 65) ok d_m_triesFor_60 (by decide) ?_
      obtain rfl := Option.some.inj h
      exact fin _ _ ⟨.int, rfl, rfl⟩ d_m_triesFor_65
set_option maxHeartbeats 4000000 in
set_option maxRecDepth 20000 in
theorem C_m_allows {l : Launch} {G : Gt} {M : Me} {a1 : Int32} {a2 : Int32}  {o : Int32} (h : f_m_allows M a1 a2 = some o) : Ct l G (WM G) (rM G) y_m_allows b_m_allows 3 (some .boolean) rm_m_allows [.ref (G.1 + 0), .int a1, .int a2] M (some (.int o)) M := by
  refine Ct.mk (own := "RetryChainsModel") rfl (by decide) (Nat.le_of_ble_eq_true rfl) ⟨_, rfl⟩ (fun X hXl hXR hXn ok hG fin => ?_)
  subst hXl
  unfold f_m_allows at h
  show Wt X M 0 [(0, .ref (G.1 + 0)), (1, .int a1), (2, .int a2)] []
  refine r_aload_n (n := 1) rfl ok d_m_allows_0 rfl 0 rfl ?_
  refine g_MOD_v (n := 4) rfl ok hG  k_986 d_m_allows_1 ?_
  refine r_iload_n (n := 5) rfl ok d_m_allows_4 rfl 1 rfl ?_
  refine r_iload_n (n := 6) rfl ok d_m_allows_5 rfl 2 rfl ?_
  obtain ⟨r1, hr1, h⟩ := bd_ok h
  refine r_callS (n := 9) rfl ok hG mf_m_pair k_1027 k_1026 (C_m_pair  hr1) ⟨rfl, rfl⟩ (rR hXR ⟨Nat.le_of_ble_eq_true rfl, Nat.le_of_ble_eq_true rfl⟩) rfl rfl (Nat.le_of_ble_eq_true rfl) d_m_allows_6 ?_
  refine r_iconst (v := 0) (n := 10) rfl ok d_m_allows_9 (by decide) ?_
  refine r_iadd (n := 11) rfl ok d_m_allows_10 ?_
  obtain ⟨g2, h⟩ := gd_ok h
  refine al_V (n := 12) rfl ok hG  g2 d_m_allows_11 ?_
  refine r_iconst (v := 1) (n := 13) rfl ok d_m_allows_12 (by decide) ?_
  refine r_icmp_ne (tgt := 20) (n := 16) rfl ok d_m_allows_13 (by decide) (fun c3 => ?_) (fun c3 => ?_)
  · replace h := if_n c3 h
    refine r_iconst (v := 0) (n := 21) rfl ok d_m_allows_20 (by decide) ?_
    obtain rfl := Option.some.inj h
    exact fin _ _ ⟨.boolean, rfl, nz0⟩ d_m_allows_21
  · replace h := if_p c3 h
    refine r_iconst (v := 1) (n := 17) rfl ok d_m_allows_16 (by decide) ?_
    refine r_goto (tgt := 21) ok d_m_allows_17 (by decide) ?_
    obtain rfl := Option.some.inj h
    exact fin _ _ ⟨.boolean, rfl, nz1⟩ d_m_allows_21
set_option maxHeartbeats 4000000 in
set_option maxRecDepth 20000 in
theorem C_m_known {l : Launch} {G : Gt} {M : Me} {a1 : Int32} {a2 : Int32}  {o : Int32} (h : f_m_known M a1 a2 = some o) : Ct l G (WM G) (rM G) y_m_known b_m_known 4 (some .int) rm_m_known [.ref (G.1 + 0), .int a1, .int a2] M (some (.int o)) M := by
  refine Ct.mk (own := "RetryChainsModel") rfl (by decide) (Nat.le_of_ble_eq_true rfl) ⟨_, rfl⟩ (fun X hXl hXR hXn ok hG fin => ?_)
  subst hXl
  unfold f_m_known at h
  show Wt X M 0 [(0, .ref (G.1 + 0)), (1, .int a1), (2, .int a2)] []
  refine r_aload_n (n := 1) rfl ok d_m_known_0 rfl 0 rfl ?_
  refine g_MOD_v (n := 4) rfl ok hG  k_986 d_m_known_1 ?_
  refine r_iload_n (n := 5) rfl ok d_m_known_4 rfl 1 rfl ?_
  refine r_iload_n (n := 6) rfl ok d_m_known_5 rfl 2 rfl ?_
  obtain ⟨r1, hr1, h⟩ := bd_ok h
  refine r_callS (n := 9) rfl ok hG mf_m_pair k_1027 k_1026 (C_m_pair  hr1) ⟨rfl, rfl⟩ (rR hXR ⟨Nat.le_of_ble_eq_true rfl, Nat.le_of_ble_eq_true rfl⟩) rfl rfl (Nat.le_of_ble_eq_true rfl) d_m_known_6 ?_
  refine r_iconst (v := 1) (n := 10) rfl ok d_m_known_9 (by decide) ?_
  refine r_iadd (n := 11) rfl ok d_m_known_10 ?_
  obtain ⟨g2, h⟩ := gd_ok h
  refine al_V (n := 12) rfl ok hG  g2 d_m_known_11 ?_
  refine r_istore_n (lv' := [(3, .int (M.1 100 0 0 (tN (r1 + (1 : Int32))))), (0, .ref (G.1 + 0)), (1, .int a1), (2, .int a2)]) (n := 13) rfl ok d_m_known_12 rfl (lt_n hXn (Nat.le_of_ble_eq_true rfl)) rfl ?_
  refine r_iload_n (n := 14) rfl ok d_m_known_13 rfl 0 rfl ?_
  refine r_if_ge (tgt := 21) (n := 17) rfl ok d_m_known_14 (by decide) (fun c3 => ?_) (fun c3 => ?_)
  · replace h := if_p c3 h
    refine r_iload_n (n := 22) rfl ok d_m_known_21 rfl 0 rfl ?_
    obtain rfl := Option.some.inj h
    exact fin _ _ ⟨.int, rfl, rfl⟩ d_m_known_22
  · replace h := if_n c3 h
    refine r_iconst (v := 0) (n := 18) rfl ok d_m_known_17 (by decide) ?_
    refine r_goto (tgt := 22) ok d_m_known_18 (by decide) ?_
    obtain rfl := Option.some.inj h
    exact fin _ _ ⟨.int, rfl, rfl⟩ d_m_known_22
set_option maxHeartbeats 4000000 in
set_option maxRecDepth 20000 in
theorem C_m_valueOf {l : Launch} {G : Gt} {M : Me} {a1 : Int32} {a2 : Int32}  {o : Int32} (h : f_m_valueOf M a1 a2 = some o) : Ct l G (WM G) (rM G) y_m_valueOf b_m_valueOf 4 (some .int) rm_m_valueOf [.ref (G.1 + 0), .int a1, .int a2] M (some (.int o)) M := by
  refine Ct.mk (own := "RetryChainsModel") rfl (by decide) (Nat.le_of_ble_eq_true rfl) ⟨_, rfl⟩ (fun X hXl hXR hXn ok hG fin => ?_)
  subst hXl
  unfold f_m_valueOf at h
  show Wt X M 0 [(0, .ref (G.1 + 0)), (1, .int a1), (2, .int a2)] []
  refine r_aload_n (n := 1) rfl ok d_m_valueOf_0 rfl 0 rfl ?_
  refine r_iload_n (n := 2) rfl ok d_m_valueOf_1 rfl 1 rfl ?_
  refine r_iload_n (n := 3) rfl ok d_m_valueOf_2 rfl 2 rfl ?_
  obtain ⟨r1, hr1, h⟩ := bd_ok h
  refine r_callV (n := 6) rfl ok hG mf_m_known k_1046 ks_20 k_1044 (C_m_known  hr1) ⟨rfl, rfl⟩ (rR hXR ⟨Nat.le_of_ble_eq_true rfl, Nat.le_of_ble_eq_true rfl⟩) rfl rfl (rv_MOD) rfl (Nat.le_of_ble_eq_true rfl) d_m_valueOf_3 ?_
  refine r_istore_n (lv' := [(3, .int r1), (0, .ref (G.1 + 0)), (1, .int a1), (2, .int a2)]) (n := 7) rfl ok d_m_valueOf_6 rfl (lt_n hXn (Nat.le_of_ble_eq_true rfl)) rfl ?_
  refine r_iload_n (n := 8) rfl ok d_m_valueOf_7 rfl 0 rfl ?_
  refine r_sipush (v := 6554) (n := 11) rfl ok d_m_valueOf_8 (by decide) ?_
  refine r_icmp_ge (tgt := 18) (n := 14) rfl ok d_m_valueOf_11 (by decide) (fun c2 => ?_) (fun c2 => ?_)
  · replace h := if_p c2 h
    refine r_iload_n (n := 19) rfl ok d_m_valueOf_18 rfl 0 rfl ?_
    refine r_ldc (n := 21) rfl ok d_m_valueOf_19 k_1056 ?_
    refine r_icmp_le (tgt := 29) (n := 24) rfl ok d_m_valueOf_21 (by decide) (fun c3 => ?_) (fun c3 => ?_)
    · replace h := if_p c3 h
      refine r_iload_n (n := 30) rfl ok d_m_valueOf_29 rfl 0 rfl ?_
      refine r_sipush (v := 9600) (n := 33) rfl ok d_m_valueOf_30 (by decide) ?_
      refine r_imul (n := 34) rfl ok d_m_valueOf_33 ?_
      refine r_aload_n (n := 35) rfl ok d_m_valueOf_34 rfl 1 rfl ?_
      refine r_iload_n (n := 36) rfl ok d_m_valueOf_35 rfl 3 rfl ?_
      obtain ⟨r4, hr4, h⟩ := bd_ok h
      refine r_callV (n := 39) rfl ok hG mf_m_nominal k_1059 ks_23 k_1057 (C_m_nominal  hr4) ⟨rfl, rfl⟩ (rR hXR ⟨Nat.le_of_ble_eq_true rfl, Nat.le_of_ble_eq_true rfl⟩) rfl rfl (rv_MOD) rfl (Nat.le_of_ble_eq_true rfl) d_m_valueOf_36 ?_
      obtain ⟨g5, h⟩ := gd_ok h
      refine r_idiv (n := 40) rfl ok d_m_valueOf_39 g5 ?_
      obtain rfl := Option.some.inj h
      exact fin _ _ ⟨.int, rfl, rfl⟩ d_m_valueOf_40
    · replace h := if_n c3 h
      refine r_ldc (n := 26) rfl ok d_m_valueOf_24 k_1056 ?_
      refine r_goto (tgt := 30) ok d_m_valueOf_26 (by decide) ?_
      refine r_sipush (v := 9600) (n := 33) rfl ok d_m_valueOf_30 (by decide) ?_
      refine r_imul (n := 34) rfl ok d_m_valueOf_33 ?_
      refine r_aload_n (n := 35) rfl ok d_m_valueOf_34 rfl 1 rfl ?_
      refine r_iload_n (n := 36) rfl ok d_m_valueOf_35 rfl 3 rfl ?_
      obtain ⟨r6, hr6, h⟩ := bd_ok h
      refine r_callV (n := 39) rfl ok hG mf_m_nominal k_1059 ks_23 k_1057 (C_m_nominal  hr6) ⟨rfl, rfl⟩ (rR hXR ⟨Nat.le_of_ble_eq_true rfl, Nat.le_of_ble_eq_true rfl⟩) rfl rfl (rv_MOD) rfl (Nat.le_of_ble_eq_true rfl) d_m_valueOf_36 ?_
      obtain ⟨g7, h⟩ := gd_ok h
      refine r_idiv (n := 40) rfl ok d_m_valueOf_39 g7 ?_
      obtain rfl := Option.some.inj h
      exact fin _ _ ⟨.int, rfl, rfl⟩ d_m_valueOf_40
  · replace h := if_n c2 h
    refine r_iconst (v := 0) (n := 15) rfl ok d_m_valueOf_14 (by decide) ?_
    refine r_goto (tgt := 40) ok d_m_valueOf_15 (by decide) ?_
    obtain rfl := Option.some.inj h
    exact fin _ _ ⟨.int, rfl, rfl⟩ d_m_valueOf_40
set_option maxHeartbeats 4000000 in
set_option maxRecDepth 20000 in
theorem C_m_betters {l : Launch} {G : Gt} {M : Me} {a1 : Int32} {a2 : Int32} {a3 : Int32}  {o : Int32} (h : f_m_betters M a1 a2 a3 = some o) : Ct l G (WM G) (rM G) y_m_betters b_m_betters 4 (some .boolean) rm_m_betters [.ref (G.1 + 0), .int a1, .int a2, .int a3] M (some (.int o)) M := by
  refine Ct.mk (own := "RetryChainsModel") rfl (by decide) (Nat.le_of_ble_eq_true rfl) ⟨_, rfl⟩ (fun X hXl hXR hXn ok hG fin => ?_)
  subst hXl
  unfold f_m_betters at h
  show Wt X M 0 [(0, .ref (G.1 + 0)), (1, .int a1), (2, .int a2), (3, .int a3)] []
  refine r_aload_n (n := 1) rfl ok d_m_betters_0 rfl 0 rfl ?_
  refine r_iload_n (n := 2) rfl ok d_m_betters_1 rfl 1 rfl ?_
  refine r_iload_n (n := 3) rfl ok d_m_betters_2 rfl 2 rfl ?_
  obtain ⟨r1, hr1, h⟩ := bd_ok h
  refine r_callV (n := 6) rfl ok hG mf_m_valueOf k_1054 ks_22 k_1052 (C_m_valueOf  hr1) ⟨rfl, rfl⟩ (rR hXR ⟨Nat.le_of_ble_eq_true rfl, Nat.le_of_ble_eq_true rfl⟩) rfl rfl (rv_MOD) rfl (Nat.le_of_ble_eq_true rfl) d_m_betters_3 ?_
  refine r_aload_n (n := 7) rfl ok d_m_betters_6 rfl 0 rfl ?_
  refine r_iload_n (n := 8) rfl ok d_m_betters_7 rfl 1 rfl ?_
  refine r_iload_n (n := 9) rfl ok d_m_betters_8 rfl 3 rfl ?_
  obtain ⟨r2, hr2, h⟩ := bd_ok h
  refine r_callV (n := 12) rfl ok hG mf_m_valueOf k_1054 ks_22 k_1052 (C_m_valueOf  hr2) ⟨rfl, rfl⟩ (rR hXR ⟨Nat.le_of_ble_eq_true rfl, Nat.le_of_ble_eq_true rfl⟩) rfl rfl (rv_MOD) rfl (Nat.le_of_ble_eq_true rfl) d_m_betters_9 ?_
  refine r_icmp_gt (tgt := 45) (n := 15) rfl ok d_m_betters_12 (by decide) (fun c3 => ?_) (fun c3 => ?_)
  · replace h := if_p c3 h
    refine r_iconst (v := 1) (n := 46) rfl ok d_m_betters_45 (by decide) ?_
    refine r_goto (tgt := 50) ok d_m_betters_46 (by decide) ?_
    obtain rfl := Option.some.inj h
    exact fin _ _ ⟨.boolean, rfl, nz1⟩ d_m_betters_50
  · replace h := if_n c3 h
    refine r_aload_n (n := 16) rfl ok d_m_betters_15 rfl 0 rfl ?_
    refine r_iload_n (n := 17) rfl ok d_m_betters_16 rfl 1 rfl ?_
    refine r_iload_n (n := 18) rfl ok d_m_betters_17 rfl 2 rfl ?_
    obtain ⟨r4, hr4, h⟩ := bd_ok h
    refine r_callV (n := 21) rfl ok hG mf_m_valueOf k_1054 ks_22 k_1052 (C_m_valueOf  hr4) ⟨rfl, rfl⟩ (rR hXR ⟨Nat.le_of_ble_eq_true rfl, Nat.le_of_ble_eq_true rfl⟩) rfl rfl (rv_MOD) rfl (Nat.le_of_ble_eq_true rfl) d_m_betters_18 ?_
    refine r_aload_n (n := 22) rfl ok d_m_betters_21 rfl 0 rfl ?_
    refine r_iload_n (n := 23) rfl ok d_m_betters_22 rfl 1 rfl ?_
    refine r_iload_n (n := 24) rfl ok d_m_betters_23 rfl 3 rfl ?_
    obtain ⟨r5, hr5, h⟩ := bd_ok h
    refine r_callV (n := 27) rfl ok hG mf_m_valueOf k_1054 ks_22 k_1052 (C_m_valueOf  hr5) ⟨rfl, rfl⟩ (rR hXR ⟨Nat.le_of_ble_eq_true rfl, Nat.le_of_ble_eq_true rfl⟩) rfl rfl (rv_MOD) rfl (Nat.le_of_ble_eq_true rfl) d_m_betters_24 ?_
    refine r_icmp_ne (tgt := 49) (n := 30) rfl ok d_m_betters_27 (by decide) (fun c6 => ?_) (fun c6 => ?_)
    · replace h := if_n c6 h
      refine r_iconst (v := 0) (n := 50) rfl ok d_m_betters_49 (by decide) ?_
      obtain rfl := Option.some.inj h
      exact fin _ _ ⟨.boolean, rfl, nz0⟩ d_m_betters_50
    · replace h := if_p c6 h
      refine r_aload_n (n := 31) rfl ok d_m_betters_30 rfl 0 rfl ?_
      refine r_iload_n (n := 32) rfl ok d_m_betters_31 rfl 1 rfl ?_
      refine r_iload_n (n := 33) rfl ok d_m_betters_32 rfl 2 rfl ?_
      obtain ⟨r7, hr7, h⟩ := bd_ok h
      refine r_callV (n := 36) rfl ok hG mf_m_known k_1046 ks_20 k_1044 (C_m_known  hr7) ⟨rfl, rfl⟩ (rR hXR ⟨Nat.le_of_ble_eq_true rfl, Nat.le_of_ble_eq_true rfl⟩) rfl rfl (rv_MOD) rfl (Nat.le_of_ble_eq_true rfl) d_m_betters_33 ?_
      refine r_aload_n (n := 37) rfl ok d_m_betters_36 rfl 0 rfl ?_
      refine r_iload_n (n := 38) rfl ok d_m_betters_37 rfl 1 rfl ?_
      refine r_iload_n (n := 39) rfl ok d_m_betters_38 rfl 3 rfl ?_
      obtain ⟨r8, hr8, h⟩ := bd_ok h
      refine r_callV (n := 42) rfl ok hG mf_m_known k_1046 ks_20 k_1044 (C_m_known  hr8) ⟨rfl, rfl⟩ (rR hXR ⟨Nat.le_of_ble_eq_true rfl, Nat.le_of_ble_eq_true rfl⟩) rfl rfl (rv_MOD) rfl (Nat.le_of_ble_eq_true rfl) d_m_betters_39 ?_
      refine r_icmp_le (tgt := 49) (n := 45) rfl ok d_m_betters_42 (by decide) (fun c9 => ?_) (fun c9 => ?_)
      · replace h := if_p c9 h
        refine r_iconst (v := 0) (n := 50) rfl ok d_m_betters_49 (by decide) ?_
        obtain rfl := Option.some.inj h
        exact fin _ _ ⟨.boolean, rfl, nz0⟩ d_m_betters_50
      · replace h := if_n c9 h
        refine r_iconst (v := 1) (n := 46) rfl ok d_m_betters_45 (by decide) ?_
        refine r_goto (tgt := 50) ok d_m_betters_46 (by decide) ?_
        obtain rfl := Option.some.inj h
        exact fin _ _ ⟨.boolean, rfl, nz1⟩ d_m_betters_50
set_option maxHeartbeats 4000000 in
set_option maxRecDepth 20000 in
theorem w_m_bestBut_7 {X : Cx Me} {G : Gt} (ok : Ok X b_m_bestBut "RetryChainsModel") (hG : GM X G) (hXR : X.R = rm_m_bestBut) (hXn : X.nL = 6) {M : Me} {y1 : Int32} {y2 : Int32} {y3 : Int32}  {t : Int32} (kx : ∀ e : Int32, e = t → Wt X M 74 [(4, .int e)] [])  : ∀ (n : Nat) (x : Int32 × Int32), lp n (b_m_bestBut_7 M y1 y2 y3) x = some t → Wt X M 7 [(0, .ref (G.1 + 0)), (1, .int y1), (2, .int y2), (3, .int y3), (4, .int x.1), (5, .int x.2)] [] := by
  intro n x h
  refine lp_W (P := fun x => Wt X M 7 [(0, .ref (G.1 + 0)), (1, .int y1), (2, .int y2), (3, .int y3), (4, .int x.1), (5, .int x.2)] []) (Z := fun t' => t' = t) (fun x r h hk hz => ?_) n x t h rfl
  unfold b_m_bestBut_7 at h
  refine r_iload (n := 9) rfl ok d_m_bestBut_7 5 rfl ?_
  refine r_aload_n (n := 10) rfl ok d_m_bestBut_9 rfl 0 rfl ?_
  refine g_MOD_v (n := 13) rfl ok hG  k_986 d_m_bestBut_10 ?_
  refine r_iconst (v := 1) (n := 14) rfl ok d_m_bestBut_13 (by decide) ?_
  refine al_V (n := 15) rfl ok hG  (show gin 1 600 by decide) d_m_bestBut_14 ?_
  refine r_icmp_ge (tgt := 74) (n := 18) rfl ok d_m_bestBut_15 (by decide) (fun c1 => ?_) (fun c1 => ?_)
  · replace h := if_p c1 h
    obtain rfl := Option.some.inj h
    exact r_sub [4] rfl (show Wt X M 74 [(4, .int x.1)] [] from kx _ (hz _ rfl))
  · replace h := if_n c1 h
    refine r_aload_n (n := 19) rfl ok d_m_bestBut_18 rfl 0 rfl ?_
    refine r_iload_n (n := 20) rfl ok d_m_bestBut_19 rfl 1 rfl ?_
    refine r_iload (n := 22) rfl ok d_m_bestBut_20 5 rfl ?_
    obtain ⟨r2, hr2, h⟩ := bd_ok h
    refine r_callV (n := 25) rfl ok hG mf_m_allows k_1042 ks_19 k_1040 (C_m_allows  hr2) ⟨rfl, rfl⟩ (rR hXR ⟨Nat.le_of_ble_eq_true rfl, Nat.le_of_ble_eq_true rfl⟩) rfl rfl (rv_MOD) rfl (Nat.le_of_ble_eq_true rfl) d_m_bestBut_22 ?_
    refine r_if_eq (tgt := 68) (n := 28) rfl ok d_m_bestBut_25 (by decide) (fun c3 => ?_) (fun c3 => ?_)
    · replace h := if_p c3 h
      obtain ⟨x4, ex4, h⟩ := bd_ok h
      refine r_iinc (lv' := [(5, .int x4), (0, .ref (G.1 + 0)), (1, .int y1), (2, .int y2), (3, .int y3), (4, .int x.1)]) (n := 71) rfl ok d_m_bestBut_68 5 rfl (Option.some.inj ex4) (lt_n hXn (Nat.le_of_ble_eq_true rfl)) rfl ?_
      refine r_goto (tgt := 7) ok d_m_bestBut_71 (by decide) ?_
      obtain rfl := Option.some.inj h
      exact r_sub [1, 2, 3, 4, 5, 0] rfl (show Wt X M 7 [(0, .ref (G.1 + 0)), (1, .int y1), (2, .int y2), (3, .int y3), (4, .int x.1), (5, .int x4)] [] from hk _ rfl)
    · replace h := if_n c3 h
      refine r_iload (n := 30) rfl ok d_m_bestBut_28 5 rfl ?_
      refine r_iload_n (n := 31) rfl ok d_m_bestBut_30 rfl 2 rfl ?_
      refine r_icmp_eq (tgt := 68) (n := 34) rfl ok d_m_bestBut_31 (by decide) (fun c5 => ?_) (fun c5 => ?_)
      · replace h := if_p c5 h
        obtain ⟨x6, ex6, h⟩ := bd_ok h
        refine r_iinc (lv' := [(5, .int x6), (0, .ref (G.1 + 0)), (1, .int y1), (2, .int y2), (3, .int y3), (4, .int x.1)]) (n := 71) rfl ok d_m_bestBut_68 5 rfl (Option.some.inj ex6) (lt_n hXn (Nat.le_of_ble_eq_true rfl)) rfl ?_
        refine r_goto (tgt := 7) ok d_m_bestBut_71 (by decide) ?_
        obtain rfl := Option.some.inj h
        exact r_sub [1, 2, 3, 4, 5, 0] rfl (show Wt X M 7 [(0, .ref (G.1 + 0)), (1, .int y1), (2, .int y2), (3, .int y3), (4, .int x.1), (5, .int x6)] [] from hk _ rfl)
      · replace h := if_n c5 h
        refine r_aload_n (n := 35) rfl ok d_m_bestBut_34 rfl 0 rfl ?_
        refine r_iload_n (n := 36) rfl ok d_m_bestBut_35 rfl 1 rfl ?_
        refine r_iload (n := 38) rfl ok d_m_bestBut_36 5 rfl ?_
        obtain ⟨r7, hr7, h⟩ := bd_ok h
        refine r_callV (n := 41) rfl ok hG mf_m_known k_1046 ks_20 k_1044 (C_m_known  hr7) ⟨rfl, rfl⟩ (rR hXR ⟨Nat.le_of_ble_eq_true rfl, Nat.le_of_ble_eq_true rfl⟩) rfl rfl (rv_MOD) rfl (Nat.le_of_ble_eq_true rfl) d_m_bestBut_38 ?_
        refine r_iload_n (n := 42) rfl ok d_m_bestBut_41 rfl 3 rfl ?_
        refine r_icmp_lt (tgt := 68) (n := 45) rfl ok d_m_bestBut_42 (by decide) (fun c8 => ?_) (fun c8 => ?_)
        · replace h := if_p c8 h
          obtain ⟨x9, ex9, h⟩ := bd_ok h
          refine r_iinc (lv' := [(5, .int x9), (0, .ref (G.1 + 0)), (1, .int y1), (2, .int y2), (3, .int y3), (4, .int x.1)]) (n := 71) rfl ok d_m_bestBut_68 5 rfl (Option.some.inj ex9) (lt_n hXn (Nat.le_of_ble_eq_true rfl)) rfl ?_
          refine r_goto (tgt := 7) ok d_m_bestBut_71 (by decide) ?_
          obtain rfl := Option.some.inj h
          exact r_sub [1, 2, 3, 4, 5, 0] rfl (show Wt X M 7 [(0, .ref (G.1 + 0)), (1, .int y1), (2, .int y2), (3, .int y3), (4, .int x.1), (5, .int x9)] [] from hk _ rfl)
        · replace h := if_n c8 h
          refine r_iload (n := 47) rfl ok d_m_bestBut_45 4 rfl ?_
          refine r_bipush (v := (-9)) (n := 49) rfl ok d_m_bestBut_47 (by decide) ?_
          refine r_icmp_eq (tgt := 64) (n := 52) rfl ok d_m_bestBut_49 (by decide) (fun c10 => ?_) (fun c10 => ?_)
          · replace h := if_p c10 h
            refine r_iload (n := 66) rfl ok d_m_bestBut_64 5 rfl ?_
            refine r_istore (lv' := [(4, .int x.2), (0, .ref (G.1 + 0)), (1, .int y1), (2, .int y2), (3, .int y3), (5, .int x.2)]) (n := 68) rfl ok d_m_bestBut_66 (lt_n hXn (Nat.le_of_ble_eq_true rfl)) rfl ?_
            obtain ⟨x11, ex11, h⟩ := bd_ok h
            refine r_iinc (lv' := [(5, .int x11), (4, .int x.2), (0, .ref (G.1 + 0)), (1, .int y1), (2, .int y2), (3, .int y3)]) (n := 71) rfl ok d_m_bestBut_68 5 rfl (Option.some.inj ex11) (lt_n hXn (Nat.le_of_ble_eq_true rfl)) rfl ?_
            refine r_goto (tgt := 7) ok d_m_bestBut_71 (by decide) ?_
            obtain rfl := Option.some.inj h
            exact r_sub [2, 3, 4, 5, 1, 0] rfl (show Wt X M 7 [(0, .ref (G.1 + 0)), (1, .int y1), (2, .int y2), (3, .int y3), (4, .int x.2), (5, .int x11)] [] from hk _ rfl)
          · replace h := if_n c10 h
            refine r_aload_n (n := 53) rfl ok d_m_bestBut_52 rfl 0 rfl ?_
            refine r_iload_n (n := 54) rfl ok d_m_bestBut_53 rfl 1 rfl ?_
            refine r_iload (n := 56) rfl ok d_m_bestBut_54 5 rfl ?_
            refine r_iload (n := 58) rfl ok d_m_bestBut_56 4 rfl ?_
            obtain ⟨r12, hr12, h⟩ := bd_ok h
            refine r_callV (n := 61) rfl ok hG mf_m_betters k_1050 ks_21 k_1048 (C_m_betters  hr12) ⟨rfl, rfl⟩ (rR hXR ⟨Nat.le_of_ble_eq_true rfl, Nat.le_of_ble_eq_true rfl⟩) rfl rfl (rv_MOD) rfl (Nat.le_of_ble_eq_true rfl) d_m_bestBut_58 ?_
            refine r_if_eq (tgt := 68) (n := 64) rfl ok d_m_bestBut_61 (by decide) (fun c13 => ?_) (fun c13 => ?_)
            · replace h := if_p c13 h
              obtain ⟨x14, ex14, h⟩ := bd_ok h
              refine r_iinc (lv' := [(5, .int x14), (0, .ref (G.1 + 0)), (1, .int y1), (2, .int y2), (3, .int y3), (4, .int x.1)]) (n := 71) rfl ok d_m_bestBut_68 5 rfl (Option.some.inj ex14) (lt_n hXn (Nat.le_of_ble_eq_true rfl)) rfl ?_
              refine r_goto (tgt := 7) ok d_m_bestBut_71 (by decide) ?_
              obtain rfl := Option.some.inj h
              exact r_sub [1, 2, 3, 4, 5, 0] rfl (show Wt X M 7 [(0, .ref (G.1 + 0)), (1, .int y1), (2, .int y2), (3, .int y3), (4, .int x.1), (5, .int x14)] [] from hk _ rfl)
            · replace h := if_n c13 h
              refine r_iload (n := 66) rfl ok d_m_bestBut_64 5 rfl ?_
              refine r_istore (lv' := [(4, .int x.2), (0, .ref (G.1 + 0)), (1, .int y1), (2, .int y2), (3, .int y3), (5, .int x.2)]) (n := 68) rfl ok d_m_bestBut_66 (lt_n hXn (Nat.le_of_ble_eq_true rfl)) rfl ?_
              obtain ⟨x15, ex15, h⟩ := bd_ok h
              refine r_iinc (lv' := [(5, .int x15), (4, .int x.2), (0, .ref (G.1 + 0)), (1, .int y1), (2, .int y2), (3, .int y3)]) (n := 71) rfl ok d_m_bestBut_68 5 rfl (Option.some.inj ex15) (lt_n hXn (Nat.le_of_ble_eq_true rfl)) rfl ?_
              refine r_goto (tgt := 7) ok d_m_bestBut_71 (by decide) ?_
              obtain rfl := Option.some.inj h
              exact r_sub [2, 3, 4, 5, 1, 0] rfl (show Wt X M 7 [(0, .ref (G.1 + 0)), (1, .int y1), (2, .int y2), (3, .int y3), (4, .int x.2), (5, .int x15)] [] from hk _ rfl)
set_option maxHeartbeats 4000000 in
set_option maxRecDepth 20000 in
theorem C_m_bestBut {l : Launch} {G : Gt} {M : Me} {a1 : Int32} {a2 : Int32} {a3 : Int32}  {o : Int32} (h : f_m_bestBut M a1 a2 a3 = some o) : Ct l G (WM G) (rM G) y_m_bestBut b_m_bestBut 6 (some .int) rm_m_bestBut [.ref (G.1 + 0), .int a1, .int a2, .int a3] M (some (.int o)) M := by
  refine Ct.mk (own := "RetryChainsModel") rfl (by decide) (Nat.le_of_ble_eq_true rfl) ⟨_, rfl⟩ (fun X hXl hXR hXn ok hG fin => ?_)
  subst hXl
  unfold f_m_bestBut at h
  show Wt X M 0 [(0, .ref (G.1 + 0)), (1, .int a1), (2, .int a2), (3, .int a3)] []
  refine r_bipush (v := (-9)) (n := 2) rfl ok d_m_bestBut_0 (by decide) ?_
  refine r_istore (lv' := [(4, .int (-9)), (0, .ref (G.1 + 0)), (1, .int a1), (2, .int a2), (3, .int a3)]) (n := 4) rfl ok d_m_bestBut_2 (lt_n hXn (Nat.le_of_ble_eq_true rfl)) rfl ?_
  refine r_iconst (v := 0) (n := 5) rfl ok d_m_bestBut_4 (by decide) ?_
  refine r_istore (lv' := [(5, .int 0), (4, .int (-9)), (0, .ref (G.1 + 0)), (1, .int a1), (2, .int a2), (3, .int a3)]) (n := 7) rfl ok d_m_bestBut_5 (lt_n hXn (Nat.le_of_ble_eq_true rfl)) rfl ?_
  obtain ⟨t16, ht16, h⟩ := bd_ok h
  refine r_sub [2, 3, 4, 5, 1, 0] rfl (show Wt X M 7 [(0, .ref (G.1 + 0)), (1, .int a1), (2, .int a2), (3, .int a3), (4, .int (-9)), (5, .int 0)] [] from w_m_bestBut_7 ok hG hXR hXn  ?_ _ _ ht16)
  · intro e17 he
    subst he
    refine r_iload (n := 76) rfl ok d_m_bestBut_74 0 rfl ?_
    obtain rfl := Option.some.inj h
    exact fin _ _ ⟨.int, rfl, rfl⟩ d_m_bestBut_76
set_option maxHeartbeats 4000000 in
set_option maxRecDepth 20000 in
theorem w_m_surestOf_24 {X : Cx Me} {G : Gt} (ok : Ok X b_m_surestOf "RetryChainsModel") (hG : GM X G) (hXR : X.R = rm_m_surestOf) (hXn : X.nL = 5) {M : Me} {y1 : Int32}  {t : Int32} (kx : ∀ e : Int32, e = t → Wt X M 108 [(3, .int e)] [])  : ∀ (n : Nat) (x : Int32 × Int32), lp n (b_m_surestOf_24 M y1) x = some t → Wt X M 24 [(0, .ref (G.1 + 0)), (1, .int y1), (3, .int x.1), (4, .int x.2)] [] := by
  intro n x h
  refine lp_W (P := fun x => Wt X M 24 [(0, .ref (G.1 + 0)), (1, .int y1), (3, .int x.1), (4, .int x.2)] []) (Z := fun t' => t' = t) (fun x r h hk hz => ?_) n x t h rfl
  unfold b_m_surestOf_24 at h
  refine r_iload (n := 26) rfl ok d_m_surestOf_24 3 rfl ?_
  refine r_aload_n (n := 27) rfl ok d_m_surestOf_26 rfl 0 rfl ?_
  refine g_MOD_v (n := 30) rfl ok hG  k_986 d_m_surestOf_27 ?_
  refine r_iconst (v := 1) (n := 31) rfl ok d_m_surestOf_30 (by decide) ?_
  refine al_V (n := 32) rfl ok hG  (show gin 1 600 by decide) d_m_surestOf_31 ?_
  refine r_icmp_ge (tgt := 108) (n := 35) rfl ok d_m_surestOf_32 (by decide) (fun c3 => ?_) (fun c3 => ?_)
  · replace h := if_p c3 h
    obtain rfl := Option.some.inj h
    exact r_sub [2] rfl (show Wt X M 108 [(3, .int x.1)] [] from kx _ (hz _ rfl))
  · replace h := if_n c3 h
    refine r_aload_n (n := 36) rfl ok d_m_surestOf_35 rfl 0 rfl ?_
    refine r_iload_n (n := 37) rfl ok d_m_surestOf_36 rfl 1 rfl ?_
    refine r_iload (n := 39) rfl ok d_m_surestOf_37 3 rfl ?_
    obtain ⟨r4, hr4, h⟩ := bd_ok h
    refine r_callV (n := 42) rfl ok hG mf_m_allows k_1042 ks_19 k_1040 (C_m_allows  hr4) ⟨rfl, rfl⟩ (rR hXR ⟨Nat.le_of_ble_eq_true rfl, Nat.le_of_ble_eq_true rfl⟩) rfl rfl (rv_MOD) rfl (Nat.le_of_ble_eq_true rfl) d_m_surestOf_39 ?_
    refine r_if_eq (tgt := 102) (n := 45) rfl ok d_m_surestOf_42 (by decide) (fun c5 => ?_) (fun c5 => ?_)
    · replace h := if_p c5 h
      obtain ⟨x6, ex6, h⟩ := bd_ok h
      refine r_iinc (lv' := [(4, .int x6), (0, .ref (G.1 + 0)), (1, .int y1), (3, .int x.1)]) (n := 105) rfl ok d_m_surestOf_102 3 rfl (Option.some.inj ex6) (lt_n hXn (Nat.le_of_ble_eq_true rfl)) rfl ?_
      refine r_goto (tgt := 24) ok d_m_surestOf_105 (by decide) ?_
      obtain rfl := Option.some.inj h
      exact r_sub [1, 2, 3, 0] rfl (show Wt X M 24 [(0, .ref (G.1 + 0)), (1, .int y1), (3, .int x.1), (4, .int x6)] [] from hk _ rfl)
    · replace h := if_n c5 h
      refine r_iload_n (n := 46) rfl ok d_m_surestOf_45 rfl 2 rfl ?_
      refine r_bipush (v := (-9)) (n := 48) rfl ok d_m_surestOf_46 (by decide) ?_
      refine r_icmp_eq (tgt := 99) (n := 51) rfl ok d_m_surestOf_48 (by decide) (fun c7 => ?_) (fun c7 => ?_)
      · replace h := if_p c7 h
        refine r_iload (n := 101) rfl ok d_m_surestOf_99 3 rfl ?_
        refine r_istore_n (lv' := [(3, .int x.2), (0, .ref (G.1 + 0)), (1, .int y1), (4, .int x.2)]) (n := 102) rfl ok d_m_surestOf_101 rfl (lt_n hXn (Nat.le_of_ble_eq_true rfl)) rfl ?_
        obtain ⟨x8, ex8, h⟩ := bd_ok h
        refine r_iinc (lv' := [(4, .int x8), (3, .int x.2), (0, .ref (G.1 + 0)), (1, .int y1)]) (n := 105) rfl ok d_m_surestOf_102 3 rfl (Option.some.inj ex8) (lt_n hXn (Nat.le_of_ble_eq_true rfl)) rfl ?_
        refine r_goto (tgt := 24) ok d_m_surestOf_105 (by decide) ?_
        obtain rfl := Option.some.inj h
        exact r_sub [2, 3, 1, 0] rfl (show Wt X M 24 [(0, .ref (G.1 + 0)), (1, .int y1), (3, .int x.2), (4, .int x8)] [] from hk _ rfl)
      · replace h := if_n c7 h
        refine r_aload_n (n := 52) rfl ok d_m_surestOf_51 rfl 0 rfl ?_
        refine r_iload_n (n := 53) rfl ok d_m_surestOf_52 rfl 1 rfl ?_
        refine r_iload (n := 55) rfl ok d_m_surestOf_53 3 rfl ?_
        obtain ⟨r9, hr9, h⟩ := bd_ok h
        refine r_callV (n := 58) rfl ok hG mf_m_known k_1046 ks_20 k_1044 (C_m_known  hr9) ⟨rfl, rfl⟩ (rR hXR ⟨Nat.le_of_ble_eq_true rfl, Nat.le_of_ble_eq_true rfl⟩) rfl rfl (rv_MOD) rfl (Nat.le_of_ble_eq_true rfl) d_m_surestOf_55 ?_
        refine r_aload_n (n := 59) rfl ok d_m_surestOf_58 rfl 0 rfl ?_
        refine r_iload_n (n := 60) rfl ok d_m_surestOf_59 rfl 1 rfl ?_
        refine r_iload_n (n := 61) rfl ok d_m_surestOf_60 rfl 2 rfl ?_
        obtain ⟨r10, hr10, h⟩ := bd_ok h
        refine r_callV (n := 64) rfl ok hG mf_m_known k_1046 ks_20 k_1044 (C_m_known  hr10) ⟨rfl, rfl⟩ (rR hXR ⟨Nat.le_of_ble_eq_true rfl, Nat.le_of_ble_eq_true rfl⟩) rfl rfl (rv_MOD) rfl (Nat.le_of_ble_eq_true rfl) d_m_surestOf_61 ?_
        refine r_icmp_gt (tgt := 99) (n := 67) rfl ok d_m_surestOf_64 (by decide) (fun c11 => ?_) (fun c11 => ?_)
        · replace h := if_p c11 h
          refine r_iload (n := 101) rfl ok d_m_surestOf_99 3 rfl ?_
          refine r_istore_n (lv' := [(3, .int x.2), (0, .ref (G.1 + 0)), (1, .int y1), (4, .int x.2)]) (n := 102) rfl ok d_m_surestOf_101 rfl (lt_n hXn (Nat.le_of_ble_eq_true rfl)) rfl ?_
          obtain ⟨x12, ex12, h⟩ := bd_ok h
          refine r_iinc (lv' := [(4, .int x12), (3, .int x.2), (0, .ref (G.1 + 0)), (1, .int y1)]) (n := 105) rfl ok d_m_surestOf_102 3 rfl (Option.some.inj ex12) (lt_n hXn (Nat.le_of_ble_eq_true rfl)) rfl ?_
          refine r_goto (tgt := 24) ok d_m_surestOf_105 (by decide) ?_
          obtain rfl := Option.some.inj h
          exact r_sub [2, 3, 1, 0] rfl (show Wt X M 24 [(0, .ref (G.1 + 0)), (1, .int y1), (3, .int x.2), (4, .int x12)] [] from hk _ rfl)
        · replace h := if_n c11 h
          refine r_aload_n (n := 68) rfl ok d_m_surestOf_67 rfl 0 rfl ?_
          refine r_iload_n (n := 69) rfl ok d_m_surestOf_68 rfl 1 rfl ?_
          refine r_iload (n := 71) rfl ok d_m_surestOf_69 3 rfl ?_
          obtain ⟨r13, hr13, h⟩ := bd_ok h
          refine r_callV (n := 74) rfl ok hG mf_m_known k_1046 ks_20 k_1044 (C_m_known  hr13) ⟨rfl, rfl⟩ (rR hXR ⟨Nat.le_of_ble_eq_true rfl, Nat.le_of_ble_eq_true rfl⟩) rfl rfl (rv_MOD) rfl (Nat.le_of_ble_eq_true rfl) d_m_surestOf_71 ?_
          refine r_aload_n (n := 75) rfl ok d_m_surestOf_74 rfl 0 rfl ?_
          refine r_iload_n (n := 76) rfl ok d_m_surestOf_75 rfl 1 rfl ?_
          refine r_iload_n (n := 77) rfl ok d_m_surestOf_76 rfl 2 rfl ?_
          obtain ⟨r14, hr14, h⟩ := bd_ok h
          refine r_callV (n := 80) rfl ok hG mf_m_known k_1046 ks_20 k_1044 (C_m_known  hr14) ⟨rfl, rfl⟩ (rR hXR ⟨Nat.le_of_ble_eq_true rfl, Nat.le_of_ble_eq_true rfl⟩) rfl rfl (rv_MOD) rfl (Nat.le_of_ble_eq_true rfl) d_m_surestOf_77 ?_
          refine r_icmp_ne (tgt := 102) (n := 83) rfl ok d_m_surestOf_80 (by decide) (fun c15 => ?_) (fun c15 => ?_)
          · replace h := if_n c15 h
            obtain ⟨x16, ex16, h⟩ := bd_ok h
            refine r_iinc (lv' := [(4, .int x16), (0, .ref (G.1 + 0)), (1, .int y1), (3, .int x.1)]) (n := 105) rfl ok d_m_surestOf_102 3 rfl (Option.some.inj ex16) (lt_n hXn (Nat.le_of_ble_eq_true rfl)) rfl ?_
            refine r_goto (tgt := 24) ok d_m_surestOf_105 (by decide) ?_
            obtain rfl := Option.some.inj h
            exact r_sub [1, 2, 3, 0] rfl (show Wt X M 24 [(0, .ref (G.1 + 0)), (1, .int y1), (3, .int x.1), (4, .int x16)] [] from hk _ rfl)
          · replace h := if_p c15 h
            refine r_aload_n (n := 84) rfl ok d_m_surestOf_83 rfl 0 rfl ?_
            refine r_iload_n (n := 85) rfl ok d_m_surestOf_84 rfl 1 rfl ?_
            refine r_iload (n := 87) rfl ok d_m_surestOf_85 3 rfl ?_
            obtain ⟨r17, hr17, h⟩ := bd_ok h
            refine r_callV (n := 90) rfl ok hG mf_m_valueOf k_1054 ks_22 k_1052 (C_m_valueOf  hr17) ⟨rfl, rfl⟩ (rR hXR ⟨Nat.le_of_ble_eq_true rfl, Nat.le_of_ble_eq_true rfl⟩) rfl rfl (rv_MOD) rfl (Nat.le_of_ble_eq_true rfl) d_m_surestOf_87 ?_
            refine r_aload_n (n := 91) rfl ok d_m_surestOf_90 rfl 0 rfl ?_
            refine r_iload_n (n := 92) rfl ok d_m_surestOf_91 rfl 1 rfl ?_
            refine r_iload_n (n := 93) rfl ok d_m_surestOf_92 rfl 2 rfl ?_
            obtain ⟨r18, hr18, h⟩ := bd_ok h
            refine r_callV (n := 96) rfl ok hG mf_m_valueOf k_1054 ks_22 k_1052 (C_m_valueOf  hr18) ⟨rfl, rfl⟩ (rR hXR ⟨Nat.le_of_ble_eq_true rfl, Nat.le_of_ble_eq_true rfl⟩) rfl rfl (rv_MOD) rfl (Nat.le_of_ble_eq_true rfl) d_m_surestOf_93 ?_
            refine r_icmp_le (tgt := 102) (n := 99) rfl ok d_m_surestOf_96 (by decide) (fun c19 => ?_) (fun c19 => ?_)
            · replace h := if_p c19 h
              obtain ⟨x20, ex20, h⟩ := bd_ok h
              refine r_iinc (lv' := [(4, .int x20), (0, .ref (G.1 + 0)), (1, .int y1), (3, .int x.1)]) (n := 105) rfl ok d_m_surestOf_102 3 rfl (Option.some.inj ex20) (lt_n hXn (Nat.le_of_ble_eq_true rfl)) rfl ?_
              refine r_goto (tgt := 24) ok d_m_surestOf_105 (by decide) ?_
              obtain rfl := Option.some.inj h
              exact r_sub [1, 2, 3, 0] rfl (show Wt X M 24 [(0, .ref (G.1 + 0)), (1, .int y1), (3, .int x.1), (4, .int x20)] [] from hk _ rfl)
            · replace h := if_n c19 h
              refine r_iload (n := 101) rfl ok d_m_surestOf_99 3 rfl ?_
              refine r_istore_n (lv' := [(3, .int x.2), (0, .ref (G.1 + 0)), (1, .int y1), (4, .int x.2)]) (n := 102) rfl ok d_m_surestOf_101 rfl (lt_n hXn (Nat.le_of_ble_eq_true rfl)) rfl ?_
              obtain ⟨x21, ex21, h⟩ := bd_ok h
              refine r_iinc (lv' := [(4, .int x21), (3, .int x.2), (0, .ref (G.1 + 0)), (1, .int y1)]) (n := 105) rfl ok d_m_surestOf_102 3 rfl (Option.some.inj ex21) (lt_n hXn (Nat.le_of_ble_eq_true rfl)) rfl ?_
              refine r_goto (tgt := 24) ok d_m_surestOf_105 (by decide) ?_
              obtain rfl := Option.some.inj h
              exact r_sub [2, 3, 1, 0] rfl (show Wt X M 24 [(0, .ref (G.1 + 0)), (1, .int y1), (3, .int x.2), (4, .int x21)] [] from hk _ rfl)
set_option maxHeartbeats 4000000 in
set_option maxRecDepth 20000 in
theorem C_m_surestOf {l : Launch} {G : Gt} {M : Me} {a1 : Int32}  {o : Int32} (h : f_m_surestOf M a1 = some o) : Ct l G (WM G) (rM G) y_m_surestOf b_m_surestOf 5 (some .int) rm_m_surestOf [.ref (G.1 + 0), .int a1] M (some (.int o)) M := by
  refine Ct.mk (own := "RetryChainsModel") rfl (by decide) (Nat.le_of_ble_eq_true rfl) ⟨_, rfl⟩ (fun X hXl hXR hXn ok hG fin => ?_)
  subst hXl
  unfold f_m_surestOf at h
  show Wt X M 0 [(0, .ref (G.1 + 0)), (1, .int a1)] []
  refine r_aload_n (n := 1) rfl ok d_m_surestOf_0 rfl 0 rfl ?_
  refine r_iload_n (n := 2) rfl ok d_m_surestOf_1 rfl 1 rfl ?_
  refine r_bipush (v := (-9)) (n := 4) rfl ok d_m_surestOf_2 (by decide) ?_
  refine r_ldc (n := 6) rfl ok d_m_surestOf_4 k_1072 ?_
  obtain ⟨r1, hr1, h⟩ := bd_ok h
  refine r_callV (n := 9) rfl ok hG mf_m_bestBut k_1038 ks_18 k_1036 (C_m_bestBut  hr1) ⟨rfl, rfl⟩ (rR hXR ⟨Nat.le_of_ble_eq_true rfl, Nat.le_of_ble_eq_true rfl⟩) rfl rfl (rv_MOD) rfl (Nat.le_of_ble_eq_true rfl) d_m_surestOf_6 ?_
  refine r_istore_n (lv' := [(2, .int r1), (0, .ref (G.1 + 0)), (1, .int a1)]) (n := 10) rfl ok d_m_surestOf_9 rfl (lt_n hXn (Nat.le_of_ble_eq_true rfl)) rfl ?_
  refine r_iload_n (n := 11) rfl ok d_m_surestOf_10 rfl 0 rfl ?_
  refine r_bipush (v := (-9)) (n := 13) rfl ok d_m_surestOf_11 (by decide) ?_
  refine r_icmp_eq (tgt := 18) (n := 16) rfl ok d_m_surestOf_13 (by decide) (fun c2 => ?_) (fun c2 => ?_)
  · replace h := if_p c2 h
    refine r_bipush (v := (-9)) (n := 20) rfl ok d_m_surestOf_18 (by decide) ?_
    refine r_istore_n (lv' := [(3, .int (-9)), (2, .int r1), (0, .ref (G.1 + 0)), (1, .int a1)]) (n := 21) rfl ok d_m_surestOf_20 rfl (lt_n hXn (Nat.le_of_ble_eq_true rfl)) rfl ?_
    refine r_iconst (v := 0) (n := 22) rfl ok d_m_surestOf_21 (by decide) ?_
    refine r_istore (lv' := [(4, .int 0), (3, .int (-9)), (2, .int r1), (0, .ref (G.1 + 0)), (1, .int a1)]) (n := 24) rfl ok d_m_surestOf_22 (lt_n hXn (Nat.le_of_ble_eq_true rfl)) rfl ?_
    obtain ⟨t22, ht22, h⟩ := bd_ok h
    refine r_sub [3, 4, 1, 0] rfl (show Wt X M 24 [(0, .ref (G.1 + 0)), (1, .int a1), (3, .int (-9)), (4, .int 0)] [] from w_m_surestOf_24 ok hG hXR hXn  ?_ _ _ ht22)
    · intro e23 he
      subst he
      refine r_iload_n (n := 109) rfl ok d_m_surestOf_108 rfl 0 rfl ?_
      obtain rfl := Option.some.inj h
      exact fin _ _ ⟨.int, rfl, rfl⟩ d_m_surestOf_109
  · replace h := if_n c2 h
    refine r_iload_n (n := 17) rfl ok d_m_surestOf_16 rfl 0 rfl ?_
    obtain rfl := Option.some.inj h
    exact fin _ _ ⟨.int, rfl, rfl⟩ d_m_surestOf_17
set_option maxHeartbeats 4000000 in
set_option maxRecDepth 20000 in
theorem w_m_slowestOf_5 {X : Cx Me} {G : Gt} (ok : Ok X b_m_slowestOf "RetryChainsModel") (hG : GM X G) (hXR : X.R = rm_m_slowestOf) (hXn : X.nL = 4) {M : Me} {y1 : Int32}  {t : Int32} (kx : ∀ e : Int32, e = t → Wt X M 51 [(2, .int e)] [])  : ∀ (n : Nat) (x : Int32 × Int32), lp n (b_m_slowestOf_5 M y1) x = some t → Wt X M 5 [(0, .ref (G.1 + 0)), (1, .int y1), (2, .int x.1), (3, .int x.2)] [] := by
  intro n x h
  refine lp_W (P := fun x => Wt X M 5 [(0, .ref (G.1 + 0)), (1, .int y1), (2, .int x.1), (3, .int x.2)] []) (Z := fun t' => t' = t) (fun x r h hk hz => ?_) n x t h rfl
  unfold b_m_slowestOf_5 at h
  refine r_iload_n (n := 6) rfl ok d_m_slowestOf_5 rfl 3 rfl ?_
  refine r_aload_n (n := 7) rfl ok d_m_slowestOf_6 rfl 0 rfl ?_
  refine g_MOD_v (n := 10) rfl ok hG  k_986 d_m_slowestOf_7 ?_
  refine r_iconst (v := 1) (n := 11) rfl ok d_m_slowestOf_10 (by decide) ?_
  refine al_V (n := 12) rfl ok hG  (show gin 1 600 by decide) d_m_slowestOf_11 ?_
  refine r_icmp_ge (tgt := 51) (n := 15) rfl ok d_m_slowestOf_12 (by decide) (fun c1 => ?_) (fun c1 => ?_)
  · replace h := if_p c1 h
    obtain rfl := Option.some.inj h
    exact r_sub [2] rfl (show Wt X M 51 [(2, .int x.1)] [] from kx _ (hz _ rfl))
  · replace h := if_n c1 h
    refine r_aload_n (n := 16) rfl ok d_m_slowestOf_15 rfl 0 rfl ?_
    refine r_iload_n (n := 17) rfl ok d_m_slowestOf_16 rfl 1 rfl ?_
    refine r_iload_n (n := 18) rfl ok d_m_slowestOf_17 rfl 3 rfl ?_
    obtain ⟨r2, hr2, h⟩ := bd_ok h
    refine r_callV (n := 21) rfl ok hG mf_m_allows k_1042 ks_19 k_1040 (C_m_allows  hr2) ⟨rfl, rfl⟩ (rR hXR ⟨Nat.le_of_ble_eq_true rfl, Nat.le_of_ble_eq_true rfl⟩) rfl rfl (rv_MOD) rfl (Nat.le_of_ble_eq_true rfl) d_m_slowestOf_18 ?_
    refine r_if_eq (tgt := 45) (n := 24) rfl ok d_m_slowestOf_21 (by decide) (fun c3 => ?_) (fun c3 => ?_)
    · replace h := if_p c3 h
      obtain ⟨x4, ex4, h⟩ := bd_ok h
      refine r_iinc (lv' := [(3, .int x4), (0, .ref (G.1 + 0)), (1, .int y1), (2, .int x.1)]) (n := 48) rfl ok d_m_slowestOf_45 3 rfl (Option.some.inj ex4) (lt_n hXn (Nat.le_of_ble_eq_true rfl)) rfl ?_
      refine r_goto (tgt := 5) ok d_m_slowestOf_48 (by decide) ?_
      obtain rfl := Option.some.inj h
      exact r_sub [1, 2, 3, 0] rfl (show Wt X M 5 [(0, .ref (G.1 + 0)), (1, .int y1), (2, .int x.1), (3, .int x4)] [] from hk _ rfl)
    · replace h := if_n c3 h
      refine r_iload_n (n := 25) rfl ok d_m_slowestOf_24 rfl 2 rfl ?_
      refine r_bipush (v := (-9)) (n := 27) rfl ok d_m_slowestOf_25 (by decide) ?_
      refine r_icmp_eq (tgt := 43) (n := 30) rfl ok d_m_slowestOf_27 (by decide) (fun c5 => ?_) (fun c5 => ?_)
      · replace h := if_p c5 h
        refine r_iload_n (n := 44) rfl ok d_m_slowestOf_43 rfl 3 rfl ?_
        refine r_istore_n (lv' := [(2, .int x.2), (0, .ref (G.1 + 0)), (1, .int y1), (3, .int x.2)]) (n := 45) rfl ok d_m_slowestOf_44 rfl (lt_n hXn (Nat.le_of_ble_eq_true rfl)) rfl ?_
        obtain ⟨x6, ex6, h⟩ := bd_ok h
        refine r_iinc (lv' := [(3, .int x6), (2, .int x.2), (0, .ref (G.1 + 0)), (1, .int y1)]) (n := 48) rfl ok d_m_slowestOf_45 3 rfl (Option.some.inj ex6) (lt_n hXn (Nat.le_of_ble_eq_true rfl)) rfl ?_
        refine r_goto (tgt := 5) ok d_m_slowestOf_48 (by decide) ?_
        obtain rfl := Option.some.inj h
        exact r_sub [2, 3, 1, 0] rfl (show Wt X M 5 [(0, .ref (G.1 + 0)), (1, .int y1), (2, .int x.2), (3, .int x6)] [] from hk _ rfl)
      · replace h := if_n c5 h
        refine r_aload_n (n := 31) rfl ok d_m_slowestOf_30 rfl 0 rfl ?_
        refine r_iload_n (n := 32) rfl ok d_m_slowestOf_31 rfl 3 rfl ?_
        obtain ⟨r7, hr7, h⟩ := bd_ok h
        refine r_callV (n := 35) rfl ok hG mf_m_nominal k_1059 ks_23 k_1057 (C_m_nominal  hr7) ⟨rfl, rfl⟩ (rR hXR ⟨Nat.le_of_ble_eq_true rfl, Nat.le_of_ble_eq_true rfl⟩) rfl rfl (rv_MOD) rfl (Nat.le_of_ble_eq_true rfl) d_m_slowestOf_32 ?_
        refine r_aload_n (n := 36) rfl ok d_m_slowestOf_35 rfl 0 rfl ?_
        refine r_iload_n (n := 37) rfl ok d_m_slowestOf_36 rfl 2 rfl ?_
        obtain ⟨r8, hr8, h⟩ := bd_ok h
        refine r_callV (n := 40) rfl ok hG mf_m_nominal k_1059 ks_23 k_1057 (C_m_nominal  hr8) ⟨rfl, rfl⟩ (rR hXR ⟨Nat.le_of_ble_eq_true rfl, Nat.le_of_ble_eq_true rfl⟩) rfl rfl (rv_MOD) rfl (Nat.le_of_ble_eq_true rfl) d_m_slowestOf_37 ?_
        refine r_icmp_le (tgt := 45) (n := 43) rfl ok d_m_slowestOf_40 (by decide) (fun c9 => ?_) (fun c9 => ?_)
        · replace h := if_p c9 h
          obtain ⟨x10, ex10, h⟩ := bd_ok h
          refine r_iinc (lv' := [(3, .int x10), (0, .ref (G.1 + 0)), (1, .int y1), (2, .int x.1)]) (n := 48) rfl ok d_m_slowestOf_45 3 rfl (Option.some.inj ex10) (lt_n hXn (Nat.le_of_ble_eq_true rfl)) rfl ?_
          refine r_goto (tgt := 5) ok d_m_slowestOf_48 (by decide) ?_
          obtain rfl := Option.some.inj h
          exact r_sub [1, 2, 3, 0] rfl (show Wt X M 5 [(0, .ref (G.1 + 0)), (1, .int y1), (2, .int x.1), (3, .int x10)] [] from hk _ rfl)
        · replace h := if_n c9 h
          refine r_iload_n (n := 44) rfl ok d_m_slowestOf_43 rfl 3 rfl ?_
          refine r_istore_n (lv' := [(2, .int x.2), (0, .ref (G.1 + 0)), (1, .int y1), (3, .int x.2)]) (n := 45) rfl ok d_m_slowestOf_44 rfl (lt_n hXn (Nat.le_of_ble_eq_true rfl)) rfl ?_
          obtain ⟨x11, ex11, h⟩ := bd_ok h
          refine r_iinc (lv' := [(3, .int x11), (2, .int x.2), (0, .ref (G.1 + 0)), (1, .int y1)]) (n := 48) rfl ok d_m_slowestOf_45 3 rfl (Option.some.inj ex11) (lt_n hXn (Nat.le_of_ble_eq_true rfl)) rfl ?_
          refine r_goto (tgt := 5) ok d_m_slowestOf_48 (by decide) ?_
          obtain rfl := Option.some.inj h
          exact r_sub [2, 3, 1, 0] rfl (show Wt X M 5 [(0, .ref (G.1 + 0)), (1, .int y1), (2, .int x.2), (3, .int x11)] [] from hk _ rfl)
set_option maxHeartbeats 4000000 in
set_option maxRecDepth 20000 in
theorem C_m_slowestOf {l : Launch} {G : Gt} {M : Me} {a1 : Int32}  {o : Int32} (h : f_m_slowestOf M a1 = some o) : Ct l G (WM G) (rM G) y_m_slowestOf b_m_slowestOf 4 (some .int) rm_m_slowestOf [.ref (G.1 + 0), .int a1] M (some (.int o)) M := by
  refine Ct.mk (own := "RetryChainsModel") rfl (by decide) (Nat.le_of_ble_eq_true rfl) ⟨_, rfl⟩ (fun X hXl hXR hXn ok hG fin => ?_)
  subst hXl
  unfold f_m_slowestOf at h
  show Wt X M 0 [(0, .ref (G.1 + 0)), (1, .int a1)] []
  refine r_bipush (v := (-9)) (n := 2) rfl ok d_m_slowestOf_0 (by decide) ?_
  refine r_istore_n (lv' := [(2, .int (-9)), (0, .ref (G.1 + 0)), (1, .int a1)]) (n := 3) rfl ok d_m_slowestOf_2 rfl (lt_n hXn (Nat.le_of_ble_eq_true rfl)) rfl ?_
  refine r_iconst (v := 0) (n := 4) rfl ok d_m_slowestOf_3 (by decide) ?_
  refine r_istore_n (lv' := [(3, .int 0), (2, .int (-9)), (0, .ref (G.1 + 0)), (1, .int a1)]) (n := 5) rfl ok d_m_slowestOf_4 rfl (lt_n hXn (Nat.le_of_ble_eq_true rfl)) rfl ?_
  obtain ⟨t12, ht12, h⟩ := bd_ok h
  refine r_sub [2, 3, 1, 0] rfl (show Wt X M 5 [(0, .ref (G.1 + 0)), (1, .int a1), (2, .int (-9)), (3, .int 0)] [] from w_m_slowestOf_5 ok hG hXR hXn  ?_ _ _ ht12)
  · intro e13 he
    subst he
    refine r_iload_n (n := 52) rfl ok d_m_slowestOf_51 rfl 0 rfl ?_
    obtain rfl := Option.some.inj h
    exact fin _ _ ⟨.int, rfl, rfl⟩ d_m_slowestOf_52
set_option maxHeartbeats 4000000 in
set_option maxRecDepth 20000 in
theorem C_m_fillRoles {l : Launch} {G : Gt} {M : Me} {a1 : Int32}  {o : Me} (h : f_m_fillRoles M a1 = some o) : Ct l G (WM G) (rM G) y_m_fillRoles b_m_fillRoles 4 none rm_m_fillRoles [.ref (G.1 + 0), .int a1] M (none) o := by
  refine Ct.mk (own := "RetryChainsModel") rfl (by decide) (Nat.le_of_ble_eq_true rfl) rfl (fun X hXl hXR hXn ok hG fin => ?_)
  subst hXl
  unfold f_m_fillRoles at h
  show Wt X M 0 [(0, .ref (G.1 + 0)), (1, .int a1)] []
  refine r_iload_n (n := 1) rfl ok d_m_fillRoles_0 rfl 1 rfl ?_
  obtain ⟨r1, hr1, h⟩ := bd_ok h
  refine r_callS (n := 4) rfl ok hG mf_m_side k_1034 k_1033 (C_m_side  hr1) ⟨rfl, rfl⟩ (rR hXR ⟨Nat.le_of_ble_eq_true rfl, Nat.le_of_ble_eq_true rfl⟩) rfl rfl (Nat.le_of_ble_eq_true rfl) d_m_fillRoles_1 ?_
  refine r_bipush (v := 18) (n := 6) rfl ok d_m_fillRoles_4 (by decide) ?_
  refine r_iadd (n := 7) rfl ok d_m_fillRoles_6 ?_
  obtain ⟨x2, ex2, h⟩ := bd_ok h
  refine r_ti (Option.some.inj ex2).symm ?_
  refine r_istore_n (lv' := [(2, .int x2), (0, .ref (G.1 + 0)), (1, .int a1)]) (n := 8) rfl ok d_m_fillRoles_7 rfl (lt_n hXn (Nat.le_of_ble_eq_true rfl)) rfl ?_
  refine r_aload_n (n := 9) rfl ok d_m_fillRoles_8 rfl 1 rfl ?_
  refine g_MOD_v (n := 12) rfl ok hG  k_986 d_m_fillRoles_9 ?_
  refine r_iload_n (n := 13) rfl ok d_m_fillRoles_12 rfl 0 rfl ?_
  refine r_aload_n (n := 14) rfl ok d_m_fillRoles_13 rfl 1 rfl ?_
  refine r_iload_n (n := 15) rfl ok d_m_fillRoles_14 rfl 2 rfl ?_
  refine r_bipush (v := (-9)) (n := 17) rfl ok d_m_fillRoles_15 (by decide) ?_
  refine r_iconst (v := 0) (n := 18) rfl ok d_m_fillRoles_17 (by decide) ?_
  obtain ⟨r3, hr3, h⟩ := bd_ok h
  refine r_callV (n := 21) rfl ok hG mf_m_bestBut k_1038 ks_18 k_1036 (C_m_bestBut  hr3) ⟨rfl, rfl⟩ (rR hXR ⟨Nat.le_of_ble_eq_true rfl, Nat.le_of_ble_eq_true rfl⟩) rfl rfl (rv_MOD) rfl (Nat.le_of_ble_eq_true rfl) d_m_fillRoles_18 ?_
  obtain ⟨g4, h⟩ := gd_ok h
  obtain ⟨M5, eM5, h⟩ := bd_ok h
  refine as_V (n := 22) rfl ok hG  g4 d_m_fillRoles_21 ?_
  refine r_mem (Option.some.inj eM5) ?_
  refine r_aload_n (n := 23) rfl ok d_m_fillRoles_22 rfl 1 rfl ?_
  refine r_iload_n (n := 24) rfl ok d_m_fillRoles_23 rfl 2 rfl ?_
  refine r_aload_n (n := 25) rfl ok d_m_fillRoles_24 rfl 1 rfl ?_
  refine g_MOD_v (n := 28) rfl ok hG  k_986 d_m_fillRoles_25 ?_
  refine r_iload_n (n := 29) rfl ok d_m_fillRoles_28 rfl 0 rfl ?_
  obtain ⟨g6, h⟩ := gd_ok h
  refine al_V (n := 30) rfl ok hG  g6 d_m_fillRoles_29 ?_
  refine r_iconst (v := 0) (n := 31) rfl ok d_m_fillRoles_30 (by decide) ?_
  obtain ⟨r7, hr7, h⟩ := bd_ok h
  refine r_callV (n := 34) rfl ok hG mf_m_bestBut k_1038 ks_18 k_1036 (C_m_bestBut  hr7) ⟨rfl, rfl⟩ (rR hXR ⟨Nat.le_of_ble_eq_true rfl, Nat.le_of_ble_eq_true rfl⟩) rfl rfl (rv_MOD) rfl (Nat.le_of_ble_eq_true rfl) d_m_fillRoles_31 ?_
  refine r_istore_n (lv' := [(3, .int r7), (2, .int x2), (0, .ref (G.1 + 0)), (1, .int a1)]) (n := 35) rfl ok d_m_fillRoles_34 rfl (lt_n hXn (Nat.le_of_ble_eq_true rfl)) rfl ?_
  refine r_aload_n (n := 36) rfl ok d_m_fillRoles_35 rfl 2 rfl ?_
  refine g_MOD_v (n := 39) rfl ok hG  k_986 d_m_fillRoles_36 ?_
  refine r_iload_n (n := 40) rfl ok d_m_fillRoles_39 rfl 1 rfl ?_
  refine r_iconst (v := 1) (n := 41) rfl ok d_m_fillRoles_40 (by decide) ?_
  refine r_iadd (n := 42) rfl ok d_m_fillRoles_41 ?_
  refine r_iload_n (n := 43) rfl ok d_m_fillRoles_42 rfl 0 rfl ?_
  refine r_bipush (v := (-9)) (n := 45) rfl ok d_m_fillRoles_43 (by decide) ?_
  refine r_icmp_ne (tgt := 57) (n := 48) rfl ok d_m_fillRoles_45 (by decide) (fun c8 => ?_) (fun c8 => ?_)
  · replace h := if_n c8 h
    refine r_iload_n (n := 58) rfl ok d_m_fillRoles_57 rfl 0 rfl ?_
    obtain ⟨g9, h⟩ := gd_ok h
    obtain ⟨M10, eM10, h⟩ := bd_ok h
    refine as_V (n := 59) rfl ok hG  g9 d_m_fillRoles_58 ?_
    refine r_mem (Option.some.inj eM10) ?_
    refine r_aload_n (n := 60) rfl ok d_m_fillRoles_59 rfl 2 rfl ?_
    refine g_MOD_v (n := 63) rfl ok hG  k_986 d_m_fillRoles_60 ?_
    refine r_iload_n (n := 64) rfl ok d_m_fillRoles_63 rfl 1 rfl ?_
    refine r_iconst (v := 2) (n := 65) rfl ok d_m_fillRoles_64 (by decide) ?_
    refine r_iadd (n := 66) rfl ok d_m_fillRoles_65 ?_
    refine r_aload_n (n := 67) rfl ok d_m_fillRoles_66 rfl 2 rfl ?_
    refine r_iload_n (n := 68) rfl ok d_m_fillRoles_67 rfl 3 rfl ?_
    obtain ⟨r11, hr11, h⟩ := bd_ok h
    refine r_callV (n := 71) rfl ok hG mf_m_surestOf k_1070 ks_25 k_1068 (C_m_surestOf  hr11) ⟨rfl, rfl⟩ (rR hXR ⟨Nat.le_of_ble_eq_true rfl, Nat.le_of_ble_eq_true rfl⟩) rfl rfl (rv_MOD) rfl (Nat.le_of_ble_eq_true rfl) d_m_fillRoles_68 ?_
    obtain ⟨g12, h⟩ := gd_ok h
    obtain ⟨M13, eM13, h⟩ := bd_ok h
    refine as_V (n := 72) rfl ok hG  g12 d_m_fillRoles_71 ?_
    refine r_mem (Option.some.inj eM13) ?_
    refine r_aload_n (n := 73) rfl ok d_m_fillRoles_72 rfl 2 rfl ?_
    refine g_MOD_v (n := 76) rfl ok hG  k_986 d_m_fillRoles_73 ?_
    refine r_iload_n (n := 77) rfl ok d_m_fillRoles_76 rfl 1 rfl ?_
    refine r_iconst (v := 3) (n := 78) rfl ok d_m_fillRoles_77 (by decide) ?_
    refine r_iadd (n := 79) rfl ok d_m_fillRoles_78 ?_
    refine r_aload_n (n := 80) rfl ok d_m_fillRoles_79 rfl 2 rfl ?_
    refine r_iload_n (n := 81) rfl ok d_m_fillRoles_80 rfl 3 rfl ?_
    obtain ⟨r14, hr14, h⟩ := bd_ok h
    refine r_callV (n := 84) rfl ok hG mf_m_slowestOf k_1075 ks_26 k_1073 (C_m_slowestOf  hr14) ⟨rfl, rfl⟩ (rR hXR ⟨Nat.le_of_ble_eq_true rfl, Nat.le_of_ble_eq_true rfl⟩) rfl rfl (rv_MOD) rfl (Nat.le_of_ble_eq_true rfl) d_m_fillRoles_81 ?_
    obtain ⟨g15, h⟩ := gd_ok h
    obtain ⟨M16, eM16, h⟩ := bd_ok h
    refine as_V (n := 85) rfl ok hG  g15 d_m_fillRoles_84 ?_
    refine r_mem (Option.some.inj eM16) ?_
    obtain rfl := Option.some.inj h
    exact fin _ _ d_m_fillRoles_85
  · replace h := if_p c8 h
    refine r_aload_n (n := 49) rfl ok d_m_fillRoles_48 rfl 2 rfl ?_
    refine g_MOD_v (n := 52) rfl ok hG  k_986 d_m_fillRoles_49 ?_
    refine r_iload_n (n := 53) rfl ok d_m_fillRoles_52 rfl 1 rfl ?_
    obtain ⟨g17, h⟩ := gd_ok h
    refine al_V (n := 54) rfl ok hG  g17 d_m_fillRoles_53 ?_
    refine r_goto (tgt := 58) ok d_m_fillRoles_54 (by decide) ?_
    obtain ⟨g18, h⟩ := gd_ok h
    obtain ⟨M19, eM19, h⟩ := bd_ok h
    refine as_V (n := 59) rfl ok hG  g18 d_m_fillRoles_58 ?_
    refine r_mem (Option.some.inj eM19) ?_
    refine r_aload_n (n := 60) rfl ok d_m_fillRoles_59 rfl 2 rfl ?_
    refine g_MOD_v (n := 63) rfl ok hG  k_986 d_m_fillRoles_60 ?_
    refine r_iload_n (n := 64) rfl ok d_m_fillRoles_63 rfl 1 rfl ?_
    refine r_iconst (v := 2) (n := 65) rfl ok d_m_fillRoles_64 (by decide) ?_
    refine r_iadd (n := 66) rfl ok d_m_fillRoles_65 ?_
    refine r_aload_n (n := 67) rfl ok d_m_fillRoles_66 rfl 2 rfl ?_
    refine r_iload_n (n := 68) rfl ok d_m_fillRoles_67 rfl 3 rfl ?_
    obtain ⟨r20, hr20, h⟩ := bd_ok h
    refine r_callV (n := 71) rfl ok hG mf_m_surestOf k_1070 ks_25 k_1068 (C_m_surestOf  hr20) ⟨rfl, rfl⟩ (rR hXR ⟨Nat.le_of_ble_eq_true rfl, Nat.le_of_ble_eq_true rfl⟩) rfl rfl (rv_MOD) rfl (Nat.le_of_ble_eq_true rfl) d_m_fillRoles_68 ?_
    obtain ⟨g21, h⟩ := gd_ok h
    obtain ⟨M22, eM22, h⟩ := bd_ok h
    refine as_V (n := 72) rfl ok hG  g21 d_m_fillRoles_71 ?_
    refine r_mem (Option.some.inj eM22) ?_
    refine r_aload_n (n := 73) rfl ok d_m_fillRoles_72 rfl 2 rfl ?_
    refine g_MOD_v (n := 76) rfl ok hG  k_986 d_m_fillRoles_73 ?_
    refine r_iload_n (n := 77) rfl ok d_m_fillRoles_76 rfl 1 rfl ?_
    refine r_iconst (v := 3) (n := 78) rfl ok d_m_fillRoles_77 (by decide) ?_
    refine r_iadd (n := 79) rfl ok d_m_fillRoles_78 ?_
    refine r_aload_n (n := 80) rfl ok d_m_fillRoles_79 rfl 2 rfl ?_
    refine r_iload_n (n := 81) rfl ok d_m_fillRoles_80 rfl 3 rfl ?_
    obtain ⟨r23, hr23, h⟩ := bd_ok h
    refine r_callV (n := 84) rfl ok hG mf_m_slowestOf k_1075 ks_26 k_1073 (C_m_slowestOf  hr23) ⟨rfl, rfl⟩ (rR hXR ⟨Nat.le_of_ble_eq_true rfl, Nat.le_of_ble_eq_true rfl⟩) rfl rfl (rv_MOD) rfl (Nat.le_of_ble_eq_true rfl) d_m_fillRoles_81 ?_
    obtain ⟨g24, h⟩ := gd_ok h
    obtain ⟨M25, eM25, h⟩ := bd_ok h
    refine as_V (n := 85) rfl ok hG  g24 d_m_fillRoles_84 ?_
    refine r_mem (Option.some.inj eM25) ?_
    obtain rfl := Option.some.inj h
    exact fin _ _ d_m_fillRoles_85
set_option maxHeartbeats 4000000 in
set_option maxRecDepth 20000 in
theorem C_m_log {l : Launch} {G : Gt} {M : Me} {a1 : Int32} {a2 : Int32} {a3 : Int32}  {o : Me} (h : f_m_log M a1 a2 a3 = some o) : Ct l G (WM G) (rM G) y_m_log b_m_log 5 none rm_m_log [.ref (G.1 + 0), .int a1, .int a2, .int a3] M (none) o := by
  refine Ct.mk (own := "RetryChainsModel") rfl (by decide) (Nat.le_of_ble_eq_true rfl) rfl (fun X hXl hXR hXn ok hG fin => ?_)
  subst hXl
  unfold f_m_log at h
  show Wt X M 0 [(0, .ref (G.1 + 0)), (1, .int a1), (2, .int a2), (3, .int a3)] []
  refine r_sipush (v := 516) (n := 3) rfl ok d_m_log_0 (by decide) ?_
  refine r_iconst (v := 4) (n := 4) rfl ok d_m_log_3 (by decide) ?_
  refine r_aload_n (n := 5) rfl ok d_m_log_4 rfl 0 rfl ?_
  refine g_MOD_v (n := 8) rfl ok hG  k_986 d_m_log_5 ?_
  refine r_bipush (v := 8) (n := 10) rfl ok d_m_log_8 (by decide) ?_
  refine al_V (n := 11) rfl ok hG  (show gin 8 600 by decide) d_m_log_10 ?_
  refine r_bipush (v := 20) (n := 13) rfl ok d_m_log_11 (by decide) ?_
  refine r_irem (n := 14) rfl ok d_m_log_13 (by decide) ?_
  refine r_imul (n := 15) rfl ok d_m_log_14 ?_
  refine r_iadd (n := 16) rfl ok d_m_log_15 ?_
  obtain ⟨x1, ex1, h⟩ := bd_ok h
  refine r_ti (Option.some.inj ex1).symm ?_
  refine r_istore (lv' := [(4, .int x1), (0, .ref (G.1 + 0)), (1, .int a1), (2, .int a2), (3, .int a3)]) (n := 18) rfl ok d_m_log_16 (lt_n hXn (Nat.le_of_ble_eq_true rfl)) rfl ?_
  refine r_aload_n (n := 19) rfl ok d_m_log_18 rfl 1 rfl ?_
  refine g_MOD_v (n := 22) rfl ok hG  k_986 d_m_log_19 ?_
  refine r_iload (n := 24) rfl ok d_m_log_22 0 rfl ?_
  refine r_iload_n (n := 25) rfl ok d_m_log_24 rfl 2 rfl ?_
  obtain ⟨g2, h⟩ := gd_ok h
  obtain ⟨M3, eM3, h⟩ := bd_ok h
  refine as_V (n := 26) rfl ok hG  g2 d_m_log_25 ?_
  refine r_mem (Option.some.inj eM3) ?_
  refine r_aload_n (n := 27) rfl ok d_m_log_26 rfl 1 rfl ?_
  refine g_MOD_v (n := 30) rfl ok hG  k_986 d_m_log_27 ?_
  refine r_iload (n := 32) rfl ok d_m_log_30 0 rfl ?_
  refine r_iconst (v := 1) (n := 33) rfl ok d_m_log_32 (by decide) ?_
  refine r_iadd (n := 34) rfl ok d_m_log_33 ?_
  refine r_iload_n (n := 35) rfl ok d_m_log_34 rfl 3 rfl ?_
  obtain ⟨g4, h⟩ := gd_ok h
  obtain ⟨M5, eM5, h⟩ := bd_ok h
  refine as_V (n := 36) rfl ok hG  g4 d_m_log_35 ?_
  refine r_mem (Option.some.inj eM5) ?_
  refine r_aload_n (n := 37) rfl ok d_m_log_36 rfl 1 rfl ?_
  refine g_MOD_v (n := 40) rfl ok hG  k_986 d_m_log_37 ?_
  refine r_iload (n := 42) rfl ok d_m_log_40 0 rfl ?_
  refine r_iconst (v := 2) (n := 43) rfl ok d_m_log_42 (by decide) ?_
  refine r_iadd (n := 44) rfl ok d_m_log_43 ?_
  refine r_iload_n (n := 45) rfl ok d_m_log_44 rfl 4 rfl ?_
  obtain ⟨g6, h⟩ := gd_ok h
  obtain ⟨M7, eM7, h⟩ := bd_ok h
  refine as_V (n := 46) rfl ok hG  g6 d_m_log_45 ?_
  refine r_mem (Option.some.inj eM7) ?_
  refine r_aload_n (n := 47) rfl ok d_m_log_46 rfl 1 rfl ?_
  refine g_MOD_v (n := 50) rfl ok hG  k_986 d_m_log_47 ?_
  refine r_iload (n := 52) rfl ok d_m_log_50 0 rfl ?_
  refine r_iconst (v := 3) (n := 53) rfl ok d_m_log_52 (by decide) ?_
  refine r_iadd (n := 54) rfl ok d_m_log_53 ?_
  refine r_aload_n (n := 55) rfl ok d_m_log_54 rfl 1 rfl ?_
  refine g_MOD_v (n := 58) rfl ok hG  k_986 d_m_log_55 ?_
  refine r_iconst (v := 0) (n := 59) rfl ok d_m_log_58 (by decide) ?_
  refine al_V (n := 60) rfl ok hG  (show gin 0 600 by decide) d_m_log_59 ?_
  obtain ⟨g8, h⟩ := gd_ok h
  obtain ⟨M9, eM9, h⟩ := bd_ok h
  refine as_V (n := 61) rfl ok hG  g8 d_m_log_60 ?_
  refine r_mem (Option.some.inj eM9) ?_
  refine r_aload_n (n := 62) rfl ok d_m_log_61 rfl 1 rfl ?_
  refine g_MOD_v (n := 65) rfl ok hG  k_986 d_m_log_62 ?_
  refine r_bipush (v := 8) (n := 67) rfl ok d_m_log_65 (by decide) ?_
  refine r_dup2 (n := 68) rfl ok d_m_log_67 rfl rfl ?_
  refine al_V (n := 69) rfl ok hG  (show gin 8 600 by decide) d_m_log_68 ?_
  refine r_iconst (v := 1) (n := 70) rfl ok d_m_log_69 (by decide) ?_
  refine r_iadd (n := 71) rfl ok d_m_log_70 ?_
  obtain ⟨M10, eM10, h⟩ := bd_ok h
  refine as_V (n := 72) rfl ok hG  (show gin 8 600 by decide) d_m_log_71 ?_
  refine r_mem (Option.some.inj eM10) ?_
  obtain rfl := Option.some.inj h
  exact fin _ _ d_m_log_72
set_option maxHeartbeats 4000000 in
set_option maxRecDepth 20000 in
theorem C_m_endFromNow {l : Launch} {G : Gt} {M : Me}   {o : Int32} (h : f_m_endFromNow M = some o) : Ct l G (WM G) (rM G) y_m_endFromNow b_m_endFromNow 1 (some .int) rm_m_endFromNow [.ref (G.1 + 0)] M (some (.int o)) M := by
  refine Ct.mk (own := "RetryChainsModel") rfl (by decide) (Nat.le_of_ble_eq_true rfl) ⟨_, rfl⟩ (fun X hXl hXR hXn ok hG fin => ?_)
  subst hXl
  unfold f_m_endFromNow at h
  show Wt X M 0 [(0, .ref (G.1 + 0))] []
  refine r_aload_n (n := 1) rfl ok d_m_endFromNow_0 rfl 0 rfl ?_
  refine g_MOD_v (n := 4) rfl ok hG  k_986 d_m_endFromNow_1 ?_
  refine r_iconst (v := 0) (n := 5) rfl ok d_m_endFromNow_4 (by decide) ?_
  refine al_V (n := 6) rfl ok hG  (show gin 0 600 by decide) d_m_endFromNow_5 ?_
  refine r_ldc (n := 8) rfl ok d_m_endFromNow_6 k_1085 ?_
  refine r_aload_n (n := 9) rfl ok d_m_endFromNow_8 rfl 0 rfl ?_
  refine g_MOD_v (n := 12) rfl ok hG  k_986 d_m_endFromNow_9 ?_
  refine r_iconst (v := 5) (n := 13) rfl ok d_m_endFromNow_12 (by decide) ?_
  refine al_V (n := 14) rfl ok hG  (show gin 5 600 by decide) d_m_endFromNow_13 ?_
  refine r_isub (n := 15) rfl ok d_m_endFromNow_14 ?_
  refine r_icmp_le (tgt := 23) (n := 18) rfl ok d_m_endFromNow_15 (by decide) (fun c1 => ?_) (fun c1 => ?_)
  · replace h := if_p c1 h
    refine r_aload_n (n := 24) rfl ok d_m_endFromNow_23 rfl 0 rfl ?_
    refine g_MOD_v (n := 27) rfl ok hG  k_986 d_m_endFromNow_24 ?_
    refine r_iconst (v := 0) (n := 28) rfl ok d_m_endFromNow_27 (by decide) ?_
    refine al_V (n := 29) rfl ok hG  (show gin 0 600 by decide) d_m_endFromNow_28 ?_
    refine r_aload_n (n := 30) rfl ok d_m_endFromNow_29 rfl 0 rfl ?_
    refine g_MOD_v (n := 33) rfl ok hG  k_986 d_m_endFromNow_30 ?_
    refine r_iconst (v := 5) (n := 34) rfl ok d_m_endFromNow_33 (by decide) ?_
    refine al_V (n := 35) rfl ok hG  (show gin 5 600 by decide) d_m_endFromNow_34 ?_
    refine r_iadd (n := 36) rfl ok d_m_endFromNow_35 ?_
    obtain rfl := Option.some.inj h
    exact fin _ _ ⟨.int, rfl, rfl⟩ d_m_endFromNow_36
  · replace h := if_n c1 h
    refine r_bipush (v := (-9)) (n := 20) rfl ok d_m_endFromNow_18 (by decide) ?_
    refine r_goto (tgt := 36) ok d_m_endFromNow_20 (by decide) ?_
    obtain rfl := Option.some.inj h
    exact fin _ _ ⟨.int, rfl, rfl⟩ d_m_endFromNow_36
set_option maxHeartbeats 4000000 in
set_option maxRecDepth 20000 in
theorem C_m_sampleOf {l : Launch} {G : Gt} {M : Me} {a1 : Int32}  {o : Int32} (h : f_m_sampleOf M a1 = some o) : Ct l G (WM G) (rM G) y_m_sampleOf b_m_sampleOf 2 (some .int) rm_m_sampleOf [.ref (G.1 + 0), .int a1] M (some (.int o)) M := by
  refine Ct.mk (own := "RetryChainsModel") rfl (by decide) (Nat.le_of_ble_eq_true rfl) ⟨_, rfl⟩ (fun X hXl hXR hXn ok hG fin => ?_)
  subst hXl
  unfold f_m_sampleOf at h
  show Wt X M 0 [(0, .ref (G.1 + 0)), (1, .int a1)] []
  refine r_aload_n (n := 1) rfl ok d_m_sampleOf_0 rfl 0 rfl ?_
  refine g_MOD_v (n := 4) rfl ok hG  k_986 d_m_sampleOf_1 ?_
  refine r_iload_n (n := 5) rfl ok d_m_sampleOf_4 rfl 1 rfl ?_
  refine r_iconst (v := 3) (n := 6) rfl ok d_m_sampleOf_5 (by decide) ?_
  refine r_iadd (n := 7) rfl ok d_m_sampleOf_6 ?_
  obtain ⟨g1, h⟩ := gd_ok h
  refine al_V (n := 8) rfl ok hG  g1 d_m_sampleOf_7 ?_
  refine r_i2l (n := 9) rfl ok d_m_sampleOf_8 ?_
  refine r_ldc2 (n := 12) rfl ok d_m_sampleOf_9 k_1275 ?_
  refine r_lmul (n := 13) rfl ok d_m_sampleOf_12 ?_
  refine r_aload_n (n := 14) rfl ok d_m_sampleOf_13 rfl 0 rfl ?_
  refine g_MOD_v (n := 17) rfl ok hG  k_986 d_m_sampleOf_14 ?_
  refine r_iload_n (n := 18) rfl ok d_m_sampleOf_17 rfl 1 rfl ?_
  refine r_iconst (v := 2) (n := 19) rfl ok d_m_sampleOf_18 (by decide) ?_
  refine r_iadd (n := 20) rfl ok d_m_sampleOf_19 ?_
  obtain ⟨g2, h⟩ := gd_ok h
  refine al_V (n := 21) rfl ok hG  g2 d_m_sampleOf_20 ?_
  refine r_i2l (n := 22) rfl ok d_m_sampleOf_21 ?_
  obtain ⟨g3, h⟩ := gd_ok h
  refine r_ldiv (n := 23) rfl ok d_m_sampleOf_22 g3 ?_
  refine r_l2i (n := 24) rfl ok d_m_sampleOf_23 ?_
  obtain rfl := Option.some.inj h
  exact fin _ _ ⟨.int, rfl, rfl⟩ d_m_sampleOf_24
set_option maxHeartbeats 4000000 in
set_option maxRecDepth 20000 in
theorem C_m_change {l : Launch} {G : Gt} {M : Me} {a1 : Int32}  {o : Int32} (h : f_m_change M a1 = some o) : Ct l G (WM G) (rM G) y_m_change b_m_change 3 (some .int) rm_m_change [.ref (G.1 + 0), .int a1] M (some (.int o)) M := by
  refine Ct.mk (own := "RetryChainsModel") rfl (by decide) (Nat.le_of_ble_eq_true rfl) ⟨_, rfl⟩ (fun X hXl hXR hXn ok hG fin => ?_)
  subst hXl
  unfold f_m_change at h
  show Wt X M 0 [(0, .ref (G.1 + 0)), (1, .int a1)] []
  refine r_aload_n (n := 1) rfl ok d_m_change_0 rfl 0 rfl ?_
  refine r_iload_n (n := 2) rfl ok d_m_change_1 rfl 1 rfl ?_
  obtain ⟨r1, hr1, h⟩ := bd_ok h
  refine r_callV (n := 5) rfl ok hG mf_m_sampleOf k_1273 ks_63 k_1271 (C_m_sampleOf  hr1) ⟨rfl, rfl⟩ (rR hXR ⟨Nat.le_of_ble_eq_true rfl, Nat.le_of_ble_eq_true rfl⟩) rfl rfl (rv_MOD) rfl (Nat.le_of_ble_eq_true rfl) d_m_change_2 ?_
  refine r_aload_n (n := 6) rfl ok d_m_change_5 rfl 0 rfl ?_
  refine g_MOD_v (n := 9) rfl ok hG  k_986 d_m_change_6 ?_
  refine r_iload_n (n := 10) rfl ok d_m_change_9 rfl 1 rfl ?_
  refine r_iconst (v := 1) (n := 11) rfl ok d_m_change_10 (by decide) ?_
  refine r_iadd (n := 12) rfl ok d_m_change_11 ?_
  obtain ⟨g2, h⟩ := gd_ok h
  refine al_V (n := 13) rfl ok hG  g2 d_m_change_12 ?_
  refine r_isub (n := 14) rfl ok d_m_change_13 ?_
  obtain ⟨x3, ex3, h⟩ := bd_ok h
  refine r_ti (Option.some.inj ex3).symm ?_
  refine r_istore_n (lv' := [(2, .int x3), (0, .ref (G.1 + 0)), (1, .int a1)]) (n := 15) rfl ok d_m_change_14 rfl (lt_n hXn (Nat.le_of_ble_eq_true rfl)) rfl ?_
  refine r_iload_n (n := 16) rfl ok d_m_change_15 rfl 0 rfl ?_
  refine r_sipush (v := 19661) (n := 19) rfl ok d_m_change_16 (by decide) ?_
  refine r_icmp_lt (tgt := 26) (n := 22) rfl ok d_m_change_19 (by decide) (fun c4 => ?_) (fun c4 => ?_)
  · replace h := if_p c4 h
    refine r_iload_n (n := 27) rfl ok d_m_change_26 rfl 0 rfl ?_
    refine r_sipush (v := (-19661)) (n := 30) rfl ok d_m_change_27 (by decide) ?_
    refine r_icmp_gt (tgt := 37) (n := 33) rfl ok d_m_change_30 (by decide) (fun c5 => ?_) (fun c5 => ?_)
    · replace h := if_p c5 h
      refine r_iconst (v := 0) (n := 38) rfl ok d_m_change_37 (by decide) ?_
      obtain rfl := Option.some.inj h
      exact fin _ _ ⟨.int, rfl, rfl⟩ d_m_change_38
    · replace h := if_n c5 h
      refine r_iconst (v := (-1)) (n := 34) rfl ok d_m_change_33 (by decide) ?_
      refine r_goto (tgt := 38) ok d_m_change_34 (by decide) ?_
      obtain rfl := Option.some.inj h
      exact fin _ _ ⟨.int, rfl, rfl⟩ d_m_change_38
  · replace h := if_n c4 h
    refine r_iconst (v := 1) (n := 23) rfl ok d_m_change_22 (by decide) ?_
    refine r_goto (tgt := 38) ok d_m_change_23 (by decide) ?_
    obtain rfl := Option.some.inj h
    exact fin _ _ ⟨.int, rfl, rfl⟩ d_m_change_38
set_option maxHeartbeats 4000000 in
set_option maxRecDepth 20000 in
theorem w_m_collapses_7 {X : Cx Me} {G : Gt} (ok : Ok X b_m_collapses "RetryChainsModel") (hG : GM X G) (hXR : X.R = rm_m_collapses) (hXn : X.nL = 6) {M : Me} {y1 : Int32}  {t : Int32 × Int32} (kx : ∀ e : Int32 × Int32, e = t → Wt X M 77 [(2, .int e.1), (3, .int e.2)] [])  : ∀ (n : Nat) (x : Int32 × Int32 × Int32), lp n (b_m_collapses_7 M y1) x = some t → Wt X M 7 [(0, .ref (G.1 + 0)), (1, .int y1), (2, .int x.1), (3, .int x.2.1), (4, .int x.2.2)] [] := by
  intro n x h
  refine lp_W (P := fun x => Wt X M 7 [(0, .ref (G.1 + 0)), (1, .int y1), (2, .int x.1), (3, .int x.2.1), (4, .int x.2.2)] []) (Z := fun t' => t' = t) (fun x r h hk hz => ?_) n x t h rfl
  unfold b_m_collapses_7 at h
  refine r_iload (n := 9) rfl ok d_m_collapses_7 4 rfl ?_
  refine r_aload_n (n := 10) rfl ok d_m_collapses_9 rfl 0 rfl ?_
  refine g_MOD_v (n := 13) rfl ok hG  k_986 d_m_collapses_10 ?_
  refine r_iconst (v := 1) (n := 14) rfl ok d_m_collapses_13 (by decide) ?_
  refine al_V (n := 15) rfl ok hG  (show gin 1 600 by decide) d_m_collapses_14 ?_
  refine r_icmp_ge (tgt := 77) (n := 18) rfl ok d_m_collapses_15 (by decide) (fun c1 => ?_) (fun c1 => ?_)
  · replace h := if_p c1 h
    obtain rfl := Option.some.inj h
    exact r_sub [2, 3] rfl (show Wt X M 77 [(2, .int x.1), (3, .int x.2.1)] [] from kx _ (hz _ rfl))
  · replace h := if_n c1 h
    refine r_iload_n (n := 19) rfl ok d_m_collapses_18 rfl 1 rfl ?_
    refine r_iload (n := 21) rfl ok d_m_collapses_19 4 rfl ?_
    obtain ⟨r2, hr2, h⟩ := bd_ok h
    refine r_callS (n := 24) rfl ok hG mf_m_pair k_1027 k_1026 (C_m_pair  hr2) ⟨rfl, rfl⟩ (rR hXR ⟨Nat.le_of_ble_eq_true rfl, Nat.le_of_ble_eq_true rfl⟩) rfl rfl (Nat.le_of_ble_eq_true rfl) d_m_collapses_21 ?_
    refine r_istore (lv' := [(5, .int r2), (0, .ref (G.1 + 0)), (1, .int y1), (2, .int x.1), (3, .int x.2.1), (4, .int x.2.2)]) (n := 26) rfl ok d_m_collapses_24 (lt_n hXn (Nat.le_of_ble_eq_true rfl)) rfl ?_
    refine r_aload_n (n := 27) rfl ok d_m_collapses_26 rfl 1 rfl ?_
    refine g_MOD_v (n := 30) rfl ok hG  k_986 d_m_collapses_27 ?_
    refine r_iload (n := 32) rfl ok d_m_collapses_30 0 rfl ?_
    refine r_iconst (v := 2) (n := 33) rfl ok d_m_collapses_32 (by decide) ?_
    refine r_iadd (n := 34) rfl ok d_m_collapses_33 ?_
    obtain ⟨g3, h⟩ := gd_ok h
    refine al_V (n := 35) rfl ok hG  g3 d_m_collapses_34 ?_
    refine r_if_le (tgt := 71) (n := 38) rfl ok d_m_collapses_35 (by decide) (fun c4 => ?_) (fun c4 => ?_)
    · replace h := if_p c4 h
      obtain ⟨x5, ex5, h⟩ := bd_ok h
      refine r_iinc (lv' := [(4, .int x5), (5, .int r2), (0, .ref (G.1 + 0)), (1, .int y1), (2, .int x.1), (3, .int x.2.1)]) (n := 74) rfl ok d_m_collapses_71 5 rfl (Option.some.inj ex5) (lt_n hXn (Nat.le_of_ble_eq_true rfl)) rfl ?_
      refine r_goto (tgt := 7) ok d_m_collapses_74 (by decide) ?_
      obtain rfl := Option.some.inj h
      exact r_sub [2, 3, 4, 5, 0] rfl (show Wt X M 7 [(0, .ref (G.1 + 0)), (1, .int y1), (2, .int x.1), (3, .int x.2.1), (4, .int x5)] [] from hk _ rfl)
    · replace h := if_n c4 h
      refine r_aload_n (n := 39) rfl ok d_m_collapses_38 rfl 1 rfl ?_
      refine g_MOD_v (n := 42) rfl ok hG  k_986 d_m_collapses_39 ?_
      refine r_iload (n := 44) rfl ok d_m_collapses_42 0 rfl ?_
      refine r_iconst (v := 1) (n := 45) rfl ok d_m_collapses_44 (by decide) ?_
      refine r_iadd (n := 46) rfl ok d_m_collapses_45 ?_
      obtain ⟨g6, h⟩ := gd_ok h
      refine al_V (n := 47) rfl ok hG  g6 d_m_collapses_46 ?_
      refine r_if_lt (tgt := 71) (n := 50) rfl ok d_m_collapses_47 (by decide) (fun c7 => ?_) (fun c7 => ?_)
      · replace h := if_p c7 h
        obtain ⟨x8, ex8, h⟩ := bd_ok h
        refine r_iinc (lv' := [(4, .int x8), (5, .int r2), (0, .ref (G.1 + 0)), (1, .int y1), (2, .int x.1), (3, .int x.2.1)]) (n := 74) rfl ok d_m_collapses_71 5 rfl (Option.some.inj ex8) (lt_n hXn (Nat.le_of_ble_eq_true rfl)) rfl ?_
        refine r_goto (tgt := 7) ok d_m_collapses_74 (by decide) ?_
        obtain rfl := Option.some.inj h
        exact r_sub [2, 3, 4, 5, 0] rfl (show Wt X M 7 [(0, .ref (G.1 + 0)), (1, .int y1), (2, .int x.1), (3, .int x.2.1), (4, .int x8)] [] from hk _ rfl)
      · replace h := if_n c7 h
        obtain ⟨x9, ex9, h⟩ := bd_ok h
        refine r_iinc (lv' := [(2, .int x9), (5, .int r2), (0, .ref (G.1 + 0)), (1, .int y1), (3, .int x.2.1), (4, .int x.2.2)]) (n := 53) rfl ok d_m_collapses_50 3 rfl (Option.some.inj ex9) (lt_n hXn (Nat.le_of_ble_eq_true rfl)) rfl ?_
        refine r_iload_n (n := 54) rfl ok d_m_collapses_53 rfl 4 rfl ?_
        refine r_aload_n (n := 55) rfl ok d_m_collapses_54 rfl 2 rfl ?_
        refine r_iload (n := 57) rfl ok d_m_collapses_55 1 rfl ?_
        obtain ⟨r10, hr10, h⟩ := bd_ok h
        refine r_callV (n := 60) rfl ok hG mf_m_change k_1269 ks_62 k_1267 (C_m_change  hr10) ⟨rfl, rfl⟩ (rR hXR ⟨Nat.le_of_ble_eq_true rfl, Nat.le_of_ble_eq_true rfl⟩) rfl rfl (rv_MOD) rfl (Nat.le_of_ble_eq_true rfl) d_m_collapses_57 ?_
        refine r_iconst (v := (-1)) (n := 61) rfl ok d_m_collapses_60 (by decide) ?_
        refine r_icmp_ne (tgt := 68) (n := 64) rfl ok d_m_collapses_61 (by decide) (fun c11 => ?_) (fun c11 => ?_)
        · replace h := if_n c11 h
          refine r_iconst (v := 0) (n := 69) rfl ok d_m_collapses_68 (by decide) ?_
          refine r_iadd (n := 70) rfl ok d_m_collapses_69 ?_
          obtain ⟨x12, ex12, h⟩ := bd_ok h
          refine r_ti (Option.some.inj ex12).symm ?_
          refine r_istore_n (lv' := [(3, .int x12), (2, .int x9), (5, .int r2), (0, .ref (G.1 + 0)), (1, .int y1), (4, .int x.2.2)]) (n := 71) rfl ok d_m_collapses_70 rfl (lt_n hXn (Nat.le_of_ble_eq_true rfl)) rfl ?_
          obtain ⟨x13, ex13, h⟩ := bd_ok h
          refine r_iinc (lv' := [(4, .int x13), (3, .int x12), (2, .int x9), (5, .int r2), (0, .ref (G.1 + 0)), (1, .int y1)]) (n := 74) rfl ok d_m_collapses_71 5 rfl (Option.some.inj ex13) (lt_n hXn (Nat.le_of_ble_eq_true rfl)) rfl ?_
          refine r_goto (tgt := 7) ok d_m_collapses_74 (by decide) ?_
          obtain rfl := Option.some.inj h
          exact r_sub [4, 5, 2, 1, 0] rfl (show Wt X M 7 [(0, .ref (G.1 + 0)), (1, .int y1), (2, .int x9), (3, .int x12), (4, .int x13)] [] from hk _ rfl)
        · replace h := if_p c11 h
          refine r_iconst (v := 1) (n := 65) rfl ok d_m_collapses_64 (by decide) ?_
          refine r_goto (tgt := 69) ok d_m_collapses_65 (by decide) ?_
          refine r_iadd (n := 70) rfl ok d_m_collapses_69 ?_
          obtain ⟨x14, ex14, h⟩ := bd_ok h
          refine r_ti (Option.some.inj ex14).symm ?_
          refine r_istore_n (lv' := [(3, .int x14), (2, .int x9), (5, .int r2), (0, .ref (G.1 + 0)), (1, .int y1), (4, .int x.2.2)]) (n := 71) rfl ok d_m_collapses_70 rfl (lt_n hXn (Nat.le_of_ble_eq_true rfl)) rfl ?_
          obtain ⟨x15, ex15, h⟩ := bd_ok h
          refine r_iinc (lv' := [(4, .int x15), (3, .int x14), (2, .int x9), (5, .int r2), (0, .ref (G.1 + 0)), (1, .int y1)]) (n := 74) rfl ok d_m_collapses_71 5 rfl (Option.some.inj ex15) (lt_n hXn (Nat.le_of_ble_eq_true rfl)) rfl ?_
          refine r_goto (tgt := 7) ok d_m_collapses_74 (by decide) ?_
          obtain rfl := Option.some.inj h
          exact r_sub [4, 5, 2, 1, 0] rfl (show Wt X M 7 [(0, .ref (G.1 + 0)), (1, .int y1), (2, .int x9), (3, .int x14), (4, .int x15)] [] from hk _ rfl)
set_option maxHeartbeats 4000000 in
set_option maxRecDepth 20000 in
theorem C_m_collapses {l : Launch} {G : Gt} {M : Me} {a1 : Int32}  {o : Int32} (h : f_m_collapses M a1 = some o) : Ct l G (WM G) (rM G) y_m_collapses b_m_collapses 6 (some .boolean) rm_m_collapses [.ref (G.1 + 0), .int a1] M (some (.int o)) M := by
  refine Ct.mk (own := "RetryChainsModel") rfl (by decide) (Nat.le_of_ble_eq_true rfl) ⟨_, rfl⟩ (fun X hXl hXR hXn ok hG fin => ?_)
  subst hXl
  unfold f_m_collapses at h
  show Wt X M 0 [(0, .ref (G.1 + 0)), (1, .int a1)] []
  refine r_iconst (v := 0) (n := 1) rfl ok d_m_collapses_0 (by decide) ?_
  refine r_istore_n (lv' := [(2, .int 0), (0, .ref (G.1 + 0)), (1, .int a1)]) (n := 2) rfl ok d_m_collapses_1 rfl (lt_n hXn (Nat.le_of_ble_eq_true rfl)) rfl ?_
  refine r_iconst (v := 0) (n := 3) rfl ok d_m_collapses_2 (by decide) ?_
  refine r_istore_n (lv' := [(3, .int 0), (2, .int 0), (0, .ref (G.1 + 0)), (1, .int a1)]) (n := 4) rfl ok d_m_collapses_3 rfl (lt_n hXn (Nat.le_of_ble_eq_true rfl)) rfl ?_
  refine r_iconst (v := 0) (n := 5) rfl ok d_m_collapses_4 (by decide) ?_
  refine r_istore (lv' := [(4, .int 0), (3, .int 0), (2, .int 0), (0, .ref (G.1 + 0)), (1, .int a1)]) (n := 7) rfl ok d_m_collapses_5 (lt_n hXn (Nat.le_of_ble_eq_true rfl)) rfl ?_
  obtain ⟨t16, ht16, h⟩ := bd_ok h
  refine r_sub [3, 4, 2, 1, 0] rfl (show Wt X M 7 [(0, .ref (G.1 + 0)), (1, .int a1), (2, .int 0), (3, .int 0), (4, .int 0)] [] from w_m_collapses_7 ok hG hXR hXn  ?_ _ _ ht16)
  · intro e17 he
    subst he
    refine r_iload_n (n := 78) rfl ok d_m_collapses_77 rfl 0 rfl ?_
    refine r_iconst (v := 2) (n := 79) rfl ok d_m_collapses_78 (by decide) ?_
    refine r_icmp_lt (tgt := 91) (n := 82) rfl ok d_m_collapses_79 (by decide) (fun c18 => ?_) (fun c18 => ?_)
    · replace h := if_p c18 h
      refine r_iconst (v := 0) (n := 92) rfl ok d_m_collapses_91 (by decide) ?_
      obtain rfl := Option.some.inj h
      exact fin _ _ ⟨.boolean, rfl, nz0⟩ d_m_collapses_92
    · replace h := if_n c18 h
      refine r_iload_n (n := 83) rfl ok d_m_collapses_82 rfl 1 rfl ?_
      refine r_iload_n (n := 84) rfl ok d_m_collapses_83 rfl 0 rfl ?_
      refine r_icmp_ne (tgt := 91) (n := 87) rfl ok d_m_collapses_84 (by decide) (fun c19 => ?_) (fun c19 => ?_)
      · replace h := if_n c19 h
        refine r_iconst (v := 0) (n := 92) rfl ok d_m_collapses_91 (by decide) ?_
        obtain rfl := Option.some.inj h
        exact fin _ _ ⟨.boolean, rfl, nz0⟩ d_m_collapses_92
      · replace h := if_p c19 h
        refine r_iconst (v := 1) (n := 88) rfl ok d_m_collapses_87 (by decide) ?_
        refine r_goto (tgt := 92) ok d_m_collapses_88 (by decide) ?_
        obtain rfl := Option.some.inj h
        exact fin _ _ ⟨.boolean, rfl, nz1⟩ d_m_collapses_92
set_option maxHeartbeats 4000000 in
set_option maxRecDepth 20000 in
theorem w_m_collapse_2 {X : Cx Me} {G : Gt} (ok : Ok X b_m_collapse "RetryChainsModel") (hG : GM X G) (hXR : X.R = rm_m_collapse) (hXn : X.nL = 4) {y1 : Int32}  {t : Me} (kx : ∀ e : Me, e = t → Wt X e 90 [(0, .ref (G.1 + 0)), (1, .int y1)] [])  : ∀ (n : Nat) (x : Int32 × Me), lp n (b_m_collapse_2 y1) x = some t → Wt X x.2 2 [(0, .ref (G.1 + 0)), (1, .int y1), (2, .int x.1)] [] := by
  intro n x h
  refine lp_W (P := fun x => Wt X x.2 2 [(0, .ref (G.1 + 0)), (1, .int y1), (2, .int x.1)] []) (Z := fun t' => t' = t) (fun x r h hk hz => ?_) n x t h rfl
  unfold b_m_collapse_2 at h
  refine r_iload_n (n := 3) rfl ok d_m_collapse_2 rfl 2 rfl ?_
  refine r_aload_n (n := 4) rfl ok d_m_collapse_3 rfl 0 rfl ?_
  refine g_MOD_v (n := 7) rfl ok hG  k_986 d_m_collapse_4 ?_
  refine r_iconst (v := 1) (n := 8) rfl ok d_m_collapse_7 (by decide) ?_
  refine al_V (n := 9) rfl ok hG  (show gin 1 600 by decide) d_m_collapse_8 ?_
  refine r_icmp_ge (tgt := 90) (n := 12) rfl ok d_m_collapse_9 (by decide) (fun c1 => ?_) (fun c1 => ?_)
  · replace h := if_p c1 h
    obtain rfl := Option.some.inj h
    exact r_sub [0, 1] rfl (show Wt X x.2 90 [(0, .ref (G.1 + 0)), (1, .int y1)] [] from kx _ (hz _ rfl))
  · replace h := if_n c1 h
    refine r_iload_n (n := 13) rfl ok d_m_collapse_12 rfl 1 rfl ?_
    refine r_iload_n (n := 14) rfl ok d_m_collapse_13 rfl 2 rfl ?_
    obtain ⟨r2, hr2, h⟩ := bd_ok h
    refine r_callS (n := 17) rfl ok hG mf_m_pair k_1027 k_1026 (C_m_pair  hr2) ⟨rfl, rfl⟩ (rR hXR ⟨Nat.le_of_ble_eq_true rfl, Nat.le_of_ble_eq_true rfl⟩) rfl rfl (Nat.le_of_ble_eq_true rfl) d_m_collapse_14 ?_
    refine r_istore_n (lv' := [(3, .int r2), (0, .ref (G.1 + 0)), (1, .int y1), (2, .int x.1)]) (n := 18) rfl ok d_m_collapse_17 rfl (lt_n hXn (Nat.le_of_ble_eq_true rfl)) rfl ?_
    refine r_aload_n (n := 19) rfl ok d_m_collapse_18 rfl 1 rfl ?_
    refine g_MOD_v (n := 22) rfl ok hG  k_986 d_m_collapse_19 ?_
    refine r_iload_n (n := 23) rfl ok d_m_collapse_22 rfl 0 rfl ?_
    refine r_iconst (v := 2) (n := 24) rfl ok d_m_collapse_23 (by decide) ?_
    refine r_iadd (n := 25) rfl ok d_m_collapse_24 ?_
    obtain ⟨g3, h⟩ := gd_ok h
    refine al_V (n := 26) rfl ok hG  g3 d_m_collapse_25 ?_
    refine r_if_le (tgt := 55) (n := 29) rfl ok d_m_collapse_26 (by decide) (fun c4 => ?_) (fun c4 => ?_)
    · replace h := if_p c4 h
      refine r_aload_n (n := 56) rfl ok d_m_collapse_55 rfl 1 rfl ?_
      refine g_MOD_v (n := 59) rfl ok hG  k_986 d_m_collapse_56 ?_
      refine r_iload_n (n := 60) rfl ok d_m_collapse_59 rfl 0 rfl ?_
      refine r_iconst (v := 1) (n := 61) rfl ok d_m_collapse_60 (by decide) ?_
      refine r_iadd (n := 62) rfl ok d_m_collapse_61 ?_
      obtain ⟨g5, h⟩ := gd_ok h
      refine al_V (n := 63) rfl ok hG  g5 d_m_collapse_62 ?_
      refine r_if_lt (tgt := 84) (n := 66) rfl ok d_m_collapse_63 (by decide) (fun c6 => ?_) (fun c6 => ?_)
      · replace h := if_p c6 h
        obtain ⟨x7, ex7, h⟩ := bd_ok h
        refine r_iinc (lv' := [(2, .int x7), (3, .int r2), (0, .ref (G.1 + 0)), (1, .int y1)]) (n := 87) rfl ok d_m_collapse_84 3 rfl (Option.some.inj ex7) (lt_n hXn (Nat.le_of_ble_eq_true rfl)) rfl ?_
        refine r_goto (tgt := 2) ok d_m_collapse_87 (by decide) ?_
        obtain rfl := Option.some.inj h
        exact r_sub [2, 3, 0] rfl (show Wt X x.2 2 [(0, .ref (G.1 + 0)), (1, .int y1), (2, .int x7)] [] from hk _ rfl)
      · replace h := if_n c6 h
        refine r_aload_n (n := 67) rfl ok d_m_collapse_66 rfl 1 rfl ?_
        refine g_MOD_v (n := 70) rfl ok hG  k_986 d_m_collapse_67 ?_
        refine r_iload_n (n := 71) rfl ok d_m_collapse_70 rfl 0 rfl ?_
        refine r_iconst (v := 1) (n := 72) rfl ok d_m_collapse_71 (by decide) ?_
        refine r_iadd (n := 73) rfl ok d_m_collapse_72 ?_
        refine r_aload_n (n := 74) rfl ok d_m_collapse_73 rfl 1 rfl ?_
        refine g_MOD_v (n := 77) rfl ok hG  k_986 d_m_collapse_74 ?_
        refine r_iload_n (n := 78) rfl ok d_m_collapse_77 rfl 0 rfl ?_
        refine r_iconst (v := 1) (n := 79) rfl ok d_m_collapse_78 (by decide) ?_
        refine r_iadd (n := 80) rfl ok d_m_collapse_79 ?_
        obtain ⟨g8, h⟩ := gd_ok h
        refine al_V (n := 81) rfl ok hG  g8 d_m_collapse_80 ?_
        refine r_iconst (v := 2) (n := 82) rfl ok d_m_collapse_81 (by decide) ?_
        refine r_idiv (n := 83) rfl ok d_m_collapse_82 (by decide) ?_
        obtain ⟨g9, h⟩ := gd_ok h
        obtain ⟨M10, eM10, h⟩ := bd_ok h
        refine as_V (n := 84) rfl ok hG  g9 d_m_collapse_83 ?_
        refine r_mem (Option.some.inj eM10) ?_
        obtain ⟨x11, ex11, h⟩ := bd_ok h
        refine r_iinc (lv' := [(2, .int x11), (3, .int r2), (0, .ref (G.1 + 0)), (1, .int y1)]) (n := 87) rfl ok d_m_collapse_84 3 rfl (Option.some.inj ex11) (lt_n hXn (Nat.le_of_ble_eq_true rfl)) rfl ?_
        refine r_goto (tgt := 2) ok d_m_collapse_87 (by decide) ?_
        obtain rfl := Option.some.inj h
        exact r_sub [2, 3, 0] rfl (show Wt X M10 2 [(0, .ref (G.1 + 0)), (1, .int y1), (2, .int x11)] [] from hk _ rfl)
    · replace h := if_n c4 h
      refine r_aload_n (n := 30) rfl ok d_m_collapse_29 rfl 1 rfl ?_
      refine g_MOD_v (n := 33) rfl ok hG  k_986 d_m_collapse_30 ?_
      refine r_iload_n (n := 34) rfl ok d_m_collapse_33 rfl 0 rfl ?_
      refine r_iconst (v := 1) (n := 35) rfl ok d_m_collapse_34 (by decide) ?_
      refine r_iadd (n := 36) rfl ok d_m_collapse_35 ?_
      refine r_aload_n (n := 37) rfl ok d_m_collapse_36 rfl 1 rfl ?_
      refine r_iload_n (n := 38) rfl ok d_m_collapse_37 rfl 0 rfl ?_
      obtain ⟨r12, hr12, h⟩ := bd_ok h
      refine r_callV (n := 41) rfl ok hG mf_m_sampleOf k_1273 ks_63 k_1271 (C_m_sampleOf  hr12) ⟨rfl, rfl⟩ (rR hXR ⟨Nat.le_of_ble_eq_true rfl, Nat.le_of_ble_eq_true rfl⟩) rfl rfl (rv_MOD) rfl (Nat.le_of_ble_eq_true rfl) d_m_collapse_38 ?_
      obtain ⟨g13, h⟩ := gd_ok h
      obtain ⟨M14, eM14, h⟩ := bd_ok h
      refine as_V (n := 42) rfl ok hG  g13 d_m_collapse_41 ?_
      refine r_mem (Option.some.inj eM14) ?_
      refine r_aload_n (n := 43) rfl ok d_m_collapse_42 rfl 1 rfl ?_
      refine g_MOD_v (n := 46) rfl ok hG  k_986 d_m_collapse_43 ?_
      refine r_iload_n (n := 47) rfl ok d_m_collapse_46 rfl 0 rfl ?_
      refine r_bipush (v := 6) (n := 49) rfl ok d_m_collapse_47 (by decide) ?_
      refine r_iadd (n := 50) rfl ok d_m_collapse_49 ?_
      refine r_iconst (v := 0) (n := 51) rfl ok d_m_collapse_50 (by decide) ?_
      obtain ⟨g15, h⟩ := gd_ok h
      obtain ⟨M16, eM16, h⟩ := bd_ok h
      refine as_V (n := 52) rfl ok hG  g15 d_m_collapse_51 ?_
      refine r_mem (Option.some.inj eM16) ?_
      refine r_goto (tgt := 84) ok d_m_collapse_52 (by decide) ?_
      obtain ⟨x17, ex17, h⟩ := bd_ok h
      refine r_iinc (lv' := [(2, .int x17), (3, .int r2), (0, .ref (G.1 + 0)), (1, .int y1)]) (n := 87) rfl ok d_m_collapse_84 3 rfl (Option.some.inj ex17) (lt_n hXn (Nat.le_of_ble_eq_true rfl)) rfl ?_
      refine r_goto (tgt := 2) ok d_m_collapse_87 (by decide) ?_
      obtain rfl := Option.some.inj h
      exact r_sub [2, 3, 0] rfl (show Wt X M16 2 [(0, .ref (G.1 + 0)), (1, .int y1), (2, .int x17)] [] from hk _ rfl)
set_option maxHeartbeats 4000000 in
set_option maxRecDepth 20000 in
theorem C_m_collapse {l : Launch} {G : Gt} {M : Me} {a1 : Int32}  {o : Me} (h : f_m_collapse M a1 = some o) : Ct l G (WM G) (rM G) y_m_collapse b_m_collapse 4 none rm_m_collapse [.ref (G.1 + 0), .int a1] M (none) o := by
  refine Ct.mk (own := "RetryChainsModel") rfl (by decide) (Nat.le_of_ble_eq_true rfl) rfl (fun X hXl hXR hXn ok hG fin => ?_)
  subst hXl
  unfold f_m_collapse at h
  show Wt X M 0 [(0, .ref (G.1 + 0)), (1, .int a1)] []
  refine r_iconst (v := 0) (n := 1) rfl ok d_m_collapse_0 (by decide) ?_
  refine r_istore_n (lv' := [(2, .int 0), (0, .ref (G.1 + 0)), (1, .int a1)]) (n := 2) rfl ok d_m_collapse_1 rfl (lt_n hXn (Nat.le_of_ble_eq_true rfl)) rfl ?_
  obtain ⟨t18, ht18, h⟩ := bd_ok h
  refine r_sub [1, 2, 0] rfl (show Wt X M 2 [(0, .ref (G.1 + 0)), (1, .int a1), (2, .int 0)] [] from w_m_collapse_2 ok hG hXR hXn  ?_ _ _ ht18)
  · intro e19 he
    subst he
    refine r_aload_n (n := 91) rfl ok d_m_collapse_90 rfl 0 rfl ?_
    refine r_iconst (v := 2) (n := 92) rfl ok d_m_collapse_91 (by decide) ?_
    refine r_iload_n (n := 93) rfl ok d_m_collapse_92 rfl 1 rfl ?_
    refine r_bipush (v := (-9)) (n := 95) rfl ok d_m_collapse_93 (by decide) ?_
    obtain ⟨r20, hr20, h⟩ := bd_ok h
    refine r_callV (n := 98) rfl ok hG mf_m_log k_1253 ks_58 k_1251 (C_m_log  hr20) ⟨rfl, rfl⟩ (rR hXR ⟨Nat.le_of_ble_eq_true rfl, Nat.le_of_ble_eq_true rfl⟩) rfl rfl (rv_MOD) rfl (Nat.le_of_ble_eq_true rfl) d_m_collapse_95 ?_
    refine r_aload_n (n := 99) rfl ok d_m_collapse_98 rfl 0 rfl ?_
    refine g_MOD_v (n := 102) rfl ok hG  k_986 d_m_collapse_99 ?_
    refine r_iload_n (n := 103) rfl ok d_m_collapse_102 rfl 1 rfl ?_
    obtain ⟨r21, hr21, h⟩ := bd_ok h
    refine r_callS (n := 106) rfl ok hG mf_m_side k_1034 k_1033 (C_m_side  hr21) ⟨rfl, rfl⟩ (rR hXR ⟨Nat.le_of_ble_eq_true rfl, Nat.le_of_ble_eq_true rfl⟩) rfl rfl (Nat.le_of_ble_eq_true rfl) d_m_collapse_103 ?_
    refine r_iconst (v := 5) (n := 107) rfl ok d_m_collapse_106 (by decide) ?_
    refine r_iadd (n := 108) rfl ok d_m_collapse_107 ?_
    obtain ⟨g22, h⟩ := gd_ok h
    refine al_V (n := 109) rfl ok hG  g22 d_m_collapse_108 ?_
    refine r_if_ne (tgt := 120) (n := 112) rfl ok d_m_collapse_109 (by decide) (fun c23 => ?_) (fun c23 => ?_)
    · replace h := if_n c23 h
      refine r_aload_n (n := 121) rfl ok d_m_collapse_120 rfl 0 rfl ?_
      refine g_MOD_v (n := 124) rfl ok hG  k_986 d_m_collapse_121 ?_
      refine r_iload_n (n := 125) rfl ok d_m_collapse_124 rfl 1 rfl ?_
      obtain ⟨r24, hr24, h⟩ := bd_ok h
      refine r_callS (n := 128) rfl ok hG mf_m_side k_1034 k_1033 (C_m_side  hr24) ⟨rfl, rfl⟩ (rR hXR ⟨Nat.le_of_ble_eq_true rfl, Nat.le_of_ble_eq_true rfl⟩) rfl rfl (Nat.le_of_ble_eq_true rfl) d_m_collapse_125 ?_
      refine r_iconst (v := 5) (n := 129) rfl ok d_m_collapse_128 (by decide) ?_
      refine r_iadd (n := 130) rfl ok d_m_collapse_129 ?_
      refine r_iconst (v := 1) (n := 131) rfl ok d_m_collapse_130 (by decide) ?_
      obtain ⟨g25, h⟩ := gd_ok h
      obtain ⟨M26, eM26, h⟩ := bd_ok h
      refine as_V (n := 132) rfl ok hG  g25 d_m_collapse_131 ?_
      refine r_mem (Option.some.inj eM26) ?_
      obtain rfl := Option.some.inj h
      exact fin _ _ d_m_collapse_132
    · replace h := if_p c23 h
      refine r_aload_n (n := 113) rfl ok d_m_collapse_112 rfl 0 rfl ?_
      refine r_iconst (v := 3) (n := 114) rfl ok d_m_collapse_113 (by decide) ?_
      refine r_iload_n (n := 115) rfl ok d_m_collapse_114 rfl 1 rfl ?_
      refine r_bipush (v := (-9)) (n := 117) rfl ok d_m_collapse_115 (by decide) ?_
      obtain ⟨r27, hr27, h⟩ := bd_ok h
      refine r_callV (n := 120) rfl ok hG mf_m_log k_1253 ks_58 k_1251 (C_m_log  hr27) ⟨rfl, rfl⟩ (rR hXR ⟨Nat.le_of_ble_eq_true rfl, Nat.le_of_ble_eq_true rfl⟩) rfl rfl (rv_MOD) rfl (Nat.le_of_ble_eq_true rfl) d_m_collapse_117 ?_
      refine r_aload_n (n := 121) rfl ok d_m_collapse_120 rfl 0 rfl ?_
      refine g_MOD_v (n := 124) rfl ok hG  k_986 d_m_collapse_121 ?_
      refine r_iload_n (n := 125) rfl ok d_m_collapse_124 rfl 1 rfl ?_
      obtain ⟨r28, hr28, h⟩ := bd_ok h
      refine r_callS (n := 128) rfl ok hG mf_m_side k_1034 k_1033 (C_m_side  hr28) ⟨rfl, rfl⟩ (rR hXR ⟨Nat.le_of_ble_eq_true rfl, Nat.le_of_ble_eq_true rfl⟩) rfl rfl (Nat.le_of_ble_eq_true rfl) d_m_collapse_125 ?_
      refine r_iconst (v := 5) (n := 129) rfl ok d_m_collapse_128 (by decide) ?_
      refine r_iadd (n := 130) rfl ok d_m_collapse_129 ?_
      refine r_iconst (v := 1) (n := 131) rfl ok d_m_collapse_130 (by decide) ?_
      obtain ⟨g29, h⟩ := gd_ok h
      obtain ⟨M30, eM30, h⟩ := bd_ok h
      refine as_V (n := 132) rfl ok hG  g29 d_m_collapse_131 ?_
      refine r_mem (Option.some.inj eM30) ?_
      obtain rfl := Option.some.inj h
      exact fin _ _ d_m_collapse_132
