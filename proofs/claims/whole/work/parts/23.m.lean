set_option maxHeartbeats 4000000 in
set_option maxRecDepth 20000 in
theorem w_m_digest_29 {X : Cx Me} {G : Gt} (ok : Ok X b_m_digest "RetryChainsModel") (hG : GM X G) (hXR : X.R = rm_m_digest) (hXn : X.nL = 4) {M : Me}  {t : Int64} (kx : ∀ e : Int64, e = t → Wt X M 52 [(0, .ref (G.1 + 0)), (1, .long e)] [])  : ∀ (n : Nat) (x : Int64 × Int32), lp n (b_m_digest_29 M) x = some t → Wt X M 29 [(0, .ref (G.1 + 0)), (1, .long x.1), (3, .int x.2)] [] := by
  intro n x h
  refine lp_W (P := fun x => Wt X M 29 [(0, .ref (G.1 + 0)), (1, .long x.1), (3, .int x.2)] []) (Z := fun t' => t' = t) (fun x r h hk hz => ?_) n x t h rfl
  unfold b_m_digest_29 at h
  refine r_iload_n (n := 30) rfl ok d_m_digest_29 rfl 2 rfl ?_
  refine r_aload_n (n := 31) rfl ok d_m_digest_30 rfl 0 rfl ?_
  refine g_MOD_v (n := 34) rfl ok hG  k_986 d_m_digest_31 ?_
  refine r_iconst (v := 2) (n := 35) rfl ok d_m_digest_34 (by decide) ?_
  refine al_V (n := 36) rfl ok hG  (show gin 2 600 by decide) d_m_digest_35 ?_
  refine r_icmp_ge (tgt := 52) (n := 39) rfl ok d_m_digest_36 (by decide) (fun c3 => ?_) (fun c3 => ?_)
  · replace h := if_p c3 h
    obtain rfl := Option.some.inj h
    exact r_sub [0, 1] rfl (show Wt X M 52 [(0, .ref (G.1 + 0)), (1, .long x.1)] [] from kx _ (hz _ rfl))
  · replace h := if_n c3 h
    refine r_aload_n (n := 40) rfl ok d_m_digest_39 rfl 0 rfl ?_
    refine r_lload_n (n := 41) rfl ok d_m_digest_40 rfl 1 rfl ?_
    refine r_iload_n (n := 42) rfl ok d_m_digest_41 rfl 2 rfl ?_
    obtain ⟨r4, hr4, h⟩ := bd_ok h
    refine r_callV (n := 45) rfl ok hG mf_m_stationDigest k_1493 ks_75 k_1491 (C_m_stationDigest  hr4) ⟨rfl, rfl⟩ (rR hXR ⟨Nat.le_of_ble_eq_true rfl, Nat.le_of_ble_eq_true rfl⟩) rfl rfl (rv_MOD) rfl (Nat.le_of_ble_eq_true rfl) d_m_digest_42 ?_
    refine r_lstore_n (lv' := [(1, .long r4), (0, .ref (G.1 + 0)), (3, .int x.2)]) (n := 46) rfl ok d_m_digest_45 rfl (lt_n hXn (Nat.le_of_ble_eq_true rfl)) rfl ?_
    obtain ⟨x5, ex5, h⟩ := bd_ok h
    refine r_iinc (lv' := [(3, .int x5), (1, .long r4), (0, .ref (G.1 + 0))]) (n := 49) rfl ok d_m_digest_46 2 rfl (Option.some.inj ex5) (lt_n hXn (Nat.le_of_ble_eq_true rfl)) rfl ?_
    refine r_goto (tgt := 29) ok d_m_digest_49 (by decide) ?_
    obtain rfl := Option.some.inj h
    exact r_sub [2, 1, 0] rfl (show Wt X M 29 [(0, .ref (G.1 + 0)), (1, .long r4), (3, .int x5)] [] from hk _ rfl)
set_option maxHeartbeats 4000000 in
set_option maxRecDepth 20000 in
theorem w_m_digest_54 {X : Cx Me} {G : Gt} (ok : Ok X b_m_digest "RetryChainsModel") (hG : GM X G) (hXR : X.R = rm_m_digest) (hXn : X.nL = 4) {M : Me}  {t : Int64} (kx : ∀ e : Int64, e = t → Wt X M 79 [(1, .long e)] [])  : ∀ (n : Nat) (x : Int64 × Int32), lp n (b_m_digest_54 M) x = some t → Wt X M 54 [(0, .ref (G.1 + 0)), (1, .long x.1), (3, .int x.2)] [] := by
  intro n x h
  refine lp_W (P := fun x => Wt X M 54 [(0, .ref (G.1 + 0)), (1, .long x.1), (3, .int x.2)] []) (Z := fun t' => t' = t) (fun x r h hk hz => ?_) n x t h rfl
  unfold b_m_digest_54 at h
  refine r_iload_n (n := 55) rfl ok d_m_digest_54 rfl 2 rfl ?_
  refine r_bipush (v := 6) (n := 57) rfl ok d_m_digest_55 (by decide) ?_
  refine r_icmp_ge (tgt := 79) (n := 60) rfl ok d_m_digest_57 (by decide) (fun c8 => ?_) (fun c8 => ?_)
  · replace h := if_p c8 h
    obtain rfl := Option.some.inj h
    exact r_sub [1] rfl (show Wt X M 79 [(1, .long x.1)] [] from kx _ (hz _ rfl))
  · replace h := if_n c8 h
    refine r_ldc2 (n := 63) rfl ok d_m_digest_60 k_1490 ?_
    refine r_lload_n (n := 64) rfl ok d_m_digest_63 rfl 1 rfl ?_
    refine r_lmul (n := 65) rfl ok d_m_digest_64 ?_
    refine r_aload_n (n := 66) rfl ok d_m_digest_65 rfl 0 rfl ?_
    refine r_iload_n (n := 67) rfl ok d_m_digest_66 rfl 2 rfl ?_
    obtain ⟨r9, hr9, h⟩ := bd_ok h
    refine r_callV (n := 70) rfl ok hG mf_m_kind k_1297 k_1298 k_1496 (C_m_kind  hr9) ⟨rfl, rfl⟩ (rR hXR ⟨Nat.le_of_ble_eq_true rfl, Nat.le_of_ble_eq_true rfl⟩) rfl rfl (rv_MOD) rfl (Nat.le_of_ble_eq_true rfl) d_m_digest_67 ?_
    refine r_i2l (n := 71) rfl ok d_m_digest_70 ?_
    refine r_ladd (n := 72) rfl ok d_m_digest_71 ?_
    obtain ⟨x10, ex10, h⟩ := bd_ok h
    refine r_tl (Option.some.inj ex10).symm ?_
    refine r_lstore_n (lv' := [(1, .long x10), (0, .ref (G.1 + 0)), (3, .int x.2)]) (n := 73) rfl ok d_m_digest_72 rfl (lt_n hXn (Nat.le_of_ble_eq_true rfl)) rfl ?_
    obtain ⟨x11, ex11, h⟩ := bd_ok h
    refine r_iinc (lv' := [(3, .int x11), (1, .long x10), (0, .ref (G.1 + 0))]) (n := 76) rfl ok d_m_digest_73 2 rfl (Option.some.inj ex11) (lt_n hXn (Nat.le_of_ble_eq_true rfl)) rfl ?_
    refine r_goto (tgt := 54) ok d_m_digest_76 (by decide) ?_
    obtain rfl := Option.some.inj h
    exact r_sub [2, 1, 0] rfl (show Wt X M 54 [(0, .ref (G.1 + 0)), (1, .long x10), (3, .int x11)] [] from hk _ rfl)
set_option maxHeartbeats 4000000 in
set_option maxRecDepth 20000 in
theorem C_m_digest {l : Launch} {G : Gt} {M : Me}   {o : Int64} (h : f_m_digest M = some o) : Ct l G (WM G) (rM G) y_m_digest b_m_digest 4 (some .long) rm_m_digest [.ref (G.1 + 0)] M (some (.long o)) M := by
  refine Ct.mk (own := "RetryChainsModel") rfl (by decide) (Nat.le_of_ble_eq_true rfl) rfl (fun X hXl hXR hXn ok hG fin => ?_)
  subst hXl
  unfold f_m_digest at h
  show Wt X M 0 [(0, .ref (G.1 + 0))] []
  refine r_ldc2 (n := 3) rfl ok d_m_digest_0 k_1489 ?_
  refine r_aload_n (n := 4) rfl ok d_m_digest_3 rfl 0 rfl ?_
  refine g_MOD_v (n := 7) rfl ok hG  k_986 d_m_digest_4 ?_
  refine r_iconst (v := 0) (n := 8) rfl ok d_m_digest_7 (by decide) ?_
  refine al_V (n := 9) rfl ok hG  (show gin 0 600 by decide) d_m_digest_8 ?_
  refine r_i2l (n := 10) rfl ok d_m_digest_9 ?_
  refine r_ladd (n := 11) rfl ok d_m_digest_10 ?_
  obtain ⟨x1, ex1, h⟩ := bd_ok h
  refine r_tl (Option.some.inj ex1).symm ?_
  refine r_lstore_n (lv' := [(1, .long x1), (0, .ref (G.1 + 0))]) (n := 12) rfl ok d_m_digest_11 rfl (lt_n hXn (Nat.le_of_ble_eq_true rfl)) rfl ?_
  refine r_ldc2 (n := 15) rfl ok d_m_digest_12 k_1490 ?_
  refine r_lload_n (n := 16) rfl ok d_m_digest_15 rfl 0 rfl ?_
  refine r_lmul (n := 17) rfl ok d_m_digest_16 ?_
  refine r_aload_n (n := 18) rfl ok d_m_digest_17 rfl 1 rfl ?_
  refine g_MOD_v (n := 21) rfl ok hG  k_986 d_m_digest_18 ?_
  refine r_bipush (v := 8) (n := 23) rfl ok d_m_digest_21 (by decide) ?_
  refine al_V (n := 24) rfl ok hG  (show gin 8 600 by decide) d_m_digest_23 ?_
  refine r_i2l (n := 25) rfl ok d_m_digest_24 ?_
  refine r_ladd (n := 26) rfl ok d_m_digest_25 ?_
  obtain ⟨x2, ex2, h⟩ := bd_ok h
  refine r_tl (Option.some.inj ex2).symm ?_
  refine r_lstore_n (lv' := [(1, .long x2), (0, .ref (G.1 + 0))]) (n := 27) rfl ok d_m_digest_26 rfl (lt_n hXn (Nat.le_of_ble_eq_true rfl)) rfl ?_
  refine r_iconst (v := 0) (n := 28) rfl ok d_m_digest_27 (by decide) ?_
  refine r_istore_n (lv' := [(3, .int 0), (1, .long x2), (0, .ref (G.1 + 0))]) (n := 29) rfl ok d_m_digest_28 rfl (lt_n hXn (Nat.le_of_ble_eq_true rfl)) rfl ?_
  obtain ⟨t6, ht6, h⟩ := bd_ok h
  refine r_sub [2, 1, 0] rfl (show Wt X M 29 [(0, .ref (G.1 + 0)), (1, .long x2), (3, .int 0)] [] from w_m_digest_29 ok hG hXR hXn  ?_ _ _ ht6)
  · intro e7 he
    subst he
    refine r_iconst (v := 0) (n := 53) rfl ok d_m_digest_52 (by decide) ?_
    refine r_istore_n (lv' := [(3, .int 0), (0, .ref (G.1 + 0)), (1, .long e7)]) (n := 54) rfl ok d_m_digest_53 rfl (lt_n hXn (Nat.le_of_ble_eq_true rfl)) rfl ?_
    obtain ⟨t12, ht12, h⟩ := bd_ok h
    refine r_sub [1, 2, 0] rfl (show Wt X M 54 [(0, .ref (G.1 + 0)), (1, .long e7), (3, .int 0)] [] from w_m_digest_54 ok hG hXR hXn  ?_ _ _ ht12)
    · intro e13 he
      subst he
      refine r_lload_n (n := 80) rfl ok d_m_digest_79 rfl 0 rfl ?_
      obtain rfl := Option.some.inj h
      exact fin _ _ d_m_digest_80
