set_option maxHeartbeats 4000000 in
set_option maxRecDepth 20000 in
theorem C_ch_become {l : Launch} {G : Gt} {M : Me} {i0 : Nat} {s0 : Nat} {i1 : Nat} {s1 : Nat} (hi0 : i0 < 9) (hs0 : s0 < 6) (hi1 : i1 < 9) (hs1 : s1 < 6) {o : Me} (h : f_ch_become M i0 s0 i1 s1 = some o) : Ct l G (WC G) (rC G) y_ch_become b_ch_become 2 none rm_ch_become [.ref (G.1 + oCHN i0 s0), .ref (G.1 + oCHN i1 s1)] M (none) o := by
  refine Ct.mk (own := "RetryChains$Chain") rfl (by decide) (Nat.le_of_ble_eq_true rfl) rfl (fun X hXl hXR hXn ok hG fin => ?_)
  subst hXl
  unfold f_ch_become at h
  show Wt X M 0 [(0, .ref (G.1 + oCHN i0 s0)), (1, .ref (G.1 + oCHN i1 s1))] []
  refine r_aload_n (n := 1) rfl ok d_ch_become_0 rfl 0 rfl ?_
  refine r_aload_n (n := 2) rfl ok d_ch_become_1 rfl 1 rfl ?_
  refine g_CHN_isOpen (n := 5) rfl ok hG hi1 hs1 k_204 d_ch_become_2 ?_
  obtain ⟨g1, h⟩ := gd_ok h
  obtain ⟨M2, eM2, h⟩ := bd_ok h
  refine p_CHN_isOpen (n := 8) rfl ok hG hi0 hs0 g1 k_204 d_ch_become_5 ?_
  refine r_mem (Option.some.inj eM2) ?_
  refine r_aload_n (n := 9) rfl ok d_ch_become_8 rfl 0 rfl ?_
  refine r_aload_n (n := 10) rfl ok d_ch_become_9 rfl 1 rfl ?_
  refine g_CHN_station (n := 13) rfl ok hG hi1 hs1 k_206 d_ch_become_10 ?_
  obtain ⟨M3, eM3, h⟩ := bd_ok h
  refine p_CHN_station (n := 16) rfl ok hG hi0 hs0 k_206 d_ch_become_13 ?_
  refine r_mem (Option.some.inj eM3) ?_
  refine r_aload_n (n := 17) rfl ok d_ch_become_16 rfl 0 rfl ?_
  refine r_aload_n (n := 18) rfl ok d_ch_become_17 rfl 1 rfl ?_
  refine g_CHN_size (n := 21) rfl ok hG hi1 hs1 k_209 d_ch_become_18 ?_
  obtain ⟨M4, eM4, h⟩ := bd_ok h
  refine p_CHN_size (n := 24) rfl ok hG hi0 hs0 k_209 d_ch_become_21 ?_
  refine r_mem (Option.some.inj eM4) ?_
  refine r_aload_n (n := 25) rfl ok d_ch_become_24 rfl 0 rfl ?_
  refine r_aload_n (n := 26) rfl ok d_ch_become_25 rfl 1 rfl ?_
  refine g_CHN_kind (n := 29) rfl ok hG hi1 hs1 k_212 d_ch_become_26 ?_
  obtain ⟨M5, eM5, h⟩ := bd_ok h
  refine p_CHN_kind (n := 32) rfl ok hG hi0 hs0 k_212 d_ch_become_29 ?_
  refine r_mem (Option.some.inj eM5) ?_
  refine r_aload_n (n := 33) rfl ok d_ch_become_32 rfl 0 rfl ?_
  refine r_aload_n (n := 34) rfl ok d_ch_become_33 rfl 1 rfl ?_
  refine g_CHN_sampleEntry (n := 37) rfl ok hG hi1 hs1 k_215 d_ch_become_34 ?_
  obtain ⟨M6, eM6, h⟩ := bd_ok h
  refine p_CHN_sampleEntry (n := 40) rfl ok hG hi0 hs0 k_215 d_ch_become_37 ?_
  refine r_mem (Option.some.inj eM6) ?_
  refine r_aload_n (n := 41) rfl ok d_ch_become_40 rfl 1 rfl ?_
  refine g_CHN_rates (n := 44) rfl ok hG hi1 hs1 k_218 d_ch_become_41 ?_
  refine r_iconst (v := 0) (n := 45) rfl ok d_ch_become_44 (by decide) ?_
  refine r_aload_n (n := 46) rfl ok d_ch_become_45 rfl 0 rfl ?_
  refine g_CHN_rates (n := 49) rfl ok hG hi0 hs0 k_218 d_ch_become_46 ?_
  refine r_iconst (v := 0) (n := 50) rfl ok d_ch_become_49 (by decide) ?_
  refine r_iconst (v := 4) (n := 51) rfl ok d_ch_become_50 (by decide) ?_
  obtain ⟨M7, eM7, h⟩ := bd_ok h
  refine cp_CRATES (n := 54) rfl ok hG hi0 hs0 (wC_get (ky_CRATES i1 hi1 s1 hs1)) (sn := 0) (dn := 0) (zn := 4) (by decide) (by decide) (by decide) (by decide) (by decide) (by decide) (Nat.le_of_ble_eq_true rfl) (Nat.le_of_ble_eq_true rfl) k_406 k_392 k_391 k_13 (rR hXR ⟨Nat.le_of_ble_eq_true rfl, Nat.le_of_ble_eq_true rfl⟩) d_ch_become_51 ?_
  refine r_mem (Option.some.inj eM7) ?_
  refine r_aload_n (n := 55) rfl ok d_ch_become_54 rfl 1 rfl ?_
  refine g_CHN_tries (n := 58) rfl ok hG hi1 hs1 k_221 d_ch_become_55 ?_
  refine r_iconst (v := 0) (n := 59) rfl ok d_ch_become_58 (by decide) ?_
  refine r_aload_n (n := 60) rfl ok d_ch_become_59 rfl 0 rfl ?_
  refine g_CHN_tries (n := 63) rfl ok hG hi0 hs0 k_221 d_ch_become_60 ?_
  refine r_iconst (v := 0) (n := 64) rfl ok d_ch_become_63 (by decide) ?_
  refine r_iconst (v := 4) (n := 65) rfl ok d_ch_become_64 (by decide) ?_
  obtain ⟨M8, eM8, h⟩ := bd_ok h
  refine cp_CTRIES (n := 68) rfl ok hG hi0 hs0 (wC_get (ky_CTRIES i1 hi1 s1 hs1)) (sn := 0) (dn := 0) (zn := 4) (by decide) (by decide) (by decide) (by decide) (by decide) (by decide) (Nat.le_of_ble_eq_true rfl) (Nat.le_of_ble_eq_true rfl) k_406 k_392 k_391 k_13 (rR hXR ⟨Nat.le_of_ble_eq_true rfl, Nat.le_of_ble_eq_true rfl⟩) d_ch_become_65 ?_
  refine r_mem (Option.some.inj eM8) ?_
  obtain rfl := Option.some.inj h
  exact fin _ _ d_ch_become_68
set_option maxHeartbeats 4000000 in
set_option maxRecDepth 20000 in
theorem C_ch_setRates {l : Launch} {G : Gt} {M : Me} {i0 : Nat} {s0 : Nat} {a1 : Int32} {a2 : Int32} {a3 : Int32} {a4 : Int32} (hi0 : i0 < 9) (hs0 : s0 < 6) {o : Me} (h : f_ch_setRates M i0 s0 a1 a2 a3 a4 = some o) : Ct l G (WC G) (rC G) y_ch_setRates b_ch_setRates 5 none rm_ch_setRates [.ref (G.1 + oCHN i0 s0), .int a1, .int a2, .int a3, .int a4] M (none) o := by
  refine Ct.mk (own := "RetryChains$Chain") rfl (by decide) (Nat.le_of_ble_eq_true rfl) rfl (fun X hXl hXR hXn ok hG fin => ?_)
  subst hXl
  unfold f_ch_setRates at h
  show Wt X M 0 [(0, .ref (G.1 + oCHN i0 s0)), (1, .int a1), (2, .int a2), (3, .int a3), (4, .int a4)] []
  refine r_aload_n (n := 1) rfl ok d_ch_setRates_0 rfl 0 rfl ?_
  refine g_CHN_rates (n := 4) rfl ok hG hi0 hs0 k_218 d_ch_setRates_1 ?_
  refine r_iconst (v := 0) (n := 5) rfl ok d_ch_setRates_4 (by decide) ?_
  refine r_iload_n (n := 6) rfl ok d_ch_setRates_5 rfl 1 rfl ?_
  obtain ⟨M1, eM1, h⟩ := bd_ok h
  refine as_CRATES (n := 7) rfl ok hG hi0 hs0 (show gin 0 4 by decide) d_ch_setRates_6 ?_
  refine r_mem (Option.some.inj eM1) ?_
  refine r_aload_n (n := 8) rfl ok d_ch_setRates_7 rfl 0 rfl ?_
  refine g_CHN_rates (n := 11) rfl ok hG hi0 hs0 k_218 d_ch_setRates_8 ?_
  refine r_iconst (v := 1) (n := 12) rfl ok d_ch_setRates_11 (by decide) ?_
  refine r_iload_n (n := 13) rfl ok d_ch_setRates_12 rfl 2 rfl ?_
  obtain ⟨M2, eM2, h⟩ := bd_ok h
  refine as_CRATES (n := 14) rfl ok hG hi0 hs0 (show gin 1 4 by decide) d_ch_setRates_13 ?_
  refine r_mem (Option.some.inj eM2) ?_
  refine r_aload_n (n := 15) rfl ok d_ch_setRates_14 rfl 0 rfl ?_
  refine g_CHN_rates (n := 18) rfl ok hG hi0 hs0 k_218 d_ch_setRates_15 ?_
  refine r_iconst (v := 2) (n := 19) rfl ok d_ch_setRates_18 (by decide) ?_
  refine r_iload_n (n := 20) rfl ok d_ch_setRates_19 rfl 3 rfl ?_
  obtain ⟨M3, eM3, h⟩ := bd_ok h
  refine as_CRATES (n := 21) rfl ok hG hi0 hs0 (show gin 2 4 by decide) d_ch_setRates_20 ?_
  refine r_mem (Option.some.inj eM3) ?_
  refine r_aload_n (n := 22) rfl ok d_ch_setRates_21 rfl 0 rfl ?_
  refine g_CHN_rates (n := 25) rfl ok hG hi0 hs0 k_218 d_ch_setRates_22 ?_
  refine r_iconst (v := 3) (n := 26) rfl ok d_ch_setRates_25 (by decide) ?_
  refine r_iload (n := 28) rfl ok d_ch_setRates_26 4 rfl ?_
  obtain ⟨M4, eM4, h⟩ := bd_ok h
  refine as_CRATES (n := 29) rfl ok hG hi0 hs0 (show gin 3 4 by decide) d_ch_setRates_28 ?_
  refine r_mem (Option.some.inj eM4) ?_
  obtain rfl := Option.some.inj h
  exact fin _ _ d_ch_setRates_29
set_option maxHeartbeats 4000000 in
set_option maxRecDepth 20000 in
theorem w_ch_allTries_4 {X : Cx Me} {G : Gt} (ok : Ok X b_ch_allTries "RetryChains$Chain") (hG : GC X G) (hXR : X.R = rm_ch_allTries) (hXn : X.nL = 3) {M : Me} {j0a : Nat} {j0b : Nat} (hj0a : j0a < 9) (hj0b : j0b < 6) {t : Int32} (kx : ∀ e : Int32, e = t → Wt X M 24 [(1, .int e)] [])  : ∀ (n : Nat) (x : Int32 × Int32), lp n (b_ch_allTries_4 M j0a j0b) x = some t → Wt X M 4 [(0, .ref (G.1 + oCHN j0a j0b)), (1, .int x.1), (2, .int x.2)] [] := by
  intro n x h
  refine lp_W (P := fun x => Wt X M 4 [(0, .ref (G.1 + oCHN j0a j0b)), (1, .int x.1), (2, .int x.2)] []) (Z := fun t' => t' = t) (fun x r h hk hz => ?_) n x t h rfl
  unfold b_ch_allTries_4 at h
  refine r_iload_n (n := 5) rfl ok d_ch_allTries_4 rfl 2 rfl ?_
  refine r_iconst (v := 4) (n := 6) rfl ok d_ch_allTries_5 (by decide) ?_
  refine r_icmp_ge (tgt := 24) (n := 9) rfl ok d_ch_allTries_6 (by decide) (fun c1 => ?_) (fun c1 => ?_)
  · replace h := if_p c1 h
    obtain rfl := Option.some.inj h
    exact r_sub [1] rfl (show Wt X M 24 [(1, .int x.1)] [] from kx _ (hz _ rfl))
  · replace h := if_n c1 h
    refine r_iload_n (n := 10) rfl ok d_ch_allTries_9 rfl 1 rfl ?_
    refine r_aload_n (n := 11) rfl ok d_ch_allTries_10 rfl 0 rfl ?_
    refine g_CHN_tries (n := 14) rfl ok hG hj0a hj0b k_221 d_ch_allTries_11 ?_
    refine r_iload_n (n := 15) rfl ok d_ch_allTries_14 rfl 2 rfl ?_
    obtain ⟨g2, h⟩ := gd_ok h
    refine al_CTRIES (n := 16) rfl ok hG hj0a hj0b g2 d_ch_allTries_15 ?_
    refine r_iadd (n := 17) rfl ok d_ch_allTries_16 ?_
    obtain ⟨x3, ex3, h⟩ := bd_ok h
    refine r_ti (Option.some.inj ex3).symm ?_
    refine r_istore_n (lv' := [(1, .int x3), (0, .ref (G.1 + oCHN j0a j0b)), (2, .int x.2)]) (n := 18) rfl ok d_ch_allTries_17 rfl (lt_n hXn (Nat.le_of_ble_eq_true rfl)) rfl ?_
    obtain ⟨x4, ex4, h⟩ := bd_ok h
    refine r_iinc (lv' := [(2, .int x4), (1, .int x3), (0, .ref (G.1 + oCHN j0a j0b))]) (n := 21) rfl ok d_ch_allTries_18 2 rfl (Option.some.inj ex4) (lt_n hXn (Nat.le_of_ble_eq_true rfl)) rfl ?_
    refine r_goto (tgt := 4) ok d_ch_allTries_21 (by decide) ?_
    obtain rfl := Option.some.inj h
    exact r_sub [2, 1, 0] rfl (show Wt X M 4 [(0, .ref (G.1 + oCHN j0a j0b)), (1, .int x3), (2, .int x4)] [] from hk _ rfl)
set_option maxHeartbeats 4000000 in
set_option maxRecDepth 20000 in
theorem C_ch_allTries {l : Launch} {G : Gt} {M : Me} {i0 : Nat} {s0 : Nat} (hi0 : i0 < 9) (hs0 : s0 < 6) {o : Int32} (h : f_ch_allTries M i0 s0 = some o) : Ct l G (WC G) (rC G) y_ch_allTries b_ch_allTries 3 (some .int) rm_ch_allTries [.ref (G.1 + oCHN i0 s0)] M (some (.int o)) M := by
  refine Ct.mk (own := "RetryChains$Chain") rfl (by decide) (Nat.le_of_ble_eq_true rfl) ⟨_, rfl⟩ (fun X hXl hXR hXn ok hG fin => ?_)
  subst hXl
  unfold f_ch_allTries at h
  show Wt X M 0 [(0, .ref (G.1 + oCHN i0 s0))] []
  refine r_iconst (v := 0) (n := 1) rfl ok d_ch_allTries_0 (by decide) ?_
  refine r_istore_n (lv' := [(1, .int 0), (0, .ref (G.1 + oCHN i0 s0))]) (n := 2) rfl ok d_ch_allTries_1 rfl (lt_n hXn (Nat.le_of_ble_eq_true rfl)) rfl ?_
  refine r_iconst (v := 0) (n := 3) rfl ok d_ch_allTries_2 (by decide) ?_
  refine r_istore_n (lv' := [(2, .int 0), (1, .int 0), (0, .ref (G.1 + oCHN i0 s0))]) (n := 4) rfl ok d_ch_allTries_3 rfl (lt_n hXn (Nat.le_of_ble_eq_true rfl)) rfl ?_
  obtain ⟨t5, ht5, h⟩ := bd_ok h
  refine r_sub [2, 1, 0] rfl (show Wt X M 4 [(0, .ref (G.1 + oCHN i0 s0)), (1, .int 0), (2, .int 0)] [] from w_ch_allTries_4 ok hG hXR hXn hi0 hs0 ?_ _ _ ht5)
  · intro e6 he
    subst he
    refine r_iload_n (n := 25) rfl ok d_ch_allTries_24 rfl 0 rfl ?_
    obtain rfl := Option.some.inj h
    exact fin _ _ ⟨.int, rfl, rfl⟩ d_ch_allTries_25
set_option maxHeartbeats 4000000 in
set_option maxRecDepth 20000 in
theorem w_ch_rateOfTry_4 {X : Cx Me} {G : Gt} (ok : Ok X b_ch_rateOfTry "RetryChains$Chain") (hG : GC X G) (hXR : X.R = rm_ch_rateOfTry) (hXn : X.nL = 4) {M : Me} {j0a : Nat} {j0b : Nat} (hj0a : j0a < 9) (hj0b : j0b < 6) {t : (Unit) ⊕ (Int32)} (kx : ∀ e : Unit, (Sum.inl e : (Unit) ⊕ (Int32)) = t → Wt X M 41 [] []) (kr : ∀ o : Int32, (Sum.inr o : (Unit) ⊕ (Int32)) = t → Fin X b_ch_rateOfTry (some .int) (some (.int o)) M) : ∀ (n : Nat) (x : Int32 × Int32), lp n (b_ch_rateOfTry_4 M j0a j0b) x = some t → Wt X M 4 [(0, .ref (G.1 + oCHN j0a j0b)), (2, .int x.1), (3, .int x.2)] [] := by
  intro n x h
  refine lp_W (P := fun x => Wt X M 4 [(0, .ref (G.1 + oCHN j0a j0b)), (2, .int x.1), (3, .int x.2)] []) (Z := fun t' => t' = t) (fun x r h hk hz => ?_) n x t h rfl
  unfold b_ch_rateOfTry_4 at h
  refine r_iload_n (n := 5) rfl ok d_ch_rateOfTry_4 rfl 2 rfl ?_
  refine r_iconst (v := 4) (n := 6) rfl ok d_ch_rateOfTry_5 (by decide) ?_
  refine r_icmp_ge (tgt := 41) (n := 9) rfl ok d_ch_rateOfTry_6 (by decide) (fun c1 => ?_) (fun c1 => ?_)
  · replace h := if_p c1 h
    obtain rfl := Option.some.inj h
    exact r_sub [] rfl (show Wt X M 41 [] [] from kx _ (hz _ rfl))
  · replace h := if_n c1 h
    refine r_iload_n (n := 10) rfl ok d_ch_rateOfTry_9 rfl 1 rfl ?_
    refine r_aload_n (n := 11) rfl ok d_ch_rateOfTry_10 rfl 0 rfl ?_
    refine g_CHN_tries (n := 14) rfl ok hG hj0a hj0b k_221 d_ch_rateOfTry_11 ?_
    refine r_iload_n (n := 15) rfl ok d_ch_rateOfTry_14 rfl 2 rfl ?_
    obtain ⟨g2, h⟩ := gd_ok h
    refine al_CTRIES (n := 16) rfl ok hG hj0a hj0b g2 d_ch_rateOfTry_15 ?_
    refine r_icmp_ge (tgt := 26) (n := 19) rfl ok d_ch_rateOfTry_16 (by decide) (fun c3 => ?_) (fun c3 => ?_)
    · replace h := if_p c3 h
      refine r_iload_n (n := 27) rfl ok d_ch_rateOfTry_26 rfl 1 rfl ?_
      refine r_aload_n (n := 28) rfl ok d_ch_rateOfTry_27 rfl 0 rfl ?_
      refine g_CHN_tries (n := 31) rfl ok hG hj0a hj0b k_221 d_ch_rateOfTry_28 ?_
      refine r_iload_n (n := 32) rfl ok d_ch_rateOfTry_31 rfl 2 rfl ?_
      obtain ⟨g4, h⟩ := gd_ok h
      refine al_CTRIES (n := 33) rfl ok hG hj0a hj0b g4 d_ch_rateOfTry_32 ?_
      refine r_isub (n := 34) rfl ok d_ch_rateOfTry_33 ?_
      obtain ⟨x5, ex5, h⟩ := bd_ok h
      refine r_ti (Option.some.inj ex5).symm ?_
      refine r_istore_n (lv' := [(2, .int x5), (0, .ref (G.1 + oCHN j0a j0b)), (3, .int x.2)]) (n := 35) rfl ok d_ch_rateOfTry_34 rfl (lt_n hXn (Nat.le_of_ble_eq_true rfl)) rfl ?_
      obtain ⟨x6, ex6, h⟩ := bd_ok h
      refine r_iinc (lv' := [(3, .int x6), (2, .int x5), (0, .ref (G.1 + oCHN j0a j0b))]) (n := 38) rfl ok d_ch_rateOfTry_35 2 rfl (Option.some.inj ex6) (lt_n hXn (Nat.le_of_ble_eq_true rfl)) rfl ?_
      refine r_goto (tgt := 4) ok d_ch_rateOfTry_38 (by decide) ?_
      obtain rfl := Option.some.inj h
      exact r_sub [2, 1, 0] rfl (show Wt X M 4 [(0, .ref (G.1 + oCHN j0a j0b)), (2, .int x5), (3, .int x6)] [] from hk _ rfl)
    · replace h := if_n c3 h
      refine r_aload_n (n := 20) rfl ok d_ch_rateOfTry_19 rfl 0 rfl ?_
      refine g_CHN_rates (n := 23) rfl ok hG hj0a hj0b k_218 d_ch_rateOfTry_20 ?_
      refine r_iload_n (n := 24) rfl ok d_ch_rateOfTry_23 rfl 2 rfl ?_
      obtain ⟨g7, h⟩ := gd_ok h
      refine al_CRATES (n := 25) rfl ok hG hj0a hj0b g7 d_ch_rateOfTry_24 ?_
      obtain rfl := Option.some.inj h
      exact kr _ (hz _ rfl) _ _ ⟨.int, rfl, rfl⟩ d_ch_rateOfTry_25
set_option maxHeartbeats 4000000 in
set_option maxRecDepth 20000 in
theorem C_ch_rateOfTry {l : Launch} {G : Gt} {M : Me} {i0 : Nat} {s0 : Nat} {a1 : Int32} (hi0 : i0 < 9) (hs0 : s0 < 6) {o : Int32} (h : f_ch_rateOfTry M i0 s0 a1 = some o) : Ct l G (WC G) (rC G) y_ch_rateOfTry b_ch_rateOfTry 4 (some .int) rm_ch_rateOfTry [.ref (G.1 + oCHN i0 s0), .int a1] M (some (.int o)) M := by
  refine Ct.mk (own := "RetryChains$Chain") rfl (by decide) (Nat.le_of_ble_eq_true rfl) ⟨_, rfl⟩ (fun X hXl hXR hXn ok hG fin => ?_)
  subst hXl
  unfold f_ch_rateOfTry at h
  show Wt X M 0 [(0, .ref (G.1 + oCHN i0 s0)), (1, .int a1)] []
  refine r_iload_n (n := 1) rfl ok d_ch_rateOfTry_0 rfl 1 rfl ?_
  refine r_istore_n (lv' := [(2, .int a1), (0, .ref (G.1 + oCHN i0 s0)), (1, .int a1)]) (n := 2) rfl ok d_ch_rateOfTry_1 rfl (lt_n hXn (Nat.le_of_ble_eq_true rfl)) rfl ?_
  refine r_iconst (v := 0) (n := 3) rfl ok d_ch_rateOfTry_2 (by decide) ?_
  refine r_istore_n (lv' := [(3, .int 0), (2, .int a1), (0, .ref (G.1 + oCHN i0 s0)), (1, .int a1)]) (n := 4) rfl ok d_ch_rateOfTry_3 rfl (lt_n hXn (Nat.le_of_ble_eq_true rfl)) rfl ?_
  obtain ⟨t8, ht8, h⟩ := bd_ok h
  refine r_sub [2, 1, 0] rfl (show Wt X M 4 [(0, .ref (G.1 + oCHN i0 s0)), (2, .int a1), (3, .int 0)] [] from w_ch_rateOfTry_4 ok hG hXR hXn hi0 hs0 ?_ ?_ _ _ ht8)
  · intro e9 he
    subst he
    replace h := su_l h
    refine r_bipush (v := (-9)) (n := 43) rfl ok d_ch_rateOfTry_41 (by decide) ?_
    obtain rfl := Option.some.inj h
    exact fin _ _ ⟨.int, rfl, rfl⟩ d_ch_rateOfTry_43
  · intro o he
    subst he
    replace h := su_r h
    obtain rfl := Option.some.inj h
    exact fin
set_option maxHeartbeats 4000000 in
set_option maxRecDepth 20000 in
theorem C_lk_estimateOrZero {l : Launch} {G : Gt} {M : Me} {i0 : Nat} {s0 : Nat} {r0 : Nat} (hi0 : i0 < 9) (hs0 : s0 < 4) (hr0 : r0 < 8) {o : Int32} (h : f_lk_estimateOrZero M i0 s0 r0 = some o) : Ct l G (WC G) (rC G) y_lk_estimateOrZero b_lk_estimateOrZero 1 (some .int) rm_lk_estimateOrZero [.ref (G.1 + oLNK i0 s0 r0)] M (some (.int o)) M := by
  refine Ct.mk (own := "RetryChains$Link") rfl (by decide) (Nat.le_of_ble_eq_true rfl) ⟨_, rfl⟩ (fun X hXl hXR hXn ok hG fin => ?_)
  subst hXl
  unfold f_lk_estimateOrZero at h
  show Wt X M 0 [(0, .ref (G.1 + oLNK i0 s0 r0))] []
  refine r_aload_n (n := 1) rfl ok d_lk_estimateOrZero_0 rfl 0 rfl ?_
  refine g_LNK_estimate (n := 4) rfl ok hG hi0 hs0 hr0 k_91 d_lk_estimateOrZero_1 ?_
  refine r_bipush (v := (-9)) (n := 6) rfl ok d_lk_estimateOrZero_4 (by decide) ?_
  refine r_icmp_ne (tgt := 13) (n := 9) rfl ok d_lk_estimateOrZero_6 (by decide) (fun c1 => ?_) (fun c1 => ?_)
  · replace h := if_n c1 h
    refine r_aload_n (n := 14) rfl ok d_lk_estimateOrZero_13 rfl 0 rfl ?_
    refine g_LNK_estimate (n := 17) rfl ok hG hi0 hs0 hr0 k_91 d_lk_estimateOrZero_14 ?_
    obtain rfl := Option.some.inj h
    exact fin _ _ ⟨.int, rfl, rfl⟩ d_lk_estimateOrZero_17
  · replace h := if_p c1 h
    refine r_iconst (v := 0) (n := 10) rfl ok d_lk_estimateOrZero_9 (by decide) ?_
    refine r_goto (tgt := 17) ok d_lk_estimateOrZero_10 (by decide) ?_
    obtain rfl := Option.some.inj h
    exact fin _ _ ⟨.int, rfl, rfl⟩ d_lk_estimateOrZero_17
set_option maxHeartbeats 4000000 in
set_option maxRecDepth 20000 in
theorem C_tb_dividedUp {l : Launch} {G : Gt} {W0 : Me → Heap → Prop} {A : Nat → Prop} {M : Me} {a1 : Int32} {a2 : Int32}  {o : Int32} (h : f_tb_dividedUp a1 a2 = some o) : Ct l G W0 A y_tb_dividedUp b_tb_dividedUp 2 (some .int) rm_tb_dividedUp [.int a1, .int a2] M (some (.int o)) M := by
  refine Ct.mk (own := "RetryChains$RateTable") rfl (by decide) (Nat.le_of_ble_eq_true rfl) ⟨_, rfl⟩ (fun X hXl hXR hXn ok hG fin => ?_)
  subst hXl
  unfold f_tb_dividedUp at h
  show Wt X M 0 [(0, .int a1), (1, .int a2)] []
  refine r_iload_n (n := 1) rfl ok d_tb_dividedUp_0 rfl 1 rfl ?_
  refine r_iconst (v := 1) (n := 2) rfl ok d_tb_dividedUp_1 (by decide) ?_
  refine r_icmp_ge (tgt := 9) (n := 5) rfl ok d_tb_dividedUp_2 (by decide) (fun c1 => ?_) (fun c1 => ?_)
  · replace h := if_p c1 h
    refine r_iload_n (n := 10) rfl ok d_tb_dividedUp_9 rfl 0 rfl ?_
    refine r_iload_n (n := 11) rfl ok d_tb_dividedUp_10 rfl 1 rfl ?_
    refine r_iadd (n := 12) rfl ok d_tb_dividedUp_11 ?_
    refine r_iconst (v := 1) (n := 13) rfl ok d_tb_dividedUp_12 (by decide) ?_
    refine r_isub (n := 14) rfl ok d_tb_dividedUp_13 ?_
    refine r_iload_n (n := 15) rfl ok d_tb_dividedUp_14 rfl 1 rfl ?_
    obtain ⟨g2, h⟩ := gd_ok h
    refine r_idiv (n := 16) rfl ok d_tb_dividedUp_15 g2 ?_
    obtain rfl := Option.some.inj h
    exact fin _ _ ⟨.int, rfl, rfl⟩ d_tb_dividedUp_16
  · replace h := if_n c1 h
    refine r_iconst (v := 0) (n := 6) rfl ok d_tb_dividedUp_5 (by decide) ?_
    refine r_goto (tgt := 16) ok d_tb_dividedUp_6 (by decide) ?_
    obtain rfl := Option.some.inj h
    exact fin _ _ ⟨.int, rfl, rfl⟩ d_tb_dividedUp_16
set_option maxHeartbeats 4000000 in
set_option maxRecDepth 20000 in
theorem C_tb_has {l : Launch} {G : Gt} {M : Me} {i0 : Nat} {a1 : Int32} (hi0 : i0 < 9) {o : Int32} (h : f_tb_has M i0 a1 = some o) : Ct l G (WC G) (rC G) y_tb_has b_tb_has 2 (some .boolean) rm_tb_has [.ref (G.1 + oTAB i0), .int a1] M (some (.int o)) M := by
  refine Ct.mk (own := "RetryChains$RateTable") rfl (by decide) (Nat.le_of_ble_eq_true rfl) ⟨_, rfl⟩ (fun X hXl hXR hXn ok hG fin => ?_)
  subst hXl
  unfold f_tb_has at h
  show Wt X M 0 [(0, .ref (G.1 + oTAB i0)), (1, .int a1)] []
  refine r_iload_n (n := 1) rfl ok d_tb_has_0 rfl 1 rfl ?_
  refine r_if_lt (tgt := 22) (n := 4) rfl ok d_tb_has_1 (by decide) (fun c1 => ?_) (fun c1 => ?_)
  · replace h := if_p c1 h
    refine r_iconst (v := 0) (n := 23) rfl ok d_tb_has_22 (by decide) ?_
    obtain rfl := Option.some.inj h
    exact fin _ _ ⟨.boolean, rfl, nz0⟩ d_tb_has_23
  · replace h := if_n c1 h
    refine r_iload_n (n := 5) rfl ok d_tb_has_4 rfl 1 rfl ?_
    refine r_aload_n (n := 6) rfl ok d_tb_has_5 rfl 0 rfl ?_
    refine g_TAB_count (n := 9) rfl ok hG hi0 k_34 d_tb_has_6 ?_
    refine r_icmp_ge (tgt := 22) (n := 12) rfl ok d_tb_has_9 (by decide) (fun c2 => ?_) (fun c2 => ?_)
    · replace h := if_p c2 h
      refine r_iconst (v := 0) (n := 23) rfl ok d_tb_has_22 (by decide) ?_
      obtain rfl := Option.some.inj h
      exact fin _ _ ⟨.boolean, rfl, nz0⟩ d_tb_has_23
    · replace h := if_n c2 h
      refine r_iload_n (n := 13) rfl ok d_tb_has_12 rfl 1 rfl ?_
      refine r_bipush (v := 8) (n := 15) rfl ok d_tb_has_13 (by decide) ?_
      refine r_icmp_ge (tgt := 22) (n := 18) rfl ok d_tb_has_15 (by decide) (fun c3 => ?_) (fun c3 => ?_)
      · replace h := if_p c3 h
        refine r_iconst (v := 0) (n := 23) rfl ok d_tb_has_22 (by decide) ?_
        obtain rfl := Option.some.inj h
        exact fin _ _ ⟨.boolean, rfl, nz0⟩ d_tb_has_23
      · replace h := if_n c3 h
        refine r_iconst (v := 1) (n := 19) rfl ok d_tb_has_18 (by decide) ?_
        refine r_goto (tgt := 23) ok d_tb_has_19 (by decide) ?_
        obtain rfl := Option.some.inj h
        exact fin _ _ ⟨.boolean, rfl, nz1⟩ d_tb_has_23
set_option maxHeartbeats 4000000 in
set_option maxRecDepth 20000 in
theorem C_tb_timeInAir {l : Launch} {G : Gt} {M : Me} {i0 : Nat} {a1 : Int32} {a2 : Int32} (hi0 : i0 < 9) {o : Int32} (h : f_tb_timeInAir M i0 a1 a2 = some o) : Ct l G (WC G) (rC G) y_tb_timeInAir b_tb_timeInAir 5 (some .int) rm_tb_timeInAir [.ref (G.1 + oTAB i0), .int a1, .int a2] M (some (.int o)) M := by
  refine Ct.mk (own := "RetryChains$RateTable") rfl (by decide) (Nat.le_of_ble_eq_true rfl) ⟨_, rfl⟩ (fun X hXl hXR hXn ok hG fin => ?_)
  subst hXl
  unfold f_tb_timeInAir at h
  show Wt X M 0 [(0, .ref (G.1 + oTAB i0)), (1, .int a1), (2, .int a2)] []
  refine r_aload_n (n := 1) rfl ok d_tb_timeInAir_0 rfl 0 rfl ?_
  refine r_iload_n (n := 2) rfl ok d_tb_timeInAir_1 rfl 1 rfl ?_
  obtain ⟨r1, hr1, h⟩ := bd_ok h
  refine r_callV (n := 5) rfl ok hG mf_tb_has k_421 k_422 k_420 (C_tb_has hi0 hr1) ⟨rfl, rfl⟩ (rR hXR ⟨Nat.le_of_ble_eq_true rfl, Nat.le_of_ble_eq_true rfl⟩) rfl rfl (rv_TAB hi0) rfl (Nat.le_of_ble_eq_true rfl) d_tb_timeInAir_2 ?_
  refine r_if_ne (tgt := 10) (n := 8) rfl ok d_tb_timeInAir_5 (by decide) (fun c2 => ?_) (fun c2 => ?_)
  · replace h := if_n c2 h
    refine r_iconst (v := 1) (n := 11) rfl ok d_tb_timeInAir_10 (by decide) ?_
    refine r_aload_n (n := 12) rfl ok d_tb_timeInAir_11 rfl 0 rfl ?_
    refine g_TAB_speeds (n := 15) rfl ok hG hi0 k_40 d_tb_timeInAir_12 ?_
    refine r_iload_n (n := 16) rfl ok d_tb_timeInAir_15 rfl 1 rfl ?_
    obtain ⟨g3, h⟩ := gd_ok h
    refine al_SPEEDS (n := 17) rfl ok hG hi0 g3 d_tb_timeInAir_16 ?_
    refine r_mmax (n := 20) rfl ok hG k_424 k_425 k_12 k_426 (rR hXR ⟨Nat.le_of_ble_eq_true rfl, Nat.le_of_ble_eq_true rfl⟩) d_tb_timeInAir_17 ?_
    obtain ⟨x4, ex4, h⟩ := bd_ok h
    refine r_ti (Option.some.inj ex4).symm ?_
    refine r_istore_n (lv' := [(3, .int x4), (0, .ref (G.1 + oTAB i0)), (1, .int a1), (2, .int a2)]) (n := 21) rfl ok d_tb_timeInAir_20 rfl (lt_n hXn (Nat.le_of_ble_eq_true rfl)) rfl ?_
    refine r_aload_n (n := 22) rfl ok d_tb_timeInAir_21 rfl 1 rfl ?_
    refine g_TAB_modes (n := 25) rfl ok hG hi0 k_39 d_tb_timeInAir_22 ?_
    refine r_iload_n (n := 26) rfl ok d_tb_timeInAir_25 rfl 2 rfl ?_
    obtain ⟨g5, h⟩ := gd_ok h
    refine al_MODES (n := 27) rfl ok hG hi0 g5 d_tb_timeInAir_26 ?_
    refine r_if_ne (tgt := 43) (n := 30) rfl ok d_tb_timeInAir_27 (by decide) (fun c6 => ?_) (fun c6 => ?_)
    · replace h := if_n c6 h
      refine r_sipush (v := 220) (n := 46) rfl ok d_tb_timeInAir_43 (by decide) ?_
      refine r_bipush (v := 80) (n := 48) rfl ok d_tb_timeInAir_46 (by decide) ?_
      refine r_iload_n (n := 49) rfl ok d_tb_timeInAir_48 rfl 3 rfl ?_
      refine r_imul (n := 50) rfl ok d_tb_timeInAir_49 ?_
      refine r_iadd (n := 51) rfl ok d_tb_timeInAir_50 ?_
      refine r_iconst (v := 4) (n := 52) rfl ok d_tb_timeInAir_51 (by decide) ?_
      refine r_iload_n (n := 53) rfl ok d_tb_timeInAir_52 rfl 0 rfl ?_
      refine r_imul (n := 54) rfl ok d_tb_timeInAir_53 ?_
      obtain ⟨r7, hr7, h⟩ := bd_ok h
      refine r_callS (n := 57) rfl ok hG mf_tb_dividedUp k_428 k_427 (C_tb_dividedUp  hr7) ⟨rfl, rfl⟩ (rR hXR ⟨Nat.le_of_ble_eq_true rfl, Nat.le_of_ble_eq_true rfl⟩) rfl rfl (Nat.le_of_ble_eq_true rfl) d_tb_timeInAir_54 ?_
      refine r_istore (lv' := [(4, .int r7), (3, .int x4), (0, .ref (G.1 + oTAB i0)), (1, .int a1), (2, .int a2)]) (n := 59) rfl ok d_tb_timeInAir_57 (lt_n hXn (Nat.le_of_ble_eq_true rfl)) rfl ?_
      refine r_aload_n (n := 60) rfl ok d_tb_timeInAir_59 rfl 2 rfl ?_
      refine g_TAB_modes (n := 63) rfl ok hG hi0 k_39 d_tb_timeInAir_60 ?_
      refine r_iload_n (n := 64) rfl ok d_tb_timeInAir_63 rfl 3 rfl ?_
      obtain ⟨g8, h⟩ := gd_ok h
      refine al_MODES (n := 65) rfl ok hG hi0 g8 d_tb_timeInAir_64 ?_
      refine r_iconst (v := 1) (n := 66) rfl ok d_tb_timeInAir_65 (by decide) ?_
      refine r_icmp_ne (tgt := 79) (n := 69) rfl ok d_tb_timeInAir_66 (by decide) (fun c9 => ?_) (fun c9 => ?_)
      · replace h := if_n c9 h
        refine r_bipush (v := 100) (n := 81) rfl ok d_tb_timeInAir_79 (by decide) ?_
        refine r_bipush (v := 18) (n := 83) rfl ok d_tb_timeInAir_81 (by decide) ?_
        refine r_iload (n := 85) rfl ok d_tb_timeInAir_83 0 rfl ?_
        refine r_imul (n := 86) rfl ok d_tb_timeInAir_85 ?_
        refine r_iconst (v := 5) (n := 87) rfl ok d_tb_timeInAir_86 (by decide) ?_
        obtain ⟨r10, hr10, h⟩ := bd_ok h
        refine r_callS (n := 90) rfl ok hG mf_tb_dividedUp k_428 k_427 (C_tb_dividedUp  hr10) ⟨rfl, rfl⟩ (rR hXR ⟨Nat.le_of_ble_eq_true rfl, Nat.le_of_ble_eq_true rfl⟩) rfl rfl (Nat.le_of_ble_eq_true rfl) d_tb_timeInAir_87 ?_
        refine r_iadd (n := 91) rfl ok d_tb_timeInAir_90 ?_
        obtain rfl := Option.some.inj h
        exact fin _ _ ⟨.int, rfl, rfl⟩ d_tb_timeInAir_91
      · replace h := if_p c9 h
        refine r_bipush (v := 80) (n := 71) rfl ok d_tb_timeInAir_69 (by decide) ?_
        refine r_iconst (v := 4) (n := 72) rfl ok d_tb_timeInAir_71 (by decide) ?_
        refine r_iload (n := 74) rfl ok d_tb_timeInAir_72 0 rfl ?_
        refine r_imul (n := 75) rfl ok d_tb_timeInAir_74 ?_
        refine r_iadd (n := 76) rfl ok d_tb_timeInAir_75 ?_
        refine r_goto (tgt := 91) ok d_tb_timeInAir_76 (by decide) ?_
        obtain rfl := Option.some.inj h
        exact fin _ _ ⟨.int, rfl, rfl⟩ d_tb_timeInAir_91
    · replace h := if_p c6 h
      refine r_sipush (v := 252) (n := 33) rfl ok d_tb_timeInAir_30 (by decide) ?_
      refine r_bipush (v := 80) (n := 35) rfl ok d_tb_timeInAir_33 (by decide) ?_
      refine r_iload_n (n := 36) rfl ok d_tb_timeInAir_35 rfl 3 rfl ?_
      refine r_imul (n := 37) rfl ok d_tb_timeInAir_36 ?_
      refine r_iload_n (n := 38) rfl ok d_tb_timeInAir_37 rfl 0 rfl ?_
      obtain ⟨r11, hr11, h⟩ := bd_ok h
      refine r_callS (n := 41) rfl ok hG mf_tb_dividedUp k_428 k_427 (C_tb_dividedUp  hr11) ⟨rfl, rfl⟩ (rR hXR ⟨Nat.le_of_ble_eq_true rfl, Nat.le_of_ble_eq_true rfl⟩) rfl rfl (Nat.le_of_ble_eq_true rfl) d_tb_timeInAir_38 ?_
      refine r_iadd (n := 42) rfl ok d_tb_timeInAir_41 ?_
      obtain rfl := Option.some.inj h
      exact fin _ _ ⟨.int, rfl, rfl⟩ d_tb_timeInAir_42
  · replace h := if_p c2 h
    refine r_iconst (v := 0) (n := 9) rfl ok d_tb_timeInAir_8 (by decide) ?_
    obtain rfl := Option.some.inj h
    exact fin _ _ ⟨.int, rfl, rfl⟩ d_tb_timeInAir_9
set_option maxHeartbeats 4000000 in
set_option maxRecDepth 20000 in
theorem C_tb_timeOfTry {l : Launch} {G : Gt} {M : Me} {i0 : Nat} {a1 : Int32} {a2 : Int32} {a3 : Int32} (hi0 : i0 < 9) {o : Int32} (h : f_tb_timeOfTry M i0 a1 a2 a3 = some o) : Ct l G (WC G) (rC G) y_tb_timeOfTry b_tb_timeOfTry 4 (some .int) rm_tb_timeOfTry [.ref (G.1 + oTAB i0), .int a1, .int a2, .int a3] M (some (.int o)) M := by
  refine Ct.mk (own := "RetryChains$RateTable") rfl (by decide) (Nat.le_of_ble_eq_true rfl) ⟨_, rfl⟩ (fun X hXl hXR hXn ok hG fin => ?_)
  subst hXl
  unfold f_tb_timeOfTry at h
  show Wt X M 0 [(0, .ref (G.1 + oTAB i0)), (1, .int a1), (2, .int a2), (3, .int a3)] []
  refine r_aload_n (n := 1) rfl ok d_tb_timeOfTry_0 rfl 0 rfl ?_
  refine r_iload_n (n := 2) rfl ok d_tb_timeOfTry_1 rfl 1 rfl ?_
  refine r_iload_n (n := 3) rfl ok d_tb_timeOfTry_2 rfl 2 rfl ?_
  obtain ⟨r1, hr1, h⟩ := bd_ok h
  refine r_callV (n := 6) rfl ok hG mf_tb_timeInAir k_417 k_418 k_416 (C_tb_timeInAir hi0 hr1) ⟨rfl, rfl⟩ (rR hXR ⟨Nat.le_of_ble_eq_true rfl, Nat.le_of_ble_eq_true rfl⟩) rfl rfl (rv_TAB hi0) rfl (Nat.le_of_ble_eq_true rfl) d_tb_timeOfTry_3 ?_
  refine r_bipush (v := 9) (n := 8) rfl ok d_tb_timeOfTry_6 (by decide) ?_
  refine r_sipush (v := 1023) (n := 11) rfl ok d_tb_timeOfTry_8 (by decide) ?_
  refine r_bipush (v := 16) (n := 13) rfl ok d_tb_timeOfTry_11 (by decide) ?_
  refine r_iload_n (n := 14) rfl ok d_tb_timeOfTry_13 rfl 3 rfl ?_
  refine r_ishl (n := 15) rfl ok d_tb_timeOfTry_14 ?_
  refine r_iconst (v := 1) (n := 16) rfl ok d_tb_timeOfTry_15 (by decide) ?_
  refine r_isub (n := 17) rfl ok d_tb_timeOfTry_16 ?_
  refine r_mmin (n := 20) rfl ok hG k_553 k_554 k_12 k_555 (rR hXR ⟨Nat.le_of_ble_eq_true rfl, Nat.le_of_ble_eq_true rfl⟩) d_tb_timeOfTry_17 ?_
  refine r_imul (n := 21) rfl ok d_tb_timeOfTry_20 ?_
  refine r_iconst (v := 2) (n := 22) rfl ok d_tb_timeOfTry_21 (by decide) ?_
  refine r_idiv (n := 23) rfl ok d_tb_timeOfTry_22 (by decide) ?_
  refine r_iadd (n := 24) rfl ok d_tb_timeOfTry_23 ?_
  obtain rfl := Option.some.inj h
  exact fin _ _ ⟨.int, rfl, rfl⟩ d_tb_timeOfTry_24
set_option maxHeartbeats 4000000 in
set_option maxRecDepth 20000 in
theorem w_tb_triesWithin_12 {X : Cx Me} {G : Gt} (ok : Ok X b_tb_triesWithin "RetryChains$RateTable") (hG : GC X G) (hXR : X.R = rm_tb_triesWithin) (hXn : X.nL = 6) {M : Me} {j0a : Nat} {y1 : Int32} {y2 : Int32} {y3 : Int32} (hj0a : j0a < 9) {t : (Int32) ⊕ (Int32)} (kx : ∀ e : Int32, (Sum.inl e : (Int32) ⊕ (Int32)) = t → Wt X M 47 [(4, .int e)] []) (kr : ∀ o : Int32, (Sum.inr o : (Int32) ⊕ (Int32)) = t → Fin X b_tb_triesWithin (some .int) (some (.int o)) M) : ∀ (n : Nat) (x : Int32 × Int32), lp n (b_tb_triesWithin_12 M j0a y1 y2 y3) x = some t → Wt X M 12 [(0, .ref (G.1 + oTAB j0a)), (1, .int y1), (2, .int y2), (3, .int y3), (4, .int x.1), (5, .int x.2)] [] := by
  intro n x h
  refine lp_W (P := fun x => Wt X M 12 [(0, .ref (G.1 + oTAB j0a)), (1, .int y1), (2, .int y2), (3, .int y3), (4, .int x.1), (5, .int x.2)] []) (Z := fun t' => t' = t) (fun x r h hk hz => ?_) n x t h rfl
  unfold b_tb_triesWithin_12 at h
  refine r_iload (n := 14) rfl ok d_tb_triesWithin_12 4 rfl ?_
  refine r_bipush (v := 7) (n := 16) rfl ok d_tb_triesWithin_14 (by decide) ?_
  refine r_icmp_ge (tgt := 47) (n := 19) rfl ok d_tb_triesWithin_16 (by decide) (fun c2 => ?_) (fun c2 => ?_)
  · replace h := if_p c2 h
    obtain rfl := Option.some.inj h
    exact r_sub [4] rfl (show Wt X M 47 [(4, .int x.1)] [] from kx _ (hz _ rfl))
  · replace h := if_n c2 h
    refine r_iload (n := 21) rfl ok d_tb_triesWithin_19 5 rfl ?_
    refine r_aload_n (n := 22) rfl ok d_tb_triesWithin_21 rfl 0 rfl ?_
    refine r_iload_n (n := 23) rfl ok d_tb_triesWithin_22 rfl 1 rfl ?_
    refine r_iload_n (n := 24) rfl ok d_tb_triesWithin_23 rfl 2 rfl ?_
    refine r_iload (n := 26) rfl ok d_tb_triesWithin_24 4 rfl ?_
    obtain ⟨r3, hr3, h⟩ := bd_ok h
    refine r_callV (n := 29) rfl ok hG mf_tb_timeOfTry k_550 k_551 k_549 (C_tb_timeOfTry hj0a hr3) ⟨rfl, rfl⟩ (rR hXR ⟨Nat.le_of_ble_eq_true rfl, Nat.le_of_ble_eq_true rfl⟩) rfl rfl (rv_TAB hj0a) rfl (Nat.le_of_ble_eq_true rfl) d_tb_triesWithin_26 ?_
    refine r_iadd (n := 30) rfl ok d_tb_triesWithin_29 ?_
    obtain ⟨x4, ex4, h⟩ := bd_ok h
    refine r_ti (Option.some.inj ex4).symm ?_
    refine r_istore (lv' := [(5, .int x4), (0, .ref (G.1 + oTAB j0a)), (1, .int y1), (2, .int y2), (3, .int y3), (4, .int x.1)]) (n := 32) rfl ok d_tb_triesWithin_30 (lt_n hXn (Nat.le_of_ble_eq_true rfl)) rfl ?_
    refine r_iload (n := 34) rfl ok d_tb_triesWithin_32 0 rfl ?_
    refine r_iload_n (n := 35) rfl ok d_tb_triesWithin_34 rfl 4 rfl ?_
    refine r_icmp_le (tgt := 41) (n := 38) rfl ok d_tb_triesWithin_35 (by decide) (fun c5 => ?_) (fun c5 => ?_)
    · replace h := if_p c5 h
      obtain ⟨x6, ex6, h⟩ := bd_ok h
      refine r_iinc (lv' := [(4, .int x6), (5, .int x4), (0, .ref (G.1 + oTAB j0a)), (1, .int y1), (2, .int y2), (3, .int y3)]) (n := 44) rfl ok d_tb_triesWithin_41 5 rfl (Option.some.inj ex6) (lt_n hXn (Nat.le_of_ble_eq_true rfl)) rfl ?_
      refine r_goto (tgt := 12) ok d_tb_triesWithin_44 (by decide) ?_
      obtain rfl := Option.some.inj h
      exact r_sub [2, 3, 4, 5, 0, 1] rfl (show Wt X M 12 [(0, .ref (G.1 + oTAB j0a)), (1, .int y1), (2, .int y2), (3, .int y3), (4, .int x6), (5, .int x4)] [] from hk _ rfl)
    · replace h := if_n c5 h
      refine r_iload (n := 40) rfl ok d_tb_triesWithin_38 5 rfl ?_
      obtain rfl := Option.some.inj h
      exact kr _ (hz _ rfl) _ _ ⟨.int, rfl, rfl⟩ d_tb_triesWithin_40
set_option maxHeartbeats 4000000 in
set_option maxRecDepth 20000 in
theorem C_tb_triesWithin {l : Launch} {G : Gt} {M : Me} {i0 : Nat} {a1 : Int32} {a2 : Int32} {a3 : Int32} (hi0 : i0 < 9) {o : Int32} (h : f_tb_triesWithin M i0 a1 a2 a3 = some o) : Ct l G (WC G) (rC G) y_tb_triesWithin b_tb_triesWithin 6 (some .int) rm_tb_triesWithin [.ref (G.1 + oTAB i0), .int a1, .int a2, .int a3] M (some (.int o)) M := by
  refine Ct.mk (own := "RetryChains$RateTable") rfl (by decide) (Nat.le_of_ble_eq_true rfl) ⟨_, rfl⟩ (fun X hXl hXR hXn ok hG fin => ?_)
  subst hXl
  unfold f_tb_triesWithin at h
  show Wt X M 0 [(0, .ref (G.1 + oTAB i0)), (1, .int a1), (2, .int a2), (3, .int a3)] []
  refine r_iconst (v := 1) (n := 1) rfl ok d_tb_triesWithin_0 (by decide) ?_
  refine r_istore (lv' := [(4, .int 1), (0, .ref (G.1 + oTAB i0)), (1, .int a1), (2, .int a2), (3, .int a3)]) (n := 3) rfl ok d_tb_triesWithin_1 (lt_n hXn (Nat.le_of_ble_eq_true rfl)) rfl ?_
  refine r_aload_n (n := 4) rfl ok d_tb_triesWithin_3 rfl 1 rfl ?_
  refine r_iload_n (n := 5) rfl ok d_tb_triesWithin_4 rfl 2 rfl ?_
  refine r_iload_n (n := 6) rfl ok d_tb_triesWithin_5 rfl 3 rfl ?_
  refine r_iconst (v := 0) (n := 7) rfl ok d_tb_triesWithin_6 (by decide) ?_
  obtain ⟨r1, hr1, h⟩ := bd_ok h
  refine r_callV (n := 10) rfl ok hG mf_tb_timeOfTry k_550 k_551 k_549 (C_tb_timeOfTry hi0 hr1) ⟨rfl, rfl⟩ (rR hXR ⟨Nat.le_of_ble_eq_true rfl, Nat.le_of_ble_eq_true rfl⟩) rfl rfl (rv_TAB hi0) rfl (Nat.le_of_ble_eq_true rfl) d_tb_triesWithin_7 ?_
  refine r_istore (lv' := [(5, .int r1), (4, .int 1), (0, .ref (G.1 + oTAB i0)), (1, .int a1), (2, .int a2), (3, .int a3)]) (n := 12) rfl ok d_tb_triesWithin_10 (lt_n hXn (Nat.le_of_ble_eq_true rfl)) rfl ?_
  obtain ⟨t7, ht7, h⟩ := bd_ok h
  refine r_sub [2, 3, 4, 5, 1, 0] rfl (show Wt X M 12 [(0, .ref (G.1 + oTAB i0)), (1, .int a1), (2, .int a2), (3, .int a3), (4, .int 1), (5, .int r1)] [] from w_tb_triesWithin_12 ok hG hXR hXn hi0 ?_ ?_ _ _ ht7)
  · intro e8 he
    subst he
    replace h := su_l h
    refine r_iload (n := 49) rfl ok d_tb_triesWithin_47 0 rfl ?_
    obtain rfl := Option.some.inj h
    exact fin _ _ ⟨.int, rfl, rfl⟩ d_tb_triesWithin_49
  · intro o he
    subst he
    replace h := su_r h
    obtain rfl := Option.some.inj h
    exact fin
set_option maxHeartbeats 4000000 in
set_option maxRecDepth 20000 in
theorem w_se_prepare_94 {X : Cx Me} {G : Gt} (ok : Ok X b_se_prepare "RetryChains$ChainSearch") (hG : GC X G) (hXR : X.R = rm_se_prepare) (hXn : X.nL = 7) {j1a : Nat} {j2a : Nat} {j2b : Nat} {y3 : Int32} {j4a : Nat} {y5 : Int32} (hj1a : j1a < 9) (hj2a : j2a < 9) (hj2b : j2b < 4) (hj4a : j4a < 9) {t : Me} (kx : ∀ e : Me, e = t → Wt X e 129 [(0, .ref (G.1 + oSEA)), (1, .ref (G.1 + oNET j1a)), (2, .ref (G.1 + oSTA j2a j2b)), (3, .int y3), (4, .ref (G.1 + oTAB j4a)), (5, .int y5)] [])  : ∀ (n : Nat) (x : Int32 × Me), lp n (b_se_prepare_94 j1a j2a j2b y3 j4a y5) x = some t → Wt X x.2 94 [(0, .ref (G.1 + oSEA)), (1, .ref (G.1 + oNET j1a)), (2, .ref (G.1 + oSTA j2a j2b)), (3, .int y3), (4, .ref (G.1 + oTAB j4a)), (5, .int y5), (6, .int x.1)] [] := by
  intro n x h
  refine lp_W (P := fun x => Wt X x.2 94 [(0, .ref (G.1 + oSEA)), (1, .ref (G.1 + oNET j1a)), (2, .ref (G.1 + oSTA j2a j2b)), (3, .int y3), (4, .ref (G.1 + oTAB j4a)), (5, .int y5), (6, .int x.1)] []) (Z := fun t' => t' = t) (fun x r h hk hz => ?_) n x t h rfl
  unfold b_se_prepare_94 at h
  refine r_iload (n := 96) rfl ok d_se_prepare_94 6 rfl ?_
  refine r_bipush (v := 7) (n := 98) rfl ok d_se_prepare_96 (by decide) ?_
  refine r_icmp_ge (tgt := 129) (n := 101) rfl ok d_se_prepare_98 (by decide) (fun c15 => ?_) (fun c15 => ?_)
  · replace h := if_p c15 h
    obtain rfl := Option.some.inj h
    exact r_sub [0, 1, 2, 3, 4, 5] rfl (show Wt X x.2 129 [(0, .ref (G.1 + oSEA)), (1, .ref (G.1 + oNET j1a)), (2, .ref (G.1 + oSTA j2a j2b)), (3, .int y3), (4, .ref (G.1 + oTAB j4a)), (5, .int y5)] [] from kx _ (hz _ rfl))
  · replace h := if_n c15 h
    refine r_aload_n (n := 102) rfl ok d_se_prepare_101 rfl 0 rfl ?_
    refine g_SEA_times (n := 105) rfl ok hG  k_317 d_se_prepare_102 ?_
    refine r_aload_n (n := 106) rfl ok d_se_prepare_105 rfl 0 rfl ?_
    refine g_SEA_count (n := 109) rfl ok hG  k_312 d_se_prepare_106 ?_
    obtain ⟨g16, h⟩ := gd_ok h
    refine al_STIMES (n := 110) rfl ok hG  g16 d_se_prepare_109 ?_
    refine r_iload (n := 112) rfl ok d_se_prepare_110 6 rfl ?_
    refine r_aload (n := 114) rfl ok d_se_prepare_112 4 rfl ?_
    refine r_iload (n := 116) rfl ok d_se_prepare_114 5 rfl ?_
    refine r_iload_n (n := 117) rfl ok d_se_prepare_116 rfl 3 rfl ?_
    refine r_iload (n := 119) rfl ok d_se_prepare_117 6 rfl ?_
    obtain ⟨r17, hr17, h⟩ := bd_ok h
    refine r_callV (n := 122) rfl ok hG mf_tb_timeOfTry k_550 k_551 k_824 (C_tb_timeOfTry hj4a hr17) ⟨rfl, rfl⟩ (rR hXR ⟨Nat.le_of_ble_eq_true rfl, Nat.le_of_ble_eq_true rfl⟩) rfl rfl (rv_TAB hj4a) rfl (Nat.le_of_ble_eq_true rfl) d_se_prepare_119 ?_
    obtain ⟨g18, h⟩ := gd_ok h
    obtain ⟨M19, eM19, h⟩ := bd_ok h
    refine as_STROW (n := 123) rfl ok hG (gin_lt g16) g18 d_se_prepare_122 ?_
    refine r_mem (Option.some.inj eM19) ?_
    obtain ⟨x20, ex20, h⟩ := bd_ok h
    refine r_iinc (lv' := [(6, .int x20), (0, .ref (G.1 + oSEA)), (1, .ref (G.1 + oNET j1a)), (2, .ref (G.1 + oSTA j2a j2b)), (3, .int y3), (4, .ref (G.1 + oTAB j4a)), (5, .int y5)]) (n := 126) rfl ok d_se_prepare_123 6 rfl (Option.some.inj ex20) (lt_n hXn (Nat.le_of_ble_eq_true rfl)) rfl ?_
    refine r_goto (tgt := 94) ok d_se_prepare_126 (by decide) ?_
    obtain rfl := Option.some.inj h
    exact r_sub [1, 2, 3, 4, 5, 6, 0] rfl (show Wt X M19 94 [(0, .ref (G.1 + oSEA)), (1, .ref (G.1 + oNET j1a)), (2, .ref (G.1 + oSTA j2a j2b)), (3, .int y3), (4, .ref (G.1 + oTAB j4a)), (5, .int y5), (6, .int x20)] [] from hk _ rfl)
set_option maxHeartbeats 4000000 in
set_option maxRecDepth 20000 in
theorem w_se_prepare_14 {X : Cx Me} {G : Gt} (ok : Ok X b_se_prepare "RetryChains$ChainSearch") (hG : GC X G) (hXR : X.R = rm_se_prepare) (hXn : X.nL = 7) {j1a : Nat} {j2a : Nat} {j2b : Nat} {y3 : Int32} {j4a : Nat} (hj1a : j1a < 9) (hj2a : j2a < 9) (hj2b : j2b < 4) (hj4a : j4a < 9) {t : Me} (kx : ∀ e : Me, e = t → Wt X e 145 [] [])  : ∀ (n : Nat) (x : Int32 × Me), lp n (b_se_prepare_14 j1a j2a j2b y3 j4a) x = some t → Wt X x.2 14 [(0, .ref (G.1 + oSEA)), (1, .ref (G.1 + oNET j1a)), (2, .ref (G.1 + oSTA j2a j2b)), (3, .int y3), (4, .ref (G.1 + oTAB j4a)), (5, .int x.1)] [] := by
  intro n x h
  refine lp_W (P := fun x => Wt X x.2 14 [(0, .ref (G.1 + oSEA)), (1, .ref (G.1 + oNET j1a)), (2, .ref (G.1 + oSTA j2a j2b)), (3, .int y3), (4, .ref (G.1 + oTAB j4a)), (5, .int x.1)] []) (Z := fun t' => t' = t) (fun x r h hk hz => ?_) n x t h rfl
  unfold b_se_prepare_14 at h
  refine r_iload (n := 16) rfl ok d_se_prepare_14 5 rfl ?_
  refine r_aload (n := 18) rfl ok d_se_prepare_16 4 rfl ?_
  refine g_TAB_count (n := 21) rfl ok hG hj4a k_35 d_se_prepare_18 ?_
  refine r_icmp_ge (tgt := 145) (n := 24) rfl ok d_se_prepare_21 (by decide) (fun c2 => ?_) (fun c2 => ?_)
  · replace h := if_p c2 h
    obtain rfl := Option.some.inj h
    exact r_sub [] rfl (show Wt X x.2 145 [] [] from kx _ (hz _ rfl))
  · replace h := if_n c2 h
    refine r_aload_n (n := 25) rfl ok d_se_prepare_24 rfl 2 rfl ?_
    refine g_STA_links (n := 28) rfl ok hG hj2a hj2b k_133 d_se_prepare_25 ?_
    refine r_iload (n := 30) rfl ok d_se_prepare_28 5 rfl ?_
    obtain ⟨g3, h⟩ := gd_ok h
    refine al_LINKS (n := 31) rfl ok hG hj2a hj2b g3 d_se_prepare_30 ?_
    refine g_LNK_isAllowed (n := 34) rfl ok hG hj2a hj2b (gin_lt g3) k_87 d_se_prepare_31 ?_
    refine r_if_eq (tgt := 139) (n := 37) rfl ok d_se_prepare_34 (by decide) (fun c4 => ?_) (fun c4 => ?_)
    · replace h := if_p c4 h
      obtain ⟨x5, ex5, h⟩ := bd_ok h
      refine r_iinc (lv' := [(5, .int x5), (0, .ref (G.1 + oSEA)), (1, .ref (G.1 + oNET j1a)), (2, .ref (G.1 + oSTA j2a j2b)), (3, .int y3), (4, .ref (G.1 + oTAB j4a))]) (n := 142) rfl ok d_se_prepare_139 5 rfl (Option.some.inj ex5) (lt_n hXn (Nat.le_of_ble_eq_true rfl)) rfl ?_
      refine r_goto (tgt := 14) ok d_se_prepare_142 (by decide) ?_
      obtain rfl := Option.some.inj h
      exact r_sub [1, 2, 3, 4, 5, 0] rfl (show Wt X x.2 14 [(0, .ref (G.1 + oSEA)), (1, .ref (G.1 + oNET j1a)), (2, .ref (G.1 + oSTA j2a j2b)), (3, .int y3), (4, .ref (G.1 + oTAB j4a)), (5, .int x5)] [] from hk _ rfl)
    · replace h := if_n c4 h
      refine r_aload_n (n := 38) rfl ok d_se_prepare_37 rfl 0 rfl ?_
      refine g_SEA_rates (n := 41) rfl ok hG  k_314 d_se_prepare_38 ?_
      refine r_aload_n (n := 42) rfl ok d_se_prepare_41 rfl 0 rfl ?_
      refine g_SEA_count (n := 45) rfl ok hG  k_312 d_se_prepare_42 ?_
      refine r_iload (n := 47) rfl ok d_se_prepare_45 5 rfl ?_
      obtain ⟨g6, h⟩ := gd_ok h
      obtain ⟨M7, eM7, h⟩ := bd_ok h
      refine as_SRATES (n := 48) rfl ok hG  g6 d_se_prepare_47 ?_
      refine r_mem (Option.some.inj eM7) ?_
      refine r_aload_n (n := 49) rfl ok d_se_prepare_48 rfl 0 rfl ?_
      refine g_SEA_misses (n := 52) rfl ok hG  k_315 d_se_prepare_49 ?_
      refine r_aload_n (n := 53) rfl ok d_se_prepare_52 rfl 0 rfl ?_
      refine g_SEA_count (n := 56) rfl ok hG  k_312 d_se_prepare_53 ?_
      refine r_ldc (n := 58) rfl ok d_se_prepare_56 k_821 ?_
      refine r_aload_n (n := 59) rfl ok d_se_prepare_58 rfl 2 rfl ?_
      refine g_STA_links (n := 62) rfl ok hG hj2a hj2b k_133 d_se_prepare_59 ?_
      refine r_iload (n := 64) rfl ok d_se_prepare_62 5 rfl ?_
      obtain ⟨g8, h⟩ := gd_ok h
      refine al_LINKS (n := 65) rfl ok hG hj2a hj2b g8 d_se_prepare_64 ?_
      obtain ⟨r9, hr9, h⟩ := bd_ok h
      refine r_callV (n := 68) rfl ok hG mf_lk_estimateOrZero k_439 k_440 k_822 (C_lk_estimateOrZero hj2a hj2b (gin_lt g8) hr9) ⟨rfl, rfl⟩ (rR hXR ⟨Nat.le_of_ble_eq_true rfl, Nat.le_of_ble_eq_true rfl⟩) rfl rfl (rv_LNK hj2a hj2b (gin_lt g8)) rfl (Nat.le_of_ble_eq_true rfl) d_se_prepare_65 ?_
      refine r_isub (n := 69) rfl ok d_se_prepare_68 ?_
      obtain ⟨g10, h⟩ := gd_ok h
      obtain ⟨M11, eM11, h⟩ := bd_ok h
      refine as_SMISS (n := 70) rfl ok hG  g10 d_se_prepare_69 ?_
      refine r_mem (Option.some.inj eM11) ?_
      refine r_aload_n (n := 71) rfl ok d_se_prepare_70 rfl 0 rfl ?_
      refine g_SEA_tries (n := 74) rfl ok hG  k_316 d_se_prepare_71 ?_
      refine r_aload_n (n := 75) rfl ok d_se_prepare_74 rfl 0 rfl ?_
      refine g_SEA_count (n := 78) rfl ok hG  k_312 d_se_prepare_75 ?_
      refine r_aload (n := 80) rfl ok d_se_prepare_78 4 rfl ?_
      refine r_iload (n := 82) rfl ok d_se_prepare_80 5 rfl ?_
      refine r_iload_n (n := 83) rfl ok d_se_prepare_82 rfl 3 rfl ?_
      refine r_aload_n (n := 84) rfl ok d_se_prepare_83 rfl 1 rfl ?_
      refine g_NET_budget (n := 87) rfl ok hG hj1a k_258 d_se_prepare_84 ?_
      obtain ⟨r12, hr12, h⟩ := bd_ok h
      refine r_callV (n := 90) rfl ok hG mf_tb_triesWithin k_546 k_547 k_823 (C_tb_triesWithin hj4a hr12) ⟨rfl, rfl⟩ (rR hXR ⟨Nat.le_of_ble_eq_true rfl, Nat.le_of_ble_eq_true rfl⟩) rfl rfl (rv_TAB hj4a) rfl (Nat.le_of_ble_eq_true rfl) d_se_prepare_87 ?_
      obtain ⟨g13, h⟩ := gd_ok h
      obtain ⟨M14, eM14, h⟩ := bd_ok h
      refine as_STRIES (n := 91) rfl ok hG  g13 d_se_prepare_90 ?_
      refine r_mem (Option.some.inj eM14) ?_
      refine r_iconst (v := 0) (n := 92) rfl ok d_se_prepare_91 (by decide) ?_
      refine r_istore (lv' := [(6, .int 0), (0, .ref (G.1 + oSEA)), (1, .ref (G.1 + oNET j1a)), (2, .ref (G.1 + oSTA j2a j2b)), (3, .int y3), (4, .ref (G.1 + oTAB j4a)), (5, .int x.1)]) (n := 94) rfl ok d_se_prepare_92 (lt_n hXn (Nat.le_of_ble_eq_true rfl)) rfl ?_
      obtain ⟨t21, ht21, h⟩ := bd_ok h
      refine r_sub [1, 2, 3, 4, 5, 6, 0] rfl (show Wt X M14 94 [(0, .ref (G.1 + oSEA)), (1, .ref (G.1 + oNET j1a)), (2, .ref (G.1 + oSTA j2a j2b)), (3, .int y3), (4, .ref (G.1 + oTAB j4a)), (5, .int x.1), (6, .int 0)] [] from w_se_prepare_94 ok hG hXR hXn hj1a hj2a hj2b hj4a ?_ _ _ ht21)
      · intro e22 he
        subst he
        refine r_aload_n (n := 130) rfl ok d_se_prepare_129 rfl 0 rfl ?_
        refine r_dup (n := 131) rfl ok d_se_prepare_130 rfl ?_
        refine g_SEA_count (n := 134) rfl ok hG  k_312 d_se_prepare_131 ?_
        refine r_iconst (v := 1) (n := 135) rfl ok d_se_prepare_134 (by decide) ?_
        refine r_iadd (n := 136) rfl ok d_se_prepare_135 ?_
        obtain ⟨M23, eM23, h⟩ := bd_ok h
        refine p_SEA_count (n := 139) rfl ok hG  k_312 d_se_prepare_136 ?_
        refine r_mem (Option.some.inj eM23) ?_
        obtain ⟨x24, ex24, h⟩ := bd_ok h
        refine r_iinc (lv' := [(5, .int x24), (0, .ref (G.1 + oSEA)), (1, .ref (G.1 + oNET j1a)), (2, .ref (G.1 + oSTA j2a j2b)), (3, .int y3), (4, .ref (G.1 + oTAB j4a))]) (n := 142) rfl ok d_se_prepare_139 5 rfl (Option.some.inj ex24) (lt_n hXn (Nat.le_of_ble_eq_true rfl)) rfl ?_
        refine r_goto (tgt := 14) ok d_se_prepare_142 (by decide) ?_
        obtain rfl := Option.some.inj h
        exact r_sub [1, 2, 3, 4, 5, 0] rfl (show Wt X M23 14 [(0, .ref (G.1 + oSEA)), (1, .ref (G.1 + oNET j1a)), (2, .ref (G.1 + oSTA j2a j2b)), (3, .int y3), (4, .ref (G.1 + oTAB j4a)), (5, .int x24)] [] from hk _ rfl)
set_option maxHeartbeats 4000000 in
set_option maxRecDepth 20000 in
theorem C_se_prepare {l : Launch} {G : Gt} {M : Me} {i1 : Nat} {i2 : Nat} {s2 : Nat} {a3 : Int32} (hi1 : i1 < 9) (hi2 : i2 < 9) (hs2 : s2 < 4) {o : Me} (h : f_se_prepare M i1 i2 s2 a3 = some o) : Ct l G (WC G) (rC G) y_se_prepare b_se_prepare 7 none rm_se_prepare [.ref (G.1 + oSEA), .ref (G.1 + oNET i1), .ref (G.1 + oSTA i2 s2), .int a3] M (none) o := by
  refine Ct.mk (own := "RetryChains$ChainSearch") rfl (by decide) (Nat.le_of_ble_eq_true rfl) rfl (fun X hXl hXR hXn ok hG fin => ?_)
  subst hXl
  unfold f_se_prepare at h
  show Wt X M 0 [(0, .ref (G.1 + oSEA)), (1, .ref (G.1 + oNET i1)), (2, .ref (G.1 + oSTA i2 s2)), (3, .int a3)] []
  refine r_aload_n (n := 1) rfl ok d_se_prepare_0 rfl 1 rfl ?_
  refine g_NET_rates (n := 4) rfl ok hG hi1 k_240 d_se_prepare_1 ?_
  refine r_astore (lv' := [(4, .ref (G.1 + oTAB i1)), (0, .ref (G.1 + oSEA)), (1, .ref (G.1 + oNET i1)), (2, .ref (G.1 + oSTA i2 s2)), (3, .int a3)]) (n := 6) rfl ok d_se_prepare_4 (lt_n hXn (Nat.le_of_ble_eq_true rfl)) rfl ?_
  refine r_aload_n (n := 7) rfl ok d_se_prepare_6 rfl 1 rfl ?_
  refine r_iconst (v := 0) (n := 8) rfl ok d_se_prepare_7 (by decide) ?_
  obtain ⟨M1, eM1, h⟩ := bd_ok h
  refine p_SEA_count (n := 11) rfl ok hG  k_312 d_se_prepare_8 ?_
  refine r_mem (Option.some.inj eM1) ?_
  refine r_iconst (v := 0) (n := 12) rfl ok d_se_prepare_11 (by decide) ?_
  refine r_istore (lv' := [(5, .int 0), (4, .ref (G.1 + oTAB i1)), (0, .ref (G.1 + oSEA)), (1, .ref (G.1 + oNET i1)), (2, .ref (G.1 + oSTA i2 s2)), (3, .int a3)]) (n := 14) rfl ok d_se_prepare_12 (lt_n hXn (Nat.le_of_ble_eq_true rfl)) rfl ?_
  obtain ⟨t25, ht25, h⟩ := bd_ok h
  refine r_sub [2, 3, 4, 5, 1, 0] rfl (show Wt X M1 14 [(0, .ref (G.1 + oSEA)), (1, .ref (G.1 + oNET i1)), (2, .ref (G.1 + oSTA i2 s2)), (3, .int a3), (4, .ref (G.1 + oTAB i1)), (5, .int 0)] [] from w_se_prepare_14 ok hG hXR hXn hi1 hi2 hs2 hi1 ?_ _ _ ht25)
  · intro e26 he
    subst he
    obtain rfl := Option.some.inj h
    exact fin _ _ d_se_prepare_145
set_option maxHeartbeats 4000000 in
set_option maxRecDepth 20000 in
theorem C_se_keepIfBetter {l : Launch} {G : Gt} {M : Me}   {o : Me} (h : f_se_keepIfBetter M = some o) : Ct l G (WC G) (rC G) y_se_keepIfBetter b_se_keepIfBetter 5 none rm_se_keepIfBetter [.ref (G.1 + oSEA)] M (none) o := by
  refine Ct.mk (own := "RetryChains$ChainSearch") rfl (by decide) (Nat.le_of_ble_eq_true rfl) rfl (fun X hXl hXR hXn ok hG fin => ?_)
  subst hXl
  unfold f_se_keepIfBetter at h
  show Wt X M 0 [(0, .ref (G.1 + oSEA))] []
  refine r_ldc2 (n := 3) rfl ok d_se_keepIfBetter_0 k_829 ?_
  refine r_aload_n (n := 4) rfl ok d_se_keepIfBetter_3 rfl 0 rfl ?_
  refine g_SEA_reach (n := 7) rfl ok hG  k_318 d_se_keepIfBetter_4 ?_
  refine r_iconst (v := 4) (n := 8) rfl ok d_se_keepIfBetter_7 (by decide) ?_
  refine al_SREACH (n := 9) rfl ok hG  (show gin 4 5 by decide) d_se_keepIfBetter_8 ?_
  refine r_lsub (n := 10) rfl ok d_se_keepIfBetter_9 ?_
  obtain ⟨x1, ex1, h⟩ := bd_ok h
  refine r_tl (Option.some.inj ex1).symm ?_
  refine r_lstore_n (lv' := [(1, .long x1), (0, .ref (G.1 + oSEA))]) (n := 11) rfl ok d_se_keepIfBetter_10 rfl (lt_n hXn (Nat.le_of_ble_eq_true rfl)) rfl ?_
  refine r_aload_n (n := 12) rfl ok d_se_keepIfBetter_11 rfl 1 rfl ?_
  refine g_SEA_sums (n := 15) rfl ok hG  k_319 d_se_keepIfBetter_12 ?_
  refine r_iconst (v := 4) (n := 16) rfl ok d_se_keepIfBetter_15 (by decide) ?_
  refine al_SSUMS (n := 17) rfl ok hG  (show gin 4 5 by decide) d_se_keepIfBetter_16 ?_
  refine r_lstore_n (lv' := [(3, .long (M.2 86 0 0 (tN 4))), (1, .long x1), (0, .ref (G.1 + oSEA))]) (n := 18) rfl ok d_se_keepIfBetter_17 rfl (lt_n hXn (Nat.le_of_ble_eq_true rfl)) rfl ?_
  refine r_lload_n (n := 19) rfl ok d_se_keepIfBetter_18 rfl 1 rfl ?_
  refine r_aload_n (n := 20) rfl ok d_se_keepIfBetter_19 rfl 2 rfl ?_
  refine g_SEA_bestTime (n := 23) rfl ok hG  k_324 d_se_keepIfBetter_20 ?_
  refine r_lmul (n := 24) rfl ok d_se_keepIfBetter_23 ?_
  refine r_aload_n (n := 25) rfl ok d_se_keepIfBetter_24 rfl 2 rfl ?_
  refine g_SEA_bestChance (n := 28) rfl ok hG  k_323 d_se_keepIfBetter_25 ?_
  refine r_lload_n (n := 29) rfl ok d_se_keepIfBetter_28 rfl 0 rfl ?_
  refine r_lmul (n := 30) rfl ok d_se_keepIfBetter_29 ?_
  refine r_lcmp (n := 31) rfl ok d_se_keepIfBetter_30 ?_
  refine r_if_le (tgt := 58) (n := 34) rfl ok d_se_keepIfBetter_31 (by decide) (fun c2 => ?_) (fun c2 => ?_)
  · replace h := if_p c2 h
    obtain rfl := Option.some.inj h
    exact fin _ _ d_se_keepIfBetter_58
  · replace h := if_n c2 h
    refine r_aload_n (n := 35) rfl ok d_se_keepIfBetter_34 rfl 2 rfl ?_
    refine r_lload_n (n := 36) rfl ok d_se_keepIfBetter_35 rfl 1 rfl ?_
    obtain ⟨M3, eM3, h⟩ := bd_ok h
    refine p_SEA_bestChance (n := 39) rfl ok hG  k_323 d_se_keepIfBetter_36 ?_
    refine r_mem (Option.some.inj eM3) ?_
    refine r_aload_n (n := 40) rfl ok d_se_keepIfBetter_39 rfl 2 rfl ?_
    refine r_lload_n (n := 41) rfl ok d_se_keepIfBetter_40 rfl 0 rfl ?_
    obtain ⟨M4, eM4, h⟩ := bd_ok h
    refine p_SEA_bestTime (n := 44) rfl ok hG  k_324 d_se_keepIfBetter_41 ?_
    refine r_mem (Option.some.inj eM4) ?_
    refine r_aload_n (n := 45) rfl ok d_se_keepIfBetter_44 rfl 2 rfl ?_
    refine g_SEA_entries (n := 48) rfl ok hG  k_320 d_se_keepIfBetter_45 ?_
    refine r_iconst (v := 0) (n := 49) rfl ok d_se_keepIfBetter_48 (by decide) ?_
    refine r_aload_n (n := 50) rfl ok d_se_keepIfBetter_49 rfl 2 rfl ?_
    refine g_SEA_best (n := 53) rfl ok hG  k_321 d_se_keepIfBetter_50 ?_
    refine r_iconst (v := 0) (n := 54) rfl ok d_se_keepIfBetter_53 (by decide) ?_
    refine r_iconst (v := 4) (n := 55) rfl ok d_se_keepIfBetter_54 (by decide) ?_
    obtain ⟨M5, eM5, h⟩ := bd_ok h
    refine cp_SBEST (n := 58) rfl ok hG  (wC_get (ky_SENT)) (sn := 0) (dn := 0) (zn := 4) (by decide) (by decide) (by decide) (by decide) (by decide) (by decide) (Nat.le_of_ble_eq_true rfl) (Nat.le_of_ble_eq_true rfl) k_839 k_392 k_391 k_13 (rR hXR ⟨Nat.le_of_ble_eq_true rfl, Nat.le_of_ble_eq_true rfl⟩) d_se_keepIfBetter_55 ?_
    refine r_mem (Option.some.inj eM5) ?_
    obtain rfl := Option.some.inj h
    exact fin _ _ d_se_keepIfBetter_58
set_option maxHeartbeats 4000000 in
set_option maxRecDepth 20000 in
theorem w_se_place_18 {X : Cx Me} {G : Gt} (ok : Ok X b_se_place "RetryChains$ChainSearch") (hG : GC X G) (hXR : X.R = rm_se_place) (hXn : X.nL = 8) {M : Me} {y1 : Int32} {y2 : Int32}  {t : Int64 × Int64} (kx : ∀ e : Int64 × Int64, e = t → Wt X M 66 [(0, .ref (G.1 + oSEA)), (1, .int y1), (2, .int y2), (3, .long e.1), (5, .long e.2)] [])  : ∀ (n : Nat) (x : Int64 × Int64 × Int32), lp n (b_se_place_18 M y1 y2) x = some t → Wt X M 18 [(0, .ref (G.1 + oSEA)), (1, .int y1), (2, .int y2), (3, .long x.1), (5, .long x.2.1), (7, .int x.2.2)] [] := by
  intro n x h
  refine lp_W (P := fun x => Wt X M 18 [(0, .ref (G.1 + oSEA)), (1, .int y1), (2, .int y2), (3, .long x.1), (5, .long x.2.1), (7, .int x.2.2)] []) (Z := fun t' => t' = t) (fun x r h hk hz => ?_) n x t h rfl
  unfold b_se_place_18 at h
  refine r_iload (n := 20) rfl ok d_se_place_18 5 rfl ?_
  refine r_aload_n (n := 21) rfl ok d_se_place_20 rfl 0 rfl ?_
  refine g_SEA_tries (n := 24) rfl ok hG  k_316 d_se_place_21 ?_
  refine r_iload_n (n := 25) rfl ok d_se_place_24 rfl 2 rfl ?_
  obtain ⟨g3, h⟩ := gd_ok h
  refine al_STRIES (n := 26) rfl ok hG  g3 d_se_place_25 ?_
  refine r_icmp_ge (tgt := 66) (n := 29) rfl ok d_se_place_26 (by decide) (fun c4 => ?_) (fun c4 => ?_)
  · replace h := if_p c4 h
    obtain rfl := Option.some.inj h
    exact r_sub [0, 1, 2, 3, 4] rfl (show Wt X M 66 [(0, .ref (G.1 + oSEA)), (1, .int y1), (2, .int y2), (3, .long x.1), (5, .long x.2.1)] [] from kx _ (hz _ rfl))
  · replace h := if_n c4 h
    refine r_lload (n := 31) rfl ok d_se_place_29 4 rfl ?_
    refine r_lload_n (n := 32) rfl ok d_se_place_31 rfl 3 rfl ?_
    refine r_aload_n (n := 33) rfl ok d_se_place_32 rfl 0 rfl ?_
    refine g_SEA_times (n := 36) rfl ok hG  k_317 d_se_place_33 ?_
    refine r_iload_n (n := 37) rfl ok d_se_place_36 rfl 2 rfl ?_
    obtain ⟨g5, h⟩ := gd_ok h
    refine al_STIMES (n := 38) rfl ok hG  g5 d_se_place_37 ?_
    refine r_iload (n := 40) rfl ok d_se_place_38 5 rfl ?_
    obtain ⟨g6, h⟩ := gd_ok h
    refine al_STROW (n := 41) rfl ok hG (gin_lt g5) g6 d_se_place_40 ?_
    refine r_i2l (n := 42) rfl ok d_se_place_41 ?_
    refine r_lmul (n := 43) rfl ok d_se_place_42 ?_
    refine r_ladd (n := 44) rfl ok d_se_place_43 ?_
    obtain ⟨x7, ex7, h⟩ := bd_ok h
    refine r_tl (Option.some.inj ex7).symm ?_
    refine r_lstore (lv' := [(5, .long x7), (0, .ref (G.1 + oSEA)), (1, .int y1), (2, .int y2), (3, .long x.1), (7, .int x.2.2)]) (n := 46) rfl ok d_se_place_44 (lt_n hXn (Nat.le_of_ble_eq_true rfl)) rfl ?_
    refine r_lload_n (n := 47) rfl ok d_se_place_46 rfl 4 rfl ?_
    refine r_aload_n (n := 48) rfl ok d_se_place_47 rfl 1 rfl ?_
    refine g_SEA_misses (n := 51) rfl ok hG  k_315 d_se_place_48 ?_
    refine r_iload_n (n := 52) rfl ok d_se_place_51 rfl 3 rfl ?_
    obtain ⟨g8, h⟩ := gd_ok h
    refine al_SMISS (n := 53) rfl ok hG  g8 d_se_place_52 ?_
    refine r_i2l (n := 54) rfl ok d_se_place_53 ?_
    refine r_lmul (n := 55) rfl ok d_se_place_54 ?_
    refine r_ldc2 (n := 58) rfl ok d_se_place_55 k_829 ?_
    refine r_ldiv (n := 59) rfl ok d_se_place_58 (by decide) ?_
    obtain ⟨x9, ex9, h⟩ := bd_ok h
    refine r_tl (Option.some.inj ex9).symm ?_
    refine r_lstore_n (lv' := [(3, .long x9), (5, .long x7), (0, .ref (G.1 + oSEA)), (1, .int y1), (2, .int y2), (7, .int x.2.2)]) (n := 60) rfl ok d_se_place_59 rfl (lt_n hXn (Nat.le_of_ble_eq_true rfl)) rfl ?_
    obtain ⟨x10, ex10, h⟩ := bd_ok h
    refine r_iinc (lv' := [(7, .int x10), (3, .long x9), (5, .long x7), (0, .ref (G.1 + oSEA)), (1, .int y1), (2, .int y2)]) (n := 63) rfl ok d_se_place_60 5 rfl (Option.some.inj ex10) (lt_n hXn (Nat.le_of_ble_eq_true rfl)) rfl ?_
    refine r_goto (tgt := 18) ok d_se_place_63 (by decide) ?_
    obtain rfl := Option.some.inj h
    exact r_sub [3, 4, 5, 1, 2, 0] rfl (show Wt X M 18 [(0, .ref (G.1 + oSEA)), (1, .int y1), (2, .int y2), (3, .long x9), (5, .long x7), (7, .int x10)] [] from hk _ rfl)
set_option maxHeartbeats 4000000 in
set_option maxRecDepth 20000 in
theorem C_se_place {l : Launch} {G : Gt} {M : Me} {a1 : Int32} {a2 : Int32}  {o : Me} (h : f_se_place M a1 a2 = some o) : Ct l G (WC G) (rC G) y_se_place b_se_place 8 none rm_se_place [.ref (G.1 + oSEA), .int a1, .int a2] M (none) o := by
  refine Ct.mk (own := "RetryChains$ChainSearch") rfl (by decide) (Nat.le_of_ble_eq_true rfl) rfl (fun X hXl hXR hXn ok hG fin => ?_)
  subst hXl
  unfold f_se_place at h
  show Wt X M 0 [(0, .ref (G.1 + oSEA)), (1, .int a1), (2, .int a2)] []
  refine r_aload_n (n := 1) rfl ok d_se_place_0 rfl 0 rfl ?_
  refine g_SEA_reach (n := 4) rfl ok hG  k_318 d_se_place_1 ?_
  refine r_iload_n (n := 5) rfl ok d_se_place_4 rfl 1 rfl ?_
  obtain ⟨g1, h⟩ := gd_ok h
  refine al_SREACH (n := 6) rfl ok hG  g1 d_se_place_5 ?_
  refine r_lstore_n (lv' := [(3, .long (M.2 85 0 0 (tN a1))), (0, .ref (G.1 + oSEA)), (1, .int a1), (2, .int a2)]) (n := 7) rfl ok d_se_place_6 rfl (lt_n hXn (Nat.le_of_ble_eq_true rfl)) rfl ?_
  refine r_aload_n (n := 8) rfl ok d_se_place_7 rfl 1 rfl ?_
  refine g_SEA_sums (n := 11) rfl ok hG  k_319 d_se_place_8 ?_
  refine r_iload_n (n := 12) rfl ok d_se_place_11 rfl 2 rfl ?_
  obtain ⟨g2, h⟩ := gd_ok h
  refine al_SSUMS (n := 13) rfl ok hG  g2 d_se_place_12 ?_
  refine r_lstore (lv' := [(5, .long (M.2 86 0 0 (tN a1))), (3, .long (M.2 85 0 0 (tN a1))), (0, .ref (G.1 + oSEA)), (1, .int a1), (2, .int a2)]) (n := 15) rfl ok d_se_place_13 (lt_n hXn (Nat.le_of_ble_eq_true rfl)) rfl ?_
  refine r_iconst (v := 0) (n := 16) rfl ok d_se_place_15 (by decide) ?_
  refine r_istore (lv' := [(7, .int 0), (5, .long (M.2 86 0 0 (tN a1))), (3, .long (M.2 85 0 0 (tN a1))), (0, .ref (G.1 + oSEA)), (1, .int a1), (2, .int a2)]) (n := 18) rfl ok d_se_place_16 (lt_n hXn (Nat.le_of_ble_eq_true rfl)) rfl ?_
  obtain ⟨t11, ht11, h⟩ := bd_ok h
  refine r_sub [3, 4, 5, 2, 1, 0] rfl (show Wt X M 18 [(0, .ref (G.1 + oSEA)), (1, .int a1), (2, .int a2), (3, .long (M.2 85 0 0 (tN a1))), (5, .long (M.2 86 0 0 (tN a1))), (7, .int 0)] [] from w_se_place_18 ok hG hXR hXn  ?_ _ _ ht11)
  · intro e12 he
    subst he
    refine r_aload_n (n := 67) rfl ok d_se_place_66 rfl 0 rfl ?_
    refine g_SEA_reach (n := 70) rfl ok hG  k_318 d_se_place_67 ?_
    refine r_iload_n (n := 71) rfl ok d_se_place_70 rfl 1 rfl ?_
    refine r_iconst (v := 1) (n := 72) rfl ok d_se_place_71 (by decide) ?_
    refine r_iadd (n := 73) rfl ok d_se_place_72 ?_
    refine r_lload_n (n := 74) rfl ok d_se_place_73 rfl 3 rfl ?_
    obtain ⟨g13, h⟩ := gd_ok h
    obtain ⟨M14, eM14, h⟩ := bd_ok h
    refine as_SREACH (n := 75) rfl ok hG  g13 d_se_place_74 ?_
    refine r_mem (Option.some.inj eM14) ?_
    refine r_aload_n (n := 76) rfl ok d_se_place_75 rfl 0 rfl ?_
    refine g_SEA_sums (n := 79) rfl ok hG  k_319 d_se_place_76 ?_
    refine r_iload_n (n := 80) rfl ok d_se_place_79 rfl 1 rfl ?_
    refine r_iconst (v := 1) (n := 81) rfl ok d_se_place_80 (by decide) ?_
    refine r_iadd (n := 82) rfl ok d_se_place_81 ?_
    refine r_lload (n := 84) rfl ok d_se_place_82 4 rfl ?_
    obtain ⟨g15, h⟩ := gd_ok h
    obtain ⟨M16, eM16, h⟩ := bd_ok h
    refine as_SSUMS (n := 85) rfl ok hG  g15 d_se_place_84 ?_
    refine r_mem (Option.some.inj eM16) ?_
    refine r_aload_n (n := 86) rfl ok d_se_place_85 rfl 0 rfl ?_
    refine g_SEA_entries (n := 89) rfl ok hG  k_320 d_se_place_86 ?_
    refine r_iload_n (n := 90) rfl ok d_se_place_89 rfl 1 rfl ?_
    refine r_aload_n (n := 91) rfl ok d_se_place_90 rfl 0 rfl ?_
    refine g_SEA_rates (n := 94) rfl ok hG  k_314 d_se_place_91 ?_
    refine r_iload_n (n := 95) rfl ok d_se_place_94 rfl 2 rfl ?_
    obtain ⟨g17, h⟩ := gd_ok h
    refine al_SRATES (n := 96) rfl ok hG  g17 d_se_place_95 ?_
    obtain ⟨g18, h⟩ := gd_ok h
    obtain ⟨M19, eM19, h⟩ := bd_ok h
    refine as_SENT (n := 97) rfl ok hG  g18 d_se_place_96 ?_
    refine r_mem (Option.some.inj eM19) ?_
    obtain rfl := Option.some.inj h
    exact fin _ _ d_se_place_97
set_option maxHeartbeats 4000000 in
set_option maxRecDepth 20000 in
theorem w_se_explore_79 {X : Cx Me} {G : Gt} (ok : Ok X b_se_explore "RetryChains$ChainSearch") (hG : GC X G) (hXR : X.R = rm_se_explore) (hXn : X.nL = 5) {y1 : Int32} {y2 : Int32} {y3 : Int32}  {t : Me} (kx : ∀ e : Me, e = t → Wt X e 105 [(0, .ref (G.1 + oSEA)), (1, .int y1), (2, .int y2), (3, .int y3)] [])  : ∀ (n : Nat) (x : Int32 × Me), lp n (b_se_explore_79 y1 y2 y3) x = some t → Wt X x.2 79 [(0, .ref (G.1 + oSEA)), (1, .int y1), (2, .int y2), (3, .int y3), (4, .int x.1)] [] := by
  intro n x h
  refine lp_W (P := fun x => Wt X x.2 79 [(0, .ref (G.1 + oSEA)), (1, .int y1), (2, .int y2), (3, .int y3), (4, .int x.1)] []) (Z := fun t' => t' = t) (fun x r h hk hz => ?_) n x t h rfl
  unfold b_se_explore_79 at h
  refine r_iload (n := 81) rfl ok d_se_explore_79 4 rfl ?_
  refine r_aload_n (n := 82) rfl ok d_se_explore_81 rfl 0 rfl ?_
  refine g_SEA_count (n := 85) rfl ok hG  k_312 d_se_explore_82 ?_
  refine r_icmp_ge (tgt := 105) (n := 88) rfl ok d_se_explore_85 (by decide) (fun c11 => ?_) (fun c11 => ?_)
  · replace h := if_p c11 h
    obtain rfl := Option.some.inj h
    exact r_sub [0, 1, 2, 3] rfl (show Wt X x.2 105 [(0, .ref (G.1 + oSEA)), (1, .int y1), (2, .int y2), (3, .int y3)] [] from kx _ (hz _ rfl))
  · replace h := if_n c11 h
    refine r_aload_n (n := 89) rfl ok d_se_explore_88 rfl 0 rfl ?_
    refine r_iconst (v := 3) (n := 90) rfl ok d_se_explore_89 (by decide) ?_
    refine r_iload (n := 92) rfl ok d_se_explore_90 4 rfl ?_
    obtain ⟨r12, hr12, h⟩ := bd_ok h
    refine r_callV (n := 95) rfl ok hG mf_se_place k_833 ks_11 k_831 (C_se_place  hr12) ⟨rfl, rfl⟩ (rR hXR ⟨Nat.le_of_ble_eq_true rfl, Nat.le_of_ble_eq_true rfl⟩) rfl rfl (rv_SEA) rfl (Nat.le_of_ble_eq_true rfl) d_se_explore_92 ?_
    refine r_aload_n (n := 96) rfl ok d_se_explore_95 rfl 0 rfl ?_
    obtain ⟨r13, hr13, h⟩ := bd_ok h
    refine r_callV (n := 99) rfl ok hG mf_se_keepIfBetter k_837 ks_12 k_835 (C_se_keepIfBetter  hr13) ⟨rfl, rfl⟩ (rR hXR ⟨Nat.le_of_ble_eq_true rfl, Nat.le_of_ble_eq_true rfl⟩) rfl rfl (rv_SEA) rfl (Nat.le_of_ble_eq_true rfl) d_se_explore_96 ?_
    obtain ⟨x14, ex14, h⟩ := bd_ok h
    refine r_iinc (lv' := [(4, .int x14), (0, .ref (G.1 + oSEA)), (1, .int y1), (2, .int y2), (3, .int y3)]) (n := 102) rfl ok d_se_explore_99 4 rfl (Option.some.inj ex14) (lt_n hXn (Nat.le_of_ble_eq_true rfl)) rfl ?_
    refine r_goto (tgt := 79) ok d_se_explore_102 (by decide) ?_
    obtain rfl := Option.some.inj h
    exact r_sub [1, 2, 3, 4, 0] rfl (show Wt X r13 79 [(0, .ref (G.1 + oSEA)), (1, .int y1), (2, .int y2), (3, .int y3), (4, .int x14)] [] from hk _ rfl)
set_option maxHeartbeats 4000000 in
set_option maxRecDepth 20000 in
theorem w_se_explore_62 {X : Cx Me} {G : Gt} (ok : Ok X b_se_explore "RetryChains$ChainSearch") (hG : GC X G) (hXR : X.R = rm_se_explore) (hXn : X.nL = 5) {y1 : Int32} {y2 : Int32}  {t : Me} (kx : ∀ e : Me, e = t → Wt X e 111 [(0, .ref (G.1 + oSEA)), (1, .int y1), (2, .int y2)] [])  : ∀ (n : Nat) (x : Int32 × Me), lp n (b_se_explore_62 y1 y2) x = some t → Wt X x.2 62 [(0, .ref (G.1 + oSEA)), (1, .int y1), (2, .int y2), (3, .int x.1)] [] := by
  intro n x h
  refine lp_W (P := fun x => Wt X x.2 62 [(0, .ref (G.1 + oSEA)), (1, .int y1), (2, .int y2), (3, .int x.1)] []) (Z := fun t' => t' = t) (fun x r h hk hz => ?_) n x t h rfl
  unfold b_se_explore_62 at h
  refine r_iload_n (n := 63) rfl ok d_se_explore_62 rfl 3 rfl ?_
  refine r_aload_n (n := 64) rfl ok d_se_explore_63 rfl 0 rfl ?_
  refine g_SEA_count (n := 67) rfl ok hG  k_312 d_se_explore_64 ?_
  refine r_icmp_ge (tgt := 111) (n := 70) rfl ok d_se_explore_67 (by decide) (fun c9 => ?_) (fun c9 => ?_)
  · replace h := if_p c9 h
    obtain rfl := Option.some.inj h
    exact r_sub [0, 1, 2] rfl (show Wt X x.2 111 [(0, .ref (G.1 + oSEA)), (1, .int y1), (2, .int y2)] [] from kx _ (hz _ rfl))
  · replace h := if_n c9 h
    refine r_aload_n (n := 71) rfl ok d_se_explore_70 rfl 0 rfl ?_
    refine r_iconst (v := 2) (n := 72) rfl ok d_se_explore_71 (by decide) ?_
    refine r_iload_n (n := 73) rfl ok d_se_explore_72 rfl 3 rfl ?_
    obtain ⟨r10, hr10, h⟩ := bd_ok h
    refine r_callV (n := 76) rfl ok hG mf_se_place k_833 ks_11 k_831 (C_se_place  hr10) ⟨rfl, rfl⟩ (rR hXR ⟨Nat.le_of_ble_eq_true rfl, Nat.le_of_ble_eq_true rfl⟩) rfl rfl (rv_SEA) rfl (Nat.le_of_ble_eq_true rfl) d_se_explore_73 ?_
    refine r_iconst (v := 0) (n := 77) rfl ok d_se_explore_76 (by decide) ?_
    refine r_istore (lv' := [(4, .int 0), (0, .ref (G.1 + oSEA)), (1, .int y1), (2, .int y2), (3, .int x.1)]) (n := 79) rfl ok d_se_explore_77 (lt_n hXn (Nat.le_of_ble_eq_true rfl)) rfl ?_
    obtain ⟨t15, ht15, h⟩ := bd_ok h
    refine r_sub [1, 2, 3, 4, 0] rfl (show Wt X r10 79 [(0, .ref (G.1 + oSEA)), (1, .int y1), (2, .int y2), (3, .int x.1), (4, .int 0)] [] from w_se_explore_79 ok hG hXR hXn  ?_ _ _ ht15)
    · intro e16 he
      subst he
      obtain ⟨x17, ex17, h⟩ := bd_ok h
      refine r_iinc (lv' := [(3, .int x17), (0, .ref (G.1 + oSEA)), (1, .int y1), (2, .int y2)]) (n := 108) rfl ok d_se_explore_105 3 rfl (Option.some.inj ex17) (lt_n hXn (Nat.le_of_ble_eq_true rfl)) rfl ?_
      refine r_goto (tgt := 62) ok d_se_explore_108 (by decide) ?_
      obtain rfl := Option.some.inj h
      exact r_sub [1, 2, 3, 0] rfl (show Wt X e16 62 [(0, .ref (G.1 + oSEA)), (1, .int y1), (2, .int y2), (3, .int x17)] [] from hk _ rfl)
set_option maxHeartbeats 4000000 in
set_option maxRecDepth 20000 in
theorem w_se_explore_46 {X : Cx Me} {G : Gt} (ok : Ok X b_se_explore "RetryChains$ChainSearch") (hG : GC X G) (hXR : X.R = rm_se_explore) (hXn : X.nL = 5) {y1 : Int32}  {t : Me} (kx : ∀ e : Me, e = t → Wt X e 117 [(0, .ref (G.1 + oSEA)), (1, .int y1)] [])  : ∀ (n : Nat) (x : Int32 × Me), lp n (b_se_explore_46 y1) x = some t → Wt X x.2 46 [(0, .ref (G.1 + oSEA)), (1, .int y1), (2, .int x.1)] [] := by
  intro n x h
  refine lp_W (P := fun x => Wt X x.2 46 [(0, .ref (G.1 + oSEA)), (1, .int y1), (2, .int x.1)] []) (Z := fun t' => t' = t) (fun x r h hk hz => ?_) n x t h rfl
  unfold b_se_explore_46 at h
  refine r_iload_n (n := 47) rfl ok d_se_explore_46 rfl 2 rfl ?_
  refine r_aload_n (n := 48) rfl ok d_se_explore_47 rfl 0 rfl ?_
  refine g_SEA_count (n := 51) rfl ok hG  k_312 d_se_explore_48 ?_
  refine r_icmp_ge (tgt := 117) (n := 54) rfl ok d_se_explore_51 (by decide) (fun c7 => ?_) (fun c7 => ?_)
  · replace h := if_p c7 h
    obtain rfl := Option.some.inj h
    exact r_sub [0, 1] rfl (show Wt X x.2 117 [(0, .ref (G.1 + oSEA)), (1, .int y1)] [] from kx _ (hz _ rfl))
  · replace h := if_n c7 h
    refine r_aload_n (n := 55) rfl ok d_se_explore_54 rfl 0 rfl ?_
    refine r_iconst (v := 1) (n := 56) rfl ok d_se_explore_55 (by decide) ?_
    refine r_iload_n (n := 57) rfl ok d_se_explore_56 rfl 2 rfl ?_
    obtain ⟨r8, hr8, h⟩ := bd_ok h
    refine r_callV (n := 60) rfl ok hG mf_se_place k_833 ks_11 k_831 (C_se_place  hr8) ⟨rfl, rfl⟩ (rR hXR ⟨Nat.le_of_ble_eq_true rfl, Nat.le_of_ble_eq_true rfl⟩) rfl rfl (rv_SEA) rfl (Nat.le_of_ble_eq_true rfl) d_se_explore_57 ?_
    refine r_iconst (v := 0) (n := 61) rfl ok d_se_explore_60 (by decide) ?_
    refine r_istore_n (lv' := [(3, .int 0), (0, .ref (G.1 + oSEA)), (1, .int y1), (2, .int x.1)]) (n := 62) rfl ok d_se_explore_61 rfl (lt_n hXn (Nat.le_of_ble_eq_true rfl)) rfl ?_
    obtain ⟨t18, ht18, h⟩ := bd_ok h
    refine r_sub [1, 2, 3, 0] rfl (show Wt X r8 62 [(0, .ref (G.1 + oSEA)), (1, .int y1), (2, .int x.1), (3, .int 0)] [] from w_se_explore_62 ok hG hXR hXn  ?_ _ _ ht18)
    · intro e19 he
      subst he
      obtain ⟨x20, ex20, h⟩ := bd_ok h
      refine r_iinc (lv' := [(2, .int x20), (0, .ref (G.1 + oSEA)), (1, .int y1)]) (n := 114) rfl ok d_se_explore_111 2 rfl (Option.some.inj ex20) (lt_n hXn (Nat.le_of_ble_eq_true rfl)) rfl ?_
      refine r_goto (tgt := 46) ok d_se_explore_114 (by decide) ?_
      obtain rfl := Option.some.inj h
      exact r_sub [1, 2, 0] rfl (show Wt X e19 46 [(0, .ref (G.1 + oSEA)), (1, .int y1), (2, .int x20)] [] from hk _ rfl)
set_option maxHeartbeats 4000000 in
set_option maxRecDepth 20000 in
theorem w_se_explore_30 {X : Cx Me} {G : Gt} (ok : Ok X b_se_explore "RetryChains$ChainSearch") (hG : GC X G) (hXR : X.R = rm_se_explore) (hXn : X.nL = 5)   {t : Me} (kx : ∀ e : Me, e = t → Wt X e 123 [] [])  : ∀ (n : Nat) (x : Int32 × Me), lp n b_se_explore_30 x = some t → Wt X x.2 30 [(0, .ref (G.1 + oSEA)), (1, .int x.1)] [] := by
  intro n x h
  refine lp_W (P := fun x => Wt X x.2 30 [(0, .ref (G.1 + oSEA)), (1, .int x.1)] []) (Z := fun t' => t' = t) (fun x r h hk hz => ?_) n x t h rfl
  unfold b_se_explore_30 at h
  refine r_iload_n (n := 31) rfl ok d_se_explore_30 rfl 1 rfl ?_
  refine r_aload_n (n := 32) rfl ok d_se_explore_31 rfl 0 rfl ?_
  refine g_SEA_count (n := 35) rfl ok hG  k_312 d_se_explore_32 ?_
  refine r_icmp_ge (tgt := 123) (n := 38) rfl ok d_se_explore_35 (by decide) (fun c5 => ?_) (fun c5 => ?_)
  · replace h := if_p c5 h
    obtain rfl := Option.some.inj h
    exact r_sub [] rfl (show Wt X x.2 123 [] [] from kx _ (hz _ rfl))
  · replace h := if_n c5 h
    refine r_aload_n (n := 39) rfl ok d_se_explore_38 rfl 0 rfl ?_
    refine r_iconst (v := 0) (n := 40) rfl ok d_se_explore_39 (by decide) ?_
    refine r_iload_n (n := 41) rfl ok d_se_explore_40 rfl 1 rfl ?_
    obtain ⟨r6, hr6, h⟩ := bd_ok h
    refine r_callV (n := 44) rfl ok hG mf_se_place k_833 ks_11 k_831 (C_se_place  hr6) ⟨rfl, rfl⟩ (rR hXR ⟨Nat.le_of_ble_eq_true rfl, Nat.le_of_ble_eq_true rfl⟩) rfl rfl (rv_SEA) rfl (Nat.le_of_ble_eq_true rfl) d_se_explore_41 ?_
    refine r_iconst (v := 0) (n := 45) rfl ok d_se_explore_44 (by decide) ?_
    refine r_istore_n (lv' := [(2, .int 0), (0, .ref (G.1 + oSEA)), (1, .int x.1)]) (n := 46) rfl ok d_se_explore_45 rfl (lt_n hXn (Nat.le_of_ble_eq_true rfl)) rfl ?_
    obtain ⟨t21, ht21, h⟩ := bd_ok h
    refine r_sub [1, 2, 0] rfl (show Wt X r6 46 [(0, .ref (G.1 + oSEA)), (1, .int x.1), (2, .int 0)] [] from w_se_explore_46 ok hG hXR hXn  ?_ _ _ ht21)
    · intro e22 he
      subst he
      obtain ⟨x23, ex23, h⟩ := bd_ok h
      refine r_iinc (lv' := [(1, .int x23), (0, .ref (G.1 + oSEA))]) (n := 120) rfl ok d_se_explore_117 1 rfl (Option.some.inj ex23) (lt_n hXn (Nat.le_of_ble_eq_true rfl)) rfl ?_
      refine r_goto (tgt := 30) ok d_se_explore_120 (by decide) ?_
      obtain rfl := Option.some.inj h
      exact r_sub [1, 0] rfl (show Wt X e22 30 [(0, .ref (G.1 + oSEA)), (1, .int x23)] [] from hk _ rfl)
set_option maxHeartbeats 4000000 in
set_option maxRecDepth 20000 in
theorem C_se_explore {l : Launch} {G : Gt} {M : Me}   {o : Me} (h : f_se_explore M = some o) : Ct l G (WC G) (rC G) y_se_explore b_se_explore 5 none rm_se_explore [.ref (G.1 + oSEA)] M (none) o := by
  refine Ct.mk (own := "RetryChains$ChainSearch") rfl (by decide) (Nat.le_of_ble_eq_true rfl) rfl (fun X hXl hXR hXn ok hG fin => ?_)
  subst hXl
  unfold f_se_explore at h
  show Wt X M 0 [(0, .ref (G.1 + oSEA))] []
  refine r_aload_n (n := 1) rfl ok d_se_explore_0 rfl 0 rfl ?_
  refine g_SEA_reach (n := 4) rfl ok hG  k_318 d_se_explore_1 ?_
  refine r_iconst (v := 0) (n := 5) rfl ok d_se_explore_4 (by decide) ?_
  refine r_ldc2 (n := 8) rfl ok d_se_explore_5 k_829 ?_
  obtain ⟨M1, eM1, h⟩ := bd_ok h
  refine as_SREACH (n := 9) rfl ok hG  (show gin 0 5 by decide) d_se_explore_8 ?_
  refine r_mem (Option.some.inj eM1) ?_
  refine r_aload_n (n := 10) rfl ok d_se_explore_9 rfl 0 rfl ?_
  refine g_SEA_sums (n := 13) rfl ok hG  k_319 d_se_explore_10 ?_
  refine r_iconst (v := 0) (n := 14) rfl ok d_se_explore_13 (by decide) ?_
  refine r_lconst (v := 0) (n := 15) rfl ok d_se_explore_14 (by decide) ?_
  obtain ⟨M2, eM2, h⟩ := bd_ok h
  refine as_SSUMS (n := 16) rfl ok hG  (show gin 0 5 by decide) d_se_explore_15 ?_
  refine r_mem (Option.some.inj eM2) ?_
  refine r_aload_n (n := 17) rfl ok d_se_explore_16 rfl 0 rfl ?_
  refine r_ldc2 (n := 20) rfl ok d_se_explore_17 k_830 ?_
  obtain ⟨M3, eM3, h⟩ := bd_ok h
  refine p_SEA_bestChance (n := 23) rfl ok hG  k_323 d_se_explore_20 ?_
  refine r_mem (Option.some.inj eM3) ?_
  refine r_aload_n (n := 24) rfl ok d_se_explore_23 rfl 0 rfl ?_
  refine r_lconst (v := 1) (n := 25) rfl ok d_se_explore_24 (by decide) ?_
  obtain ⟨M4, eM4, h⟩ := bd_ok h
  refine p_SEA_bestTime (n := 28) rfl ok hG  k_324 d_se_explore_25 ?_
  refine r_mem (Option.some.inj eM4) ?_
  refine r_iconst (v := 0) (n := 29) rfl ok d_se_explore_28 (by decide) ?_
  refine r_istore_n (lv' := [(1, .int 0), (0, .ref (G.1 + oSEA))]) (n := 30) rfl ok d_se_explore_29 rfl (lt_n hXn (Nat.le_of_ble_eq_true rfl)) rfl ?_
  obtain ⟨t24, ht24, h⟩ := bd_ok h
  refine r_sub [1, 0] rfl (show Wt X M4 30 [(0, .ref (G.1 + oSEA)), (1, .int 0)] [] from w_se_explore_30 ok hG hXR hXn  ?_ _ _ ht24)
  · intro e25 he
    subst he
    obtain rfl := Option.some.inj h
    exact fin _ _ d_se_explore_123
set_option maxHeartbeats 4000000 in
set_option maxRecDepth 20000 in
theorem w_lo_become_10 {X : Cx Me} {G : Gt} (ok : Ok X b_lo_become "RetryChains$EventLog") (hG : GC X G) (hXR : X.R = rm_lo_become) (hXn : X.nL = 3) {j0a : Nat} {j1a : Nat} (hj0a : j0a < 9) (hj1a : j1a < 9) {t : Me} (kx : ∀ e : Me, e = t → Wt X e 40 [] [])  : ∀ (n : Nat) (x : Int32 × Me), lp n (b_lo_become_10 j0a j1a) x = some t → Wt X x.2 10 [(0, .ref (G.1 + oLOG j0a)), (1, .ref (G.1 + oLOG j1a)), (2, .int x.1)] [] := by
  intro n x h
  refine lp_W (P := fun x => Wt X x.2 10 [(0, .ref (G.1 + oLOG j0a)), (1, .ref (G.1 + oLOG j1a)), (2, .int x.1)] []) (Z := fun t' => t' = t) (fun x r h hk hz => ?_) n x t h rfl
  unfold b_lo_become_10 at h
  refine r_iload_n (n := 11) rfl ok d_lo_become_10 rfl 2 rfl ?_
  refine r_iconst (v := 4) (n := 12) rfl ok d_lo_become_11 (by decide) ?_
  refine r_icmp_ge (tgt := 40) (n := 15) rfl ok d_lo_become_12 (by decide) (fun c2 => ?_) (fun c2 => ?_)
  · replace h := if_p c2 h
    obtain rfl := Option.some.inj h
    exact r_sub [] rfl (show Wt X x.2 40 [] [] from kx _ (hz _ rfl))
  · replace h := if_n c2 h
    refine r_aload_n (n := 16) rfl ok d_lo_become_15 rfl 1 rfl ?_
    refine g_LOG_rows (n := 19) rfl ok hG hj1a k_67 d_lo_become_16 ?_
    refine r_iload_n (n := 20) rfl ok d_lo_become_19 rfl 2 rfl ?_
    obtain ⟨g3, h⟩ := gd_ok h
    refine al_ROWS (n := 21) rfl ok hG hj1a g3 d_lo_become_20 ?_
    refine r_iconst (v := 0) (n := 22) rfl ok d_lo_become_21 (by decide) ?_
    refine r_aload_n (n := 23) rfl ok d_lo_become_22 rfl 0 rfl ?_
    refine g_LOG_rows (n := 26) rfl ok hG hj0a k_67 d_lo_become_23 ?_
    refine r_iload_n (n := 27) rfl ok d_lo_become_26 rfl 2 rfl ?_
    obtain ⟨g4, h⟩ := gd_ok h
    refine al_ROWS (n := 28) rfl ok hG hj0a g4 d_lo_become_27 ?_
    refine r_iconst (v := 0) (n := 29) rfl ok d_lo_become_28 (by decide) ?_
    refine r_bipush (v := 20) (n := 31) rfl ok d_lo_become_29 (by decide) ?_
    obtain ⟨M5, eM5, h⟩ := bd_ok h
    refine cp_LROW (n := 34) rfl ok hG hj0a (gin_lt g4) (wC_get (ky_LROW j1a hj1a (tN x.1) (gin_lt g3))) (sn := 0) (dn := 0) (zn := 20) (by decide) (by decide) (by decide) (by decide) (by decide) (by decide) (Nat.le_of_ble_eq_true rfl) (Nat.le_of_ble_eq_true rfl) k_411 k_392 k_391 k_13 (rR hXR ⟨Nat.le_of_ble_eq_true rfl, Nat.le_of_ble_eq_true rfl⟩) d_lo_become_31 ?_
    refine r_mem (Option.some.inj eM5) ?_
    obtain ⟨x6, ex6, h⟩ := bd_ok h
    refine r_iinc (lv' := [(2, .int x6), (0, .ref (G.1 + oLOG j0a)), (1, .ref (G.1 + oLOG j1a))]) (n := 37) rfl ok d_lo_become_34 2 rfl (Option.some.inj ex6) (lt_n hXn (Nat.le_of_ble_eq_true rfl)) rfl ?_
    refine r_goto (tgt := 10) ok d_lo_become_37 (by decide) ?_
    obtain rfl := Option.some.inj h
    exact r_sub [1, 2, 0] rfl (show Wt X M5 10 [(0, .ref (G.1 + oLOG j0a)), (1, .ref (G.1 + oLOG j1a)), (2, .int x6)] [] from hk _ rfl)
set_option maxHeartbeats 4000000 in
set_option maxRecDepth 20000 in
theorem C_lo_become {l : Launch} {G : Gt} {M : Me} {i0 : Nat} {i1 : Nat} (hi0 : i0 < 9) (hi1 : i1 < 9) {o : Me} (h : f_lo_become M i0 i1 = some o) : Ct l G (WC G) (rC G) y_lo_become b_lo_become 3 none rm_lo_become [.ref (G.1 + oLOG i0), .ref (G.1 + oLOG i1)] M (none) o := by
  refine Ct.mk (own := "RetryChains$EventLog") rfl (by decide) (Nat.le_of_ble_eq_true rfl) rfl (fun X hXl hXR hXn ok hG fin => ?_)
  subst hXl
  unfold f_lo_become at h
  show Wt X M 0 [(0, .ref (G.1 + oLOG i0)), (1, .ref (G.1 + oLOG i1))] []
  refine r_aload_n (n := 1) rfl ok d_lo_become_0 rfl 0 rfl ?_
  refine r_aload_n (n := 2) rfl ok d_lo_become_1 rfl 1 rfl ?_
  refine g_LOG_total (n := 5) rfl ok hG hi1 k_65 d_lo_become_2 ?_
  obtain ⟨M1, eM1, h⟩ := bd_ok h
  refine p_LOG_total (n := 8) rfl ok hG hi0 k_65 d_lo_become_5 ?_
  refine r_mem (Option.some.inj eM1) ?_
  refine r_iconst (v := 0) (n := 9) rfl ok d_lo_become_8 (by decide) ?_
  refine r_istore_n (lv' := [(2, .int 0), (0, .ref (G.1 + oLOG i0)), (1, .ref (G.1 + oLOG i1))]) (n := 10) rfl ok d_lo_become_9 rfl (lt_n hXn (Nat.le_of_ble_eq_true rfl)) rfl ?_
  obtain ⟨t7, ht7, h⟩ := bd_ok h
  refine r_sub [1, 2, 0] rfl (show Wt X M1 10 [(0, .ref (G.1 + oLOG i0)), (1, .ref (G.1 + oLOG i1)), (2, .int 0)] [] from w_lo_become_10 ok hG hXR hXn hi0 hi1 ?_ _ _ ht7)
  · intro e8 he
    subst he
    obtain rfl := Option.some.inj h
    exact fin _ _ d_lo_become_40
set_option maxHeartbeats 4000000 in
set_option maxRecDepth 20000 in
theorem C_lo_note {l : Launch} {G : Gt} {M : Me} {i0 : Nat} {a1 : Int32} {a2 : Int32} {a3 : Int32} {a4 : Int32} (hi0 : i0 < 9) {o : Me} (h : f_lo_note M i0 a1 a2 a3 a4 = some o) : Ct l G (WC G) (rC G) y_lo_note b_lo_note 6 none rm_lo_note [.ref (G.1 + oLOG i0), .int a1, .int a2, .int a3, .int a4] M (none) o := by
  refine Ct.mk (own := "RetryChains$EventLog") rfl (by decide) (Nat.le_of_ble_eq_true rfl) rfl (fun X hXl hXR hXn ok hG fin => ?_)
  subst hXl
  unfold f_lo_note at h
  show Wt X M 0 [(0, .ref (G.1 + oLOG i0)), (1, .int a1), (2, .int a2), (3, .int a3), (4, .int a4)] []
  refine r_aload_n (n := 1) rfl ok d_lo_note_0 rfl 0 rfl ?_
  refine g_LOG_total (n := 4) rfl ok hG hi0 k_65 d_lo_note_1 ?_
  refine r_bipush (v := 20) (n := 6) rfl ok d_lo_note_4 (by decide) ?_
  refine r_fmod (by decide) (n := 9) rfl ok hG k_628 k_380 k_12 k_381 (rR hXR ⟨Nat.le_of_ble_eq_true rfl, Nat.le_of_ble_eq_true rfl⟩) d_lo_note_6 ?_
  obtain ⟨x1, ex1, h⟩ := bd_ok h
  refine r_ti (Option.some.inj ex1).symm ?_
  refine r_istore (lv' := [(5, .int x1), (0, .ref (G.1 + oLOG i0)), (1, .int a1), (2, .int a2), (3, .int a3), (4, .int a4)]) (n := 11) rfl ok d_lo_note_9 (lt_n hXn (Nat.le_of_ble_eq_true rfl)) rfl ?_
  refine r_aload_n (n := 12) rfl ok d_lo_note_11 rfl 1 rfl ?_
  refine g_LOG_rows (n := 15) rfl ok hG hi0 k_67 d_lo_note_12 ?_
  refine r_iconst (v := 0) (n := 16) rfl ok d_lo_note_15 (by decide) ?_
  refine al_ROWS (n := 17) rfl ok hG hi0 (show gin 0 4 by decide) d_lo_note_16 ?_
  refine r_iload (n := 19) rfl ok d_lo_note_17 0 rfl ?_
  refine r_iload_n (n := 20) rfl ok d_lo_note_19 rfl 2 rfl ?_
  obtain ⟨g2, h⟩ := gd_ok h
  obtain ⟨M3, eM3, h⟩ := bd_ok h
  refine as_LROW (n := 21) rfl ok hG hi0 (gin_lt (show gin 0 4 by decide)) g2 d_lo_note_20 ?_
  refine r_mem (Option.some.inj eM3) ?_
  refine r_aload_n (n := 22) rfl ok d_lo_note_21 rfl 1 rfl ?_
  refine g_LOG_rows (n := 25) rfl ok hG hi0 k_67 d_lo_note_22 ?_
  refine r_iconst (v := 1) (n := 26) rfl ok d_lo_note_25 (by decide) ?_
  refine al_ROWS (n := 27) rfl ok hG hi0 (show gin 1 4 by decide) d_lo_note_26 ?_
  refine r_iload (n := 29) rfl ok d_lo_note_27 0 rfl ?_
  refine r_iload_n (n := 30) rfl ok d_lo_note_29 rfl 3 rfl ?_
  obtain ⟨g4, h⟩ := gd_ok h
  obtain ⟨M5, eM5, h⟩ := bd_ok h
  refine as_LROW (n := 31) rfl ok hG hi0 (gin_lt (show gin 1 4 by decide)) g4 d_lo_note_30 ?_
  refine r_mem (Option.some.inj eM5) ?_
  refine r_aload_n (n := 32) rfl ok d_lo_note_31 rfl 1 rfl ?_
  refine g_LOG_rows (n := 35) rfl ok hG hi0 k_67 d_lo_note_32 ?_
  refine r_iconst (v := 2) (n := 36) rfl ok d_lo_note_35 (by decide) ?_
  refine al_ROWS (n := 37) rfl ok hG hi0 (show gin 2 4 by decide) d_lo_note_36 ?_
  refine r_iload (n := 39) rfl ok d_lo_note_37 0 rfl ?_
  refine r_iload_n (n := 40) rfl ok d_lo_note_39 rfl 4 rfl ?_
  obtain ⟨g6, h⟩ := gd_ok h
  obtain ⟨M7, eM7, h⟩ := bd_ok h
  refine as_LROW (n := 41) rfl ok hG hi0 (gin_lt (show gin 2 4 by decide)) g6 d_lo_note_40 ?_
  refine r_mem (Option.some.inj eM7) ?_
  refine r_aload_n (n := 42) rfl ok d_lo_note_41 rfl 1 rfl ?_
  refine g_LOG_rows (n := 45) rfl ok hG hi0 k_67 d_lo_note_42 ?_
  refine r_iconst (v := 3) (n := 46) rfl ok d_lo_note_45 (by decide) ?_
  refine al_ROWS (n := 47) rfl ok hG hi0 (show gin 3 4 by decide) d_lo_note_46 ?_
  refine r_iload (n := 49) rfl ok d_lo_note_47 0 rfl ?_
  refine r_iload (n := 51) rfl ok d_lo_note_49 5 rfl ?_
  obtain ⟨g8, h⟩ := gd_ok h
  obtain ⟨M9, eM9, h⟩ := bd_ok h
  refine as_LROW (n := 52) rfl ok hG hi0 (gin_lt (show gin 3 4 by decide)) g8 d_lo_note_51 ?_
  refine r_mem (Option.some.inj eM9) ?_
  refine r_aload_n (n := 53) rfl ok d_lo_note_52 rfl 1 rfl ?_
  refine r_dup (n := 54) rfl ok d_lo_note_53 rfl ?_
  refine g_LOG_total (n := 57) rfl ok hG hi0 k_65 d_lo_note_54 ?_
  refine r_iconst (v := 1) (n := 58) rfl ok d_lo_note_57 (by decide) ?_
  refine r_iadd (n := 59) rfl ok d_lo_note_58 ?_
  obtain ⟨M10, eM10, h⟩ := bd_ok h
  refine p_LOG_total (n := 62) rfl ok hG hi0 k_65 d_lo_note_59 ?_
  refine r_mem (Option.some.inj eM10) ?_
  obtain rfl := Option.some.inj h
  exact fin _ _ d_lo_note_62
set_option maxHeartbeats 4000000 in
set_option maxRecDepth 20000 in
theorem C_lo_look {l : Launch} {G : Gt} {M : Me} {i0 : Nat} {a1 : Int32} {a2 : Int32} (hi0 : i0 < 9) {o : Int32} (h : f_lo_look M i0 a1 a2 = some o) : Ct l G (WC G) (rC G) y_lo_look b_lo_look 3 (some .int) rm_lo_look [.ref (G.1 + oLOG i0), .int a1, .int a2] M (some (.int o)) M := by
  refine Ct.mk (own := "RetryChains$EventLog") rfl (by decide) (Nat.le_of_ble_eq_true rfl) ⟨_, rfl⟩ (fun X hXl hXR hXn ok hG fin => ?_)
  subst hXl
  unfold f_lo_look at h
  show Wt X M 0 [(0, .ref (G.1 + oLOG i0)), (1, .int a1), (2, .int a2)] []
  refine r_iload_n (n := 1) rfl ok d_lo_look_0 rfl 2 rfl ?_
  refine r_if_lt (tgt := 13) (n := 4) rfl ok d_lo_look_1 (by decide) (fun c1 => ?_) (fun c1 => ?_)
  · replace h := if_p c1 h
    refine r_iconst (v := (-1)) (n := 14) rfl ok d_lo_look_13 (by decide) ?_
    obtain rfl := Option.some.inj h
    exact fin _ _ ⟨.int, rfl, rfl⟩ d_lo_look_14
  · replace h := if_n c1 h
    refine r_iload_n (n := 5) rfl ok d_lo_look_4 rfl 1 rfl ?_
    refine r_if_lt (tgt := 13) (n := 8) rfl ok d_lo_look_5 (by decide) (fun c2 => ?_) (fun c2 => ?_)
    · replace h := if_p c2 h
      refine r_iconst (v := (-1)) (n := 14) rfl ok d_lo_look_13 (by decide) ?_
      obtain rfl := Option.some.inj h
      exact fin _ _ ⟨.int, rfl, rfl⟩ d_lo_look_14
    · replace h := if_n c2 h
      refine r_iload_n (n := 9) rfl ok d_lo_look_8 rfl 1 rfl ?_
      refine r_iconst (v := 4) (n := 10) rfl ok d_lo_look_9 (by decide) ?_
      refine r_icmp_lt (tgt := 15) (n := 13) rfl ok d_lo_look_10 (by decide) (fun c3 => ?_) (fun c3 => ?_)
      · replace h := if_p c3 h
        refine r_iload_n (n := 16) rfl ok d_lo_look_15 rfl 2 rfl ?_
        refine r_aload_n (n := 17) rfl ok d_lo_look_16 rfl 0 rfl ?_
        refine g_LOG_total (n := 20) rfl ok hG hi0 k_65 d_lo_look_17 ?_
        refine r_bipush (v := 20) (n := 22) rfl ok d_lo_look_20 (by decide) ?_
        refine r_mmin (n := 25) rfl ok hG k_925 k_554 k_12 k_555 (rR hXR ⟨Nat.le_of_ble_eq_true rfl, Nat.le_of_ble_eq_true rfl⟩) d_lo_look_22 ?_
        refine r_icmp_lt (tgt := 31) (n := 28) rfl ok d_lo_look_25 (by decide) (fun c4 => ?_) (fun c4 => ?_)
        · replace h := if_p c4 h
          refine r_aload_n (n := 32) rfl ok d_lo_look_31 rfl 0 rfl ?_
          refine g_LOG_rows (n := 35) rfl ok hG hi0 k_67 d_lo_look_32 ?_
          refine r_iload_n (n := 36) rfl ok d_lo_look_35 rfl 1 rfl ?_
          obtain ⟨g5, h⟩ := gd_ok h
          refine al_ROWS (n := 37) rfl ok hG hi0 g5 d_lo_look_36 ?_
          refine r_aload_n (n := 38) rfl ok d_lo_look_37 rfl 0 rfl ?_
          refine g_LOG_total (n := 41) rfl ok hG hi0 k_65 d_lo_look_38 ?_
          refine r_iconst (v := 1) (n := 42) rfl ok d_lo_look_41 (by decide) ?_
          refine r_isub (n := 43) rfl ok d_lo_look_42 ?_
          refine r_iload_n (n := 44) rfl ok d_lo_look_43 rfl 2 rfl ?_
          refine r_isub (n := 45) rfl ok d_lo_look_44 ?_
          refine r_bipush (v := 20) (n := 47) rfl ok d_lo_look_45 (by decide) ?_
          refine r_fmod (by decide) (n := 50) rfl ok hG k_628 k_380 k_12 k_381 (rR hXR ⟨Nat.le_of_ble_eq_true rfl, Nat.le_of_ble_eq_true rfl⟩) d_lo_look_47 ?_
          obtain ⟨g6, h⟩ := gd_ok h
          refine al_LROW (n := 51) rfl ok hG hi0 (gin_lt g5) g6 d_lo_look_50 ?_
          obtain rfl := Option.some.inj h
          exact fin _ _ ⟨.int, rfl, rfl⟩ d_lo_look_51
        · replace h := if_n c4 h
          refine r_bipush (v := (-9)) (n := 30) rfl ok d_lo_look_28 (by decide) ?_
          obtain rfl := Option.some.inj h
          exact fin _ _ ⟨.int, rfl, rfl⟩ d_lo_look_30
      · replace h := if_n c3 h
        refine r_iconst (v := (-1)) (n := 14) rfl ok d_lo_look_13 (by decide) ?_
        obtain rfl := Option.some.inj h
        exact fin _ _ ⟨.int, rfl, rfl⟩ d_lo_look_14
set_option maxHeartbeats 4000000 in
set_option maxRecDepth 20000 in
theorem C_lk_become {l : Launch} {G : Gt} {M : Me} {i0 : Nat} {s0 : Nat} {r0 : Nat} {i1 : Nat} {s1 : Nat} {r1 : Nat} (hi0 : i0 < 9) (hs0 : s0 < 4) (hr0 : r0 < 8) (hi1 : i1 < 9) (hs1 : s1 < 4) (hr1 : r1 < 8) {o : Me} (h : f_lk_become M i0 s0 r0 i1 s1 r1 = some o) : Ct l G (WC G) (rC G) y_lk_become b_lk_become 2 none rm_lk_become [.ref (G.1 + oLNK i0 s0 r0), .ref (G.1 + oLNK i1 s1 r1)] M (none) o := by
  refine Ct.mk (own := "RetryChains$Link") rfl (by decide) (Nat.le_of_ble_eq_true rfl) rfl (fun X hXl hXR hXn ok hG fin => ?_)
  subst hXl
  unfold f_lk_become at h
  show Wt X M 0 [(0, .ref (G.1 + oLNK i0 s0 r0)), (1, .ref (G.1 + oLNK i1 s1 r1))] []
  refine r_aload_n (n := 1) rfl ok d_lk_become_0 rfl 0 rfl ?_
  refine r_aload_n (n := 2) rfl ok d_lk_become_1 rfl 1 rfl ?_
  refine g_LNK_isAllowed (n := 5) rfl ok hG hi1 hs1 hr1 k_86 d_lk_become_2 ?_
  obtain ⟨g1, h⟩ := gd_ok h
  obtain ⟨M2, eM2, h⟩ := bd_ok h
  refine p_LNK_isAllowed (n := 8) rfl ok hG hi0 hs0 hr0 g1 k_86 d_lk_become_5 ?_
  refine r_mem (Option.some.inj eM2) ?_
  refine r_aload_n (n := 9) rfl ok d_lk_become_8 rfl 0 rfl ?_
  refine r_aload_n (n := 10) rfl ok d_lk_become_9 rfl 1 rfl ?_
  refine g_LNK_estimate (n := 13) rfl ok hG hi1 hs1 hr1 k_91 d_lk_become_10 ?_
  obtain ⟨M3, eM3, h⟩ := bd_ok h
  refine p_LNK_estimate (n := 16) rfl ok hG hi0 hs0 hr0 k_91 d_lk_become_13 ?_
  refine r_mem (Option.some.inj eM3) ?_
  refine r_aload_n (n := 17) rfl ok d_lk_become_16 rfl 0 rfl ?_
  refine r_aload_n (n := 18) rfl ok d_lk_become_17 rfl 1 rfl ?_
  refine g_LNK_tendency (n := 21) rfl ok hG hi1 hs1 hr1 k_95 d_lk_become_18 ?_
  obtain ⟨M4, eM4, h⟩ := bd_ok h
  refine p_LNK_tendency (n := 24) rfl ok hG hi0 hs0 hr0 k_95 d_lk_become_21 ?_
  refine r_mem (Option.some.inj eM4) ?_
  refine r_aload_n (n := 25) rfl ok d_lk_become_24 rfl 0 rfl ?_
  refine r_aload_n (n := 26) rfl ok d_lk_become_25 rfl 1 rfl ?_
  refine g_LNK_tries (n := 29) rfl ok hG hi1 hs1 hr1 k_96 d_lk_become_26 ?_
  obtain ⟨M5, eM5, h⟩ := bd_ok h
  refine p_LNK_tries (n := 32) rfl ok hG hi0 hs0 hr0 k_96 d_lk_become_29 ?_
  refine r_mem (Option.some.inj eM5) ?_
  refine r_aload_n (n := 33) rfl ok d_lk_become_32 rfl 0 rfl ?_
  refine r_aload_n (n := 34) rfl ok d_lk_become_33 rfl 1 rfl ?_
  refine g_LNK_successes (n := 37) rfl ok hG hi1 hs1 hr1 k_99 d_lk_become_34 ?_
  obtain ⟨M6, eM6, h⟩ := bd_ok h
  refine p_LNK_successes (n := 40) rfl ok hG hi0 hs0 hr0 k_99 d_lk_become_37 ?_
  refine r_mem (Option.some.inj eM6) ?_
  refine r_aload_n (n := 41) rfl ok d_lk_become_40 rfl 0 rfl ?_
  refine r_aload_n (n := 42) rfl ok d_lk_become_41 rfl 1 rfl ?_
  refine g_LNK_allTries (n := 45) rfl ok hG hi1 hs1 hr1 k_101 d_lk_become_42 ?_
  obtain ⟨M7, eM7, h⟩ := bd_ok h
  refine p_LNK_allTries (n := 48) rfl ok hG hi0 hs0 hr0 k_101 d_lk_become_45 ?_
  refine r_mem (Option.some.inj eM7) ?_
  refine r_aload_n (n := 49) rfl ok d_lk_become_48 rfl 0 rfl ?_
  refine r_aload_n (n := 50) rfl ok d_lk_become_49 rfl 1 rfl ?_
  refine g_LNK_allSuccesses (n := 53) rfl ok hG hi1 hs1 hr1 k_104 d_lk_become_50 ?_
  obtain ⟨M8, eM8, h⟩ := bd_ok h
  refine p_LNK_allSuccesses (n := 56) rfl ok hG hi0 hs0 hr0 k_104 d_lk_become_53 ?_
  refine r_mem (Option.some.inj eM8) ?_
  refine r_aload_n (n := 57) rfl ok d_lk_become_56 rfl 0 rfl ?_
  refine r_aload_n (n := 58) rfl ok d_lk_become_57 rfl 1 rfl ?_
  refine g_LNK_quality (n := 61) rfl ok hG hi1 hs1 hr1 k_106 d_lk_become_58 ?_
  obtain ⟨M9, eM9, h⟩ := bd_ok h
  refine p_LNK_quality (n := 64) rfl ok hG hi0 hs0 hr0 k_106 d_lk_become_61 ?_
  refine r_mem (Option.some.inj eM9) ?_
  obtain rfl := Option.some.inj h
  exact fin _ _ d_lk_become_64
set_option maxHeartbeats 4000000 in
set_option maxRecDepth 20000 in
theorem w_st_become_2 {X : Cx Me} {G : Gt} (ok : Ok X b_st_become "RetryChains$Station") (hG : GC X G) (hXR : X.R = rm_st_become) (hXn : X.nL = 3) {j0a : Nat} {j0b : Nat} {j1a : Nat} {j1b : Nat} (hj0a : j0a < 9) (hj0b : j0b < 4) (hj1a : j1a < 9) (hj1b : j1b < 4) {t : Me} (kx : ∀ e : Me, e = t → Wt X e 29 [(0, .ref (G.1 + oSTA j0a j0b)), (1, .ref (G.1 + oSTA j1a j1b))] [])  : ∀ (n : Nat) (x : Int32 × Me), lp n (b_st_become_2 j0a j0b j1a j1b) x = some t → Wt X x.2 2 [(0, .ref (G.1 + oSTA j0a j0b)), (1, .ref (G.1 + oSTA j1a j1b)), (2, .int x.1)] [] := by
  intro n x h
  refine lp_W (P := fun x => Wt X x.2 2 [(0, .ref (G.1 + oSTA j0a j0b)), (1, .ref (G.1 + oSTA j1a j1b)), (2, .int x.1)] []) (Z := fun t' => t' = t) (fun x r h hk hz => ?_) n x t h rfl
  unfold b_st_become_2 at h
  refine r_iload_n (n := 3) rfl ok d_st_become_2 rfl 2 rfl ?_
  refine r_bipush (v := 8) (n := 5) rfl ok d_st_become_3 (by decide) ?_
  refine r_icmp_ge (tgt := 29) (n := 8) rfl ok d_st_become_5 (by decide) (fun c1 => ?_) (fun c1 => ?_)
  · replace h := if_p c1 h
    obtain rfl := Option.some.inj h
    exact r_sub [0, 1] rfl (show Wt X x.2 29 [(0, .ref (G.1 + oSTA j0a j0b)), (1, .ref (G.1 + oSTA j1a j1b))] [] from kx _ (hz _ rfl))
  · replace h := if_n c1 h
    refine r_aload_n (n := 9) rfl ok d_st_become_8 rfl 0 rfl ?_
    refine g_STA_links (n := 12) rfl ok hG hj0a hj0b k_132 d_st_become_9 ?_
    refine r_iload_n (n := 13) rfl ok d_st_become_12 rfl 2 rfl ?_
    obtain ⟨g2, h⟩ := gd_ok h
    refine al_LINKS (n := 14) rfl ok hG hj0a hj0b g2 d_st_become_13 ?_
    refine r_aload_n (n := 15) rfl ok d_st_become_14 rfl 1 rfl ?_
    refine g_STA_links (n := 18) rfl ok hG hj1a hj1b k_132 d_st_become_15 ?_
    refine r_iload_n (n := 19) rfl ok d_st_become_18 rfl 2 rfl ?_
    obtain ⟨g3, h⟩ := gd_ok h
    refine al_LINKS (n := 20) rfl ok hG hj1a hj1b g3 d_st_become_19 ?_
    obtain ⟨r4, hr4, h⟩ := bd_ok h
    refine r_callV (n := 23) rfl ok hG mf_lk_become k_398 k_399 k_397 (C_lk_become hj0a hj0b (gin_lt g2) hj1a hj1b (gin_lt g3) hr4) ⟨rfl, rfl⟩ (rR hXR ⟨Nat.le_of_ble_eq_true rfl, Nat.le_of_ble_eq_true rfl⟩) rfl rfl (rv_LNK hj0a hj0b (gin_lt g2)) rfl (Nat.le_of_ble_eq_true rfl) d_st_become_20 ?_
    obtain ⟨x5, ex5, h⟩ := bd_ok h
    refine r_iinc (lv' := [(2, .int x5), (0, .ref (G.1 + oSTA j0a j0b)), (1, .ref (G.1 + oSTA j1a j1b))]) (n := 26) rfl ok d_st_become_23 2 rfl (Option.some.inj ex5) (lt_n hXn (Nat.le_of_ble_eq_true rfl)) rfl ?_
    refine r_goto (tgt := 2) ok d_st_become_26 (by decide) ?_
    obtain rfl := Option.some.inj h
    exact r_sub [1, 2, 0] rfl (show Wt X r4 2 [(0, .ref (G.1 + oSTA j0a j0b)), (1, .ref (G.1 + oSTA j1a j1b)), (2, .int x5)] [] from hk _ rfl)
set_option maxHeartbeats 4000000 in
set_option maxRecDepth 20000 in
theorem C_st_become {l : Launch} {G : Gt} {M : Me} {i0 : Nat} {s0 : Nat} {i1 : Nat} {s1 : Nat} (hi0 : i0 < 9) (hs0 : s0 < 4) (hi1 : i1 < 9) (hs1 : s1 < 4) {o : Me} (h : f_st_become M i0 s0 i1 s1 = some o) : Ct l G (WC G) (rC G) y_st_become b_st_become 3 none rm_st_become [.ref (G.1 + oSTA i0 s0), .ref (G.1 + oSTA i1 s1)] M (none) o := by
  refine Ct.mk (own := "RetryChains$Station") rfl (by decide) (Nat.le_of_ble_eq_true rfl) rfl (fun X hXl hXR hXn ok hG fin => ?_)
  subst hXl
  unfold f_st_become at h
  show Wt X M 0 [(0, .ref (G.1 + oSTA i0 s0)), (1, .ref (G.1 + oSTA i1 s1))] []
  refine r_iconst (v := 0) (n := 1) rfl ok d_st_become_0 (by decide) ?_
  refine r_istore_n (lv' := [(2, .int 0), (0, .ref (G.1 + oSTA i0 s0)), (1, .ref (G.1 + oSTA i1 s1))]) (n := 2) rfl ok d_st_become_1 rfl (lt_n hXn (Nat.le_of_ble_eq_true rfl)) rfl ?_
  obtain ⟨t6, ht6, h⟩ := bd_ok h
  refine r_sub [1, 2, 0] rfl (show Wt X M 2 [(0, .ref (G.1 + oSTA i0 s0)), (1, .ref (G.1 + oSTA i1 s1)), (2, .int 0)] [] from w_st_become_2 ok hG hXR hXn hi0 hs0 hi1 hs1 ?_ _ _ ht6)
  · intro e7 he
    subst he
    refine r_aload_n (n := 30) rfl ok d_st_become_29 rfl 1 rfl ?_
    refine g_STA_roles (n := 33) rfl ok hG hi1 hs1 k_135 d_st_become_30 ?_
    refine r_iconst (v := 0) (n := 34) rfl ok d_st_become_33 (by decide) ?_
    refine r_aload_n (n := 35) rfl ok d_st_become_34 rfl 0 rfl ?_
    refine g_STA_roles (n := 38) rfl ok hG hi0 hs0 k_135 d_st_become_35 ?_
    refine r_iconst (v := 0) (n := 39) rfl ok d_st_become_38 (by decide) ?_
    refine r_iconst (v := 4) (n := 40) rfl ok d_st_become_39 (by decide) ?_
    obtain ⟨M8, eM8, h⟩ := bd_ok h
    refine cp_ROLES (n := 43) rfl ok hG hi0 hs0 (wC_get (ky_ROLES i1 hi1 s1 hs1)) (sn := 0) (dn := 0) (zn := 4) (by decide) (by decide) (by decide) (by decide) (by decide) (by decide) (Nat.le_of_ble_eq_true rfl) (Nat.le_of_ble_eq_true rfl) k_401 k_392 k_391 k_13 (rR hXR ⟨Nat.le_of_ble_eq_true rfl, Nat.le_of_ble_eq_true rfl⟩) d_st_become_40 ?_
    refine r_mem (Option.some.inj eM8) ?_
    refine r_aload_n (n := 44) rfl ok d_st_become_43 rfl 1 rfl ?_
    refine g_STA_refusals (n := 47) rfl ok hG hi1 hs1 k_138 d_st_become_44 ?_
    refine r_iconst (v := 0) (n := 48) rfl ok d_st_become_47 (by decide) ?_
    refine r_aload_n (n := 49) rfl ok d_st_become_48 rfl 0 rfl ?_
    refine g_STA_refusals (n := 52) rfl ok hG hi0 hs0 k_138 d_st_become_49 ?_
    refine r_iconst (v := 0) (n := 53) rfl ok d_st_become_52 (by decide) ?_
    refine r_iconst (v := 3) (n := 54) rfl ok d_st_become_53 (by decide) ?_
    obtain ⟨M9, eM9, h⟩ := bd_ok h
    refine cp_REFS (n := 57) rfl ok hG hi0 hs0 (wC_get (ky_REFS i1 hi1 s1 hs1)) (sn := 0) (dn := 0) (zn := 3) (by decide) (by decide) (by decide) (by decide) (by decide) (by decide) (Nat.le_of_ble_eq_true rfl) (Nat.le_of_ble_eq_true rfl) k_401 k_392 k_391 k_13 (rR hXR ⟨Nat.le_of_ble_eq_true rfl, Nat.le_of_ble_eq_true rfl⟩) d_st_become_54 ?_
    refine r_mem (Option.some.inj eM9) ?_
    refine r_aload_n (n := 58) rfl ok d_st_become_57 rfl 1 rfl ?_
    refine g_STA_queue (n := 61) rfl ok hG hi1 hs1 k_140 d_st_become_58 ?_
    refine r_iconst (v := 0) (n := 62) rfl ok d_st_become_61 (by decide) ?_
    refine r_aload_n (n := 63) rfl ok d_st_become_62 rfl 0 rfl ?_
    refine g_STA_queue (n := 66) rfl ok hG hi0 hs0 k_140 d_st_become_63 ?_
    refine r_iconst (v := 0) (n := 67) rfl ok d_st_become_66 (by decide) ?_
    refine r_bipush (v := 8) (n := 69) rfl ok d_st_become_67 (by decide) ?_
    obtain ⟨M10, eM10, h⟩ := bd_ok h
    refine cp_QUEUE (n := 72) rfl ok hG hi0 hs0 (wC_get (ky_QUEUE i1 hi1 s1 hs1)) (sn := 0) (dn := 0) (zn := 8) (by decide) (by decide) (by decide) (by decide) (by decide) (by decide) (Nat.le_of_ble_eq_true rfl) (Nat.le_of_ble_eq_true rfl) k_401 k_392 k_391 k_13 (rR hXR ⟨Nat.le_of_ble_eq_true rfl, Nat.le_of_ble_eq_true rfl⟩) d_st_become_69 ?_
    refine r_mem (Option.some.inj eM10) ?_
    refine r_aload_n (n := 73) rfl ok d_st_become_72 rfl 0 rfl ?_
    refine r_aload_n (n := 74) rfl ok d_st_become_73 rfl 1 rfl ?_
    refine g_STA_queueLength (n := 77) rfl ok hG hi1 hs1 k_141 d_st_become_74 ?_
    obtain ⟨M11, eM11, h⟩ := bd_ok h
    refine p_STA_queueLength (n := 80) rfl ok hG hi0 hs0 k_141 d_st_become_77 ?_
    refine r_mem (Option.some.inj eM11) ?_
    refine r_aload_n (n := 81) rfl ok d_st_become_80 rfl 0 rfl ?_
    refine r_aload_n (n := 82) rfl ok d_st_become_81 rfl 1 rfl ?_
    refine g_STA_chains (n := 85) rfl ok hG hi1 hs1 k_143 d_st_become_82 ?_
    obtain ⟨M12, eM12, h⟩ := bd_ok h
    refine p_STA_chains (n := 88) rfl ok hG hi0 hs0 k_143 d_st_become_85 ?_
    refine r_mem (Option.some.inj eM12) ?_
    refine r_aload_n (n := 89) rfl ok d_st_become_88 rfl 0 rfl ?_
    refine r_aload_n (n := 90) rfl ok d_st_become_89 rfl 1 rfl ?_
    refine g_STA_sampled (n := 93) rfl ok hG hi1 hs1 k_146 d_st_become_90 ?_
    obtain ⟨M13, eM13, h⟩ := bd_ok h
    refine p_STA_sampled (n := 96) rfl ok hG hi0 hs0 k_146 d_st_become_93 ?_
    refine r_mem (Option.some.inj eM13) ?_
    refine r_aload_n (n := 97) rfl ok d_st_become_96 rfl 0 rfl ?_
    refine r_aload_n (n := 98) rfl ok d_st_become_97 rfl 1 rfl ?_
    refine g_STA_delivered (n := 101) rfl ok hG hi1 hs1 k_149 d_st_become_98 ?_
    obtain ⟨M14, eM14, h⟩ := bd_ok h
    refine p_STA_delivered (n := 104) rfl ok hG hi0 hs0 k_149 d_st_become_101 ?_
    refine r_mem (Option.some.inj eM14) ?_
    refine r_aload_n (n := 105) rfl ok d_st_become_104 rfl 0 rfl ?_
    refine r_aload_n (n := 106) rfl ok d_st_become_105 rfl 1 rfl ?_
    refine g_STA_lost (n := 109) rfl ok hG hi1 hs1 k_152 d_st_become_106 ?_
    obtain ⟨M15, eM15, h⟩ := bd_ok h
    refine p_STA_lost (n := 112) rfl ok hG hi0 hs0 k_152 d_st_become_109 ?_
    refine r_mem (Option.some.inj eM15) ?_
    refine r_aload_n (n := 113) rfl ok d_st_become_112 rfl 0 rfl ?_
    refine r_aload_n (n := 114) rfl ok d_st_become_113 rfl 1 rfl ?_
    refine g_STA_losses (n := 117) rfl ok hG hi1 hs1 k_155 d_st_become_114 ?_
    obtain ⟨M16, eM16, h⟩ := bd_ok h
    refine p_STA_losses (n := 120) rfl ok hG hi0 hs0 k_155 d_st_become_117 ?_
    refine r_mem (Option.some.inj eM16) ?_
    refine r_aload_n (n := 121) rfl ok d_st_become_120 rfl 0 rfl ?_
    refine r_aload_n (n := 122) rfl ok d_st_become_121 rfl 1 rfl ?_
    refine g_STA_inFallback (n := 125) rfl ok hG hi1 hs1 k_157 d_st_become_122 ?_
    obtain ⟨g17, h⟩ := gd_ok h
    obtain ⟨M18, eM18, h⟩ := bd_ok h
    refine p_STA_inFallback (n := 128) rfl ok hG hi0 hs0 g17 k_157 d_st_become_125 ?_
    refine r_mem (Option.some.inj eM18) ?_
    refine r_aload_n (n := 129) rfl ok d_st_become_128 rfl 0 rfl ?_
    refine r_aload_n (n := 130) rfl ok d_st_become_129 rfl 1 rfl ?_
    refine g_STA_deficit (n := 133) rfl ok hG hi1 hs1 k_160 d_st_become_130 ?_
    obtain ⟨M19, eM19, h⟩ := bd_ok h
    refine p_STA_deficit (n := 136) rfl ok hG hi0 hs0 k_160 d_st_become_133 ?_
    refine r_mem (Option.some.inj eM19) ?_
    refine r_aload_n (n := 137) rfl ok d_st_become_136 rfl 0 rfl ?_
    refine r_aload_n (n := 138) rfl ok d_st_become_137 rfl 1 rfl ?_
    refine g_STA_intervalEnd (n := 141) rfl ok hG hi1 hs1 k_163 d_st_become_138 ?_
    obtain ⟨M20, eM20, h⟩ := bd_ok h
    refine p_STA_intervalEnd (n := 144) rfl ok hG hi0 hs0 k_163 d_st_become_141 ?_
    refine r_mem (Option.some.inj eM20) ?_
    refine r_aload_n (n := 145) rfl ok d_st_become_144 rfl 0 rfl ?_
    refine r_aload_n (n := 146) rfl ok d_st_become_145 rfl 1 rfl ?_
    refine g_STA_draw (n := 149) rfl ok hG hi1 hs1 k_166 d_st_become_146 ?_
    obtain ⟨M21, eM21, h⟩ := bd_ok h
    refine p_STA_draw (n := 152) rfl ok hG hi0 hs0 k_166 d_st_become_149 ?_
    refine r_mem (Option.some.inj eM21) ?_
    obtain rfl := Option.some.inj h
    exact fin _ _ d_st_become_152
set_option maxHeartbeats 4000000 in
set_option maxRecDepth 20000 in
theorem C_tb_become {l : Launch} {G : Gt} {M : Me} {i0 : Nat} {i1 : Nat} (hi0 : i0 < 9) (hi1 : i1 < 9) {o : Me} (h : f_tb_become M i0 i1 = some o) : Ct l G (WC G) (rC G) y_tb_become b_tb_become 2 none rm_tb_become [.ref (G.1 + oTAB i0), .ref (G.1 + oTAB i1)] M (none) o := by
  refine Ct.mk (own := "RetryChains$RateTable") rfl (by decide) (Nat.le_of_ble_eq_true rfl) rfl (fun X hXl hXR hXn ok hG fin => ?_)
  subst hXl
  unfold f_tb_become at h
  show Wt X M 0 [(0, .ref (G.1 + oTAB i0)), (1, .ref (G.1 + oTAB i1))] []
  refine r_aload_n (n := 1) rfl ok d_tb_become_0 rfl 0 rfl ?_
  refine r_aload_n (n := 2) rfl ok d_tb_become_1 rfl 1 rfl ?_
  refine g_TAB_count (n := 5) rfl ok hG hi1 k_34 d_tb_become_2 ?_
  obtain ⟨M1, eM1, h⟩ := bd_ok h
  refine p_TAB_count (n := 8) rfl ok hG hi0 k_34 d_tb_become_5 ?_
  refine r_mem (Option.some.inj eM1) ?_
  refine r_aload_n (n := 9) rfl ok d_tb_become_8 rfl 1 rfl ?_
  refine g_TAB_modes (n := 12) rfl ok hG hi1 k_39 d_tb_become_9 ?_
  refine r_iconst (v := 0) (n := 13) rfl ok d_tb_become_12 (by decide) ?_
  refine r_aload_n (n := 14) rfl ok d_tb_become_13 rfl 0 rfl ?_
  refine g_TAB_modes (n := 17) rfl ok hG hi0 k_39 d_tb_become_14 ?_
  refine r_iconst (v := 0) (n := 18) rfl ok d_tb_become_17 (by decide) ?_
  refine r_bipush (v := 8) (n := 20) rfl ok d_tb_become_18 (by decide) ?_
  obtain ⟨M2, eM2, h⟩ := bd_ok h
  refine cp_MODES (n := 23) rfl ok hG hi0 (wC_get (ky_MODES i1 hi1)) (sn := 0) (dn := 0) (zn := 8) (by decide) (by decide) (by decide) (by decide) (by decide) (by decide) (Nat.le_of_ble_eq_true rfl) (Nat.le_of_ble_eq_true rfl) k_390 k_392 k_391 k_13 (rR hXR ⟨Nat.le_of_ble_eq_true rfl, Nat.le_of_ble_eq_true rfl⟩) d_tb_become_20 ?_
  refine r_mem (Option.some.inj eM2) ?_
  refine r_aload_n (n := 24) rfl ok d_tb_become_23 rfl 1 rfl ?_
  refine g_TAB_speeds (n := 27) rfl ok hG hi1 k_40 d_tb_become_24 ?_
  refine r_iconst (v := 0) (n := 28) rfl ok d_tb_become_27 (by decide) ?_
  refine r_aload_n (n := 29) rfl ok d_tb_become_28 rfl 0 rfl ?_
  refine g_TAB_speeds (n := 32) rfl ok hG hi0 k_40 d_tb_become_29 ?_
  refine r_iconst (v := 0) (n := 33) rfl ok d_tb_become_32 (by decide) ?_
  refine r_bipush (v := 8) (n := 35) rfl ok d_tb_become_33 (by decide) ?_
  obtain ⟨M3, eM3, h⟩ := bd_ok h
  refine cp_SPEEDS (n := 38) rfl ok hG hi0 (wC_get (ky_SPEEDS i1 hi1)) (sn := 0) (dn := 0) (zn := 8) (by decide) (by decide) (by decide) (by decide) (by decide) (by decide) (Nat.le_of_ble_eq_true rfl) (Nat.le_of_ble_eq_true rfl) k_390 k_392 k_391 k_13 (rR hXR ⟨Nat.le_of_ble_eq_true rfl, Nat.le_of_ble_eq_true rfl⟩) d_tb_become_35 ?_
  refine r_mem (Option.some.inj eM3) ?_
  refine r_aload_n (n := 39) rfl ok d_tb_become_38 rfl 1 rfl ?_
  refine g_TAB_nominals (n := 42) rfl ok hG hi1 k_41 d_tb_become_39 ?_
  refine r_iconst (v := 0) (n := 43) rfl ok d_tb_become_42 (by decide) ?_
  refine r_aload_n (n := 44) rfl ok d_tb_become_43 rfl 0 rfl ?_
  refine g_TAB_nominals (n := 47) rfl ok hG hi0 k_41 d_tb_become_44 ?_
  refine r_iconst (v := 0) (n := 48) rfl ok d_tb_become_47 (by decide) ?_
  refine r_bipush (v := 8) (n := 50) rfl ok d_tb_become_48 (by decide) ?_
  obtain ⟨M4, eM4, h⟩ := bd_ok h
  refine cp_NOMS (n := 53) rfl ok hG hi0 (wC_get (ky_NOMS i1 hi1)) (sn := 0) (dn := 0) (zn := 8) (by decide) (by decide) (by decide) (by decide) (by decide) (by decide) (Nat.le_of_ble_eq_true rfl) (Nat.le_of_ble_eq_true rfl) k_390 k_392 k_391 k_13 (rR hXR ⟨Nat.le_of_ble_eq_true rfl, Nat.le_of_ble_eq_true rfl⟩) d_tb_become_50 ?_
  refine r_mem (Option.some.inj eM4) ?_
  obtain rfl := Option.some.inj h
  exact fin _ _ d_tb_become_53
set_option maxHeartbeats 4000000 in
set_option maxRecDepth 20000 in
theorem w_nt_become_13 {X : Cx Me} {G : Gt} (ok : Ok X b_nt_become "RetryChains$Network") (hG : GC X G) (hXR : X.R = rm_nt_become) (hXn : X.nL = 3) {j0a : Nat} {j1a : Nat} (hj0a : j0a < 9) (hj1a : j1a < 9) {t : Me} (kx : ∀ e : Me, e = t → Wt X e 39 [(0, .ref (G.1 + oNET j0a)), (1, .ref (G.1 + oNET j1a))] [])  : ∀ (n : Nat) (x : Int32 × Me), lp n (b_nt_become_13 j0a j1a) x = some t → Wt X x.2 13 [(0, .ref (G.1 + oNET j0a)), (1, .ref (G.1 + oNET j1a)), (2, .int x.1)] [] := by
  intro n x h
  refine lp_W (P := fun x => Wt X x.2 13 [(0, .ref (G.1 + oNET j0a)), (1, .ref (G.1 + oNET j1a)), (2, .int x.1)] []) (Z := fun t' => t' = t) (fun x r h hk hz => ?_) n x t h rfl
  unfold b_nt_become_13 at h
  refine r_iload_n (n := 14) rfl ok d_nt_become_13 rfl 2 rfl ?_
  refine r_iconst (v := 4) (n := 15) rfl ok d_nt_become_14 (by decide) ?_
  refine r_icmp_ge (tgt := 39) (n := 18) rfl ok d_nt_become_15 (by decide) (fun c2 => ?_) (fun c2 => ?_)
  · replace h := if_p c2 h
    obtain rfl := Option.some.inj h
    exact r_sub [0, 1] rfl (show Wt X x.2 39 [(0, .ref (G.1 + oNET j0a)), (1, .ref (G.1 + oNET j1a))] [] from kx _ (hz _ rfl))
  · replace h := if_n c2 h
    refine r_aload_n (n := 19) rfl ok d_nt_become_18 rfl 0 rfl ?_
    refine g_NET_stations (n := 22) rfl ok hG hj0a k_242 d_nt_become_19 ?_
    refine r_iload_n (n := 23) rfl ok d_nt_become_22 rfl 2 rfl ?_
    obtain ⟨g3, h⟩ := gd_ok h
    refine al_STAS (n := 24) rfl ok hG hj0a g3 d_nt_become_23 ?_
    refine r_aload_n (n := 25) rfl ok d_nt_become_24 rfl 1 rfl ?_
    refine g_NET_stations (n := 28) rfl ok hG hj1a k_242 d_nt_become_25 ?_
    refine r_iload_n (n := 29) rfl ok d_nt_become_28 rfl 2 rfl ?_
    obtain ⟨g4, h⟩ := gd_ok h
    refine al_STAS (n := 30) rfl ok hG hj1a g4 d_nt_become_29 ?_
    obtain ⟨r5, hr5, h⟩ := bd_ok h
    refine r_callV (n := 33) rfl ok hG mf_st_become k_394 k_395 k_393 (C_st_become hj0a (gin_lt g3) hj1a (gin_lt g4) hr5) ⟨rfl, rfl⟩ (rR hXR ⟨Nat.le_of_ble_eq_true rfl, Nat.le_of_ble_eq_true rfl⟩) rfl rfl (rv_STA hj0a (gin_lt g3)) rfl (Nat.le_of_ble_eq_true rfl) d_nt_become_30 ?_
    obtain ⟨x6, ex6, h⟩ := bd_ok h
    refine r_iinc (lv' := [(2, .int x6), (0, .ref (G.1 + oNET j0a)), (1, .ref (G.1 + oNET j1a))]) (n := 36) rfl ok d_nt_become_33 2 rfl (Option.some.inj ex6) (lt_n hXn (Nat.le_of_ble_eq_true rfl)) rfl ?_
    refine r_goto (tgt := 13) ok d_nt_become_36 (by decide) ?_
    obtain rfl := Option.some.inj h
    exact r_sub [1, 2, 0] rfl (show Wt X r5 13 [(0, .ref (G.1 + oNET j0a)), (1, .ref (G.1 + oNET j1a)), (2, .int x6)] [] from hk _ rfl)
set_option maxHeartbeats 4000000 in
set_option maxRecDepth 20000 in
theorem w_nt_become_41 {X : Cx Me} {G : Gt} (ok : Ok X b_nt_become "RetryChains$Network") (hG : GC X G) (hXR : X.R = rm_nt_become) (hXn : X.nL = 3) {j0a : Nat} {j1a : Nat} (hj0a : j0a < 9) (hj1a : j1a < 9) {t : Me} (kx : ∀ e : Me, e = t → Wt X e 68 [(0, .ref (G.1 + oNET j0a)), (1, .ref (G.1 + oNET j1a))] [])  : ∀ (n : Nat) (x : Int32 × Me), lp n (b_nt_become_41 j0a j1a) x = some t → Wt X x.2 41 [(0, .ref (G.1 + oNET j0a)), (1, .ref (G.1 + oNET j1a)), (2, .int x.1)] [] := by
  intro n x h
  refine lp_W (P := fun x => Wt X x.2 41 [(0, .ref (G.1 + oNET j0a)), (1, .ref (G.1 + oNET j1a)), (2, .int x.1)] []) (Z := fun t' => t' = t) (fun x r h hk hz => ?_) n x t h rfl
  unfold b_nt_become_41 at h
  refine r_iload_n (n := 42) rfl ok d_nt_become_41 rfl 2 rfl ?_
  refine r_bipush (v := 6) (n := 44) rfl ok d_nt_become_42 (by decide) ?_
  refine r_icmp_ge (tgt := 68) (n := 47) rfl ok d_nt_become_44 (by decide) (fun c9 => ?_) (fun c9 => ?_)
  · replace h := if_p c9 h
    obtain rfl := Option.some.inj h
    exact r_sub [0, 1] rfl (show Wt X x.2 68 [(0, .ref (G.1 + oNET j0a)), (1, .ref (G.1 + oNET j1a))] [] from kx _ (hz _ rfl))
  · replace h := if_n c9 h
    refine r_aload_n (n := 48) rfl ok d_nt_become_47 rfl 0 rfl ?_
    refine g_NET_open (n := 51) rfl ok hG hj0a k_244 d_nt_become_48 ?_
    refine r_iload_n (n := 52) rfl ok d_nt_become_51 rfl 2 rfl ?_
    obtain ⟨g10, h⟩ := gd_ok h
    refine al_OPENS (n := 53) rfl ok hG hj0a g10 d_nt_become_52 ?_
    refine r_aload_n (n := 54) rfl ok d_nt_become_53 rfl 1 rfl ?_
    refine g_NET_open (n := 57) rfl ok hG hj1a k_244 d_nt_become_54 ?_
    refine r_iload_n (n := 58) rfl ok d_nt_become_57 rfl 2 rfl ?_
    obtain ⟨g11, h⟩ := gd_ok h
    refine al_OPENS (n := 59) rfl ok hG hj1a g11 d_nt_become_58 ?_
    obtain ⟨r12, hr12, h⟩ := bd_ok h
    refine r_callV (n := 62) rfl ok hG mf_ch_become k_403 k_404 k_402 (C_ch_become hj0a (gin_lt g10) hj1a (gin_lt g11) hr12) ⟨rfl, rfl⟩ (rR hXR ⟨Nat.le_of_ble_eq_true rfl, Nat.le_of_ble_eq_true rfl⟩) rfl rfl (rv_CHN hj0a (gin_lt g10)) rfl (Nat.le_of_ble_eq_true rfl) d_nt_become_59 ?_
    obtain ⟨x13, ex13, h⟩ := bd_ok h
    refine r_iinc (lv' := [(2, .int x13), (0, .ref (G.1 + oNET j0a)), (1, .ref (G.1 + oNET j1a))]) (n := 65) rfl ok d_nt_become_62 2 rfl (Option.some.inj ex13) (lt_n hXn (Nat.le_of_ble_eq_true rfl)) rfl ?_
    refine r_goto (tgt := 41) ok d_nt_become_65 (by decide) ?_
    obtain rfl := Option.some.inj h
    exact r_sub [1, 2, 0] rfl (show Wt X r12 41 [(0, .ref (G.1 + oNET j0a)), (1, .ref (G.1 + oNET j1a)), (2, .int x13)] [] from hk _ rfl)
set_option maxHeartbeats 4000000 in
set_option maxRecDepth 20000 in
theorem C_nt_become {l : Launch} {G : Gt} {M : Me} {i0 : Nat} {i1 : Nat} (hi0 : i0 < 9) (hi1 : i1 < 9) {o : Me} (h : f_nt_become M i0 i1 = some o) : Ct l G (WC G) (rC G) y_nt_become b_nt_become 3 none rm_nt_become [.ref (G.1 + oNET i0), .ref (G.1 + oNET i1)] M (none) o := by
  refine Ct.mk (own := "RetryChains$Network") rfl (by decide) (Nat.le_of_ble_eq_true rfl) rfl (fun X hXl hXR hXn ok hG fin => ?_)
  subst hXl
  unfold f_nt_become at h
  show Wt X M 0 [(0, .ref (G.1 + oNET i0)), (1, .ref (G.1 + oNET i1))] []
  refine r_aload_n (n := 1) rfl ok d_nt_become_0 rfl 0 rfl ?_
  refine g_NET_rates (n := 4) rfl ok hG hi0 k_239 d_nt_become_1 ?_
  refine r_aload_n (n := 5) rfl ok d_nt_become_4 rfl 1 rfl ?_
  refine g_NET_rates (n := 8) rfl ok hG hi1 k_239 d_nt_become_5 ?_
  obtain ⟨r1, hr1, h⟩ := bd_ok h
  refine r_callV (n := 11) rfl ok hG mf_tb_become k_387 k_388 k_386 (C_tb_become hi0 hi1 hr1) ⟨rfl, rfl⟩ (rR hXR ⟨Nat.le_of_ble_eq_true rfl, Nat.le_of_ble_eq_true rfl⟩) rfl rfl (rv_TAB hi0) rfl (Nat.le_of_ble_eq_true rfl) d_nt_become_8 ?_
  refine r_iconst (v := 0) (n := 12) rfl ok d_nt_become_11 (by decide) ?_
  refine r_istore_n (lv' := [(2, .int 0), (0, .ref (G.1 + oNET i0)), (1, .ref (G.1 + oNET i1))]) (n := 13) rfl ok d_nt_become_12 rfl (lt_n hXn (Nat.le_of_ble_eq_true rfl)) rfl ?_
  obtain ⟨t7, ht7, h⟩ := bd_ok h
  refine r_sub [1, 2, 0] rfl (show Wt X r1 13 [(0, .ref (G.1 + oNET i0)), (1, .ref (G.1 + oNET i1)), (2, .int 0)] [] from w_nt_become_13 ok hG hXR hXn hi0 hi1 ?_ _ _ ht7)
  · intro e8 he
    subst he
    refine r_iconst (v := 0) (n := 40) rfl ok d_nt_become_39 (by decide) ?_
    refine r_istore_n (lv' := [(2, .int 0), (0, .ref (G.1 + oNET i0)), (1, .ref (G.1 + oNET i1))]) (n := 41) rfl ok d_nt_become_40 rfl (lt_n hXn (Nat.le_of_ble_eq_true rfl)) rfl ?_
    obtain ⟨t14, ht14, h⟩ := bd_ok h
    refine r_sub [1, 2, 0] rfl (show Wt X e8 41 [(0, .ref (G.1 + oNET i0)), (1, .ref (G.1 + oNET i1)), (2, .int 0)] [] from w_nt_become_41 ok hG hXR hXn hi0 hi1 ?_ _ _ ht14)
    · intro e15 he
      subst he
      refine r_aload_n (n := 69) rfl ok d_nt_become_68 rfl 0 rfl ?_
      refine g_NET_log (n := 72) rfl ok hG hi0 k_245 d_nt_become_69 ?_
      refine r_aload_n (n := 73) rfl ok d_nt_become_72 rfl 1 rfl ?_
      refine g_NET_log (n := 76) rfl ok hG hi1 k_245 d_nt_become_73 ?_
      obtain ⟨r16, hr16, h⟩ := bd_ok h
      refine r_callV (n := 79) rfl ok hG mf_lo_become k_408 k_409 k_407 (C_lo_become hi0 hi1 hr16) ⟨rfl, rfl⟩ (rR hXR ⟨Nat.le_of_ble_eq_true rfl, Nat.le_of_ble_eq_true rfl⟩) rfl rfl (rv_LOG hi0) rfl (Nat.le_of_ble_eq_true rfl) d_nt_become_76 ?_
      refine r_aload_n (n := 80) rfl ok d_nt_become_79 rfl 0 rfl ?_
      refine r_aload_n (n := 81) rfl ok d_nt_become_80 rfl 1 rfl ?_
      refine g_NET_stationCount (n := 84) rfl ok hG hi1 k_248 d_nt_become_81 ?_
      obtain ⟨M17, eM17, h⟩ := bd_ok h
      refine p_NET_stationCount (n := 87) rfl ok hG hi0 k_248 d_nt_become_84 ?_
      refine r_mem (Option.some.inj eM17) ?_
      refine r_aload_n (n := 88) rfl ok d_nt_become_87 rfl 0 rfl ?_
      refine r_aload_n (n := 89) rfl ok d_nt_become_88 rfl 1 rfl ?_
      refine g_NET_time (n := 92) rfl ok hG hi1 k_249 d_nt_become_89 ?_
      obtain ⟨M18, eM18, h⟩ := bd_ok h
      refine p_NET_time (n := 95) rfl ok hG hi0 k_249 d_nt_become_92 ?_
      refine r_mem (Option.some.inj eM18) ?_
      refine r_aload_n (n := 96) rfl ok d_nt_become_95 rfl 0 rfl ?_
      refine r_aload_n (n := 97) rfl ok d_nt_become_96 rfl 1 rfl ?_
      refine g_NET_share (n := 100) rfl ok hG hi1 k_251 d_nt_become_97 ?_
      obtain ⟨M19, eM19, h⟩ := bd_ok h
      refine p_NET_share (n := 103) rfl ok hG hi0 k_251 d_nt_become_100 ?_
      refine r_mem (Option.some.inj eM19) ?_
      refine r_aload_n (n := 104) rfl ok d_nt_become_103 rfl 0 rfl ?_
      refine r_aload_n (n := 105) rfl ok d_nt_become_104 rfl 1 rfl ?_
      refine g_NET_weight (n := 108) rfl ok hG hi1 k_253 d_nt_become_105 ?_
      obtain ⟨M20, eM20, h⟩ := bd_ok h
      refine p_NET_weight (n := 111) rfl ok hG hi0 k_253 d_nt_become_108 ?_
      refine r_mem (Option.some.inj eM20) ?_
      refine r_aload_n (n := 112) rfl ok d_nt_become_111 rfl 0 rfl ?_
      refine r_aload_n (n := 113) rfl ok d_nt_become_112 rfl 1 rfl ?_
      refine g_NET_interval (n := 116) rfl ok hG hi1 k_255 d_nt_become_113 ?_
      obtain ⟨M21, eM21, h⟩ := bd_ok h
      refine p_NET_interval (n := 119) rfl ok hG hi0 k_255 d_nt_become_116 ?_
      refine r_mem (Option.some.inj eM21) ?_
      refine r_aload_n (n := 120) rfl ok d_nt_become_119 rfl 0 rfl ?_
      refine r_aload_n (n := 121) rfl ok d_nt_become_120 rfl 1 rfl ?_
      refine g_NET_budget (n := 124) rfl ok hG hi1 k_257 d_nt_become_121 ?_
      obtain ⟨M22, eM22, h⟩ := bd_ok h
      refine p_NET_budget (n := 127) rfl ok hG hi0 k_257 d_nt_become_124 ?_
      refine r_mem (Option.some.inj eM22) ?_
      refine r_aload_n (n := 128) rfl ok d_nt_become_127 rfl 0 rfl ?_
      refine r_aload_n (n := 129) rfl ok d_nt_become_128 rfl 1 rfl ?_
      refine g_NET_turn (n := 132) rfl ok hG hi1 k_260 d_nt_become_129 ?_
      obtain ⟨M23, eM23, h⟩ := bd_ok h
      refine p_NET_turn (n := 135) rfl ok hG hi0 k_260 d_nt_become_132 ?_
      refine r_mem (Option.some.inj eM23) ?_
      obtain rfl := Option.some.inj h
      exact fin _ _ d_nt_become_135
set_option maxHeartbeats 4000000 in
set_option maxRecDepth 20000 in
theorem C_hi_keep {l : Launch} {G : Gt} {M : Me} {i1 : Nat} (hi1 : i1 < 9) {o : Me} (h : f_hi_keep M i1 = some o) : Ct l G (WC G) (rC G) y_hi_keep b_hi_keep 2 none rm_hi_keep [.ref (G.1 + oHIS), .ref (G.1 + oNET i1)] M (none) o := by
  refine Ct.mk (own := "RetryChains$History") rfl (by decide) (Nat.le_of_ble_eq_true rfl) rfl (fun X hXl hXR hXn ok hG fin => ?_)
  subst hXl
  unfold f_hi_keep at h
  show Wt X M 0 [(0, .ref (G.1 + oHIS)), (1, .ref (G.1 + oNET i1))] []
  refine r_aload_n (n := 1) rfl ok d_hi_keep_0 rfl 0 rfl ?_
  refine g_HIS_states (n := 4) rfl ok hG  k_293 d_hi_keep_1 ?_
  refine r_aload_n (n := 5) rfl ok d_hi_keep_4 rfl 0 rfl ?_
  refine g_HIS_oldest (n := 8) rfl ok hG  k_294 d_hi_keep_5 ?_
  refine r_aload_n (n := 9) rfl ok d_hi_keep_8 rfl 0 rfl ?_
  refine g_HIS_count (n := 12) rfl ok hG  k_295 d_hi_keep_9 ?_
  refine r_iadd (n := 13) rfl ok d_hi_keep_12 ?_
  refine r_iconst (v := 5) (n := 14) rfl ok d_hi_keep_13 (by decide) ?_
  refine r_fmod (by decide) (n := 17) rfl ok hG k_379 k_380 k_12 k_381 (rR hXR ⟨Nat.le_of_ble_eq_true rfl, Nat.le_of_ble_eq_true rfl⟩) d_hi_keep_14 ?_
  obtain ⟨g1, h⟩ := gd_ok h
  refine al_STATES (n := 18) rfl ok hG  g1 d_hi_keep_17 ?_
  refine r_aload_n (n := 19) rfl ok d_hi_keep_18 rfl 1 rfl ?_
  obtain ⟨r2, hr2, h⟩ := bd_ok h
  refine r_callV (n := 22) rfl ok hG mf_nt_become k_383 k_384 k_382 (C_nt_become (Nat.add_lt_add_left (gin_lt g1) 4) hi1 hr2) ⟨rfl, rfl⟩ (rR hXR ⟨Nat.le_of_ble_eq_true rfl, Nat.le_of_ble_eq_true rfl⟩) rfl rfl (rv_NET (Nat.add_lt_add_left (gin_lt g1) 4)) rfl (Nat.le_of_ble_eq_true rfl) d_hi_keep_19 ?_
  refine r_aload_n (n := 23) rfl ok d_hi_keep_22 rfl 0 rfl ?_
  refine g_HIS_count (n := 26) rfl ok hG  k_295 d_hi_keep_23 ?_
  refine r_iconst (v := 5) (n := 27) rfl ok d_hi_keep_26 (by decide) ?_
  refine r_icmp_ge (tgt := 43) (n := 30) rfl ok d_hi_keep_27 (by decide) (fun c3 => ?_) (fun c3 => ?_)
  · replace h := if_p c3 h
    refine r_aload_n (n := 44) rfl ok d_hi_keep_43 rfl 0 rfl ?_
    refine r_aload_n (n := 45) rfl ok d_hi_keep_44 rfl 0 rfl ?_
    refine g_HIS_oldest (n := 48) rfl ok hG  k_294 d_hi_keep_45 ?_
    refine r_iconst (v := 1) (n := 49) rfl ok d_hi_keep_48 (by decide) ?_
    refine r_iadd (n := 50) rfl ok d_hi_keep_49 ?_
    refine r_iconst (v := 5) (n := 51) rfl ok d_hi_keep_50 (by decide) ?_
    refine r_fmod (by decide) (n := 54) rfl ok hG k_379 k_380 k_12 k_381 (rR hXR ⟨Nat.le_of_ble_eq_true rfl, Nat.le_of_ble_eq_true rfl⟩) d_hi_keep_51 ?_
    obtain ⟨M4, eM4, h⟩ := bd_ok h
    refine p_HIS_oldest (n := 57) rfl ok hG  k_294 d_hi_keep_54 ?_
    refine r_mem (Option.some.inj eM4) ?_
    obtain rfl := Option.some.inj h
    exact fin _ _ d_hi_keep_57
  · replace h := if_n c3 h
    refine r_aload_n (n := 31) rfl ok d_hi_keep_30 rfl 0 rfl ?_
    refine r_dup (n := 32) rfl ok d_hi_keep_31 rfl ?_
    refine g_HIS_count (n := 35) rfl ok hG  k_295 d_hi_keep_32 ?_
    refine r_iconst (v := 1) (n := 36) rfl ok d_hi_keep_35 (by decide) ?_
    refine r_iadd (n := 37) rfl ok d_hi_keep_36 ?_
    obtain ⟨M5, eM5, h⟩ := bd_ok h
    refine p_HIS_count (n := 40) rfl ok hG  k_295 d_hi_keep_37 ?_
    refine r_mem (Option.some.inj eM5) ?_
    refine r_goto (tgt := 57) ok d_hi_keep_40 (by decide) ?_
    obtain rfl := Option.some.inj h
    exact fin _ _ d_hi_keep_57
set_option maxHeartbeats 4000000 in
set_option maxRecDepth 20000 in
theorem C_hi_takeBack {l : Launch} {G : Gt} {M : Me} {i1 : Nat} (hi1 : i1 < 9) {o : Me} (h : f_hi_takeBack M i1 = some o) : Ct l G (WC G) (rC G) y_hi_takeBack b_hi_takeBack 2 none rm_hi_takeBack [.ref (G.1 + oHIS), .ref (G.1 + oNET i1)] M (none) o := by
  refine Ct.mk (own := "RetryChains$History") rfl (by decide) (Nat.le_of_ble_eq_true rfl) rfl (fun X hXl hXR hXn ok hG fin => ?_)
  subst hXl
  unfold f_hi_takeBack at h
  show Wt X M 0 [(0, .ref (G.1 + oHIS)), (1, .ref (G.1 + oNET i1))] []
  refine r_aload_n (n := 1) rfl ok d_hi_takeBack_0 rfl 0 rfl ?_
  refine r_iconst (v := 0) (n := 2) rfl ok d_hi_takeBack_1 (by decide) ?_
  refine r_aload_n (n := 3) rfl ok d_hi_takeBack_2 rfl 0 rfl ?_
  refine g_HIS_count (n := 6) rfl ok hG  k_295 d_hi_takeBack_3 ?_
  refine r_iconst (v := 1) (n := 7) rfl ok d_hi_takeBack_6 (by decide) ?_
  refine r_isub (n := 8) rfl ok d_hi_takeBack_7 ?_
  refine r_mmax (n := 11) rfl ok hG k_954 k_425 k_12 k_426 (rR hXR ⟨Nat.le_of_ble_eq_true rfl, Nat.le_of_ble_eq_true rfl⟩) d_hi_takeBack_8 ?_
  obtain ⟨M1, eM1, h⟩ := bd_ok h
  refine p_HIS_count (n := 14) rfl ok hG  k_295 d_hi_takeBack_11 ?_
  refine r_mem (Option.some.inj eM1) ?_
  refine r_aload_n (n := 15) rfl ok d_hi_takeBack_14 rfl 1 rfl ?_
  refine r_aload_n (n := 16) rfl ok d_hi_takeBack_15 rfl 0 rfl ?_
  refine g_HIS_states (n := 19) rfl ok hG  k_293 d_hi_takeBack_16 ?_
  refine r_aload_n (n := 20) rfl ok d_hi_takeBack_19 rfl 0 rfl ?_
  refine g_HIS_oldest (n := 23) rfl ok hG  k_294 d_hi_takeBack_20 ?_
  refine r_aload_n (n := 24) rfl ok d_hi_takeBack_23 rfl 0 rfl ?_
  refine g_HIS_count (n := 27) rfl ok hG  k_295 d_hi_takeBack_24 ?_
  refine r_iadd (n := 28) rfl ok d_hi_takeBack_27 ?_
  refine r_iconst (v := 5) (n := 29) rfl ok d_hi_takeBack_28 (by decide) ?_
  refine r_fmod (by decide) (n := 32) rfl ok hG k_379 k_380 k_12 k_381 (rR hXR ⟨Nat.le_of_ble_eq_true rfl, Nat.le_of_ble_eq_true rfl⟩) d_hi_takeBack_29 ?_
  obtain ⟨g2, h⟩ := gd_ok h
  refine al_STATES (n := 33) rfl ok hG  g2 d_hi_takeBack_32 ?_
  obtain ⟨r3, hr3, h⟩ := bd_ok h
  refine r_callV (n := 36) rfl ok hG mf_nt_become k_383 k_384 k_382 (C_nt_become hi1 (Nat.add_lt_add_left (gin_lt g2) 4) hr3) ⟨rfl, rfl⟩ (rR hXR ⟨Nat.le_of_ble_eq_true rfl, Nat.le_of_ble_eq_true rfl⟩) rfl rfl (rv_NET hi1) rfl (Nat.le_of_ble_eq_true rfl) d_hi_takeBack_33 ?_
  obtain rfl := Option.some.inj h
  exact fin _ _ d_hi_takeBack_36
set_option maxHeartbeats 4000000 in
set_option maxRecDepth 20000 in
theorem C_lk_isEstimated {l : Launch} {G : Gt} {M : Me} {i0 : Nat} {s0 : Nat} {r0 : Nat} (hi0 : i0 < 9) (hs0 : s0 < 4) (hr0 : r0 < 8) {o : Int32} (h : f_lk_isEstimated M i0 s0 r0 = some o) : Ct l G (WC G) (rC G) y_lk_isEstimated b_lk_isEstimated 1 (some .boolean) rm_lk_isEstimated [.ref (G.1 + oLNK i0 s0 r0)] M (some (.int o)) M := by
  refine Ct.mk (own := "RetryChains$Link") rfl (by decide) (Nat.le_of_ble_eq_true rfl) ⟨_, rfl⟩ (fun X hXl hXR hXn ok hG fin => ?_)
  subst hXl
  unfold f_lk_isEstimated at h
  show Wt X M 0 [(0, .ref (G.1 + oLNK i0 s0 r0))] []
  refine r_aload_n (n := 1) rfl ok d_lk_isEstimated_0 rfl 0 rfl ?_
  refine g_LNK_estimate (n := 4) rfl ok hG hi0 hs0 hr0 k_91 d_lk_isEstimated_1 ?_
  refine r_bipush (v := (-9)) (n := 6) rfl ok d_lk_isEstimated_4 (by decide) ?_
  refine r_icmp_eq (tgt := 13) (n := 9) rfl ok d_lk_isEstimated_6 (by decide) (fun c1 => ?_) (fun c1 => ?_)
  · replace h := if_p c1 h
    refine r_iconst (v := 0) (n := 14) rfl ok d_lk_isEstimated_13 (by decide) ?_
    obtain rfl := Option.some.inj h
    exact fin _ _ ⟨.boolean, rfl, nz0⟩ d_lk_isEstimated_14
  · replace h := if_n c1 h
    refine r_iconst (v := 1) (n := 10) rfl ok d_lk_isEstimated_9 (by decide) ?_
    refine r_goto (tgt := 14) ok d_lk_isEstimated_10 (by decide) ?_
    obtain rfl := Option.some.inj h
    exact fin _ _ ⟨.boolean, rfl, nz1⟩ d_lk_isEstimated_14
