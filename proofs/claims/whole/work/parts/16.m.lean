set_option maxHeartbeats 4000000 in
set_option maxRecDepth 20000 in
theorem w_tb_placeInMode_4 {X : Cx Me} {G : Gt} (ok : Ok X b_tb_placeInMode "RetryChains$RateTable") (hG : GC X G) (hXR : X.R = rm_tb_placeInMode) (hXn : X.nL = 5) {M : Me} {j0a : Nat} {y1 : Int32} (hj0a : j0a < 9) {t : Int32} (kx : ∀ e : Int32, e = t → Wt X M 83 [(2, .int e)] [])  : ∀ (n : Nat) (x : Int32 × Int32), lp n (b_tb_placeInMode_4 M j0a y1) x = some t → Wt X M 4 [(0, .ref (G.1 + oTAB j0a)), (1, .int y1), (2, .int x.1), (3, .int x.2)] [] := by
  intro n x h
  refine lp_W (P := fun x => Wt X M 4 [(0, .ref (G.1 + oTAB j0a)), (1, .int y1), (2, .int x.1), (3, .int x.2)] []) (Z := fun t' => t' = t) (fun x r h hk hz => ?_) n x t h rfl
  unfold b_tb_placeInMode_4 at h
  refine r_iload_n (n := 5) rfl ok d_tb_placeInMode_4 rfl 3 rfl ?_
  refine r_aload_n (n := 6) rfl ok d_tb_placeInMode_5 rfl 0 rfl ?_
  refine g_TAB_count (n := 9) rfl ok hG hj0a k_34 d_tb_placeInMode_6 ?_
  refine r_icmp_ge (tgt := 83) (n := 12) rfl ok d_tb_placeInMode_9 (by decide) (fun c1 => ?_) (fun c1 => ?_)
  · replace h := if_p c1 h
    obtain rfl := Option.some.inj h
    exact r_sub [2] rfl (show Wt X M 83 [(2, .int x.1)] [] from kx _ (hz _ rfl))
  · replace h := if_n c1 h
    refine r_aload_n (n := 13) rfl ok d_tb_placeInMode_12 rfl 0 rfl ?_
    refine g_TAB_speeds (n := 16) rfl ok hG hj0a k_40 d_tb_placeInMode_13 ?_
    refine r_iload_n (n := 17) rfl ok d_tb_placeInMode_16 rfl 3 rfl ?_
    obtain ⟨g2, h⟩ := gd_ok h
    refine al_SPEEDS (n := 18) rfl ok hG hj0a g2 d_tb_placeInMode_17 ?_
    refine r_aload_n (n := 19) rfl ok d_tb_placeInMode_18 rfl 0 rfl ?_
    refine g_TAB_speeds (n := 22) rfl ok hG hj0a k_40 d_tb_placeInMode_19 ?_
    refine r_iload_n (n := 23) rfl ok d_tb_placeInMode_22 rfl 1 rfl ?_
    obtain ⟨g3, h⟩ := gd_ok h
    refine al_SPEEDS (n := 24) rfl ok hG hj0a g3 d_tb_placeInMode_23 ?_
    refine r_icmp_lt (tgt := 47) (n := 27) rfl ok d_tb_placeInMode_24 (by decide) (fun c4 => ?_) (fun c4 => ?_)
    · replace h := if_p c4 h
      refine r_iconst (v := 1) (n := 48) rfl ok d_tb_placeInMode_47 (by decide) ?_
      refine r_goto (tgt := 52) ok d_tb_placeInMode_48 (by decide) ?_
      refine r_istore (lv' := [(4, .int 1), (0, .ref (G.1 + oTAB j0a)), (1, .int y1), (2, .int x.1), (3, .int x.2)]) (n := 54) rfl ok d_tb_placeInMode_52 (lt_n hXn (Nat.le_of_ble_eq_true rfl)) rfl ?_
      refine r_aload_n (n := 55) rfl ok d_tb_placeInMode_54 rfl 1 rfl ?_
      refine g_TAB_modes (n := 58) rfl ok hG hj0a k_39 d_tb_placeInMode_55 ?_
      refine r_iload_n (n := 59) rfl ok d_tb_placeInMode_58 rfl 4 rfl ?_
      obtain ⟨g5, h⟩ := gd_ok h
      refine al_MODES (n := 60) rfl ok hG hj0a g5 d_tb_placeInMode_59 ?_
      refine r_aload_n (n := 61) rfl ok d_tb_placeInMode_60 rfl 1 rfl ?_
      refine g_TAB_modes (n := 64) rfl ok hG hj0a k_39 d_tb_placeInMode_61 ?_
      refine r_iload_n (n := 65) rfl ok d_tb_placeInMode_64 rfl 2 rfl ?_
      obtain ⟨g6, h⟩ := gd_ok h
      refine al_MODES (n := 66) rfl ok hG hj0a g6 d_tb_placeInMode_65 ?_
      refine r_icmp_ne (tgt := 77) (n := 69) rfl ok d_tb_placeInMode_66 (by decide) (fun c7 => ?_) (fun c7 => ?_)
      · replace h := if_n c7 h
        obtain ⟨x8, ex8, h⟩ := bd_ok h
        refine r_iinc (lv' := [(3, .int x8), (4, .int 1), (0, .ref (G.1 + oTAB j0a)), (1, .int y1), (2, .int x.1)]) (n := 80) rfl ok d_tb_placeInMode_77 4 rfl (Option.some.inj ex8) (lt_n hXn (Nat.le_of_ble_eq_true rfl)) rfl ?_
        refine r_goto (tgt := 4) ok d_tb_placeInMode_80 (by decide) ?_
        obtain rfl := Option.some.inj h
        exact r_sub [2, 3, 4, 0] rfl (show Wt X M 4 [(0, .ref (G.1 + oTAB j0a)), (1, .int y1), (2, .int x.1), (3, .int x8)] [] from hk _ rfl)
      · replace h := if_p c7 h
        refine r_iload (n := 71) rfl ok d_tb_placeInMode_69 0 rfl ?_
        refine r_if_eq (tgt := 77) (n := 74) rfl ok d_tb_placeInMode_71 (by decide) (fun hc => absurd hc (by decide)) (fun _ => ?_)
        obtain ⟨x9, ex9, h⟩ := bd_ok h
        refine r_iinc (lv' := [(2, .int x9), (4, .int 1), (0, .ref (G.1 + oTAB j0a)), (1, .int y1), (3, .int x.2)]) (n := 77) rfl ok d_tb_placeInMode_74 3 rfl (Option.some.inj ex9) (lt_n hXn (Nat.le_of_ble_eq_true rfl)) rfl ?_
        obtain ⟨x10, ex10, h⟩ := bd_ok h
        refine r_iinc (lv' := [(3, .int x10), (2, .int x9), (4, .int 1), (0, .ref (G.1 + oTAB j0a)), (1, .int y1)]) (n := 80) rfl ok d_tb_placeInMode_77 4 rfl (Option.some.inj ex10) (lt_n hXn (Nat.le_of_ble_eq_true rfl)) rfl ?_
        refine r_goto (tgt := 4) ok d_tb_placeInMode_80 (by decide) ?_
        obtain rfl := Option.some.inj h
        exact r_sub [3, 4, 1, 0] rfl (show Wt X M 4 [(0, .ref (G.1 + oTAB j0a)), (1, .int y1), (2, .int x9), (3, .int x10)] [] from hk _ rfl)
    · replace h := if_n c4 h
      refine r_aload_n (n := 28) rfl ok d_tb_placeInMode_27 rfl 0 rfl ?_
      refine g_TAB_speeds (n := 31) rfl ok hG hj0a k_40 d_tb_placeInMode_28 ?_
      refine r_iload_n (n := 32) rfl ok d_tb_placeInMode_31 rfl 3 rfl ?_
      obtain ⟨g11, h⟩ := gd_ok h
      refine al_SPEEDS (n := 33) rfl ok hG hj0a g11 d_tb_placeInMode_32 ?_
      refine r_aload_n (n := 34) rfl ok d_tb_placeInMode_33 rfl 0 rfl ?_
      refine g_TAB_speeds (n := 37) rfl ok hG hj0a k_40 d_tb_placeInMode_34 ?_
      refine r_iload_n (n := 38) rfl ok d_tb_placeInMode_37 rfl 1 rfl ?_
      obtain ⟨g12, h⟩ := gd_ok h
      refine al_SPEEDS (n := 39) rfl ok hG hj0a g12 d_tb_placeInMode_38 ?_
      refine r_icmp_ne (tgt := 51) (n := 42) rfl ok d_tb_placeInMode_39 (by decide) (fun c13 => ?_) (fun c13 => ?_)
      · replace h := if_n c13 h
        refine r_iconst (v := 0) (n := 52) rfl ok d_tb_placeInMode_51 (by decide) ?_
        refine r_istore (lv' := [(4, .int 0), (0, .ref (G.1 + oTAB j0a)), (1, .int y1), (2, .int x.1), (3, .int x.2)]) (n := 54) rfl ok d_tb_placeInMode_52 (lt_n hXn (Nat.le_of_ble_eq_true rfl)) rfl ?_
        refine r_aload_n (n := 55) rfl ok d_tb_placeInMode_54 rfl 1 rfl ?_
        refine g_TAB_modes (n := 58) rfl ok hG hj0a k_39 d_tb_placeInMode_55 ?_
        refine r_iload_n (n := 59) rfl ok d_tb_placeInMode_58 rfl 4 rfl ?_
        obtain ⟨g14, h⟩ := gd_ok h
        refine al_MODES (n := 60) rfl ok hG hj0a g14 d_tb_placeInMode_59 ?_
        refine r_aload_n (n := 61) rfl ok d_tb_placeInMode_60 rfl 1 rfl ?_
        refine g_TAB_modes (n := 64) rfl ok hG hj0a k_39 d_tb_placeInMode_61 ?_
        refine r_iload_n (n := 65) rfl ok d_tb_placeInMode_64 rfl 2 rfl ?_
        obtain ⟨g15, h⟩ := gd_ok h
        refine al_MODES (n := 66) rfl ok hG hj0a g15 d_tb_placeInMode_65 ?_
        refine r_icmp_ne (tgt := 77) (n := 69) rfl ok d_tb_placeInMode_66 (by decide) (fun c16 => ?_) (fun c16 => ?_)
        · replace h := if_n c16 h
          obtain ⟨x17, ex17, h⟩ := bd_ok h
          refine r_iinc (lv' := [(3, .int x17), (4, .int 0), (0, .ref (G.1 + oTAB j0a)), (1, .int y1), (2, .int x.1)]) (n := 80) rfl ok d_tb_placeInMode_77 4 rfl (Option.some.inj ex17) (lt_n hXn (Nat.le_of_ble_eq_true rfl)) rfl ?_
          refine r_goto (tgt := 4) ok d_tb_placeInMode_80 (by decide) ?_
          obtain rfl := Option.some.inj h
          exact r_sub [2, 3, 4, 0] rfl (show Wt X M 4 [(0, .ref (G.1 + oTAB j0a)), (1, .int y1), (2, .int x.1), (3, .int x17)] [] from hk _ rfl)
        · replace h := if_p c16 h
          refine r_iload (n := 71) rfl ok d_tb_placeInMode_69 0 rfl ?_
          refine r_if_eq (tgt := 77) (n := 74) rfl ok d_tb_placeInMode_71 (by decide) (fun _ => ?_) (fun hc => absurd hc (by decide))
          obtain ⟨x18, ex18, h⟩ := bd_ok h
          refine r_iinc (lv' := [(3, .int x18), (4, .int 0), (0, .ref (G.1 + oTAB j0a)), (1, .int y1), (2, .int x.1)]) (n := 80) rfl ok d_tb_placeInMode_77 4 rfl (Option.some.inj ex18) (lt_n hXn (Nat.le_of_ble_eq_true rfl)) rfl ?_
          refine r_goto (tgt := 4) ok d_tb_placeInMode_80 (by decide) ?_
          obtain rfl := Option.some.inj h
          exact r_sub [2, 3, 4, 0] rfl (show Wt X M 4 [(0, .ref (G.1 + oTAB j0a)), (1, .int y1), (2, .int x.1), (3, .int x18)] [] from hk _ rfl)
      · replace h := if_p c13 h
        refine r_iload_n (n := 43) rfl ok d_tb_placeInMode_42 rfl 3 rfl ?_
        refine r_iload_n (n := 44) rfl ok d_tb_placeInMode_43 rfl 1 rfl ?_
        refine r_icmp_ge (tgt := 51) (n := 47) rfl ok d_tb_placeInMode_44 (by decide) (fun c19 => ?_) (fun c19 => ?_)
        · replace h := if_p c19 h
          refine r_iconst (v := 0) (n := 52) rfl ok d_tb_placeInMode_51 (by decide) ?_
          refine r_istore (lv' := [(4, .int 0), (0, .ref (G.1 + oTAB j0a)), (1, .int y1), (2, .int x.1), (3, .int x.2)]) (n := 54) rfl ok d_tb_placeInMode_52 (lt_n hXn (Nat.le_of_ble_eq_true rfl)) rfl ?_
          refine r_aload_n (n := 55) rfl ok d_tb_placeInMode_54 rfl 1 rfl ?_
          refine g_TAB_modes (n := 58) rfl ok hG hj0a k_39 d_tb_placeInMode_55 ?_
          refine r_iload_n (n := 59) rfl ok d_tb_placeInMode_58 rfl 4 rfl ?_
          obtain ⟨g20, h⟩ := gd_ok h
          refine al_MODES (n := 60) rfl ok hG hj0a g20 d_tb_placeInMode_59 ?_
          refine r_aload_n (n := 61) rfl ok d_tb_placeInMode_60 rfl 1 rfl ?_
          refine g_TAB_modes (n := 64) rfl ok hG hj0a k_39 d_tb_placeInMode_61 ?_
          refine r_iload_n (n := 65) rfl ok d_tb_placeInMode_64 rfl 2 rfl ?_
          obtain ⟨g21, h⟩ := gd_ok h
          refine al_MODES (n := 66) rfl ok hG hj0a g21 d_tb_placeInMode_65 ?_
          refine r_icmp_ne (tgt := 77) (n := 69) rfl ok d_tb_placeInMode_66 (by decide) (fun c22 => ?_) (fun c22 => ?_)
          · replace h := if_n c22 h
            obtain ⟨x23, ex23, h⟩ := bd_ok h
            refine r_iinc (lv' := [(3, .int x23), (4, .int 0), (0, .ref (G.1 + oTAB j0a)), (1, .int y1), (2, .int x.1)]) (n := 80) rfl ok d_tb_placeInMode_77 4 rfl (Option.some.inj ex23) (lt_n hXn (Nat.le_of_ble_eq_true rfl)) rfl ?_
            refine r_goto (tgt := 4) ok d_tb_placeInMode_80 (by decide) ?_
            obtain rfl := Option.some.inj h
            exact r_sub [2, 3, 4, 0] rfl (show Wt X M 4 [(0, .ref (G.1 + oTAB j0a)), (1, .int y1), (2, .int x.1), (3, .int x23)] [] from hk _ rfl)
          · replace h := if_p c22 h
            refine r_iload (n := 71) rfl ok d_tb_placeInMode_69 0 rfl ?_
            refine r_if_eq (tgt := 77) (n := 74) rfl ok d_tb_placeInMode_71 (by decide) (fun _ => ?_) (fun hc => absurd hc (by decide))
            obtain ⟨x24, ex24, h⟩ := bd_ok h
            refine r_iinc (lv' := [(3, .int x24), (4, .int 0), (0, .ref (G.1 + oTAB j0a)), (1, .int y1), (2, .int x.1)]) (n := 80) rfl ok d_tb_placeInMode_77 4 rfl (Option.some.inj ex24) (lt_n hXn (Nat.le_of_ble_eq_true rfl)) rfl ?_
            refine r_goto (tgt := 4) ok d_tb_placeInMode_80 (by decide) ?_
            obtain rfl := Option.some.inj h
            exact r_sub [2, 3, 4, 0] rfl (show Wt X M 4 [(0, .ref (G.1 + oTAB j0a)), (1, .int y1), (2, .int x.1), (3, .int x24)] [] from hk _ rfl)
        · replace h := if_n c19 h
          refine r_iconst (v := 1) (n := 48) rfl ok d_tb_placeInMode_47 (by decide) ?_
          refine r_goto (tgt := 52) ok d_tb_placeInMode_48 (by decide) ?_
          refine r_istore (lv' := [(4, .int 1), (0, .ref (G.1 + oTAB j0a)), (1, .int y1), (2, .int x.1), (3, .int x.2)]) (n := 54) rfl ok d_tb_placeInMode_52 (lt_n hXn (Nat.le_of_ble_eq_true rfl)) rfl ?_
          refine r_aload_n (n := 55) rfl ok d_tb_placeInMode_54 rfl 1 rfl ?_
          refine g_TAB_modes (n := 58) rfl ok hG hj0a k_39 d_tb_placeInMode_55 ?_
          refine r_iload_n (n := 59) rfl ok d_tb_placeInMode_58 rfl 4 rfl ?_
          obtain ⟨g25, h⟩ := gd_ok h
          refine al_MODES (n := 60) rfl ok hG hj0a g25 d_tb_placeInMode_59 ?_
          refine r_aload_n (n := 61) rfl ok d_tb_placeInMode_60 rfl 1 rfl ?_
          refine g_TAB_modes (n := 64) rfl ok hG hj0a k_39 d_tb_placeInMode_61 ?_
          refine r_iload_n (n := 65) rfl ok d_tb_placeInMode_64 rfl 2 rfl ?_
          obtain ⟨g26, h⟩ := gd_ok h
          refine al_MODES (n := 66) rfl ok hG hj0a g26 d_tb_placeInMode_65 ?_
          refine r_icmp_ne (tgt := 77) (n := 69) rfl ok d_tb_placeInMode_66 (by decide) (fun c27 => ?_) (fun c27 => ?_)
          · replace h := if_n c27 h
            obtain ⟨x28, ex28, h⟩ := bd_ok h
            refine r_iinc (lv' := [(3, .int x28), (4, .int 1), (0, .ref (G.1 + oTAB j0a)), (1, .int y1), (2, .int x.1)]) (n := 80) rfl ok d_tb_placeInMode_77 4 rfl (Option.some.inj ex28) (lt_n hXn (Nat.le_of_ble_eq_true rfl)) rfl ?_
            refine r_goto (tgt := 4) ok d_tb_placeInMode_80 (by decide) ?_
            obtain rfl := Option.some.inj h
            exact r_sub [2, 3, 4, 0] rfl (show Wt X M 4 [(0, .ref (G.1 + oTAB j0a)), (1, .int y1), (2, .int x.1), (3, .int x28)] [] from hk _ rfl)
          · replace h := if_p c27 h
            refine r_iload (n := 71) rfl ok d_tb_placeInMode_69 0 rfl ?_
            refine r_if_eq (tgt := 77) (n := 74) rfl ok d_tb_placeInMode_71 (by decide) (fun hc => absurd hc (by decide)) (fun _ => ?_)
            obtain ⟨x29, ex29, h⟩ := bd_ok h
            refine r_iinc (lv' := [(2, .int x29), (4, .int 1), (0, .ref (G.1 + oTAB j0a)), (1, .int y1), (3, .int x.2)]) (n := 77) rfl ok d_tb_placeInMode_74 3 rfl (Option.some.inj ex29) (lt_n hXn (Nat.le_of_ble_eq_true rfl)) rfl ?_
            obtain ⟨x30, ex30, h⟩ := bd_ok h
            refine r_iinc (lv' := [(3, .int x30), (2, .int x29), (4, .int 1), (0, .ref (G.1 + oTAB j0a)), (1, .int y1)]) (n := 80) rfl ok d_tb_placeInMode_77 4 rfl (Option.some.inj ex30) (lt_n hXn (Nat.le_of_ble_eq_true rfl)) rfl ?_
            refine r_goto (tgt := 4) ok d_tb_placeInMode_80 (by decide) ?_
            obtain rfl := Option.some.inj h
            exact r_sub [3, 4, 1, 0] rfl (show Wt X M 4 [(0, .ref (G.1 + oTAB j0a)), (1, .int y1), (2, .int x29), (3, .int x30)] [] from hk _ rfl)
set_option maxHeartbeats 4000000 in
set_option maxRecDepth 20000 in
theorem C_tb_placeInMode {l : Launch} {G : Gt} {M : Me} {i0 : Nat} {a1 : Int32} (hi0 : i0 < 9) {o : Int32} (h : f_tb_placeInMode M i0 a1 = some o) : Ct l G (WC G) (rC G) y_tb_placeInMode b_tb_placeInMode 5 (some .int) rm_tb_placeInMode [.ref (G.1 + oTAB i0), .int a1] M (some (.int o)) M := by
  refine Ct.mk (own := "RetryChains$RateTable") rfl (by decide) (Nat.le_of_ble_eq_true rfl) ⟨_, rfl⟩ (fun X hXl hXR hXn ok hG fin => ?_)
  subst hXl
  unfold f_tb_placeInMode at h
  show Wt X M 0 [(0, .ref (G.1 + oTAB i0)), (1, .int a1)] []
  refine r_iconst (v := 0) (n := 1) rfl ok d_tb_placeInMode_0 (by decide) ?_
  refine r_istore_n (lv' := [(2, .int 0), (0, .ref (G.1 + oTAB i0)), (1, .int a1)]) (n := 2) rfl ok d_tb_placeInMode_1 rfl (lt_n hXn (Nat.le_of_ble_eq_true rfl)) rfl ?_
  refine r_iconst (v := 0) (n := 3) rfl ok d_tb_placeInMode_2 (by decide) ?_
  refine r_istore_n (lv' := [(3, .int 0), (2, .int 0), (0, .ref (G.1 + oTAB i0)), (1, .int a1)]) (n := 4) rfl ok d_tb_placeInMode_3 rfl (lt_n hXn (Nat.le_of_ble_eq_true rfl)) rfl ?_
  obtain ⟨t31, ht31, h⟩ := bd_ok h
  refine r_sub [2, 3, 1, 0] rfl (show Wt X M 4 [(0, .ref (G.1 + oTAB i0)), (1, .int a1), (2, .int 0), (3, .int 0)] [] from w_tb_placeInMode_4 ok hG hXR hXn hi0 ?_ _ _ ht31)
  · intro e32 he
    subst he
    refine r_iload_n (n := 84) rfl ok d_tb_placeInMode_83 rfl 0 rfl ?_
    obtain rfl := Option.some.inj h
    exact fin _ _ ⟨.int, rfl, rfl⟩ d_tb_placeInMode_84
set_option maxHeartbeats 4000000 in
set_option maxRecDepth 20000 in
theorem w_tb_inOrderOfSpeed_2 {X : Cx Me} {G : Gt} (ok : Ok X b_tb_inOrderOfSpeed "RetryChains$RateTable") (hG : GC X G) (hXR : X.R = rm_tb_inOrderOfSpeed) (hXn : X.nL = 4) {M : Me} {j0a : Nat} {y1 : Int32} {y2 : Int32} (hj0a : j0a < 9) {t : (Unit) ⊕ (Int32)} (kx : ∀ e : Unit, (Sum.inl e : (Unit) ⊕ (Int32)) = t → Wt X M 37 [] []) (kr : ∀ o : Int32, (Sum.inr o : (Unit) ⊕ (Int32)) = t → Fin X b_tb_inOrderOfSpeed (some .int) (some (.int o)) M) : ∀ (n : Nat) (x : Int32), lp n (b_tb_inOrderOfSpeed_2 M j0a y1 y2) x = some t → Wt X M 2 [(0, .ref (G.1 + oTAB j0a)), (1, .int y1), (2, .int y2), (3, .int x)] [] := by
  intro n x h
  refine lp_W (P := fun x => Wt X M 2 [(0, .ref (G.1 + oTAB j0a)), (1, .int y1), (2, .int y2), (3, .int x)] []) (Z := fun t' => t' = t) (fun x r h hk hz => ?_) n x t h rfl
  unfold b_tb_inOrderOfSpeed_2 at h
  refine r_iload_n (n := 3) rfl ok d_tb_inOrderOfSpeed_2 rfl 3 rfl ?_
  refine r_aload_n (n := 4) rfl ok d_tb_inOrderOfSpeed_3 rfl 0 rfl ?_
  refine g_TAB_count (n := 7) rfl ok hG hj0a k_34 d_tb_inOrderOfSpeed_4 ?_
  refine r_icmp_ge (tgt := 37) (n := 10) rfl ok d_tb_inOrderOfSpeed_7 (by decide) (fun c1 => ?_) (fun c1 => ?_)
  · replace h := if_p c1 h
    obtain rfl := Option.some.inj h
    exact r_sub [] rfl (show Wt X M 37 [] [] from kx _ (hz _ rfl))
  · replace h := if_n c1 h
    refine r_aload_n (n := 11) rfl ok d_tb_inOrderOfSpeed_10 rfl 0 rfl ?_
    refine g_TAB_modes (n := 14) rfl ok hG hj0a k_39 d_tb_inOrderOfSpeed_11 ?_
    refine r_iload_n (n := 15) rfl ok d_tb_inOrderOfSpeed_14 rfl 3 rfl ?_
    obtain ⟨g2, h⟩ := gd_ok h
    refine al_MODES (n := 16) rfl ok hG hj0a g2 d_tb_inOrderOfSpeed_15 ?_
    refine r_iload_n (n := 17) rfl ok d_tb_inOrderOfSpeed_16 rfl 1 rfl ?_
    refine r_icmp_ne (tgt := 31) (n := 20) rfl ok d_tb_inOrderOfSpeed_17 (by decide) (fun c3 => ?_) (fun c3 => ?_)
    · replace h := if_n c3 h
      obtain ⟨x4, ex4, h⟩ := bd_ok h
      refine r_iinc (lv' := [(3, .int x4), (0, .ref (G.1 + oTAB j0a)), (1, .int y1), (2, .int y2)]) (n := 34) rfl ok d_tb_inOrderOfSpeed_31 3 rfl (Option.some.inj ex4) (lt_n hXn (Nat.le_of_ble_eq_true rfl)) rfl ?_
      refine r_goto (tgt := 2) ok d_tb_inOrderOfSpeed_34 (by decide) ?_
      obtain rfl := Option.some.inj h
      exact r_sub [1, 2, 3, 0] rfl (show Wt X M 2 [(0, .ref (G.1 + oTAB j0a)), (1, .int y1), (2, .int y2), (3, .int x4)] [] from hk _ rfl)
    · replace h := if_p c3 h
      refine r_aload_n (n := 21) rfl ok d_tb_inOrderOfSpeed_20 rfl 0 rfl ?_
      refine r_iload_n (n := 22) rfl ok d_tb_inOrderOfSpeed_21 rfl 3 rfl ?_
      obtain ⟨r5, hr5, h⟩ := bd_ok h
      refine r_callV (n := 25) rfl ok hG mf_tb_placeInMode k_793 ks_10 k_791 (C_tb_placeInMode hj0a hr5) ⟨rfl, rfl⟩ (rR hXR ⟨Nat.le_of_ble_eq_true rfl, Nat.le_of_ble_eq_true rfl⟩) rfl rfl (rv_TAB hj0a) rfl (Nat.le_of_ble_eq_true rfl) d_tb_inOrderOfSpeed_22 ?_
      refine r_iload_n (n := 26) rfl ok d_tb_inOrderOfSpeed_25 rfl 2 rfl ?_
      refine r_icmp_ne (tgt := 31) (n := 29) rfl ok d_tb_inOrderOfSpeed_26 (by decide) (fun c6 => ?_) (fun c6 => ?_)
      · replace h := if_n c6 h
        obtain ⟨x7, ex7, h⟩ := bd_ok h
        refine r_iinc (lv' := [(3, .int x7), (0, .ref (G.1 + oTAB j0a)), (1, .int y1), (2, .int y2)]) (n := 34) rfl ok d_tb_inOrderOfSpeed_31 3 rfl (Option.some.inj ex7) (lt_n hXn (Nat.le_of_ble_eq_true rfl)) rfl ?_
        refine r_goto (tgt := 2) ok d_tb_inOrderOfSpeed_34 (by decide) ?_
        obtain rfl := Option.some.inj h
        exact r_sub [1, 2, 3, 0] rfl (show Wt X M 2 [(0, .ref (G.1 + oTAB j0a)), (1, .int y1), (2, .int y2), (3, .int x7)] [] from hk _ rfl)
      · replace h := if_p c6 h
        refine r_iload_n (n := 30) rfl ok d_tb_inOrderOfSpeed_29 rfl 3 rfl ?_
        obtain rfl := Option.some.inj h
        exact kr _ (hz _ rfl) _ _ ⟨.int, rfl, rfl⟩ d_tb_inOrderOfSpeed_30
set_option maxHeartbeats 4000000 in
set_option maxRecDepth 20000 in
theorem C_tb_inOrderOfSpeed {l : Launch} {G : Gt} {M : Me} {i0 : Nat} {a1 : Int32} {a2 : Int32} (hi0 : i0 < 9) {o : Int32} (h : f_tb_inOrderOfSpeed M i0 a1 a2 = some o) : Ct l G (WC G) (rC G) y_tb_inOrderOfSpeed b_tb_inOrderOfSpeed 4 (some .int) rm_tb_inOrderOfSpeed [.ref (G.1 + oTAB i0), .int a1, .int a2] M (some (.int o)) M := by
  refine Ct.mk (own := "RetryChains$RateTable") rfl (by decide) (Nat.le_of_ble_eq_true rfl) ⟨_, rfl⟩ (fun X hXl hXR hXn ok hG fin => ?_)
  subst hXl
  unfold f_tb_inOrderOfSpeed at h
  show Wt X M 0 [(0, .ref (G.1 + oTAB i0)), (1, .int a1), (2, .int a2)] []
  refine r_iconst (v := 0) (n := 1) rfl ok d_tb_inOrderOfSpeed_0 (by decide) ?_
  refine r_istore_n (lv' := [(3, .int 0), (0, .ref (G.1 + oTAB i0)), (1, .int a1), (2, .int a2)]) (n := 2) rfl ok d_tb_inOrderOfSpeed_1 rfl (lt_n hXn (Nat.le_of_ble_eq_true rfl)) rfl ?_
  obtain ⟨t8, ht8, h⟩ := bd_ok h
  refine r_sub [1, 2, 3, 0] rfl (show Wt X M 2 [(0, .ref (G.1 + oTAB i0)), (1, .int a1), (2, .int a2), (3, .int 0)] [] from w_tb_inOrderOfSpeed_2 ok hG hXR hXn hi0 ?_ ?_ _ _ ht8)
  · intro e9 he
    subst he
    replace h := su_l h
    refine r_bipush (v := (-9)) (n := 39) rfl ok d_tb_inOrderOfSpeed_37 (by decide) ?_
    obtain rfl := Option.some.inj h
    exact fin _ _ ⟨.int, rfl, rfl⟩ d_tb_inOrderOfSpeed_39
  · intro o he
    subst he
    replace h := su_r h
    obtain rfl := Option.some.inj h
    exact fin
set_option maxHeartbeats 4000000 in
set_option maxRecDepth 20000 in
theorem C_st_appendFrame {l : Launch} {G : Gt} {M : Me} {i0 : Nat} {s0 : Nat} {a1 : Int32} (hi0 : i0 < 9) (hs0 : s0 < 4) {o : Int32 × Me} (h : f_st_appendFrame M i0 s0 a1 = some o) : Ct l G (WC G) (rC G) y_st_appendFrame b_st_appendFrame 2 (some .int) rm_st_appendFrame [.ref (G.1 + oSTA i0 s0), .int a1] M (some (.int o.1)) o.2 := by
  refine Ct.mk (own := "RetryChains$Station") rfl (by decide) (Nat.le_of_ble_eq_true rfl) ⟨_, rfl⟩ (fun X hXl hXR hXn ok hG fin => ?_)
  subst hXl
  unfold f_st_appendFrame at h
  show Wt X M 0 [(0, .ref (G.1 + oSTA i0 s0)), (1, .int a1)] []
  refine r_aload_n (n := 1) rfl ok d_st_appendFrame_0 rfl 0 rfl ?_
  refine g_STA_queueLength (n := 4) rfl ok hG hi0 hs0 k_141 d_st_appendFrame_1 ?_
  refine r_if_lt (tgt := 16) (n := 7) rfl ok d_st_appendFrame_4 (by decide) (fun c1 => ?_) (fun c1 => ?_)
  · replace h := if_p c1 h
    refine r_bipush (v := (-3)) (n := 18) rfl ok d_st_appendFrame_16 (by decide) ?_
    obtain rfl := Option.some.inj h
    exact fin _ _ ⟨.int, rfl, rfl⟩ d_st_appendFrame_18
  · replace h := if_n c1 h
    refine r_aload_n (n := 8) rfl ok d_st_appendFrame_7 rfl 0 rfl ?_
    refine g_STA_queueLength (n := 11) rfl ok hG hi0 hs0 k_141 d_st_appendFrame_8 ?_
    refine r_bipush (v := 8) (n := 13) rfl ok d_st_appendFrame_11 (by decide) ?_
    refine r_icmp_lt (tgt := 19) (n := 16) rfl ok d_st_appendFrame_13 (by decide) (fun c2 => ?_) (fun c2 => ?_)
    · replace h := if_p c2 h
      refine r_aload_n (n := 20) rfl ok d_st_appendFrame_19 rfl 0 rfl ?_
      refine g_STA_queue (n := 23) rfl ok hG hi0 hs0 k_140 d_st_appendFrame_20 ?_
      refine r_aload_n (n := 24) rfl ok d_st_appendFrame_23 rfl 0 rfl ?_
      refine g_STA_queueLength (n := 27) rfl ok hG hi0 hs0 k_141 d_st_appendFrame_24 ?_
      refine r_iload_n (n := 28) rfl ok d_st_appendFrame_27 rfl 1 rfl ?_
      obtain ⟨g3, h⟩ := gd_ok h
      obtain ⟨M4, eM4, h⟩ := bd_ok h
      refine as_QUEUE (n := 29) rfl ok hG hi0 hs0 g3 d_st_appendFrame_28 ?_
      refine r_mem (Option.some.inj eM4) ?_
      refine r_aload_n (n := 30) rfl ok d_st_appendFrame_29 rfl 0 rfl ?_
      refine r_dup (n := 31) rfl ok d_st_appendFrame_30 rfl ?_
      refine g_STA_queueLength (n := 34) rfl ok hG hi0 hs0 k_141 d_st_appendFrame_31 ?_
      refine r_iconst (v := 1) (n := 35) rfl ok d_st_appendFrame_34 (by decide) ?_
      refine r_iadd (n := 36) rfl ok d_st_appendFrame_35 ?_
      obtain ⟨M5, eM5, h⟩ := bd_ok h
      refine p_STA_queueLength (n := 39) rfl ok hG hi0 hs0 k_141 d_st_appendFrame_36 ?_
      refine r_mem (Option.some.inj eM5) ?_
      refine r_aload_n (n := 40) rfl ok d_st_appendFrame_39 rfl 0 rfl ?_
      refine g_STA_queueLength (n := 43) rfl ok hG hi0 hs0 k_141 d_st_appendFrame_40 ?_
      obtain rfl := Option.some.inj h
      exact fin _ _ ⟨.int, rfl, rfl⟩ d_st_appendFrame_43
    · replace h := if_n c2 h
      refine r_bipush (v := (-3)) (n := 18) rfl ok d_st_appendFrame_16 (by decide) ?_
      obtain rfl := Option.some.inj h
      exact fin _ _ ⟨.int, rfl, rfl⟩ d_st_appendFrame_18
set_option maxHeartbeats 4000000 in
set_option maxRecDepth 20000 in
theorem C_st_takeFrame {l : Launch} {G : Gt} {M : Me} {i0 : Nat} {s0 : Nat} (hi0 : i0 < 9) (hs0 : s0 < 4) {o : Int32 × Me} (h : f_st_takeFrame M i0 s0 = some o) : Ct l G (WC G) (rC G) y_st_takeFrame b_st_takeFrame 2 (some .int) rm_st_takeFrame [.ref (G.1 + oSTA i0 s0)] M (some (.int o.1)) o.2 := by
  refine Ct.mk (own := "RetryChains$Station") rfl (by decide) (Nat.le_of_ble_eq_true rfl) ⟨_, rfl⟩ (fun X hXl hXR hXn ok hG fin => ?_)
  subst hXl
  unfold f_st_takeFrame at h
  show Wt X M 0 [(0, .ref (G.1 + oSTA i0 s0))] []
  refine r_aload_n (n := 1) rfl ok d_st_takeFrame_0 rfl 0 rfl ?_
  refine g_STA_queue (n := 4) rfl ok hG hi0 hs0 k_140 d_st_takeFrame_1 ?_
  refine r_iconst (v := 0) (n := 5) rfl ok d_st_takeFrame_4 (by decide) ?_
  refine al_QUEUE (n := 6) rfl ok hG hi0 hs0 (show gin 0 8 by decide) d_st_takeFrame_5 ?_
  refine r_istore_n (lv' := [(1, .int (M.1 43 i0 s0 (tN 0))), (0, .ref (G.1 + oSTA i0 s0))]) (n := 7) rfl ok d_st_takeFrame_6 rfl (lt_n hXn (Nat.le_of_ble_eq_true rfl)) rfl ?_
  refine r_aload_n (n := 8) rfl ok d_st_takeFrame_7 rfl 1 rfl ?_
  refine g_STA_queue (n := 11) rfl ok hG hi0 hs0 k_140 d_st_takeFrame_8 ?_
  refine r_iconst (v := 1) (n := 12) rfl ok d_st_takeFrame_11 (by decide) ?_
  refine r_aload_n (n := 13) rfl ok d_st_takeFrame_12 rfl 1 rfl ?_
  refine g_STA_queue (n := 16) rfl ok hG hi0 hs0 k_140 d_st_takeFrame_13 ?_
  refine r_iconst (v := 0) (n := 17) rfl ok d_st_takeFrame_16 (by decide) ?_
  refine r_bipush (v := 7) (n := 19) rfl ok d_st_takeFrame_17 (by decide) ?_
  obtain ⟨M1, eM1, h⟩ := bd_ok h
  refine cp_QUEUE (n := 22) rfl ok hG hi0 hs0 (wC_get (ky_QUEUE i0 hi0 s0 hs0)) (sn := 1) (dn := 0) (zn := 7) (by decide) (by decide) (by decide) (by decide) (by decide) (by decide) (Nat.le_of_ble_eq_true rfl) (Nat.le_of_ble_eq_true rfl) k_401 k_392 k_391 k_13 (rR hXR ⟨Nat.le_of_ble_eq_true rfl, Nat.le_of_ble_eq_true rfl⟩) d_st_takeFrame_19 ?_
  refine r_mem (Option.some.inj eM1) ?_
  refine r_aload_n (n := 23) rfl ok d_st_takeFrame_22 rfl 1 rfl ?_
  refine r_iconst (v := 0) (n := 24) rfl ok d_st_takeFrame_23 (by decide) ?_
  refine r_aload_n (n := 25) rfl ok d_st_takeFrame_24 rfl 1 rfl ?_
  refine g_STA_queueLength (n := 28) rfl ok hG hi0 hs0 k_141 d_st_takeFrame_25 ?_
  refine r_iconst (v := 1) (n := 29) rfl ok d_st_takeFrame_28 (by decide) ?_
  refine r_isub (n := 30) rfl ok d_st_takeFrame_29 ?_
  refine r_mmax (n := 33) rfl ok hG k_586 k_425 k_12 k_426 (rR hXR ⟨Nat.le_of_ble_eq_true rfl, Nat.le_of_ble_eq_true rfl⟩) d_st_takeFrame_30 ?_
  obtain ⟨M2, eM2, h⟩ := bd_ok h
  refine p_STA_queueLength (n := 36) rfl ok hG hi0 hs0 k_141 d_st_takeFrame_33 ?_
  refine r_mem (Option.some.inj eM2) ?_
  refine r_iload_n (n := 37) rfl ok d_st_takeFrame_36 rfl 0 rfl ?_
  obtain rfl := Option.some.inj h
  exact fin _ _ ⟨.int, rfl, rfl⟩ d_st_takeFrame_37
set_option maxHeartbeats 4000000 in
set_option maxRecDepth 20000 in
theorem w_st_mostValuableOfMode_9 {X : Cx Me} {G : Gt} (ok : Ok X b_st_mostValuableOfMode "RetryChains$Station") (hG : GC X G) (hXR : X.R = rm_st_mostValuableOfMode) (hXn : X.nL = 8) {M : Me} {j0a : Nat} {j0b : Nat} {j1a : Nat} {y2 : Int32} (hj0a : j0a < 9) (hj0b : j0b < 4) (hj1a : j1a < 9) {t : Int32} (kx : ∀ e : Int32, e = t → Wt X M 97 [(3, .int e)] [])  : ∀ (n : Nat) (x : Int32 × Int32 × Int32), lp n (b_st_mostValuableOfMode_9 M j0a j0b j1a y2) x = some t → Wt X M 9 [(0, .ref (G.1 + oSTA j0a j0b)), (1, .ref (G.1 + oTAB j1a)), (2, .int y2), (3, .int x.1), (4, .int x.2.1), (5, .int x.2.2)] [] := by
  intro n x h
  refine lp_W (P := fun x => Wt X M 9 [(0, .ref (G.1 + oSTA j0a j0b)), (1, .ref (G.1 + oTAB j1a)), (2, .int y2), (3, .int x.1), (4, .int x.2.1), (5, .int x.2.2)] []) (Z := fun t' => t' = t) (fun x r h hk hz => ?_) n x t h rfl
  unfold b_st_mostValuableOfMode_9 at h
  refine r_iload (n := 11) rfl ok d_st_mostValuableOfMode_9 5 rfl ?_
  refine r_aload_n (n := 12) rfl ok d_st_mostValuableOfMode_11 rfl 1 rfl ?_
  refine g_TAB_count (n := 15) rfl ok hG hj1a k_37 d_st_mostValuableOfMode_12 ?_
  refine r_icmp_ge (tgt := 97) (n := 18) rfl ok d_st_mostValuableOfMode_15 (by decide) (fun c1 => ?_) (fun c1 => ?_)
  · replace h := if_p c1 h
    obtain rfl := Option.some.inj h
    exact r_sub [3] rfl (show Wt X M 97 [(3, .int x.1)] [] from kx _ (hz _ rfl))
  · replace h := if_n c1 h
    refine r_aload_n (n := 19) rfl ok d_st_mostValuableOfMode_18 rfl 1 rfl ?_
    refine r_iload_n (n := 20) rfl ok d_st_mostValuableOfMode_19 rfl 2 rfl ?_
    refine r_iload (n := 22) rfl ok d_st_mostValuableOfMode_20 5 rfl ?_
    obtain ⟨r2, hr2, h⟩ := bd_ok h
    refine r_callV (n := 25) rfl ok hG mf_tb_inOrderOfSpeed k_788 k_789 k_803 (C_tb_inOrderOfSpeed hj1a hr2) ⟨rfl, rfl⟩ (rR hXR ⟨Nat.le_of_ble_eq_true rfl, Nat.le_of_ble_eq_true rfl⟩) rfl rfl (rv_TAB hj1a) rfl (Nat.le_of_ble_eq_true rfl) d_st_mostValuableOfMode_22 ?_
    refine r_istore (lv' := [(6, .int r2), (0, .ref (G.1 + oSTA j0a j0b)), (1, .ref (G.1 + oTAB j1a)), (2, .int y2), (3, .int x.1), (4, .int x.2.1), (5, .int x.2.2)]) (n := 27) rfl ok d_st_mostValuableOfMode_25 (lt_n hXn (Nat.le_of_ble_eq_true rfl)) rfl ?_
    refine r_aload_n (n := 28) rfl ok d_st_mostValuableOfMode_27 rfl 2 rfl ?_
    refine r_iload (n := 30) rfl ok d_st_mostValuableOfMode_28 0 rfl ?_
    obtain ⟨r3, hr3, h⟩ := bd_ok h
    refine r_callV (n := 33) rfl ok hG mf_tb_has k_421 k_422 k_804 (C_tb_has hj1a hr3) ⟨rfl, rfl⟩ (rR hXR ⟨Nat.le_of_ble_eq_true rfl, Nat.le_of_ble_eq_true rfl⟩) rfl rfl (rv_TAB hj1a) rfl (Nat.le_of_ble_eq_true rfl) d_st_mostValuableOfMode_30 ?_
    refine r_if_eq (tgt := 91) (n := 36) rfl ok d_st_mostValuableOfMode_33 (by decide) (fun c4 => ?_) (fun c4 => ?_)
    · replace h := if_p c4 h
      obtain ⟨x5, ex5, h⟩ := bd_ok h
      refine r_iinc (lv' := [(5, .int x5), (6, .int r2), (0, .ref (G.1 + oSTA j0a j0b)), (1, .ref (G.1 + oTAB j1a)), (2, .int y2), (3, .int x.1), (4, .int x.2.1)]) (n := 94) rfl ok d_st_mostValuableOfMode_91 6 rfl (Option.some.inj ex5) (lt_n hXn (Nat.le_of_ble_eq_true rfl)) rfl ?_
      refine r_goto (tgt := 9) ok d_st_mostValuableOfMode_94 (by decide) ?_
      obtain rfl := Option.some.inj h
      exact r_sub [2, 3, 4, 5, 6, 0] rfl (show Wt X M 9 [(0, .ref (G.1 + oSTA j0a j0b)), (1, .ref (G.1 + oTAB j1a)), (2, .int y2), (3, .int x.1), (4, .int x.2.1), (5, .int x5)] [] from hk _ rfl)
    · replace h := if_n c4 h
      refine r_aload_n (n := 37) rfl ok d_st_mostValuableOfMode_36 rfl 1 rfl ?_
      refine g_STA_links (n := 40) rfl ok hG hj0a hj0b k_132 d_st_mostValuableOfMode_37 ?_
      refine r_iload (n := 42) rfl ok d_st_mostValuableOfMode_40 0 rfl ?_
      obtain ⟨g6, h⟩ := gd_ok h
      refine al_LINKS (n := 43) rfl ok hG hj0a hj0b g6 d_st_mostValuableOfMode_42 ?_
      refine g_LNK_isAllowed (n := 46) rfl ok hG hj0a hj0b (gin_lt g6) k_88 d_st_mostValuableOfMode_43 ?_
      refine r_if_ne (tgt := 52) (n := 49) rfl ok d_st_mostValuableOfMode_46 (by decide) (fun c7 => ?_) (fun c7 => ?_)
      · replace h := if_n c7 h
        refine r_aload_n (n := 53) rfl ok d_st_mostValuableOfMode_52 rfl 1 rfl ?_
        refine g_STA_links (n := 56) rfl ok hG hj0a hj0b k_132 d_st_mostValuableOfMode_53 ?_
        refine r_iload (n := 58) rfl ok d_st_mostValuableOfMode_56 0 rfl ?_
        obtain ⟨g8, h⟩ := gd_ok h
        refine al_LINKS (n := 59) rfl ok hG hj0a hj0b g8 d_st_mostValuableOfMode_58 ?_
        refine r_aload_n (n := 60) rfl ok d_st_mostValuableOfMode_59 rfl 2 rfl ?_
        refine g_TAB_nominals (n := 63) rfl ok hG hj1a k_42 d_st_mostValuableOfMode_60 ?_
        refine r_iload (n := 65) rfl ok d_st_mostValuableOfMode_63 0 rfl ?_
        obtain ⟨g9, h⟩ := gd_ok h
        refine al_NOMS (n := 66) rfl ok hG hj1a g9 d_st_mostValuableOfMode_65 ?_
        obtain ⟨r10, hr10, h⟩ := bd_ok h
        refine r_callV (n := 69) rfl ok hG mf_lk_value k_443 k_444 k_442 (C_lk_value hj0a hj0b (gin_lt g8) hr10) ⟨rfl, rfl⟩ (rR hXR ⟨Nat.le_of_ble_eq_true rfl, Nat.le_of_ble_eq_true rfl⟩) rfl rfl (rv_LNK hj0a hj0b (gin_lt g8)) rfl (Nat.le_of_ble_eq_true rfl) d_st_mostValuableOfMode_66 ?_
        refine r_istore (lv' := [(7, .int r10), (6, .int r2), (0, .ref (G.1 + oSTA j0a j0b)), (1, .ref (G.1 + oTAB j1a)), (2, .int y2), (3, .int x.1), (4, .int x.2.1), (5, .int x.2.2)]) (n := 71) rfl ok d_st_mostValuableOfMode_69 (lt_n hXn (Nat.le_of_ble_eq_true rfl)) rfl ?_
        refine r_iload_n (n := 72) rfl ok d_st_mostValuableOfMode_71 rfl 5 rfl ?_
        refine r_bipush (v := (-9)) (n := 74) rfl ok d_st_mostValuableOfMode_72 (by decide) ?_
        refine r_icmp_eq (tgt := 84) (n := 77) rfl ok d_st_mostValuableOfMode_74 (by decide) (fun c11 => ?_) (fun c11 => ?_)
        · replace h := if_p c11 h
          refine r_iload (n := 86) rfl ok d_st_mostValuableOfMode_84 1 rfl ?_
          refine r_istore_n (lv' := [(3, .int r2), (7, .int r10), (6, .int r2), (0, .ref (G.1 + oSTA j0a j0b)), (1, .ref (G.1 + oTAB j1a)), (2, .int y2), (4, .int x.2.1), (5, .int x.2.2)]) (n := 87) rfl ok d_st_mostValuableOfMode_86 rfl (lt_n hXn (Nat.le_of_ble_eq_true rfl)) rfl ?_
          refine r_iload (n := 89) rfl ok d_st_mostValuableOfMode_87 1 rfl ?_
          refine r_istore (lv' := [(4, .int r10), (3, .int r2), (7, .int r10), (6, .int r2), (0, .ref (G.1 + oSTA j0a j0b)), (1, .ref (G.1 + oTAB j1a)), (2, .int y2), (5, .int x.2.2)]) (n := 91) rfl ok d_st_mostValuableOfMode_89 (lt_n hXn (Nat.le_of_ble_eq_true rfl)) rfl ?_
          obtain ⟨x12, ex12, h⟩ := bd_ok h
          refine r_iinc (lv' := [(5, .int x12), (4, .int r10), (3, .int r2), (7, .int r10), (6, .int r2), (0, .ref (G.1 + oSTA j0a j0b)), (1, .ref (G.1 + oTAB j1a)), (2, .int y2)]) (n := 94) rfl ok d_st_mostValuableOfMode_91 7 rfl (Option.some.inj ex12) (lt_n hXn (Nat.le_of_ble_eq_true rfl)) rfl ?_
          refine r_goto (tgt := 9) ok d_st_mostValuableOfMode_94 (by decide) ?_
          obtain rfl := Option.some.inj h
          exact r_sub [5, 6, 7, 2, 1, 0] rfl (show Wt X M 9 [(0, .ref (G.1 + oSTA j0a j0b)), (1, .ref (G.1 + oTAB j1a)), (2, .int y2), (3, .int r2), (4, .int r10), (5, .int x12)] [] from hk _ rfl)
        · replace h := if_n c11 h
          refine r_iload (n := 79) rfl ok d_st_mostValuableOfMode_77 0 rfl ?_
          refine r_iload (n := 81) rfl ok d_st_mostValuableOfMode_79 6 rfl ?_
          refine r_icmp_le (tgt := 91) (n := 84) rfl ok d_st_mostValuableOfMode_81 (by decide) (fun c13 => ?_) (fun c13 => ?_)
          · replace h := if_p c13 h
            obtain ⟨x14, ex14, h⟩ := bd_ok h
            refine r_iinc (lv' := [(5, .int x14), (7, .int r10), (6, .int r2), (0, .ref (G.1 + oSTA j0a j0b)), (1, .ref (G.1 + oTAB j1a)), (2, .int y2), (3, .int x.1), (4, .int x.2.1)]) (n := 94) rfl ok d_st_mostValuableOfMode_91 7 rfl (Option.some.inj ex14) (lt_n hXn (Nat.le_of_ble_eq_true rfl)) rfl ?_
            refine r_goto (tgt := 9) ok d_st_mostValuableOfMode_94 (by decide) ?_
            obtain rfl := Option.some.inj h
            exact r_sub [3, 4, 5, 6, 7, 0] rfl (show Wt X M 9 [(0, .ref (G.1 + oSTA j0a j0b)), (1, .ref (G.1 + oTAB j1a)), (2, .int y2), (3, .int x.1), (4, .int x.2.1), (5, .int x14)] [] from hk _ rfl)
          · replace h := if_n c13 h
            refine r_iload (n := 86) rfl ok d_st_mostValuableOfMode_84 1 rfl ?_
            refine r_istore_n (lv' := [(3, .int r2), (7, .int r10), (6, .int r2), (0, .ref (G.1 + oSTA j0a j0b)), (1, .ref (G.1 + oTAB j1a)), (2, .int y2), (4, .int x.2.1), (5, .int x.2.2)]) (n := 87) rfl ok d_st_mostValuableOfMode_86 rfl (lt_n hXn (Nat.le_of_ble_eq_true rfl)) rfl ?_
            refine r_iload (n := 89) rfl ok d_st_mostValuableOfMode_87 1 rfl ?_
            refine r_istore (lv' := [(4, .int r10), (3, .int r2), (7, .int r10), (6, .int r2), (0, .ref (G.1 + oSTA j0a j0b)), (1, .ref (G.1 + oTAB j1a)), (2, .int y2), (5, .int x.2.2)]) (n := 91) rfl ok d_st_mostValuableOfMode_89 (lt_n hXn (Nat.le_of_ble_eq_true rfl)) rfl ?_
            obtain ⟨x15, ex15, h⟩ := bd_ok h
            refine r_iinc (lv' := [(5, .int x15), (4, .int r10), (3, .int r2), (7, .int r10), (6, .int r2), (0, .ref (G.1 + oSTA j0a j0b)), (1, .ref (G.1 + oTAB j1a)), (2, .int y2)]) (n := 94) rfl ok d_st_mostValuableOfMode_91 7 rfl (Option.some.inj ex15) (lt_n hXn (Nat.le_of_ble_eq_true rfl)) rfl ?_
            refine r_goto (tgt := 9) ok d_st_mostValuableOfMode_94 (by decide) ?_
            obtain rfl := Option.some.inj h
            exact r_sub [5, 6, 7, 2, 1, 0] rfl (show Wt X M 9 [(0, .ref (G.1 + oSTA j0a j0b)), (1, .ref (G.1 + oTAB j1a)), (2, .int y2), (3, .int r2), (4, .int r10), (5, .int x15)] [] from hk _ rfl)
      · replace h := if_p c7 h
        refine r_goto (tgt := 91) ok d_st_mostValuableOfMode_49 (by decide) ?_
        obtain ⟨x16, ex16, h⟩ := bd_ok h
        refine r_iinc (lv' := [(5, .int x16), (6, .int r2), (0, .ref (G.1 + oSTA j0a j0b)), (1, .ref (G.1 + oTAB j1a)), (2, .int y2), (3, .int x.1), (4, .int x.2.1)]) (n := 94) rfl ok d_st_mostValuableOfMode_91 6 rfl (Option.some.inj ex16) (lt_n hXn (Nat.le_of_ble_eq_true rfl)) rfl ?_
        refine r_goto (tgt := 9) ok d_st_mostValuableOfMode_94 (by decide) ?_
        obtain rfl := Option.some.inj h
        exact r_sub [2, 3, 4, 5, 6, 0] rfl (show Wt X M 9 [(0, .ref (G.1 + oSTA j0a j0b)), (1, .ref (G.1 + oTAB j1a)), (2, .int y2), (3, .int x.1), (4, .int x.2.1), (5, .int x16)] [] from hk _ rfl)
set_option maxHeartbeats 4000000 in
set_option maxRecDepth 20000 in
theorem C_st_mostValuableOfMode {l : Launch} {G : Gt} {M : Me} {i0 : Nat} {s0 : Nat} {i1 : Nat} {a2 : Int32} (hi0 : i0 < 9) (hs0 : s0 < 4) (hi1 : i1 < 9) {o : Int32} (h : f_st_mostValuableOfMode M i0 s0 i1 a2 = some o) : Ct l G (WC G) (rC G) y_st_mostValuableOfMode b_st_mostValuableOfMode 8 (some .int) rm_st_mostValuableOfMode [.ref (G.1 + oSTA i0 s0), .ref (G.1 + oTAB i1), .int a2] M (some (.int o)) M := by
  refine Ct.mk (own := "RetryChains$Station") rfl (by decide) (Nat.le_of_ble_eq_true rfl) ⟨_, rfl⟩ (fun X hXl hXR hXn ok hG fin => ?_)
  subst hXl
  unfold f_st_mostValuableOfMode at h
  show Wt X M 0 [(0, .ref (G.1 + oSTA i0 s0)), (1, .ref (G.1 + oTAB i1)), (2, .int a2)] []
  refine r_bipush (v := (-9)) (n := 2) rfl ok d_st_mostValuableOfMode_0 (by decide) ?_
  refine r_istore_n (lv' := [(3, .int (-9)), (0, .ref (G.1 + oSTA i0 s0)), (1, .ref (G.1 + oTAB i1)), (2, .int a2)]) (n := 3) rfl ok d_st_mostValuableOfMode_2 rfl (lt_n hXn (Nat.le_of_ble_eq_true rfl)) rfl ?_
  refine r_iconst (v := 0) (n := 4) rfl ok d_st_mostValuableOfMode_3 (by decide) ?_
  refine r_istore (lv' := [(4, .int 0), (3, .int (-9)), (0, .ref (G.1 + oSTA i0 s0)), (1, .ref (G.1 + oTAB i1)), (2, .int a2)]) (n := 6) rfl ok d_st_mostValuableOfMode_4 (lt_n hXn (Nat.le_of_ble_eq_true rfl)) rfl ?_
  refine r_iconst (v := 0) (n := 7) rfl ok d_st_mostValuableOfMode_6 (by decide) ?_
  refine r_istore (lv' := [(5, .int 0), (4, .int 0), (3, .int (-9)), (0, .ref (G.1 + oSTA i0 s0)), (1, .ref (G.1 + oTAB i1)), (2, .int a2)]) (n := 9) rfl ok d_st_mostValuableOfMode_7 (lt_n hXn (Nat.le_of_ble_eq_true rfl)) rfl ?_
  obtain ⟨t17, ht17, h⟩ := bd_ok h
  refine r_sub [3, 4, 5, 2, 1, 0] rfl (show Wt X M 9 [(0, .ref (G.1 + oSTA i0 s0)), (1, .ref (G.1 + oTAB i1)), (2, .int a2), (3, .int (-9)), (4, .int 0), (5, .int 0)] [] from w_st_mostValuableOfMode_9 ok hG hXR hXn hi0 hs0 hi1 ?_ _ _ ht17)
  · intro e18 he
    subst he
    refine r_iload_n (n := 98) rfl ok d_st_mostValuableOfMode_97 rfl 0 rfl ?_
    obtain rfl := Option.some.inj h
    exact fin _ _ ⟨.int, rfl, rfl⟩ d_st_mostValuableOfMode_98
set_option maxHeartbeats 4000000 in
set_option maxRecDepth 20000 in
theorem w_st_mostTried_8 {X : Cx Me} {G : Gt} (ok : Ok X b_st_mostTried "RetryChains$Station") (hG : GC X G) (hXR : X.R = rm_st_mostTried) (hXn : X.nL = 5) {M : Me} {j0a : Nat} {j0b : Nat} {j1a : Nat} (hj0a : j0a < 9) (hj0b : j0b < 4) (hj1a : j1a < 9) {t : Int32} (kx : ∀ e : Int32, e = t → Wt X M 51 [(2, .int e)] [])  : ∀ (n : Nat) (x : Int32 × Int32 × Int32), lp n (b_st_mostTried_8 M j0a j0b j1a) x = some t → Wt X M 8 [(0, .ref (G.1 + oSTA j0a j0b)), (1, .ref (G.1 + oTAB j1a)), (2, .int x.1), (3, .int x.2.1), (4, .int x.2.2)] [] := by
  intro n x h
  refine lp_W (P := fun x => Wt X M 8 [(0, .ref (G.1 + oSTA j0a j0b)), (1, .ref (G.1 + oTAB j1a)), (2, .int x.1), (3, .int x.2.1), (4, .int x.2.2)] []) (Z := fun t' => t' = t) (fun x r h hk hz => ?_) n x t h rfl
  unfold b_st_mostTried_8 at h
  refine r_iload (n := 10) rfl ok d_st_mostTried_8 4 rfl ?_
  refine r_aload_n (n := 11) rfl ok d_st_mostTried_10 rfl 1 rfl ?_
  refine g_TAB_count (n := 14) rfl ok hG hj1a k_37 d_st_mostTried_11 ?_
  refine r_icmp_ge (tgt := 51) (n := 17) rfl ok d_st_mostTried_14 (by decide) (fun c1 => ?_) (fun c1 => ?_)
  · replace h := if_p c1 h
    obtain rfl := Option.some.inj h
    exact r_sub [2] rfl (show Wt X M 51 [(2, .int x.1)] [] from kx _ (hz _ rfl))
  · replace h := if_n c1 h
    refine r_aload_n (n := 18) rfl ok d_st_mostTried_17 rfl 0 rfl ?_
    refine g_STA_links (n := 21) rfl ok hG hj0a hj0b k_132 d_st_mostTried_18 ?_
    refine r_iload (n := 23) rfl ok d_st_mostTried_21 4 rfl ?_
    obtain ⟨g2, h⟩ := gd_ok h
    refine al_LINKS (n := 24) rfl ok hG hj0a hj0b g2 d_st_mostTried_23 ?_
    refine g_LNK_allTries (n := 27) rfl ok hG hj0a hj0b (gin_lt g2) k_102 d_st_mostTried_24 ?_
    refine r_iload_n (n := 28) rfl ok d_st_mostTried_27 rfl 3 rfl ?_
    refine r_icmp_le (tgt := 45) (n := 31) rfl ok d_st_mostTried_28 (by decide) (fun c3 => ?_) (fun c3 => ?_)
    · replace h := if_p c3 h
      obtain ⟨x4, ex4, h⟩ := bd_ok h
      refine r_iinc (lv' := [(4, .int x4), (0, .ref (G.1 + oSTA j0a j0b)), (1, .ref (G.1 + oTAB j1a)), (2, .int x.1), (3, .int x.2.1)]) (n := 48) rfl ok d_st_mostTried_45 4 rfl (Option.some.inj ex4) (lt_n hXn (Nat.le_of_ble_eq_true rfl)) rfl ?_
      refine r_goto (tgt := 8) ok d_st_mostTried_48 (by decide) ?_
      obtain rfl := Option.some.inj h
      exact r_sub [1, 2, 3, 4, 0] rfl (show Wt X M 8 [(0, .ref (G.1 + oSTA j0a j0b)), (1, .ref (G.1 + oTAB j1a)), (2, .int x.1), (3, .int x.2.1), (4, .int x4)] [] from hk _ rfl)
    · replace h := if_n c3 h
      refine r_iload (n := 33) rfl ok d_st_mostTried_31 4 rfl ?_
      refine r_istore_n (lv' := [(2, .int x.2.2), (0, .ref (G.1 + oSTA j0a j0b)), (1, .ref (G.1 + oTAB j1a)), (3, .int x.2.1), (4, .int x.2.2)]) (n := 34) rfl ok d_st_mostTried_33 rfl (lt_n hXn (Nat.le_of_ble_eq_true rfl)) rfl ?_
      refine r_aload_n (n := 35) rfl ok d_st_mostTried_34 rfl 1 rfl ?_
      refine g_STA_links (n := 38) rfl ok hG hj0a hj0b k_132 d_st_mostTried_35 ?_
      refine r_iload (n := 40) rfl ok d_st_mostTried_38 4 rfl ?_
      obtain ⟨g5, h⟩ := gd_ok h
      refine al_LINKS (n := 41) rfl ok hG hj0a hj0b g5 d_st_mostTried_40 ?_
      refine g_LNK_allTries (n := 44) rfl ok hG hj0a hj0b (gin_lt g5) k_102 d_st_mostTried_41 ?_
      refine r_istore_n (lv' := [(3, .int (M.1 25 j0a j0b (tN x.2.2))), (2, .int x.2.2), (0, .ref (G.1 + oSTA j0a j0b)), (1, .ref (G.1 + oTAB j1a)), (4, .int x.2.2)]) (n := 45) rfl ok d_st_mostTried_44 rfl (lt_n hXn (Nat.le_of_ble_eq_true rfl)) rfl ?_
      obtain ⟨x6, ex6, h⟩ := bd_ok h
      refine r_iinc (lv' := [(4, .int x6), (3, .int (M.1 25 j0a j0b (tN x.2.2))), (2, .int x.2.2), (0, .ref (G.1 + oSTA j0a j0b)), (1, .ref (G.1 + oTAB j1a))]) (n := 48) rfl ok d_st_mostTried_45 4 rfl (Option.some.inj ex6) (lt_n hXn (Nat.le_of_ble_eq_true rfl)) rfl ?_
      refine r_goto (tgt := 8) ok d_st_mostTried_48 (by decide) ?_
      obtain rfl := Option.some.inj h
      exact r_sub [3, 4, 2, 1, 0] rfl (show Wt X M 8 [(0, .ref (G.1 + oSTA j0a j0b)), (1, .ref (G.1 + oTAB j1a)), (2, .int x.2.2), (3, .int (M.1 25 j0a j0b (tN x.2.2))), (4, .int x6)] [] from hk _ rfl)
set_option maxHeartbeats 4000000 in
set_option maxRecDepth 20000 in
theorem C_st_mostTried {l : Launch} {G : Gt} {M : Me} {i0 : Nat} {s0 : Nat} {i1 : Nat} (hi0 : i0 < 9) (hs0 : s0 < 4) (hi1 : i1 < 9) {o : Int32} (h : f_st_mostTried M i0 s0 i1 = some o) : Ct l G (WC G) (rC G) y_st_mostTried b_st_mostTried 5 (some .int) rm_st_mostTried [.ref (G.1 + oSTA i0 s0), .ref (G.1 + oTAB i1)] M (some (.int o)) M := by
  refine Ct.mk (own := "RetryChains$Station") rfl (by decide) (Nat.le_of_ble_eq_true rfl) ⟨_, rfl⟩ (fun X hXl hXR hXn ok hG fin => ?_)
  subst hXl
  unfold f_st_mostTried at h
  show Wt X M 0 [(0, .ref (G.1 + oSTA i0 s0)), (1, .ref (G.1 + oTAB i1))] []
  refine r_bipush (v := (-9)) (n := 2) rfl ok d_st_mostTried_0 (by decide) ?_
  refine r_istore_n (lv' := [(2, .int (-9)), (0, .ref (G.1 + oSTA i0 s0)), (1, .ref (G.1 + oTAB i1))]) (n := 3) rfl ok d_st_mostTried_2 rfl (lt_n hXn (Nat.le_of_ble_eq_true rfl)) rfl ?_
  refine r_iconst (v := 0) (n := 4) rfl ok d_st_mostTried_3 (by decide) ?_
  refine r_istore_n (lv' := [(3, .int 0), (2, .int (-9)), (0, .ref (G.1 + oSTA i0 s0)), (1, .ref (G.1 + oTAB i1))]) (n := 5) rfl ok d_st_mostTried_4 rfl (lt_n hXn (Nat.le_of_ble_eq_true rfl)) rfl ?_
  refine r_iconst (v := 0) (n := 6) rfl ok d_st_mostTried_5 (by decide) ?_
  refine r_istore (lv' := [(4, .int 0), (3, .int 0), (2, .int (-9)), (0, .ref (G.1 + oSTA i0 s0)), (1, .ref (G.1 + oTAB i1))]) (n := 8) rfl ok d_st_mostTried_6 (lt_n hXn (Nat.le_of_ble_eq_true rfl)) rfl ?_
  obtain ⟨t7, ht7, h⟩ := bd_ok h
  refine r_sub [3, 4, 2, 1, 0] rfl (show Wt X M 8 [(0, .ref (G.1 + oSTA i0 s0)), (1, .ref (G.1 + oTAB i1)), (2, .int (-9)), (3, .int 0), (4, .int 0)] [] from w_st_mostTried_8 ok hG hXR hXn hi0 hs0 hi1 ?_ _ _ ht7)
  · intro e8 he
    subst he
    refine r_iload_n (n := 52) rfl ok d_st_mostTried_51 rfl 0 rfl ?_
    obtain rfl := Option.some.inj h
    exact fin _ _ ⟨.int, rfl, rfl⟩ d_st_mostTried_52
set_option maxHeartbeats 4000000 in
set_option maxRecDepth 20000 in
theorem w_st_bestByChannel_12 {X : Cx Me} {G : Gt} (ok : Ok X b_st_bestByChannel "RetryChains$Station") (hG : GC X G) (hXR : X.R = rm_st_bestByChannel) (hXn : X.nL = 13) {M : Me} {j0a : Nat} {j0b : Nat} {j1a : Nat} {y2 : Int32} (hj0a : j0a < 9) (hj0b : j0b < 4) (hj1a : j1a < 9) {t : Int32} (kx : ∀ e : Int32, e = t → Wt X M 88 [(3, .int e)] [])  : ∀ (n : Nat) (x : Int32 × Int64 × Int64 × Int32), lp n (b_st_bestByChannel_12 M j0a j0b j1a y2) x = some t → Wt X M 12 [(0, .ref (G.1 + oSTA j0a j0b)), (1, .ref (G.1 + oTAB j1a)), (2, .int y2), (3, .int x.1), (4, .long x.2.1), (6, .long x.2.2.1), (8, .int x.2.2.2)] [] := by
  intro n x h
  refine lp_W (P := fun x => Wt X M 12 [(0, .ref (G.1 + oSTA j0a j0b)), (1, .ref (G.1 + oTAB j1a)), (2, .int y2), (3, .int x.1), (4, .long x.2.1), (6, .long x.2.2.1), (8, .int x.2.2.2)] []) (Z := fun t' => t' = t) (fun x r h hk hz => ?_) n x t h rfl
  unfold b_st_bestByChannel_12 at h
  refine r_iload (n := 14) rfl ok d_st_bestByChannel_12 6 rfl ?_
  refine r_aload_n (n := 15) rfl ok d_st_bestByChannel_14 rfl 1 rfl ?_
  refine g_TAB_count (n := 18) rfl ok hG hj1a k_37 d_st_bestByChannel_15 ?_
  refine r_icmp_ge (tgt := 88) (n := 21) rfl ok d_st_bestByChannel_18 (by decide) (fun c1 => ?_) (fun c1 => ?_)
  · replace h := if_p c1 h
    obtain rfl := Option.some.inj h
    exact r_sub [3] rfl (show Wt X M 88 [(3, .int x.1)] [] from kx _ (hz _ rfl))
  · replace h := if_n c1 h
    refine r_aload_n (n := 22) rfl ok d_st_bestByChannel_21 rfl 1 rfl ?_
    refine r_iload (n := 24) rfl ok d_st_bestByChannel_22 6 rfl ?_
    refine r_iload_n (n := 25) rfl ok d_st_bestByChannel_24 rfl 2 rfl ?_
    obtain ⟨r2, hr2, h⟩ := bd_ok h
    refine r_callV (n := 28) rfl ok hG mf_tb_timeInAir k_417 k_418 k_912 (C_tb_timeInAir hj1a hr2) ⟨rfl, rfl⟩ (rR hXR ⟨Nat.le_of_ble_eq_true rfl, Nat.le_of_ble_eq_true rfl⟩) rfl rfl (rv_TAB hj1a) rfl (Nat.le_of_ble_eq_true rfl) d_st_bestByChannel_25 ?_
    refine r_i2l (n := 29) rfl ok d_st_bestByChannel_28 ?_
    obtain ⟨x3, ex3, h⟩ := bd_ok h
    refine r_tl (Option.some.inj ex3).symm ?_
    refine r_lstore (lv' := [(9, .long x3), (0, .ref (G.1 + oSTA j0a j0b)), (1, .ref (G.1 + oTAB j1a)), (2, .int y2), (3, .int x.1), (4, .long x.2.1), (6, .long x.2.2.1), (8, .int x.2.2.2)]) (n := 31) rfl ok d_st_bestByChannel_29 (lt_n hXn (Nat.le_of_ble_eq_true rfl)) rfl ?_
    refine r_aload_n (n := 32) rfl ok d_st_bestByChannel_31 rfl 1 rfl ?_
    refine g_STA_links (n := 35) rfl ok hG hj0a hj0b k_132 d_st_bestByChannel_32 ?_
    refine r_iload (n := 37) rfl ok d_st_bestByChannel_35 7 rfl ?_
    obtain ⟨g4, h⟩ := gd_ok h
    refine al_LINKS (n := 38) rfl ok hG hj0a hj0b g4 d_st_bestByChannel_37 ?_
    refine g_LNK_quality (n := 41) rfl ok hG hj0a hj0b (gin_lt g4) k_107 d_st_bestByChannel_38 ?_
    refine r_i2l (n := 42) rfl ok d_st_bestByChannel_41 ?_
    obtain ⟨x5, ex5, h⟩ := bd_ok h
    refine r_tl (Option.some.inj ex5).symm ?_
    refine r_lstore (lv' := [(11, .long x5), (9, .long x3), (0, .ref (G.1 + oSTA j0a j0b)), (1, .ref (G.1 + oTAB j1a)), (2, .int y2), (3, .int x.1), (4, .long x.2.1), (6, .long x.2.2.1), (8, .int x.2.2.2)]) (n := 44) rfl ok d_st_bestByChannel_42 (lt_n hXn (Nat.le_of_ble_eq_true rfl)) rfl ?_
    refine r_aload_n (n := 45) rfl ok d_st_bestByChannel_44 rfl 2 rfl ?_
    refine g_STA_links (n := 48) rfl ok hG hj0a hj0b k_132 d_st_bestByChannel_45 ?_
    refine r_iload (n := 50) rfl ok d_st_bestByChannel_48 8 rfl ?_
    obtain ⟨g6, h⟩ := gd_ok h
    refine al_LINKS (n := 51) rfl ok hG hj0a hj0b g6 d_st_bestByChannel_50 ?_
    refine g_LNK_isAllowed (n := 54) rfl ok hG hj0a hj0b (gin_lt g6) k_88 d_st_bestByChannel_51 ?_
    refine r_if_eq (tgt := 82) (n := 57) rfl ok d_st_bestByChannel_54 (by decide) (fun c7 => ?_) (fun c7 => ?_)
    · replace h := if_p c7 h
      obtain ⟨x8, ex8, h⟩ := bd_ok h
      refine r_iinc (lv' := [(8, .int x8), (11, .long x5), (9, .long x3), (0, .ref (G.1 + oSTA j0a j0b)), (1, .ref (G.1 + oTAB j1a)), (2, .int y2), (3, .int x.1), (4, .long x.2.1), (6, .long x.2.2.1)]) (n := 85) rfl ok d_st_bestByChannel_82 8 rfl (Option.some.inj ex8) (lt_n hXn (Nat.le_of_ble_eq_true rfl)) rfl ?_
      refine r_goto (tgt := 12) ok d_st_bestByChannel_85 (by decide) ?_
      obtain rfl := Option.some.inj h
      exact r_sub [3, 4, 5, 6, 7, 8, 0] rfl (show Wt X M 12 [(0, .ref (G.1 + oSTA j0a j0b)), (1, .ref (G.1 + oTAB j1a)), (2, .int y2), (3, .int x.1), (4, .long x.2.1), (6, .long x.2.2.1), (8, .int x8)] [] from hk _ rfl)
    · replace h := if_n c7 h
      refine r_lload (n := 59) rfl ok d_st_bestByChannel_57 0 rfl ?_
      refine r_lload (n := 61) rfl ok d_st_bestByChannel_59 7 rfl ?_
      refine r_lmul (n := 62) rfl ok d_st_bestByChannel_61 ?_
      refine r_lload (n := 64) rfl ok d_st_bestByChannel_62 6 rfl ?_
      refine r_lload (n := 66) rfl ok d_st_bestByChannel_64 1 rfl ?_
      refine r_lmul (n := 67) rfl ok d_st_bestByChannel_66 ?_
      refine r_lcmp (n := 68) rfl ok d_st_bestByChannel_67 ?_
      refine r_if_le (tgt := 82) (n := 71) rfl ok d_st_bestByChannel_68 (by decide) (fun c9 => ?_) (fun c9 => ?_)
      · replace h := if_p c9 h
        obtain ⟨x10, ex10, h⟩ := bd_ok h
        refine r_iinc (lv' := [(8, .int x10), (11, .long x5), (9, .long x3), (0, .ref (G.1 + oSTA j0a j0b)), (1, .ref (G.1 + oTAB j1a)), (2, .int y2), (3, .int x.1), (4, .long x.2.1), (6, .long x.2.2.1)]) (n := 85) rfl ok d_st_bestByChannel_82 8 rfl (Option.some.inj ex10) (lt_n hXn (Nat.le_of_ble_eq_true rfl)) rfl ?_
        refine r_goto (tgt := 12) ok d_st_bestByChannel_85 (by decide) ?_
        obtain rfl := Option.some.inj h
        exact r_sub [3, 4, 5, 6, 7, 8, 0] rfl (show Wt X M 12 [(0, .ref (G.1 + oSTA j0a j0b)), (1, .ref (G.1 + oTAB j1a)), (2, .int y2), (3, .int x.1), (4, .long x.2.1), (6, .long x.2.2.1), (8, .int x10)] [] from hk _ rfl)
      · replace h := if_n c9 h
        refine r_iload (n := 73) rfl ok d_st_bestByChannel_71 8 rfl ?_
        refine r_istore_n (lv' := [(3, .int x.2.2.2), (11, .long x5), (9, .long x3), (0, .ref (G.1 + oSTA j0a j0b)), (1, .ref (G.1 + oTAB j1a)), (2, .int y2), (4, .long x.2.1), (6, .long x.2.2.1), (8, .int x.2.2.2)]) (n := 74) rfl ok d_st_bestByChannel_73 rfl (lt_n hXn (Nat.le_of_ble_eq_true rfl)) rfl ?_
        refine r_lload (n := 76) rfl ok d_st_bestByChannel_74 1 rfl ?_
        refine r_lstore (lv' := [(4, .long x5), (3, .int x.2.2.2), (11, .long x5), (9, .long x3), (0, .ref (G.1 + oSTA j0a j0b)), (1, .ref (G.1 + oTAB j1a)), (2, .int y2), (6, .long x.2.2.1), (8, .int x.2.2.2)]) (n := 78) rfl ok d_st_bestByChannel_76 (lt_n hXn (Nat.le_of_ble_eq_true rfl)) rfl ?_
        refine r_lload (n := 80) rfl ok d_st_bestByChannel_78 3 rfl ?_
        refine r_lstore (lv' := [(6, .long x3), (4, .long x5), (3, .int x.2.2.2), (11, .long x5), (9, .long x3), (0, .ref (G.1 + oSTA j0a j0b)), (1, .ref (G.1 + oTAB j1a)), (2, .int y2), (8, .int x.2.2.2)]) (n := 82) rfl ok d_st_bestByChannel_80 (lt_n hXn (Nat.le_of_ble_eq_true rfl)) rfl ?_
        obtain ⟨x11, ex11, h⟩ := bd_ok h
        refine r_iinc (lv' := [(8, .int x11), (6, .long x3), (4, .long x5), (3, .int x.2.2.2), (11, .long x5), (9, .long x3), (0, .ref (G.1 + oSTA j0a j0b)), (1, .ref (G.1 + oTAB j1a)), (2, .int y2)]) (n := 85) rfl ok d_st_bestByChannel_82 8 rfl (Option.some.inj ex11) (lt_n hXn (Nat.le_of_ble_eq_true rfl)) rfl ?_
        refine r_goto (tgt := 12) ok d_st_bestByChannel_85 (by decide) ?_
        obtain rfl := Option.some.inj h
        exact r_sub [6, 7, 8, 3, 2, 1, 0] rfl (show Wt X M 12 [(0, .ref (G.1 + oSTA j0a j0b)), (1, .ref (G.1 + oTAB j1a)), (2, .int y2), (3, .int x.2.2.2), (4, .long x5), (6, .long x3), (8, .int x11)] [] from hk _ rfl)
set_option maxHeartbeats 4000000 in
set_option maxRecDepth 20000 in
theorem C_st_bestByChannel {l : Launch} {G : Gt} {M : Me} {i0 : Nat} {s0 : Nat} {i1 : Nat} {a2 : Int32} (hi0 : i0 < 9) (hs0 : s0 < 4) (hi1 : i1 < 9) {o : Int32} (h : f_st_bestByChannel M i0 s0 i1 a2 = some o) : Ct l G (WC G) (rC G) y_st_bestByChannel b_st_bestByChannel 13 (some .int) rm_st_bestByChannel [.ref (G.1 + oSTA i0 s0), .ref (G.1 + oTAB i1), .int a2] M (some (.int o)) M := by
  refine Ct.mk (own := "RetryChains$Station") rfl (by decide) (Nat.le_of_ble_eq_true rfl) ⟨_, rfl⟩ (fun X hXl hXR hXn ok hG fin => ?_)
  subst hXl
  unfold f_st_bestByChannel at h
  show Wt X M 0 [(0, .ref (G.1 + oSTA i0 s0)), (1, .ref (G.1 + oTAB i1)), (2, .int a2)] []
  refine r_bipush (v := (-9)) (n := 2) rfl ok d_st_bestByChannel_0 (by decide) ?_
  refine r_istore_n (lv' := [(3, .int (-9)), (0, .ref (G.1 + oSTA i0 s0)), (1, .ref (G.1 + oTAB i1)), (2, .int a2)]) (n := 3) rfl ok d_st_bestByChannel_2 rfl (lt_n hXn (Nat.le_of_ble_eq_true rfl)) rfl ?_
  refine r_lconst (v := 0) (n := 4) rfl ok d_st_bestByChannel_3 (by decide) ?_
  refine r_lstore (lv' := [(4, .long 0), (3, .int (-9)), (0, .ref (G.1 + oSTA i0 s0)), (1, .ref (G.1 + oTAB i1)), (2, .int a2)]) (n := 6) rfl ok d_st_bestByChannel_4 (lt_n hXn (Nat.le_of_ble_eq_true rfl)) rfl ?_
  refine r_lconst (v := 1) (n := 7) rfl ok d_st_bestByChannel_6 (by decide) ?_
  refine r_lstore (lv' := [(6, .long 1), (4, .long 0), (3, .int (-9)), (0, .ref (G.1 + oSTA i0 s0)), (1, .ref (G.1 + oTAB i1)), (2, .int a2)]) (n := 9) rfl ok d_st_bestByChannel_7 (lt_n hXn (Nat.le_of_ble_eq_true rfl)) rfl ?_
  refine r_iconst (v := 0) (n := 10) rfl ok d_st_bestByChannel_9 (by decide) ?_
  refine r_istore (lv' := [(8, .int 0), (6, .long 1), (4, .long 0), (3, .int (-9)), (0, .ref (G.1 + oSTA i0 s0)), (1, .ref (G.1 + oTAB i1)), (2, .int a2)]) (n := 12) rfl ok d_st_bestByChannel_10 (lt_n hXn (Nat.le_of_ble_eq_true rfl)) rfl ?_
  obtain ⟨t12, ht12, h⟩ := bd_ok h
  refine r_sub [4, 5, 6, 3, 2, 1, 0] rfl (show Wt X M 12 [(0, .ref (G.1 + oSTA i0 s0)), (1, .ref (G.1 + oTAB i1)), (2, .int a2), (3, .int (-9)), (4, .long 0), (6, .long 1), (8, .int 0)] [] from w_st_bestByChannel_12 ok hG hXR hXn hi0 hs0 hi1 ?_ _ _ ht12)
  · intro e13 he
    subst he
    refine r_iload_n (n := 89) rfl ok d_st_bestByChannel_88 rfl 0 rfl ?_
    obtain rfl := Option.some.inj h
    exact fin _ _ ⟨.int, rfl, rfl⟩ d_st_bestByChannel_89
set_option maxHeartbeats 4000000 in
set_option maxRecDepth 20000 in
theorem C_rc_isMode {l : Launch} {G : Gt} {W0 : Me → Heap → Prop} {A : Nat → Prop} {M : Me} {a1 : Int32}  {o : Int32} (h : f_rc_isMode a1 = some o) : Ct l G W0 A y_rc_isMode b_rc_isMode 1 (some .boolean) rm_rc_isMode [.int a1] M (some (.int o)) M := by
  refine Ct.mk (own := "RetryChains") rfl (by decide) (Nat.le_of_ble_eq_true rfl) ⟨_, rfl⟩ (fun X hXl hXR hXn ok hG fin => ?_)
  subst hXl
  unfold f_rc_isMode at h
  show Wt X M 0 [(0, .int a1)] []
  refine r_iload_n (n := 1) rfl ok d_rc_isMode_0 rfl 0 rfl ?_
  refine r_if_lt (tgt := 13) (n := 4) rfl ok d_rc_isMode_1 (by decide) (fun c1 => ?_) (fun c1 => ?_)
  · replace h := if_p c1 h
    refine r_iconst (v := 0) (n := 14) rfl ok d_rc_isMode_13 (by decide) ?_
    obtain rfl := Option.some.inj h
    exact fin _ _ ⟨.boolean, rfl, nz0⟩ d_rc_isMode_14
  · replace h := if_n c1 h
    refine r_iload_n (n := 5) rfl ok d_rc_isMode_4 rfl 0 rfl ?_
    refine r_iconst (v := 3) (n := 6) rfl ok d_rc_isMode_5 (by decide) ?_
    refine r_icmp_ge (tgt := 13) (n := 9) rfl ok d_rc_isMode_6 (by decide) (fun c2 => ?_) (fun c2 => ?_)
    · replace h := if_p c2 h
      refine r_iconst (v := 0) (n := 14) rfl ok d_rc_isMode_13 (by decide) ?_
      obtain rfl := Option.some.inj h
      exact fin _ _ ⟨.boolean, rfl, nz0⟩ d_rc_isMode_14
    · replace h := if_n c2 h
      refine r_iconst (v := 1) (n := 10) rfl ok d_rc_isMode_9 (by decide) ?_
      refine r_goto (tgt := 14) ok d_rc_isMode_10 (by decide) ?_
      obtain rfl := Option.some.inj h
      exact fin _ _ ⟨.boolean, rfl, nz1⟩ d_rc_isMode_14
set_option maxHeartbeats 4000000 in
set_option maxRecDepth 20000 in
theorem w_rc_addRate_67 {X : Cx Me} {G : Gt} (ok : Ok X b_rc_addRate "RetryChains") (hG : GC X G) (hXR : X.R = rm_rc_addRate) (hXn : X.nL = 5) {y3 : Int32}  {t : Me} (kx : ∀ e : Me, e = t → Wt X e 105 [(3, .int y3)] [])  : ∀ (n : Nat) (x : Int32 × Me), lp n (b_rc_addRate_67 y3) x = some t → Wt X x.2 67 [(0, .ref (G.1 + oRC)), (3, .int y3), (4, .int x.1)] [] := by
  intro n x h
  refine lp_W (P := fun x => Wt X x.2 67 [(0, .ref (G.1 + oRC)), (3, .int y3), (4, .int x.1)] []) (Z := fun t' => t' = t) (fun x r h hk hz => ?_) n x t h rfl
  unfold b_rc_addRate_67 at h
  refine r_iload (n := 69) rfl ok d_rc_addRate_67 2 rfl ?_
  refine r_aload_n (n := 70) rfl ok d_rc_addRate_69 rfl 0 rfl ?_
  refine g_RC_now (n := 73) rfl ok hG  k_349 d_rc_addRate_70 ?_
  refine g_NET_stationCount (n := 76) rfl ok hG (by decide) k_247 d_rc_addRate_73 ?_
  refine r_icmp_ge (tgt := 105) (n := 79) rfl ok d_rc_addRate_76 (by decide) (fun c8 => ?_) (fun c8 => ?_)
  · replace h := if_p c8 h
    obtain rfl := Option.some.inj h
    exact r_sub [1] rfl (show Wt X x.2 105 [(3, .int y3)] [] from kx _ (hz _ rfl))
  · replace h := if_n c8 h
    refine r_aload_n (n := 80) rfl ok d_rc_addRate_79 rfl 0 rfl ?_
    refine g_RC_now (n := 83) rfl ok hG  k_349 d_rc_addRate_80 ?_
    refine g_NET_stations (n := 86) rfl ok hG (by decide) k_243 d_rc_addRate_83 ?_
    refine r_iload (n := 88) rfl ok d_rc_addRate_86 2 rfl ?_
    obtain ⟨g9, h⟩ := gd_ok h
    refine al_STAS (n := 89) rfl ok hG (by decide) g9 d_rc_addRate_88 ?_
    refine r_aload_n (n := 90) rfl ok d_rc_addRate_89 rfl 0 rfl ?_
    refine g_RC_now (n := 93) rfl ok hG  k_349 d_rc_addRate_90 ?_
    refine g_NET_rates (n := 96) rfl ok hG (by decide) k_241 d_rc_addRate_93 ?_
    obtain ⟨r10, hr10, h⟩ := bd_ok h
    refine r_callV (n := 99) rfl ok hG mf_st_fillRoles k_431 k_432 k_430 (C_st_fillRoles (by decide) (gin_lt g9) (by decide) hr10) ⟨rfl, rfl⟩ (rR hXR ⟨Nat.le_of_ble_eq_true rfl, Nat.le_of_ble_eq_true rfl⟩) rfl rfl (rv_STA (by decide) (gin_lt g9)) rfl (Nat.le_of_ble_eq_true rfl) d_rc_addRate_96 ?_
    obtain ⟨x11, ex11, h⟩ := bd_ok h
    refine r_iinc (lv' := [(4, .int x11), (0, .ref (G.1 + oRC)), (3, .int y3)]) (n := 102) rfl ok d_rc_addRate_99 2 rfl (Option.some.inj ex11) (lt_n hXn (Nat.le_of_ble_eq_true rfl)) rfl ?_
    refine r_goto (tgt := 67) ok d_rc_addRate_102 (by decide) ?_
    obtain rfl := Option.some.inj h
    exact r_sub [1, 2, 0] rfl (show Wt X r10 67 [(0, .ref (G.1 + oRC)), (3, .int y3), (4, .int x11)] [] from hk _ rfl)
set_option maxHeartbeats 4000000 in
set_option maxRecDepth 20000 in
theorem C_rc_addRate {l : Launch} {G : Gt} {M : Me} {a1 : Int32} {a2 : Int32}  {o : Int32 × Me} (h : f_rc_addRate M a1 a2 = some o) : Ct l G (WC G) (rC G) y_rc_addRate b_rc_addRate 5 (some .int) rm_rc_addRate [.ref (G.1 + oRC), .int a1, .int a2] M (some (.int o.1)) o.2 := by
  refine Ct.mk (own := "RetryChains") rfl (by decide) (Nat.le_of_ble_eq_true rfl) ⟨_, rfl⟩ (fun X hXl hXR hXn ok hG fin => ?_)
  subst hXl
  unfold f_rc_addRate at h
  show Wt X M 0 [(0, .ref (G.1 + oRC)), (1, .int a1), (2, .int a2)] []
  refine r_iload_n (n := 1) rfl ok d_rc_addRate_0 rfl 1 rfl ?_
  obtain ⟨r1, hr1, h⟩ := bd_ok h
  refine r_callS (n := 4) rfl ok hG mf_rc_isMode k_373 k_372 (C_rc_isMode  hr1) ⟨rfl, rfl⟩ (rR hXR ⟨Nat.le_of_ble_eq_true rfl, Nat.le_of_ble_eq_true rfl⟩) rfl rfl (Nat.le_of_ble_eq_true rfl) d_rc_addRate_1 ?_
  refine r_if_eq (tgt := 20) (n := 7) rfl ok d_rc_addRate_4 (by decide) (fun c2 => ?_) (fun c2 => ?_)
  · replace h := if_p c2 h
    refine r_iconst (v := (-1)) (n := 21) rfl ok d_rc_addRate_20 (by decide) ?_
    obtain rfl := Option.some.inj h
    exact fin _ _ ⟨.int, rfl, rfl⟩ d_rc_addRate_21
  · replace h := if_n c2 h
    refine r_iload_n (n := 8) rfl ok d_rc_addRate_7 rfl 2 rfl ?_
    refine r_bipush (v := 10) (n := 10) rfl ok d_rc_addRate_8 (by decide) ?_
    refine r_icmp_lt (tgt := 20) (n := 13) rfl ok d_rc_addRate_10 (by decide) (fun c3 => ?_) (fun c3 => ?_)
    · replace h := if_p c3 h
      refine r_iconst (v := (-1)) (n := 21) rfl ok d_rc_addRate_20 (by decide) ?_
      obtain rfl := Option.some.inj h
      exact fin _ _ ⟨.int, rfl, rfl⟩ d_rc_addRate_21
    · replace h := if_n c3 h
      refine r_iload_n (n := 14) rfl ok d_rc_addRate_13 rfl 2 rfl ?_
      refine r_sipush (v := 10000) (n := 17) rfl ok d_rc_addRate_14 (by decide) ?_
      refine r_icmp_le (tgt := 22) (n := 20) rfl ok d_rc_addRate_17 (by decide) (fun c4 => ?_) (fun c4 => ?_)
      · replace h := if_p c4 h
        refine r_aload_n (n := 23) rfl ok d_rc_addRate_22 rfl 0 rfl ?_
        refine g_RC_now (n := 26) rfl ok hG  k_349 d_rc_addRate_23 ?_
        refine g_NET_rates (n := 29) rfl ok hG (by decide) k_241 d_rc_addRate_26 ?_
        refine g_TAB_count (n := 32) rfl ok hG (by decide) k_36 d_rc_addRate_29 ?_
        refine r_bipush (v := 8) (n := 34) rfl ok d_rc_addRate_32 (by decide) ?_
        refine r_icmp_lt (tgt := 40) (n := 37) rfl ok d_rc_addRate_34 (by decide) (fun c5 => ?_) (fun c5 => ?_)
        · replace h := if_p c5 h
          refine r_aload_n (n := 41) rfl ok d_rc_addRate_40 rfl 0 rfl ?_
          refine g_RC_history (n := 44) rfl ok hG  k_353 d_rc_addRate_41 ?_
          refine r_aload_n (n := 45) rfl ok d_rc_addRate_44 rfl 0 rfl ?_
          refine g_RC_now (n := 48) rfl ok hG  k_349 d_rc_addRate_45 ?_
          obtain ⟨r6, hr6, h⟩ := bd_ok h
          refine r_callV (n := 51) rfl ok hG mf_hi_keep k_376 k_377 k_375 (C_hi_keep (by decide) hr6) ⟨rfl, rfl⟩ (rR hXR ⟨Nat.le_of_ble_eq_true rfl, Nat.le_of_ble_eq_true rfl⟩) rfl rfl (rv_HIS) rfl (Nat.le_of_ble_eq_true rfl) d_rc_addRate_48 ?_
          refine r_aload_n (n := 52) rfl ok d_rc_addRate_51 rfl 0 rfl ?_
          refine g_RC_now (n := 55) rfl ok hG  k_349 d_rc_addRate_52 ?_
          refine g_NET_rates (n := 58) rfl ok hG (by decide) k_241 d_rc_addRate_55 ?_
          refine r_iload_n (n := 59) rfl ok d_rc_addRate_58 rfl 1 rfl ?_
          refine r_iload_n (n := 60) rfl ok d_rc_addRate_59 rfl 2 rfl ?_
          obtain ⟨r7, hr7, h⟩ := bd_ok h
          refine r_callV (n := 63) rfl ok hG mf_tb_append k_413 k_414 k_412 (C_tb_append (by decide) hr7) ⟨rfl, rfl⟩ (rR hXR ⟨Nat.le_of_ble_eq_true rfl, Nat.le_of_ble_eq_true rfl⟩) rfl rfl (rv_TAB (by decide)) rfl (Nat.le_of_ble_eq_true rfl) d_rc_addRate_60 ?_
          refine r_istore_n (lv' := [(3, .int r7.1), (0, .ref (G.1 + oRC)), (1, .int a1), (2, .int a2)]) (n := 64) rfl ok d_rc_addRate_63 rfl (lt_n hXn (Nat.le_of_ble_eq_true rfl)) rfl ?_
          refine r_iconst (v := 0) (n := 65) rfl ok d_rc_addRate_64 (by decide) ?_
          refine r_istore (lv' := [(4, .int 0), (3, .int r7.1), (0, .ref (G.1 + oRC)), (1, .int a1), (2, .int a2)]) (n := 67) rfl ok d_rc_addRate_65 (lt_n hXn (Nat.le_of_ble_eq_true rfl)) rfl ?_
          obtain ⟨t12, ht12, h⟩ := bd_ok h
          refine r_sub [2, 1, 0] rfl (show Wt X r7.2 67 [(0, .ref (G.1 + oRC)), (3, .int r7.1), (4, .int 0)] [] from w_rc_addRate_67 ok hG hXR hXn  ?_ _ _ ht12)
          · intro e13 he
            subst he
            refine r_iload_n (n := 106) rfl ok d_rc_addRate_105 rfl 0 rfl ?_
            obtain rfl := Option.some.inj h
            exact fin _ _ ⟨.int, rfl, rfl⟩ d_rc_addRate_106
        · replace h := if_n c5 h
          refine r_bipush (v := (-3)) (n := 39) rfl ok d_rc_addRate_37 (by decide) ?_
          obtain rfl := Option.some.inj h
          exact fin _ _ ⟨.int, rfl, rfl⟩ d_rc_addRate_39
      · replace h := if_n c4 h
        refine r_iconst (v := (-1)) (n := 21) rfl ok d_rc_addRate_20 (by decide) ?_
        obtain rfl := Option.some.inj h
        exact fin _ _ ⟨.int, rfl, rfl⟩ d_rc_addRate_21
set_option maxHeartbeats 4000000 in
set_option maxRecDepth 20000 in
theorem C_rc_addStation {l : Launch} {G : Gt} {M : Me}   {o : Int32 × Me} (h : f_rc_addStation M = some o) : Ct l G (WC G) (rC G) y_rc_addStation b_rc_addStation 3 (some .int) rm_rc_addStation [.ref (G.1 + oRC)] M (some (.int o.1)) o.2 := by
  refine Ct.mk (own := "RetryChains") rfl (by decide) (Nat.le_of_ble_eq_true rfl) ⟨_, rfl⟩ (fun X hXl hXR hXn ok hG fin => ?_)
  subst hXl
  unfold f_rc_addStation at h
  show Wt X M 0 [(0, .ref (G.1 + oRC))] []
  refine r_aload_n (n := 1) rfl ok d_rc_addStation_0 rfl 0 rfl ?_
  refine g_RC_now (n := 4) rfl ok hG  k_349 d_rc_addStation_1 ?_
  refine g_NET_stationCount (n := 7) rfl ok hG (by decide) k_247 d_rc_addStation_4 ?_
  refine r_istore_n (lv' := [(1, .int (M.1 0 0 0 0)), (0, .ref (G.1 + oRC))]) (n := 8) rfl ok d_rc_addStation_7 rfl (lt_n hXn (Nat.le_of_ble_eq_true rfl)) rfl ?_
  refine r_iload_n (n := 9) rfl ok d_rc_addStation_8 rfl 0 rfl ?_
  refine r_iconst (v := 4) (n := 10) rfl ok d_rc_addStation_9 (by decide) ?_
  refine r_icmp_lt (tgt := 16) (n := 13) rfl ok d_rc_addStation_10 (by decide) (fun c1 => ?_) (fun c1 => ?_)
  · replace h := if_p c1 h
    refine r_aload_n (n := 17) rfl ok d_rc_addStation_16 rfl 1 rfl ?_
    refine g_RC_history (n := 20) rfl ok hG  k_353 d_rc_addStation_17 ?_
    refine r_aload_n (n := 21) rfl ok d_rc_addStation_20 rfl 1 rfl ?_
    refine g_RC_now (n := 24) rfl ok hG  k_349 d_rc_addStation_21 ?_
    obtain ⟨r2, hr2, h⟩ := bd_ok h
    refine r_callV (n := 27) rfl ok hG mf_hi_keep k_376 k_377 k_375 (C_hi_keep (by decide) hr2) ⟨rfl, rfl⟩ (rR hXR ⟨Nat.le_of_ble_eq_true rfl, Nat.le_of_ble_eq_true rfl⟩) rfl rfl (rv_HIS) rfl (Nat.le_of_ble_eq_true rfl) d_rc_addStation_24 ?_
    refine r_aload_n (n := 28) rfl ok d_rc_addStation_27 rfl 1 rfl ?_
    refine g_RC_now (n := 31) rfl ok hG  k_349 d_rc_addStation_28 ?_
    refine r_iload_n (n := 32) rfl ok d_rc_addStation_31 rfl 0 rfl ?_
    refine r_iconst (v := 1) (n := 33) rfl ok d_rc_addStation_32 (by decide) ?_
    refine r_iadd (n := 34) rfl ok d_rc_addStation_33 ?_
    obtain ⟨M3, eM3, h⟩ := bd_ok h
    refine p_NET_stationCount (n := 37) rfl ok hG (by decide) k_247 d_rc_addStation_34 ?_
    refine r_mem (Option.some.inj eM3) ?_
    refine r_aload_n (n := 38) rfl ok d_rc_addStation_37 rfl 1 rfl ?_
    refine g_RC_now (n := 41) rfl ok hG  k_349 d_rc_addStation_38 ?_
    refine g_NET_stations (n := 44) rfl ok hG (by decide) k_243 d_rc_addStation_41 ?_
    refine r_iload_n (n := 45) rfl ok d_rc_addStation_44 rfl 0 rfl ?_
    obtain ⟨g4, h⟩ := gd_ok h
    refine al_STAS (n := 46) rfl ok hG (by decide) g4 d_rc_addStation_45 ?_
    refine r_astore_n (lv' := [(2, .ref (G.1 + oSTA 0 (tN (M.1 0 0 0 0)))), (1, .int (M.1 0 0 0 0)), (0, .ref (G.1 + oRC))]) (n := 47) rfl ok d_rc_addStation_46 rfl (lt_n hXn (Nat.le_of_ble_eq_true rfl)) rfl ?_
    refine r_aload_n (n := 48) rfl ok d_rc_addStation_47 rfl 0 rfl ?_
    refine r_aload_n (n := 49) rfl ok d_rc_addStation_48 rfl 2 rfl ?_
    refine g_RC_now (n := 52) rfl ok hG  k_349 d_rc_addStation_49 ?_
    obtain ⟨r5, hr5, h⟩ := bd_ok h
    refine r_callV (n := 55) rfl ok hG mf_nt_endOfNewInterval k_457 k_458 k_456 (C_nt_endOfNewInterval (by decide) hr5) ⟨rfl, rfl⟩ (rR hXR ⟨Nat.le_of_ble_eq_true rfl, Nat.le_of_ble_eq_true rfl⟩) rfl rfl (rv_NET (by decide)) rfl (Nat.le_of_ble_eq_true rfl) d_rc_addStation_52 ?_
    obtain ⟨M6, eM6, h⟩ := bd_ok h
    refine p_STA_intervalEnd (n := 58) rfl ok hG (by decide) (gin_lt g4) k_164 d_rc_addStation_55 ?_
    refine r_mem (Option.some.inj eM6) ?_
    refine r_aload_n (n := 59) rfl ok d_rc_addStation_58 rfl 0 rfl ?_
    refine r_aload_n (n := 60) rfl ok d_rc_addStation_59 rfl 2 rfl ?_
    refine g_RC_now (n := 63) rfl ok hG  k_349 d_rc_addStation_60 ?_
    refine g_NET_rates (n := 66) rfl ok hG (by decide) k_241 d_rc_addStation_63 ?_
    obtain ⟨r7, hr7, h⟩ := bd_ok h
    refine r_callV (n := 69) rfl ok hG mf_st_fillRoles k_431 k_432 k_430 (C_st_fillRoles (by decide) (gin_lt g4) (by decide) hr7) ⟨rfl, rfl⟩ (rR hXR ⟨Nat.le_of_ble_eq_true rfl, Nat.le_of_ble_eq_true rfl⟩) rfl rfl (rv_STA (by decide) (gin_lt g4)) rfl (Nat.le_of_ble_eq_true rfl) d_rc_addStation_66 ?_
    refine r_iload_n (n := 70) rfl ok d_rc_addStation_69 rfl 1 rfl ?_
    obtain rfl := Option.some.inj h
    exact fin _ _ ⟨.int, rfl, rfl⟩ d_rc_addStation_70
  · replace h := if_n c1 h
    refine r_bipush (v := (-3)) (n := 15) rfl ok d_rc_addStation_13 (by decide) ?_
    obtain rfl := Option.some.inj h
    exact fin _ _ ⟨.int, rfl, rfl⟩ d_rc_addStation_15
set_option maxHeartbeats 4000000 in
set_option maxRecDepth 20000 in
theorem C_rc_allow {l : Launch} {G : Gt} {M : Me} {a1 : Int32} {a2 : Int32} {a3 : Int32}  {o : Int32 × Me} (h : f_rc_allow M a1 a2 a3 = some o) : Ct l G (WC G) (rC G) y_rc_allow b_rc_allow 7 (some .int) rm_rc_allow [.ref (G.1 + oRC), .int a1, .int a2, .int a3] M (some (.int o.1)) o.2 := by
  refine Ct.mk (own := "RetryChains") rfl (by decide) (Nat.le_of_ble_eq_true rfl) ⟨_, rfl⟩ (fun X hXl hXR hXn ok hG fin => ?_)
  subst hXl
  unfold f_rc_allow at h
  show Wt X M 0 [(0, .ref (G.1 + oRC)), (1, .int a1), (2, .int a2), (3, .int a3)] []
  refine r_aload_n (n := 1) rfl ok d_rc_allow_0 rfl 0 rfl ?_
  refine g_RC_now (n := 4) rfl ok hG  k_349 d_rc_allow_1 ?_
  refine r_iload_n (n := 5) rfl ok d_rc_allow_4 rfl 1 rfl ?_
  obtain ⟨r1, hr1, h⟩ := bd_ok h
  refine r_callV (n := 8) rfl ok hG mf_nt_stationAt k_465 k_466 k_464 (C_nt_stationAt (by decide) hr1) ⟨rfl, rfl⟩ (rR hXR ⟨Nat.le_of_ble_eq_true rfl, Nat.le_of_ble_eq_true rfl⟩) rfl rfl (rv_NET (by decide)) rfl (Nat.le_of_ble_eq_true rfl) d_rc_allow_5 ?_
  rcases er1 : r1 with _ | p2
  · replace h := el_n er1 h
    try rw [er1]
    refine r_astoreN (lv' := [(4, .null), (0, .ref (G.1 + oRC)), (1, .int a1), (2, .int a2), (3, .int a3)]) (n := 10) rfl ok d_rc_allow_8 (lt_n hXn (Nat.le_of_ble_eq_true rfl)) rfl ?_
    refine r_aload_n (n := 11) rfl ok d_rc_allow_10 rfl 1 rfl ?_
    refine g_RC_now (n := 14) rfl ok hG  k_349 d_rc_allow_11 ?_
    refine r_iload_n (n := 15) rfl ok d_rc_allow_14 rfl 2 rfl ?_
    refine r_iload_n (n := 16) rfl ok d_rc_allow_15 rfl 3 rfl ?_
    obtain ⟨r3, hr3, h⟩ := bd_ok h
    refine r_callV (n := 19) rfl ok hG mf_nt_linkAt k_469 k_470 k_468 (C_nt_linkAt (by decide) hr3) ⟨rfl, rfl⟩ (rR hXR ⟨Nat.le_of_ble_eq_true rfl, Nat.le_of_ble_eq_true rfl⟩) rfl rfl (rv_NET (by decide)) rfl (Nat.le_of_ble_eq_true rfl) d_rc_allow_16 ?_
    rcases er3 : r3 with _ | p4
    · replace h := el_n er3 h
      try rw [er3]
      refine r_astoreN (lv' := [(5, .null), (4, .null), (0, .ref (G.1 + oRC)), (1, .int a1), (2, .int a2), (3, .int a3)]) (n := 21) rfl ok d_rc_allow_19 (lt_n hXn (Nat.le_of_ble_eq_true rfl)) rfl ?_
      refine r_aloadN (n := 23) rfl ok d_rc_allow_21 1 rfl ?_
      refine r_ifnullN (tgt := 31) ok d_rc_allow_23 (by decide) ?_
      refine r_iconst (v := (-1)) (n := 32) rfl ok d_rc_allow_31 (by decide) ?_
      obtain rfl := Option.some.inj h
      exact fin _ _ ⟨.int, rfl, rfl⟩ d_rc_allow_32
    · replace h := el_s er3 h
      try rw [er3]
      have vp4 := v_nt_linkAt (by decide) (hr3.trans (congrArg some er3))
      refine r_astore (lv' := [(5, .ref (G.1 + oLNK p4.1 p4.2.1 p4.2.2)), (4, .null), (0, .ref (G.1 + oRC)), (1, .int a1), (2, .int a2), (3, .int a3)]) (n := 21) rfl ok d_rc_allow_19 (lt_n hXn (Nat.le_of_ble_eq_true rfl)) rfl ?_
      refine r_aloadN (n := 23) rfl ok d_rc_allow_21 1 rfl ?_
      refine r_ifnullN (tgt := 31) ok d_rc_allow_23 (by decide) ?_
      refine r_iconst (v := (-1)) (n := 32) rfl ok d_rc_allow_31 (by decide) ?_
      obtain rfl := Option.some.inj h
      exact fin _ _ ⟨.int, rfl, rfl⟩ d_rc_allow_32
  · replace h := el_s er1 h
    try rw [er1]
    have vp2 := v_nt_stationAt (by decide) (hr1.trans (congrArg some er1))
    refine r_astore (lv' := [(4, .ref (G.1 + oSTA p2.1 p2.2)), (0, .ref (G.1 + oRC)), (1, .int a1), (2, .int a2), (3, .int a3)]) (n := 10) rfl ok d_rc_allow_8 (lt_n hXn (Nat.le_of_ble_eq_true rfl)) rfl ?_
    refine r_aload_n (n := 11) rfl ok d_rc_allow_10 rfl 1 rfl ?_
    refine g_RC_now (n := 14) rfl ok hG  k_349 d_rc_allow_11 ?_
    refine r_iload_n (n := 15) rfl ok d_rc_allow_14 rfl 2 rfl ?_
    refine r_iload_n (n := 16) rfl ok d_rc_allow_15 rfl 3 rfl ?_
    obtain ⟨r5, hr5, h⟩ := bd_ok h
    refine r_callV (n := 19) rfl ok hG mf_nt_linkAt k_469 k_470 k_468 (C_nt_linkAt (by decide) hr5) ⟨rfl, rfl⟩ (rR hXR ⟨Nat.le_of_ble_eq_true rfl, Nat.le_of_ble_eq_true rfl⟩) rfl rfl (rv_NET (by decide)) rfl (Nat.le_of_ble_eq_true rfl) d_rc_allow_16 ?_
    rcases er5 : r5 with _ | p6
    · replace h := el_n er5 h
      try rw [er5]
      refine r_astoreN (lv' := [(5, .null), (4, .ref (G.1 + oSTA p2.1 p2.2)), (0, .ref (G.1 + oRC)), (1, .int a1), (2, .int a2), (3, .int a3)]) (n := 21) rfl ok d_rc_allow_19 (lt_n hXn (Nat.le_of_ble_eq_true rfl)) rfl ?_
      refine r_aload (n := 23) rfl ok d_rc_allow_21 1 rfl ?_
      refine r_ifnull (n := 26) rfl ok d_rc_allow_23 ?_
      refine r_aloadN (n := 28) rfl ok d_rc_allow_26 0 rfl ?_
      refine r_ifnonnullN (n := 31) rfl ok d_rc_allow_28 ?_
      refine r_iconst (v := (-1)) (n := 32) rfl ok d_rc_allow_31 (by decide) ?_
      obtain rfl := Option.some.inj h
      exact fin _ _ ⟨.int, rfl, rfl⟩ d_rc_allow_32
    · replace h := el_s er5 h
      try rw [er5]
      have vp6 := v_nt_linkAt (by decide) (hr5.trans (congrArg some er5))
      refine r_astore (lv' := [(5, .ref (G.1 + oLNK p6.1 p6.2.1 p6.2.2)), (4, .ref (G.1 + oSTA p2.1 p2.2)), (0, .ref (G.1 + oRC)), (1, .int a1), (2, .int a2), (3, .int a3)]) (n := 21) rfl ok d_rc_allow_19 (lt_n hXn (Nat.le_of_ble_eq_true rfl)) rfl ?_
      refine r_aload (n := 23) rfl ok d_rc_allow_21 1 rfl ?_
      refine r_ifnull (n := 26) rfl ok d_rc_allow_23 ?_
      refine r_aload (n := 28) rfl ok d_rc_allow_26 0 rfl ?_
      refine r_ifnonnull (tgt := 33) ok d_rc_allow_28 (by decide) ?_
      refine r_aload_n (n := 34) rfl ok d_rc_allow_33 rfl 2 rfl ?_
      refine g_RC_history (n := 37) rfl ok hG  k_353 d_rc_allow_34 ?_
      refine r_aload_n (n := 38) rfl ok d_rc_allow_37 rfl 2 rfl ?_
      refine g_RC_now (n := 41) rfl ok hG  k_349 d_rc_allow_38 ?_
      obtain ⟨r7, hr7, h⟩ := bd_ok h
      refine r_callV (n := 44) rfl ok hG mf_hi_keep k_376 k_377 k_375 (C_hi_keep (by decide) hr7) ⟨rfl, rfl⟩ (rR hXR ⟨Nat.le_of_ble_eq_true rfl, Nat.le_of_ble_eq_true rfl⟩) rfl rfl (rv_HIS) rfl (Nat.le_of_ble_eq_true rfl) d_rc_allow_41 ?_
      refine r_aload (n := 46) rfl ok d_rc_allow_44 0 rfl ?_
      refine g_LNK_isAllowed (n := 49) rfl ok hG vp6.1 vp6.2.1 vp6.2.2 k_89 d_rc_allow_46 ?_
      refine r_if_eq (tgt := 56) (n := 52) rfl ok d_rc_allow_49 (by decide) (fun c8 => ?_) (fun c8 => ?_)
      · replace h := if_p c8 h
        refine r_iconst (v := 0) (n := 57) rfl ok d_rc_allow_56 (by decide) ?_
        refine r_istore (lv' := [(6, .int 0), (5, .ref (G.1 + oLNK p6.1 p6.2.1 p6.2.2)), (4, .ref (G.1 + oSTA p2.1 p2.2)), (0, .ref (G.1 + oRC)), (1, .int a1), (2, .int a2), (3, .int a3)]) (n := 59) rfl ok d_rc_allow_57 (lt_n hXn (Nat.le_of_ble_eq_true rfl)) rfl ?_
        refine r_aload (n := 61) rfl ok d_rc_allow_59 1 rfl ?_
        refine r_iload_n (n := 62) rfl ok d_rc_allow_61 rfl 6 rfl ?_
        obtain ⟨g9, h⟩ := gd_ok h
        obtain ⟨M10, eM10, h⟩ := bd_ok h
        refine p_LNK_isAllowed (n := 65) rfl ok hG vp6.1 vp6.2.1 vp6.2.2 g9 k_89 d_rc_allow_62 ?_
        refine r_mem (Option.some.inj eM10) ?_
        refine r_aload (n := 67) rfl ok d_rc_allow_65 2 rfl ?_
        refine r_aload_n (n := 68) rfl ok d_rc_allow_67 rfl 3 rfl ?_
        refine g_RC_now (n := 71) rfl ok hG  k_349 d_rc_allow_68 ?_
        refine g_NET_rates (n := 74) rfl ok hG (by decide) k_241 d_rc_allow_71 ?_
        obtain ⟨r11, hr11, h⟩ := bd_ok h
        refine r_callV (n := 77) rfl ok hG mf_st_fillRoles k_431 k_432 k_430 (C_st_fillRoles vp2.1 vp2.2 (by decide) hr11) ⟨rfl, rfl⟩ (rR hXR ⟨Nat.le_of_ble_eq_true rfl, Nat.le_of_ble_eq_true rfl⟩) rfl rfl (rv_STA vp2.1 vp2.2) rfl (Nat.le_of_ble_eq_true rfl) d_rc_allow_74 ?_
        refine r_iload (n := 79) rfl ok d_rc_allow_77 0 rfl ?_
        obtain rfl := Option.some.inj h
        exact fin _ _ ⟨.int, rfl, rfl⟩ d_rc_allow_79
      · replace h := if_n c8 h
        refine r_iconst (v := 1) (n := 53) rfl ok d_rc_allow_52 (by decide) ?_
        refine r_goto (tgt := 57) ok d_rc_allow_53 (by decide) ?_
        refine r_istore (lv' := [(6, .int 1), (5, .ref (G.1 + oLNK p6.1 p6.2.1 p6.2.2)), (4, .ref (G.1 + oSTA p2.1 p2.2)), (0, .ref (G.1 + oRC)), (1, .int a1), (2, .int a2), (3, .int a3)]) (n := 59) rfl ok d_rc_allow_57 (lt_n hXn (Nat.le_of_ble_eq_true rfl)) rfl ?_
        refine r_aload (n := 61) rfl ok d_rc_allow_59 1 rfl ?_
        refine r_iload_n (n := 62) rfl ok d_rc_allow_61 rfl 6 rfl ?_
        obtain ⟨g12, h⟩ := gd_ok h
        obtain ⟨M13, eM13, h⟩ := bd_ok h
        refine p_LNK_isAllowed (n := 65) rfl ok hG vp6.1 vp6.2.1 vp6.2.2 g12 k_89 d_rc_allow_62 ?_
        refine r_mem (Option.some.inj eM13) ?_
        refine r_aload (n := 67) rfl ok d_rc_allow_65 2 rfl ?_
        refine r_aload_n (n := 68) rfl ok d_rc_allow_67 rfl 3 rfl ?_
        refine g_RC_now (n := 71) rfl ok hG  k_349 d_rc_allow_68 ?_
        refine g_NET_rates (n := 74) rfl ok hG (by decide) k_241 d_rc_allow_71 ?_
        obtain ⟨r14, hr14, h⟩ := bd_ok h
        refine r_callV (n := 77) rfl ok hG mf_st_fillRoles k_431 k_432 k_430 (C_st_fillRoles vp2.1 vp2.2 (by decide) hr14) ⟨rfl, rfl⟩ (rR hXR ⟨Nat.le_of_ble_eq_true rfl, Nat.le_of_ble_eq_true rfl⟩) rfl rfl (rv_STA vp2.1 vp2.2) rfl (Nat.le_of_ble_eq_true rfl) d_rc_allow_74 ?_
        refine r_iload (n := 79) rfl ok d_rc_allow_77 0 rfl ?_
        obtain rfl := Option.some.inj h
        exact fin _ _ ⟨.int, rfl, rfl⟩ d_rc_allow_79
set_option maxHeartbeats 4000000 in
set_option maxRecDepth 20000 in
theorem C_rc_setShare {l : Launch} {G : Gt} {M : Me} {a1 : Int32}  {o : Int32 × Me} (h : f_rc_setShare M a1 = some o) : Ct l G (WC G) (rC G) y_rc_setShare b_rc_setShare 3 (some .int) rm_rc_setShare [.ref (G.1 + oRC), .int a1] M (some (.int o.1)) o.2 := by
  refine Ct.mk (own := "RetryChains") rfl (by decide) (Nat.le_of_ble_eq_true rfl) ⟨_, rfl⟩ (fun X hXl hXR hXn ok hG fin => ?_)
  subst hXl
  unfold f_rc_setShare at h
  show Wt X M 0 [(0, .ref (G.1 + oRC)), (1, .int a1)] []
  refine r_iload_n (n := 1) rfl ok d_rc_setShare_0 rfl 1 rfl ?_
  refine r_if_lt (tgt := 10) (n := 4) rfl ok d_rc_setShare_1 (by decide) (fun c1 => ?_) (fun c1 => ?_)
  · replace h := if_p c1 h
    refine r_iconst (v := (-1)) (n := 11) rfl ok d_rc_setShare_10 (by decide) ?_
    obtain rfl := Option.some.inj h
    exact fin _ _ ⟨.int, rfl, rfl⟩ d_rc_setShare_11
  · replace h := if_n c1 h
    refine r_iload_n (n := 5) rfl ok d_rc_setShare_4 rfl 1 rfl ?_
    refine r_bipush (v := 50) (n := 7) rfl ok d_rc_setShare_5 (by decide) ?_
    refine r_icmp_le (tgt := 12) (n := 10) rfl ok d_rc_setShare_7 (by decide) (fun c2 => ?_) (fun c2 => ?_)
    · replace h := if_p c2 h
      refine r_aload_n (n := 13) rfl ok d_rc_setShare_12 rfl 0 rfl ?_
      refine g_RC_history (n := 16) rfl ok hG  k_353 d_rc_setShare_13 ?_
      refine r_aload_n (n := 17) rfl ok d_rc_setShare_16 rfl 0 rfl ?_
      refine g_RC_now (n := 20) rfl ok hG  k_349 d_rc_setShare_17 ?_
      obtain ⟨r3, hr3, h⟩ := bd_ok h
      refine r_callV (n := 23) rfl ok hG mf_hi_keep k_376 k_377 k_375 (C_hi_keep (by decide) hr3) ⟨rfl, rfl⟩ (rR hXR ⟨Nat.le_of_ble_eq_true rfl, Nat.le_of_ble_eq_true rfl⟩) rfl rfl (rv_HIS) rfl (Nat.le_of_ble_eq_true rfl) d_rc_setShare_20 ?_
      refine r_aload_n (n := 24) rfl ok d_rc_setShare_23 rfl 0 rfl ?_
      refine g_RC_now (n := 27) rfl ok hG  k_349 d_rc_setShare_24 ?_
      refine g_NET_share (n := 30) rfl ok hG (by decide) k_252 d_rc_setShare_27 ?_
      refine r_istore_n (lv' := [(2, .int (r3.1 2 0 0 0)), (0, .ref (G.1 + oRC)), (1, .int a1)]) (n := 31) rfl ok d_rc_setShare_30 rfl (lt_n hXn (Nat.le_of_ble_eq_true rfl)) rfl ?_
      refine r_aload_n (n := 32) rfl ok d_rc_setShare_31 rfl 1 rfl ?_
      refine g_RC_now (n := 35) rfl ok hG  k_349 d_rc_setShare_32 ?_
      refine r_iload_n (n := 36) rfl ok d_rc_setShare_35 rfl 2 rfl ?_
      obtain ⟨M4, eM4, h⟩ := bd_ok h
      refine p_NET_share (n := 39) rfl ok hG (by decide) k_252 d_rc_setShare_36 ?_
      refine r_mem (Option.some.inj eM4) ?_
      refine r_iload_n (n := 40) rfl ok d_rc_setShare_39 rfl 0 rfl ?_
      obtain rfl := Option.some.inj h
      exact fin _ _ ⟨.int, rfl, rfl⟩ d_rc_setShare_40
    · replace h := if_n c2 h
      refine r_iconst (v := (-1)) (n := 11) rfl ok d_rc_setShare_10 (by decide) ?_
      obtain rfl := Option.some.inj h
      exact fin _ _ ⟨.int, rfl, rfl⟩ d_rc_setShare_11
set_option maxHeartbeats 4000000 in
set_option maxRecDepth 20000 in
theorem C_rc_setWeight {l : Launch} {G : Gt} {M : Me} {a1 : Int32}  {o : Int32 × Me} (h : f_rc_setWeight M a1 = some o) : Ct l G (WC G) (rC G) y_rc_setWeight b_rc_setWeight 3 (some .int) rm_rc_setWeight [.ref (G.1 + oRC), .int a1] M (some (.int o.1)) o.2 := by
  refine Ct.mk (own := "RetryChains") rfl (by decide) (Nat.le_of_ble_eq_true rfl) ⟨_, rfl⟩ (fun X hXl hXR hXn ok hG fin => ?_)
  subst hXl
  unfold f_rc_setWeight at h
  show Wt X M 0 [(0, .ref (G.1 + oRC)), (1, .int a1)] []
  refine r_iload_n (n := 1) rfl ok d_rc_setWeight_0 rfl 1 rfl ?_
  refine r_iconst (v := 1) (n := 2) rfl ok d_rc_setWeight_1 (by decide) ?_
  refine r_icmp_lt (tgt := 11) (n := 5) rfl ok d_rc_setWeight_2 (by decide) (fun c1 => ?_) (fun c1 => ?_)
  · replace h := if_p c1 h
    refine r_iconst (v := (-1)) (n := 12) rfl ok d_rc_setWeight_11 (by decide) ?_
    obtain rfl := Option.some.inj h
    exact fin _ _ ⟨.int, rfl, rfl⟩ d_rc_setWeight_12
  · replace h := if_n c1 h
    refine r_iload_n (n := 6) rfl ok d_rc_setWeight_5 rfl 1 rfl ?_
    refine r_bipush (v := 100) (n := 8) rfl ok d_rc_setWeight_6 (by decide) ?_
    refine r_icmp_le (tgt := 13) (n := 11) rfl ok d_rc_setWeight_8 (by decide) (fun c2 => ?_) (fun c2 => ?_)
    · replace h := if_p c2 h
      refine r_aload_n (n := 14) rfl ok d_rc_setWeight_13 rfl 0 rfl ?_
      refine g_RC_history (n := 17) rfl ok hG  k_353 d_rc_setWeight_14 ?_
      refine r_aload_n (n := 18) rfl ok d_rc_setWeight_17 rfl 0 rfl ?_
      refine g_RC_now (n := 21) rfl ok hG  k_349 d_rc_setWeight_18 ?_
      obtain ⟨r3, hr3, h⟩ := bd_ok h
      refine r_callV (n := 24) rfl ok hG mf_hi_keep k_376 k_377 k_375 (C_hi_keep (by decide) hr3) ⟨rfl, rfl⟩ (rR hXR ⟨Nat.le_of_ble_eq_true rfl, Nat.le_of_ble_eq_true rfl⟩) rfl rfl (rv_HIS) rfl (Nat.le_of_ble_eq_true rfl) d_rc_setWeight_21 ?_
      refine r_aload_n (n := 25) rfl ok d_rc_setWeight_24 rfl 0 rfl ?_
      refine g_RC_now (n := 28) rfl ok hG  k_349 d_rc_setWeight_25 ?_
      refine g_NET_weight (n := 31) rfl ok hG (by decide) k_254 d_rc_setWeight_28 ?_
      refine r_istore_n (lv' := [(2, .int (r3.1 3 0 0 0)), (0, .ref (G.1 + oRC)), (1, .int a1)]) (n := 32) rfl ok d_rc_setWeight_31 rfl (lt_n hXn (Nat.le_of_ble_eq_true rfl)) rfl ?_
      refine r_aload_n (n := 33) rfl ok d_rc_setWeight_32 rfl 1 rfl ?_
      refine g_RC_now (n := 36) rfl ok hG  k_349 d_rc_setWeight_33 ?_
      refine r_iload_n (n := 37) rfl ok d_rc_setWeight_36 rfl 2 rfl ?_
      obtain ⟨M4, eM4, h⟩ := bd_ok h
      refine p_NET_weight (n := 40) rfl ok hG (by decide) k_254 d_rc_setWeight_37 ?_
      refine r_mem (Option.some.inj eM4) ?_
      refine r_iload_n (n := 41) rfl ok d_rc_setWeight_40 rfl 0 rfl ?_
      obtain rfl := Option.some.inj h
      exact fin _ _ ⟨.int, rfl, rfl⟩ d_rc_setWeight_41
    · replace h := if_n c2 h
      refine r_iconst (v := (-1)) (n := 12) rfl ok d_rc_setWeight_11 (by decide) ?_
      obtain rfl := Option.some.inj h
      exact fin _ _ ⟨.int, rfl, rfl⟩ d_rc_setWeight_12
set_option maxHeartbeats 4000000 in
set_option maxRecDepth 20000 in
theorem C_rc_setInterval {l : Launch} {G : Gt} {M : Me} {a1 : Int32}  {o : Int32 × Me} (h : f_rc_setInterval M a1 = some o) : Ct l G (WC G) (rC G) y_rc_setInterval b_rc_setInterval 3 (some .int) rm_rc_setInterval [.ref (G.1 + oRC), .int a1] M (some (.int o.1)) o.2 := by
  refine Ct.mk (own := "RetryChains") rfl (by decide) (Nat.le_of_ble_eq_true rfl) ⟨_, rfl⟩ (fun X hXl hXR hXn ok hG fin => ?_)
  subst hXl
  unfold f_rc_setInterval at h
  show Wt X M 0 [(0, .ref (G.1 + oRC)), (1, .int a1)] []
  refine r_iload_n (n := 1) rfl ok d_rc_setInterval_0 rfl 1 rfl ?_
  refine r_sipush (v := 1000) (n := 4) rfl ok d_rc_setInterval_1 (by decide) ?_
  refine r_icmp_lt (tgt := 13) (n := 7) rfl ok d_rc_setInterval_4 (by decide) (fun c1 => ?_) (fun c1 => ?_)
  · replace h := if_p c1 h
    refine r_iconst (v := (-1)) (n := 14) rfl ok d_rc_setInterval_13 (by decide) ?_
    obtain rfl := Option.some.inj h
    exact fin _ _ ⟨.int, rfl, rfl⟩ d_rc_setInterval_14
  · replace h := if_n c1 h
    refine r_iload_n (n := 8) rfl ok d_rc_setInterval_7 rfl 1 rfl ?_
    refine r_ldc (n := 10) rfl ok d_rc_setInterval_8 k_486 ?_
    refine r_icmp_le (tgt := 15) (n := 13) rfl ok d_rc_setInterval_10 (by decide) (fun c2 => ?_) (fun c2 => ?_)
    · replace h := if_p c2 h
      refine r_aload_n (n := 16) rfl ok d_rc_setInterval_15 rfl 0 rfl ?_
      refine g_RC_history (n := 19) rfl ok hG  k_353 d_rc_setInterval_16 ?_
      refine r_aload_n (n := 20) rfl ok d_rc_setInterval_19 rfl 0 rfl ?_
      refine g_RC_now (n := 23) rfl ok hG  k_349 d_rc_setInterval_20 ?_
      obtain ⟨r3, hr3, h⟩ := bd_ok h
      refine r_callV (n := 26) rfl ok hG mf_hi_keep k_376 k_377 k_375 (C_hi_keep (by decide) hr3) ⟨rfl, rfl⟩ (rR hXR ⟨Nat.le_of_ble_eq_true rfl, Nat.le_of_ble_eq_true rfl⟩) rfl rfl (rv_HIS) rfl (Nat.le_of_ble_eq_true rfl) d_rc_setInterval_23 ?_
      refine r_aload_n (n := 27) rfl ok d_rc_setInterval_26 rfl 0 rfl ?_
      refine g_RC_now (n := 30) rfl ok hG  k_349 d_rc_setInterval_27 ?_
      refine g_NET_interval (n := 33) rfl ok hG (by decide) k_256 d_rc_setInterval_30 ?_
      refine r_istore_n (lv' := [(2, .int (r3.1 4 0 0 0)), (0, .ref (G.1 + oRC)), (1, .int a1)]) (n := 34) rfl ok d_rc_setInterval_33 rfl (lt_n hXn (Nat.le_of_ble_eq_true rfl)) rfl ?_
      refine r_aload_n (n := 35) rfl ok d_rc_setInterval_34 rfl 1 rfl ?_
      refine g_RC_now (n := 38) rfl ok hG  k_349 d_rc_setInterval_35 ?_
      refine r_iload_n (n := 39) rfl ok d_rc_setInterval_38 rfl 2 rfl ?_
      obtain ⟨M4, eM4, h⟩ := bd_ok h
      refine p_NET_interval (n := 42) rfl ok hG (by decide) k_256 d_rc_setInterval_39 ?_
      refine r_mem (Option.some.inj eM4) ?_
      refine r_iload_n (n := 43) rfl ok d_rc_setInterval_42 rfl 0 rfl ?_
      obtain rfl := Option.some.inj h
      exact fin _ _ ⟨.int, rfl, rfl⟩ d_rc_setInterval_43
    · replace h := if_n c2 h
      refine r_iconst (v := (-1)) (n := 14) rfl ok d_rc_setInterval_13 (by decide) ?_
      obtain rfl := Option.some.inj h
      exact fin _ _ ⟨.int, rfl, rfl⟩ d_rc_setInterval_14
set_option maxHeartbeats 4000000 in
set_option maxRecDepth 20000 in
theorem C_rc_setBudget {l : Launch} {G : Gt} {M : Me} {a1 : Int32}  {o : Int32 × Me} (h : f_rc_setBudget M a1 = some o) : Ct l G (WC G) (rC G) y_rc_setBudget b_rc_setBudget 3 (some .int) rm_rc_setBudget [.ref (G.1 + oRC), .int a1] M (some (.int o.1)) o.2 := by
  refine Ct.mk (own := "RetryChains") rfl (by decide) (Nat.le_of_ble_eq_true rfl) ⟨_, rfl⟩ (fun X hXl hXR hXn ok hG fin => ?_)
  subst hXl
  unfold f_rc_setBudget at h
  show Wt X M 0 [(0, .ref (G.1 + oRC)), (1, .int a1)] []
  refine r_iload_n (n := 1) rfl ok d_rc_setBudget_0 rfl 1 rfl ?_
  refine r_bipush (v := 100) (n := 3) rfl ok d_rc_setBudget_1 (by decide) ?_
  refine r_icmp_lt (tgt := 12) (n := 6) rfl ok d_rc_setBudget_3 (by decide) (fun c1 => ?_) (fun c1 => ?_)
  · replace h := if_p c1 h
    refine r_iconst (v := (-1)) (n := 13) rfl ok d_rc_setBudget_12 (by decide) ?_
    obtain rfl := Option.some.inj h
    exact fin _ _ ⟨.int, rfl, rfl⟩ d_rc_setBudget_13
  · replace h := if_n c1 h
    refine r_iload_n (n := 7) rfl ok d_rc_setBudget_6 rfl 1 rfl ?_
    refine r_ldc (n := 9) rfl ok d_rc_setBudget_7 k_491 ?_
    refine r_icmp_le (tgt := 14) (n := 12) rfl ok d_rc_setBudget_9 (by decide) (fun c2 => ?_) (fun c2 => ?_)
    · replace h := if_p c2 h
      refine r_aload_n (n := 15) rfl ok d_rc_setBudget_14 rfl 0 rfl ?_
      refine g_RC_history (n := 18) rfl ok hG  k_353 d_rc_setBudget_15 ?_
      refine r_aload_n (n := 19) rfl ok d_rc_setBudget_18 rfl 0 rfl ?_
      refine g_RC_now (n := 22) rfl ok hG  k_349 d_rc_setBudget_19 ?_
      obtain ⟨r3, hr3, h⟩ := bd_ok h
      refine r_callV (n := 25) rfl ok hG mf_hi_keep k_376 k_377 k_375 (C_hi_keep (by decide) hr3) ⟨rfl, rfl⟩ (rR hXR ⟨Nat.le_of_ble_eq_true rfl, Nat.le_of_ble_eq_true rfl⟩) rfl rfl (rv_HIS) rfl (Nat.le_of_ble_eq_true rfl) d_rc_setBudget_22 ?_
      refine r_aload_n (n := 26) rfl ok d_rc_setBudget_25 rfl 0 rfl ?_
      refine g_RC_now (n := 29) rfl ok hG  k_349 d_rc_setBudget_26 ?_
      refine g_NET_budget (n := 32) rfl ok hG (by decide) k_259 d_rc_setBudget_29 ?_
      refine r_istore_n (lv' := [(2, .int (r3.1 5 0 0 0)), (0, .ref (G.1 + oRC)), (1, .int a1)]) (n := 33) rfl ok d_rc_setBudget_32 rfl (lt_n hXn (Nat.le_of_ble_eq_true rfl)) rfl ?_
      refine r_aload_n (n := 34) rfl ok d_rc_setBudget_33 rfl 1 rfl ?_
      refine g_RC_now (n := 37) rfl ok hG  k_349 d_rc_setBudget_34 ?_
      refine r_iload_n (n := 38) rfl ok d_rc_setBudget_37 rfl 2 rfl ?_
      obtain ⟨M4, eM4, h⟩ := bd_ok h
      refine p_NET_budget (n := 41) rfl ok hG (by decide) k_259 d_rc_setBudget_38 ?_
      refine r_mem (Option.some.inj eM4) ?_
      refine r_iload_n (n := 42) rfl ok d_rc_setBudget_41 rfl 0 rfl ?_
      obtain rfl := Option.some.inj h
      exact fin _ _ ⟨.int, rfl, rfl⟩ d_rc_setBudget_42
    · replace h := if_n c2 h
      refine r_iconst (v := (-1)) (n := 13) rfl ok d_rc_setBudget_12 (by decide) ?_
      obtain rfl := Option.some.inj h
      exact fin _ _ ⟨.int, rfl, rfl⟩ d_rc_setBudget_13
set_option maxHeartbeats 4000000 in
set_option maxRecDepth 20000 in
theorem C_rc_isFrame {l : Launch} {G : Gt} {W0 : Me → Heap → Prop} {A : Nat → Prop} {M : Me} {a1 : Int32}  {o : Int32} (h : f_rc_isFrame a1 = some o) : Ct l G W0 A y_rc_isFrame b_rc_isFrame 1 (some .boolean) rm_rc_isFrame [.int a1] M (some (.int o)) M := by
  refine Ct.mk (own := "RetryChains") rfl (by decide) (Nat.le_of_ble_eq_true rfl) ⟨_, rfl⟩ (fun X hXl hXR hXn ok hG fin => ?_)
  subst hXl
  unfold f_rc_isFrame at h
  show Wt X M 0 [(0, .int a1)] []
  refine r_iload_n (n := 1) rfl ok d_rc_isFrame_0 rfl 0 rfl ?_
  refine r_iconst (v := 1) (n := 2) rfl ok d_rc_isFrame_1 (by decide) ?_
  refine r_icmp_lt (tgt := 16) (n := 5) rfl ok d_rc_isFrame_2 (by decide) (fun c1 => ?_) (fun c1 => ?_)
  · replace h := if_p c1 h
    refine r_iconst (v := 0) (n := 17) rfl ok d_rc_isFrame_16 (by decide) ?_
    obtain rfl := Option.some.inj h
    exact fin _ _ ⟨.boolean, rfl, nz0⟩ d_rc_isFrame_17
  · replace h := if_n c1 h
    refine r_iload_n (n := 6) rfl ok d_rc_isFrame_5 rfl 0 rfl ?_
    refine r_sipush (v := 4000) (n := 9) rfl ok d_rc_isFrame_6 (by decide) ?_
    refine r_icmp_gt (tgt := 16) (n := 12) rfl ok d_rc_isFrame_9 (by decide) (fun c2 => ?_) (fun c2 => ?_)
    · replace h := if_p c2 h
      refine r_iconst (v := 0) (n := 17) rfl ok d_rc_isFrame_16 (by decide) ?_
      obtain rfl := Option.some.inj h
      exact fin _ _ ⟨.boolean, rfl, nz0⟩ d_rc_isFrame_17
    · replace h := if_n c2 h
      refine r_iconst (v := 1) (n := 13) rfl ok d_rc_isFrame_12 (by decide) ?_
      refine r_goto (tgt := 17) ok d_rc_isFrame_13 (by decide) ?_
      obtain rfl := Option.some.inj h
      exact fin _ _ ⟨.boolean, rfl, nz1⟩ d_rc_isFrame_17
set_option maxHeartbeats 4000000 in
set_option maxRecDepth 20000 in
theorem C_rc_lay {l : Launch} {G : Gt} {M : Me} {a1 : Int32} {a2 : Int32}  {o : Int32 × Me} (h : f_rc_lay M a1 a2 = some o) : Ct l G (WC G) (rC G) y_rc_lay b_rc_lay 4 (some .int) rm_rc_lay [.ref (G.1 + oRC), .int a1, .int a2] M (some (.int o.1)) o.2 := by
  refine Ct.mk (own := "RetryChains") rfl (by decide) (Nat.le_of_ble_eq_true rfl) ⟨_, rfl⟩ (fun X hXl hXR hXn ok hG fin => ?_)
  subst hXl
  unfold f_rc_lay at h
  show Wt X M 0 [(0, .ref (G.1 + oRC)), (1, .int a1), (2, .int a2)] []
  refine r_aload_n (n := 1) rfl ok d_rc_lay_0 rfl 0 rfl ?_
  refine g_RC_now (n := 4) rfl ok hG  k_349 d_rc_lay_1 ?_
  refine r_iload_n (n := 5) rfl ok d_rc_lay_4 rfl 1 rfl ?_
  obtain ⟨r1, hr1, h⟩ := bd_ok h
  refine r_callV (n := 8) rfl ok hG mf_nt_stationAt k_465 k_466 k_464 (C_nt_stationAt (by decide) hr1) ⟨rfl, rfl⟩ (rR hXR ⟨Nat.le_of_ble_eq_true rfl, Nat.le_of_ble_eq_true rfl⟩) rfl rfl (rv_NET (by decide)) rfl (Nat.le_of_ble_eq_true rfl) d_rc_lay_5 ?_
  rcases er1 : r1 with _ | p2
  · replace h := el_n er1 h
    try rw [er1]
    refine r_astore_nN (lv' := [(3, .null), (0, .ref (G.1 + oRC)), (1, .int a1), (2, .int a2)]) (n := 9) rfl ok d_rc_lay_8 rfl (lt_n hXn (Nat.le_of_ble_eq_true rfl)) rfl ?_
    refine r_aload_nN (n := 10) rfl ok d_rc_lay_9 rfl 0 rfl ?_
    refine r_ifnullN (tgt := 20) ok d_rc_lay_10 (by decide) ?_
    refine r_iconst (v := (-1)) (n := 21) rfl ok d_rc_lay_20 (by decide) ?_
    obtain rfl := Option.some.inj h
    exact fin _ _ ⟨.int, rfl, rfl⟩ d_rc_lay_21
  · replace h := el_s er1 h
    try rw [er1]
    have vp2 := v_nt_stationAt (by decide) (hr1.trans (congrArg some er1))
    refine r_astore_n (lv' := [(3, .ref (G.1 + oSTA p2.1 p2.2)), (0, .ref (G.1 + oRC)), (1, .int a1), (2, .int a2)]) (n := 9) rfl ok d_rc_lay_8 rfl (lt_n hXn (Nat.le_of_ble_eq_true rfl)) rfl ?_
    refine r_aload_n (n := 10) rfl ok d_rc_lay_9 rfl 0 rfl ?_
    refine r_ifnull (n := 13) rfl ok d_rc_lay_10 ?_
    refine r_iload_n (n := 14) rfl ok d_rc_lay_13 rfl 3 rfl ?_
    obtain ⟨r3, hr3, h⟩ := bd_ok h
    refine r_callS (n := 17) rfl ok hG mf_rc_isFrame k_497 k_496 (C_rc_isFrame  hr3) ⟨rfl, rfl⟩ (rR hXR ⟨Nat.le_of_ble_eq_true rfl, Nat.le_of_ble_eq_true rfl⟩) rfl rfl (Nat.le_of_ble_eq_true rfl) d_rc_lay_14 ?_
    refine r_if_ne (tgt := 22) (n := 20) rfl ok d_rc_lay_17 (by decide) (fun c4 => ?_) (fun c4 => ?_)
    · replace h := if_n c4 h
      refine r_aload_n (n := 23) rfl ok d_rc_lay_22 rfl 0 rfl ?_
      refine r_aload_n (n := 24) rfl ok d_rc_lay_23 rfl 1 rfl ?_
      refine g_RC_now (n := 27) rfl ok hG  k_349 d_rc_lay_24 ?_
      refine g_NET_rates (n := 30) rfl ok hG (by decide) k_241 d_rc_lay_27 ?_
      obtain ⟨r5, hr5, h⟩ := bd_ok h
      refine r_callV (n := 33) rfl ok hG mf_st_hasAllowedRate k_500 k_501 k_499 (C_st_hasAllowedRate vp2.1 vp2.2 (by decide) hr5) ⟨rfl, rfl⟩ (rR hXR ⟨Nat.le_of_ble_eq_true rfl, Nat.le_of_ble_eq_true rfl⟩) rfl rfl (rv_STA vp2.1 vp2.2) rfl (Nat.le_of_ble_eq_true rfl) d_rc_lay_30 ?_
      refine r_if_ne (tgt := 39) (n := 36) rfl ok d_rc_lay_33 (by decide) (fun c6 => ?_) (fun c6 => ?_)
      · replace h := if_n c6 h
        refine r_aload_n (n := 40) rfl ok d_rc_lay_39 rfl 1 rfl ?_
        refine g_RC_now (n := 43) rfl ok hG  k_349 d_rc_lay_40 ?_
        obtain ⟨r7, hr7, h⟩ := bd_ok h
        refine r_callV (n := 46) rfl ok hG mf_nt_freeChain k_504 k_505 k_503 (C_nt_freeChain (by decide) hr7) ⟨rfl, rfl⟩ (rR hXR ⟨Nat.le_of_ble_eq_true rfl, Nat.le_of_ble_eq_true rfl⟩) rfl rfl (rv_NET (by decide)) rfl (Nat.le_of_ble_eq_true rfl) d_rc_lay_43 ?_
        refine r_bipush (v := (-9)) (n := 48) rfl ok d_rc_lay_46 (by decide) ?_
        refine r_icmp_ne (tgt := 54) (n := 51) rfl ok d_rc_lay_48 (by decide) (fun c8 => ?_) (fun c8 => ?_)
        · replace h := if_n c8 h
          refine r_aload_n (n := 55) rfl ok d_rc_lay_54 rfl 1 rfl ?_
          refine g_RC_history (n := 58) rfl ok hG  k_353 d_rc_lay_55 ?_
          refine r_aload_n (n := 59) rfl ok d_rc_lay_58 rfl 1 rfl ?_
          refine g_RC_now (n := 62) rfl ok hG  k_349 d_rc_lay_59 ?_
          obtain ⟨r9, hr9, h⟩ := bd_ok h
          refine r_callV (n := 65) rfl ok hG mf_hi_keep k_376 k_377 k_375 (C_hi_keep (by decide) hr9) ⟨rfl, rfl⟩ (rR hXR ⟨Nat.le_of_ble_eq_true rfl, Nat.le_of_ble_eq_true rfl⟩) rfl rfl (rv_HIS) rfl (Nat.le_of_ble_eq_true rfl) d_rc_lay_62 ?_
          refine r_aload_n (n := 66) rfl ok d_rc_lay_65 rfl 1 rfl ?_
          refine g_RC_now (n := 69) rfl ok hG  k_349 d_rc_lay_66 ?_
          refine r_aload_n (n := 70) rfl ok d_rc_lay_69 rfl 0 rfl ?_
          refine r_iload_n (n := 71) rfl ok d_rc_lay_70 rfl 3 rfl ?_
          obtain ⟨r10, hr10, h⟩ := bd_ok h
          refine r_callV (n := 74) rfl ok hG mf_nt_openChain k_508 k_509 k_507 (C_nt_openChain (by decide) vp2.1 vp2.2 hr10) ⟨rfl, rfl⟩ (rR hXR ⟨Nat.le_of_ble_eq_true rfl, Nat.le_of_ble_eq_true rfl⟩) rfl rfl (rv_NET (by decide)) rfl (Nat.le_of_ble_eq_true rfl) d_rc_lay_71 ?_
          obtain rfl := Option.some.inj h
          exact fin _ _ ⟨.int, rfl, rfl⟩ d_rc_lay_74
        · replace h := if_p c8 h
          refine r_bipush (v := (-3)) (n := 53) rfl ok d_rc_lay_51 (by decide) ?_
          obtain rfl := Option.some.inj h
          exact fin _ _ ⟨.int, rfl, rfl⟩ d_rc_lay_53
      · replace h := if_p c6 h
        refine r_bipush (v := (-2)) (n := 38) rfl ok d_rc_lay_36 (by decide) ?_
        obtain rfl := Option.some.inj h
        exact fin _ _ ⟨.int, rfl, rfl⟩ d_rc_lay_38
    · replace h := if_p c4 h
      refine r_iconst (v := (-1)) (n := 21) rfl ok d_rc_lay_20 (by decide) ?_
      obtain rfl := Option.some.inj h
      exact fin _ _ ⟨.int, rfl, rfl⟩ d_rc_lay_21
set_option maxHeartbeats 4000000 in
set_option maxRecDepth 20000 in
theorem C_rc_enqueue {l : Launch} {G : Gt} {M : Me} {a1 : Int32} {a2 : Int32}  {o : Int32 × Me} (h : f_rc_enqueue M a1 a2 = some o) : Ct l G (WC G) (rC G) y_rc_enqueue b_rc_enqueue 4 (some .int) rm_rc_enqueue [.ref (G.1 + oRC), .int a1, .int a2] M (some (.int o.1)) o.2 := by
  refine Ct.mk (own := "RetryChains") rfl (by decide) (Nat.le_of_ble_eq_true rfl) ⟨_, rfl⟩ (fun X hXl hXR hXn ok hG fin => ?_)
  subst hXl
  unfold f_rc_enqueue at h
  show Wt X M 0 [(0, .ref (G.1 + oRC)), (1, .int a1), (2, .int a2)] []
  refine r_aload_n (n := 1) rfl ok d_rc_enqueue_0 rfl 0 rfl ?_
  refine g_RC_now (n := 4) rfl ok hG  k_349 d_rc_enqueue_1 ?_
  refine r_iload_n (n := 5) rfl ok d_rc_enqueue_4 rfl 1 rfl ?_
  obtain ⟨r1, hr1, h⟩ := bd_ok h
  refine r_callV (n := 8) rfl ok hG mf_nt_stationAt k_465 k_466 k_464 (C_nt_stationAt (by decide) hr1) ⟨rfl, rfl⟩ (rR hXR ⟨Nat.le_of_ble_eq_true rfl, Nat.le_of_ble_eq_true rfl⟩) rfl rfl (rv_NET (by decide)) rfl (Nat.le_of_ble_eq_true rfl) d_rc_enqueue_5 ?_
  rcases er1 : r1 with _ | p2
  · replace h := el_n er1 h
    try rw [er1]
    refine r_astore_nN (lv' := [(3, .null), (0, .ref (G.1 + oRC)), (1, .int a1), (2, .int a2)]) (n := 9) rfl ok d_rc_enqueue_8 rfl (lt_n hXn (Nat.le_of_ble_eq_true rfl)) rfl ?_
    refine r_aload_nN (n := 10) rfl ok d_rc_enqueue_9 rfl 0 rfl ?_
    refine r_ifnullN (tgt := 20) ok d_rc_enqueue_10 (by decide) ?_
    refine r_iconst (v := (-1)) (n := 21) rfl ok d_rc_enqueue_20 (by decide) ?_
    obtain rfl := Option.some.inj h
    exact fin _ _ ⟨.int, rfl, rfl⟩ d_rc_enqueue_21
  · replace h := el_s er1 h
    try rw [er1]
    have vp2 := v_nt_stationAt (by decide) (hr1.trans (congrArg some er1))
    refine r_astore_n (lv' := [(3, .ref (G.1 + oSTA p2.1 p2.2)), (0, .ref (G.1 + oRC)), (1, .int a1), (2, .int a2)]) (n := 9) rfl ok d_rc_enqueue_8 rfl (lt_n hXn (Nat.le_of_ble_eq_true rfl)) rfl ?_
    refine r_aload_n (n := 10) rfl ok d_rc_enqueue_9 rfl 0 rfl ?_
    refine r_ifnull (n := 13) rfl ok d_rc_enqueue_10 ?_
    refine r_iload_n (n := 14) rfl ok d_rc_enqueue_13 rfl 3 rfl ?_
    obtain ⟨r3, hr3, h⟩ := bd_ok h
    refine r_callS (n := 17) rfl ok hG mf_rc_isFrame k_497 k_496 (C_rc_isFrame  hr3) ⟨rfl, rfl⟩ (rR hXR ⟨Nat.le_of_ble_eq_true rfl, Nat.le_of_ble_eq_true rfl⟩) rfl rfl (Nat.le_of_ble_eq_true rfl) d_rc_enqueue_14 ?_
    refine r_if_ne (tgt := 22) (n := 20) rfl ok d_rc_enqueue_17 (by decide) (fun c4 => ?_) (fun c4 => ?_)
    · replace h := if_n c4 h
      refine r_aload_n (n := 23) rfl ok d_rc_enqueue_22 rfl 0 rfl ?_
      refine g_STA_queueLength (n := 26) rfl ok hG vp2.1 vp2.2 k_142 d_rc_enqueue_23 ?_
      refine r_bipush (v := 8) (n := 28) rfl ok d_rc_enqueue_26 (by decide) ?_
      refine r_icmp_lt (tgt := 34) (n := 31) rfl ok d_rc_enqueue_28 (by decide) (fun c5 => ?_) (fun c5 => ?_)
      · replace h := if_p c5 h
        refine r_aload_n (n := 35) rfl ok d_rc_enqueue_34 rfl 1 rfl ?_
        refine g_RC_history (n := 38) rfl ok hG  k_353 d_rc_enqueue_35 ?_
        refine r_aload_n (n := 39) rfl ok d_rc_enqueue_38 rfl 1 rfl ?_
        refine g_RC_now (n := 42) rfl ok hG  k_349 d_rc_enqueue_39 ?_
        obtain ⟨r6, hr6, h⟩ := bd_ok h
        refine r_callV (n := 45) rfl ok hG mf_hi_keep k_376 k_377 k_375 (C_hi_keep (by decide) hr6) ⟨rfl, rfl⟩ (rR hXR ⟨Nat.le_of_ble_eq_true rfl, Nat.le_of_ble_eq_true rfl⟩) rfl rfl (rv_HIS) rfl (Nat.le_of_ble_eq_true rfl) d_rc_enqueue_42 ?_
        refine r_aload_n (n := 46) rfl ok d_rc_enqueue_45 rfl 0 rfl ?_
        refine r_iload_n (n := 47) rfl ok d_rc_enqueue_46 rfl 3 rfl ?_
        obtain ⟨r7, hr7, h⟩ := bd_ok h
        refine r_callV (n := 50) rfl ok hG mf_st_appendFrame k_561 k_562 k_560 (C_st_appendFrame vp2.1 vp2.2 hr7) ⟨rfl, rfl⟩ (rR hXR ⟨Nat.le_of_ble_eq_true rfl, Nat.le_of_ble_eq_true rfl⟩) rfl rfl (rv_STA vp2.1 vp2.2) rfl (Nat.le_of_ble_eq_true rfl) d_rc_enqueue_47 ?_
        obtain rfl := Option.some.inj h
        exact fin _ _ ⟨.int, rfl, rfl⟩ d_rc_enqueue_50
      · replace h := if_n c5 h
        refine r_bipush (v := (-3)) (n := 33) rfl ok d_rc_enqueue_31 (by decide) ?_
        obtain rfl := Option.some.inj h
        exact fin _ _ ⟨.int, rfl, rfl⟩ d_rc_enqueue_33
    · replace h := if_p c4 h
      refine r_iconst (v := (-1)) (n := 21) rfl ok d_rc_enqueue_20 (by decide) ?_
      obtain rfl := Option.some.inj h
      exact fin _ _ ⟨.int, rfl, rfl⟩ d_rc_enqueue_21
set_option maxHeartbeats 4000000 in
set_option maxRecDepth 20000 in
theorem C_rc_dispatch {l : Launch} {G : Gt} {M : Me}   {o : Int32 × Me} (h : f_rc_dispatch M = some o) : Ct l G (WC G) (rC G) y_rc_dispatch b_rc_dispatch 2 (some .int) rm_rc_dispatch [.ref (G.1 + oRC)] M (some (.int o.1)) o.2 := by
  refine Ct.mk (own := "RetryChains") rfl (by decide) (Nat.le_of_ble_eq_true rfl) ⟨_, rfl⟩ (fun X hXl hXR hXn ok hG fin => ?_)
  subst hXl
  unfold f_rc_dispatch at h
  show Wt X M 0 [(0, .ref (G.1 + oRC))] []
  refine r_aload_n (n := 1) rfl ok d_rc_dispatch_0 rfl 0 rfl ?_
  refine g_RC_now (n := 4) rfl ok hG  k_349 d_rc_dispatch_1 ?_
  obtain ⟨r1, hr1, h⟩ := bd_ok h
  refine r_callV (n := 7) rfl ok hG mf_nt_freeChain k_504 k_505 k_503 (C_nt_freeChain (by decide) hr1) ⟨rfl, rfl⟩ (rR hXR ⟨Nat.le_of_ble_eq_true rfl, Nat.le_of_ble_eq_true rfl⟩) rfl rfl (rv_NET (by decide)) rfl (Nat.le_of_ble_eq_true rfl) d_rc_dispatch_4 ?_
  refine r_bipush (v := (-9)) (n := 9) rfl ok d_rc_dispatch_7 (by decide) ?_
  refine r_icmp_ne (tgt := 15) (n := 12) rfl ok d_rc_dispatch_9 (by decide) (fun c2 => ?_) (fun c2 => ?_)
  · replace h := if_n c2 h
    refine r_aload_n (n := 16) rfl ok d_rc_dispatch_15 rfl 0 rfl ?_
    refine g_RC_now (n := 19) rfl ok hG  k_349 d_rc_dispatch_16 ?_
    obtain ⟨r3, hr3, h⟩ := bd_ok h
    refine r_callV (n := 22) rfl ok hG mf_nt_hasReadyStation k_569 k_570 k_568 (C_nt_hasReadyStation (by decide) hr3) ⟨rfl, rfl⟩ (rR hXR ⟨Nat.le_of_ble_eq_true rfl, Nat.le_of_ble_eq_true rfl⟩) rfl rfl (rv_NET (by decide)) rfl (Nat.le_of_ble_eq_true rfl) d_rc_dispatch_19 ?_
    refine r_if_ne (tgt := 28) (n := 25) rfl ok d_rc_dispatch_22 (by decide) (fun c4 => ?_) (fun c4 => ?_)
    · replace h := if_n c4 h
      refine r_aload_n (n := 29) rfl ok d_rc_dispatch_28 rfl 0 rfl ?_
      refine g_RC_history (n := 32) rfl ok hG  k_353 d_rc_dispatch_29 ?_
      refine r_aload_n (n := 33) rfl ok d_rc_dispatch_32 rfl 0 rfl ?_
      refine g_RC_now (n := 36) rfl ok hG  k_349 d_rc_dispatch_33 ?_
      obtain ⟨r5, hr5, h⟩ := bd_ok h
      refine r_callV (n := 39) rfl ok hG mf_hi_keep k_376 k_377 k_375 (C_hi_keep (by decide) hr5) ⟨rfl, rfl⟩ (rR hXR ⟨Nat.le_of_ble_eq_true rfl, Nat.le_of_ble_eq_true rfl⟩) rfl rfl (rv_HIS) rfl (Nat.le_of_ble_eq_true rfl) d_rc_dispatch_36 ?_
      refine r_aload_n (n := 40) rfl ok d_rc_dispatch_39 rfl 0 rfl ?_
      refine g_RC_now (n := 43) rfl ok hG  k_349 d_rc_dispatch_40 ?_
      obtain ⟨r6, hr6, h⟩ := bd_ok h
      refine r_callV (n := 46) rfl ok hG mf_nt_chooseByDeficit k_578 k_579 k_577 (C_nt_chooseByDeficit (by decide) hr6) ⟨rfl, rfl⟩ (rR hXR ⟨Nat.le_of_ble_eq_true rfl, Nat.le_of_ble_eq_true rfl⟩) rfl rfl (rv_NET (by decide)) rfl (Nat.le_of_ble_eq_true rfl) d_rc_dispatch_43 ?_
      rcases er6 : r6.1 with _ | p7
      · replace h := el_n er6 h
        try rw [er6]
        refine r_astore_nN (lv' := [(1, .null), (0, .ref (G.1 + oRC))]) (n := 47) rfl ok d_rc_dispatch_46 rfl (lt_n hXn (Nat.le_of_ble_eq_true rfl)) rfl ?_
        refine r_aload_nN (n := 48) rfl ok d_rc_dispatch_47 rfl 0 rfl ?_
        refine r_ifnonnullN (n := 51) rfl ok d_rc_dispatch_48 ?_
        refine r_bipush (v := (-9)) (n := 53) rfl ok d_rc_dispatch_51 (by decide) ?_
        refine r_goto (tgt := 68) ok d_rc_dispatch_53 (by decide) ?_
        obtain rfl := Option.some.inj h
        exact fin _ _ ⟨.int, rfl, rfl⟩ d_rc_dispatch_68
      · replace h := el_s er6 h
        try rw [er6]
        have vp7 := v_nt_chooseByDeficit (by decide) (hr6.trans (congrArg some (Prod.ext er6 rfl)))
        refine r_astore_n (lv' := [(1, .ref (G.1 + oSTA p7.1 p7.2)), (0, .ref (G.1 + oRC))]) (n := 47) rfl ok d_rc_dispatch_46 rfl (lt_n hXn (Nat.le_of_ble_eq_true rfl)) rfl ?_
        refine r_aload_n (n := 48) rfl ok d_rc_dispatch_47 rfl 0 rfl ?_
        refine r_ifnonnull (tgt := 56) ok d_rc_dispatch_48 (by decide) ?_
        refine r_aload_n (n := 57) rfl ok d_rc_dispatch_56 rfl 1 rfl ?_
        refine g_RC_now (n := 60) rfl ok hG  k_349 d_rc_dispatch_57 ?_
        refine r_aload_n (n := 61) rfl ok d_rc_dispatch_60 rfl 0 rfl ?_
        refine r_aload_n (n := 62) rfl ok d_rc_dispatch_61 rfl 0 rfl ?_
        obtain ⟨r8, hr8, h⟩ := bd_ok h
        refine r_callV (n := 65) rfl ok hG mf_st_takeFrame k_583 k_584 k_582 (C_st_takeFrame vp7.1 vp7.2 hr8) ⟨rfl, rfl⟩ (rR hXR ⟨Nat.le_of_ble_eq_true rfl, Nat.le_of_ble_eq_true rfl⟩) rfl rfl (rv_STA vp7.1 vp7.2) rfl (Nat.le_of_ble_eq_true rfl) d_rc_dispatch_62 ?_
        obtain ⟨r9, hr9, h⟩ := bd_ok h
        refine r_callV (n := 68) rfl ok hG mf_nt_openChain k_508 k_509 k_507 (C_nt_openChain (by decide) vp7.1 vp7.2 hr9) ⟨rfl, rfl⟩ (rR hXR ⟨Nat.le_of_ble_eq_true rfl, Nat.le_of_ble_eq_true rfl⟩) rfl rfl (rv_NET (by decide)) rfl (Nat.le_of_ble_eq_true rfl) d_rc_dispatch_65 ?_
        obtain rfl := Option.some.inj h
        exact fin _ _ ⟨.int, rfl, rfl⟩ d_rc_dispatch_68
    · replace h := if_p c4 h
      refine r_bipush (v := (-9)) (n := 27) rfl ok d_rc_dispatch_25 (by decide) ?_
      obtain rfl := Option.some.inj h
      exact fin _ _ ⟨.int, rfl, rfl⟩ d_rc_dispatch_27
  · replace h := if_p c2 h
    refine r_bipush (v := (-3)) (n := 14) rfl ok d_rc_dispatch_12 (by decide) ?_
    obtain rfl := Option.some.inj h
    exact fin _ _ ⟨.int, rfl, rfl⟩ d_rc_dispatch_14
set_option maxHeartbeats 4000000 in
set_option maxRecDepth 20000 in
theorem C_rc_report {l : Launch} {G : Gt} {M : Me} {a1 : Int32} {a2 : Int32} {a3 : Int32}  {o : Int32 × Me} (h : f_rc_report M a1 a2 a3 = some o) : Ct l G (WC G) (rC G) y_rc_report b_rc_report 6 (some .int) rm_rc_report [.ref (G.1 + oRC), .int a1, .int a2, .int a3] M (some (.int o.1)) o.2 := by
  refine Ct.mk (own := "RetryChains") rfl (by decide) (Nat.le_of_ble_eq_true rfl) ⟨_, rfl⟩ (fun X hXl hXR hXn ok hG fin => ?_)
  subst hXl
  unfold f_rc_report at h
  show Wt X M 0 [(0, .ref (G.1 + oRC)), (1, .int a1), (2, .int a2), (3, .int a3)] []
  refine r_aload_n (n := 1) rfl ok d_rc_report_0 rfl 0 rfl ?_
  refine g_RC_now (n := 4) rfl ok hG  k_349 d_rc_report_1 ?_
  refine r_iload_n (n := 5) rfl ok d_rc_report_4 rfl 1 rfl ?_
  obtain ⟨r1, hr1, h⟩ := bd_ok h
  refine r_callV (n := 8) rfl ok hG mf_nt_chainAt k_592 k_593 k_591 (C_nt_chainAt (by decide) hr1) ⟨rfl, rfl⟩ (rR hXR ⟨Nat.le_of_ble_eq_true rfl, Nat.le_of_ble_eq_true rfl⟩) rfl rfl (rv_NET (by decide)) rfl (Nat.le_of_ble_eq_true rfl) d_rc_report_5 ?_
  rcases er1 : r1 with _ | p2
  · replace h := el_n er1 h
    try rw [er1]
    refine r_astoreN (lv' := [(4, .null), (0, .ref (G.1 + oRC)), (1, .int a1), (2, .int a2), (3, .int a3)]) (n := 10) rfl ok d_rc_report_8 (lt_n hXn (Nat.le_of_ble_eq_true rfl)) rfl ?_
    refine r_aloadN (n := 12) rfl ok d_rc_report_10 0 rfl ?_
    refine r_ifnullN (tgt := 29) ok d_rc_report_12 (by decide) ?_
    refine r_iconst (v := (-1)) (n := 30) rfl ok d_rc_report_29 (by decide) ?_
    obtain rfl := Option.some.inj h
    exact fin _ _ ⟨.int, rfl, rfl⟩ d_rc_report_30
  · replace h := el_s er1 h
    try rw [er1]
    have vp2 := v_nt_chainAt (by decide) (hr1.trans (congrArg some er1))
    refine r_astore (lv' := [(4, .ref (G.1 + oCHN p2.1 p2.2)), (0, .ref (G.1 + oRC)), (1, .int a1), (2, .int a2), (3, .int a3)]) (n := 10) rfl ok d_rc_report_8 (lt_n hXn (Nat.le_of_ble_eq_true rfl)) rfl ?_
    refine r_aload (n := 12) rfl ok d_rc_report_10 0 rfl ?_
    refine r_ifnull (n := 15) rfl ok d_rc_report_12 ?_
    refine r_iload_n (n := 16) rfl ok d_rc_report_15 rfl 3 rfl ?_
    refine r_iconst (v := 1) (n := 17) rfl ok d_rc_report_16 (by decide) ?_
    refine r_icmp_lt (tgt := 29) (n := 20) rfl ok d_rc_report_17 (by decide) (fun c3 => ?_) (fun c3 => ?_)
    · replace h := if_p c3 h
      refine r_iconst (v := (-1)) (n := 30) rfl ok d_rc_report_29 (by decide) ?_
      obtain rfl := Option.some.inj h
      exact fin _ _ ⟨.int, rfl, rfl⟩ d_rc_report_30
    · replace h := if_n c3 h
      refine r_iload_n (n := 21) rfl ok d_rc_report_20 rfl 3 rfl ?_
      refine r_aload (n := 23) rfl ok d_rc_report_21 0 rfl ?_
      obtain ⟨r4, hr4, h⟩ := bd_ok h
      refine r_callV (n := 26) rfl ok hG mf_ch_allTries k_596 k_597 k_595 (C_ch_allTries vp2.1 vp2.2 hr4) ⟨rfl, rfl⟩ (rR hXR ⟨Nat.le_of_ble_eq_true rfl, Nat.le_of_ble_eq_true rfl⟩) rfl rfl (rv_CHN vp2.1 vp2.2) rfl (Nat.le_of_ble_eq_true rfl) d_rc_report_23 ?_
      refine r_icmp_le (tgt := 31) (n := 29) rfl ok d_rc_report_26 (by decide) (fun c5 => ?_) (fun c5 => ?_)
      · replace h := if_p c5 h
        refine r_iload_n (n := 32) rfl ok d_rc_report_31 rfl 4 rfl ?_
        refine r_if_ne (tgt := 46) (n := 35) rfl ok d_rc_report_32 (by decide) (fun c6 => ?_) (fun c6 => ?_)
        · replace h := if_n c6 h
          refine r_aload_n (n := 47) rfl ok d_rc_report_46 rfl 1 rfl ?_
          refine g_RC_now (n := 50) rfl ok hG  k_349 d_rc_report_47 ?_
          refine r_aload (n := 52) rfl ok d_rc_report_50 0 rfl ?_
          refine r_iload_n (n := 53) rfl ok d_rc_report_52 rfl 3 rfl ?_
          obtain ⟨r7, hr7, h⟩ := bd_ok h
          refine r_callV (n := 56) rfl ok hG mf_nt_timeOfTries k_600 k_601 k_599 (C_nt_timeOfTries (by decide) vp2.1 vp2.2 hr7) ⟨rfl, rfl⟩ (rR hXR ⟨Nat.le_of_ble_eq_true rfl, Nat.le_of_ble_eq_true rfl⟩) rfl rfl (rv_NET (by decide)) rfl (Nat.le_of_ble_eq_true rfl) d_rc_report_53 ?_
          refine r_istore (lv' := [(5, .int r7), (4, .ref (G.1 + oCHN p2.1 p2.2)), (0, .ref (G.1 + oRC)), (1, .int a1), (2, .int a2), (3, .int a3)]) (n := 58) rfl ok d_rc_report_56 (lt_n hXn (Nat.le_of_ble_eq_true rfl)) rfl ?_
          refine r_iload (n := 60) rfl ok d_rc_report_58 0 rfl ?_
          refine r_ldc (n := 62) rfl ok d_rc_report_60 k_605 ?_
          refine r_aload_n (n := 63) rfl ok d_rc_report_62 rfl 2 rfl ?_
          refine g_RC_now (n := 66) rfl ok hG  k_349 d_rc_report_63 ?_
          refine g_NET_time (n := 69) rfl ok hG (by decide) k_250 d_rc_report_66 ?_
          refine r_isub (n := 70) rfl ok d_rc_report_69 ?_
          refine r_icmp_le (tgt := 76) (n := 73) rfl ok d_rc_report_70 (by decide) (fun c8 => ?_) (fun c8 => ?_)
          · replace h := if_p c8 h
            refine r_aload_n (n := 77) rfl ok d_rc_report_76 rfl 2 rfl ?_
            refine g_RC_history (n := 80) rfl ok hG  k_353 d_rc_report_77 ?_
            refine r_aload_n (n := 81) rfl ok d_rc_report_80 rfl 2 rfl ?_
            refine g_RC_now (n := 84) rfl ok hG  k_349 d_rc_report_81 ?_
            obtain ⟨r9, hr9, h⟩ := bd_ok h
            refine r_callV (n := 87) rfl ok hG mf_hi_keep k_376 k_377 k_375 (C_hi_keep (by decide) hr9) ⟨rfl, rfl⟩ (rR hXR ⟨Nat.le_of_ble_eq_true rfl, Nat.le_of_ble_eq_true rfl⟩) rfl rfl (rv_HIS) rfl (Nat.le_of_ble_eq_true rfl) d_rc_report_84 ?_
            refine r_aload_n (n := 88) rfl ok d_rc_report_87 rfl 2 rfl ?_
            refine g_RC_now (n := 91) rfl ok hG  k_349 d_rc_report_88 ?_
            refine r_aload (n := 93) rfl ok d_rc_report_91 1 rfl ?_
            refine r_iload_n (n := 94) rfl ok d_rc_report_93 rfl 4 rfl ?_
            refine r_iload_n (n := 95) rfl ok d_rc_report_94 rfl 5 rfl ?_
            obtain ⟨r10, hr10, h⟩ := bd_ok h
            refine r_callV (n := 98) rfl ok hG mf_nt_conclude k_607 k_608 k_606 (C_nt_conclude (by decide) vp2.1 vp2.2 hr10) ⟨rfl, rfl⟩ (rR hXR ⟨Nat.le_of_ble_eq_true rfl, Nat.le_of_ble_eq_true rfl⟩) rfl rfl (rv_NET (by decide)) rfl (Nat.le_of_ble_eq_true rfl) d_rc_report_95 ?_
            refine r_aload_n (n := 99) rfl ok d_rc_report_98 rfl 2 rfl ?_
            refine g_RC_now (n := 102) rfl ok hG  k_349 d_rc_report_99 ?_
            obtain ⟨r11, hr11, h⟩ := bd_ok h
            refine r_callV (n := 105) rfl ok hG mf_nt_updateEnded k_634 k_635 k_633 (C_nt_updateEnded (by decide) hr11) ⟨rfl, rfl⟩ (rR hXR ⟨Nat.le_of_ble_eq_true rfl, Nat.le_of_ble_eq_true rfl⟩) rfl rfl (rv_NET (by decide)) rfl (Nat.le_of_ble_eq_true rfl) d_rc_report_102 ?_
            refine r_iload (n := 107) rfl ok d_rc_report_105 0 rfl ?_
            obtain rfl := Option.some.inj h
            exact fin _ _ ⟨.int, rfl, rfl⟩ d_rc_report_107
          · replace h := if_n c8 h
            refine r_bipush (v := (-4)) (n := 75) rfl ok d_rc_report_73 (by decide) ?_
            obtain rfl := Option.some.inj h
            exact fin _ _ ⟨.int, rfl, rfl⟩ d_rc_report_75
        · replace h := if_p c6 h
          refine r_iload_n (n := 36) rfl ok d_rc_report_35 rfl 3 rfl ?_
          refine r_aload (n := 38) rfl ok d_rc_report_36 0 rfl ?_
          obtain ⟨r12, hr12, h⟩ := bd_ok h
          refine r_callV (n := 41) rfl ok hG mf_ch_allTries k_596 k_597 k_595 (C_ch_allTries vp2.1 vp2.2 hr12) ⟨rfl, rfl⟩ (rR hXR ⟨Nat.le_of_ble_eq_true rfl, Nat.le_of_ble_eq_true rfl⟩) rfl rfl (rv_CHN vp2.1 vp2.2) rfl (Nat.le_of_ble_eq_true rfl) d_rc_report_38 ?_
          refine r_icmp_ge (tgt := 46) (n := 44) rfl ok d_rc_report_41 (by decide) (fun c13 => ?_) (fun c13 => ?_)
          · replace h := if_p c13 h
            refine r_aload_n (n := 47) rfl ok d_rc_report_46 rfl 1 rfl ?_
            refine g_RC_now (n := 50) rfl ok hG  k_349 d_rc_report_47 ?_
            refine r_aload (n := 52) rfl ok d_rc_report_50 0 rfl ?_
            refine r_iload_n (n := 53) rfl ok d_rc_report_52 rfl 3 rfl ?_
            obtain ⟨r14, hr14, h⟩ := bd_ok h
            refine r_callV (n := 56) rfl ok hG mf_nt_timeOfTries k_600 k_601 k_599 (C_nt_timeOfTries (by decide) vp2.1 vp2.2 hr14) ⟨rfl, rfl⟩ (rR hXR ⟨Nat.le_of_ble_eq_true rfl, Nat.le_of_ble_eq_true rfl⟩) rfl rfl (rv_NET (by decide)) rfl (Nat.le_of_ble_eq_true rfl) d_rc_report_53 ?_
            refine r_istore (lv' := [(5, .int r14), (4, .ref (G.1 + oCHN p2.1 p2.2)), (0, .ref (G.1 + oRC)), (1, .int a1), (2, .int a2), (3, .int a3)]) (n := 58) rfl ok d_rc_report_56 (lt_n hXn (Nat.le_of_ble_eq_true rfl)) rfl ?_
            refine r_iload (n := 60) rfl ok d_rc_report_58 0 rfl ?_
            refine r_ldc (n := 62) rfl ok d_rc_report_60 k_605 ?_
            refine r_aload_n (n := 63) rfl ok d_rc_report_62 rfl 2 rfl ?_
            refine g_RC_now (n := 66) rfl ok hG  k_349 d_rc_report_63 ?_
            refine g_NET_time (n := 69) rfl ok hG (by decide) k_250 d_rc_report_66 ?_
            refine r_isub (n := 70) rfl ok d_rc_report_69 ?_
            refine r_icmp_le (tgt := 76) (n := 73) rfl ok d_rc_report_70 (by decide) (fun c15 => ?_) (fun c15 => ?_)
            · replace h := if_p c15 h
              refine r_aload_n (n := 77) rfl ok d_rc_report_76 rfl 2 rfl ?_
              refine g_RC_history (n := 80) rfl ok hG  k_353 d_rc_report_77 ?_
              refine r_aload_n (n := 81) rfl ok d_rc_report_80 rfl 2 rfl ?_
              refine g_RC_now (n := 84) rfl ok hG  k_349 d_rc_report_81 ?_
              obtain ⟨r16, hr16, h⟩ := bd_ok h
              refine r_callV (n := 87) rfl ok hG mf_hi_keep k_376 k_377 k_375 (C_hi_keep (by decide) hr16) ⟨rfl, rfl⟩ (rR hXR ⟨Nat.le_of_ble_eq_true rfl, Nat.le_of_ble_eq_true rfl⟩) rfl rfl (rv_HIS) rfl (Nat.le_of_ble_eq_true rfl) d_rc_report_84 ?_
              refine r_aload_n (n := 88) rfl ok d_rc_report_87 rfl 2 rfl ?_
              refine g_RC_now (n := 91) rfl ok hG  k_349 d_rc_report_88 ?_
              refine r_aload (n := 93) rfl ok d_rc_report_91 1 rfl ?_
              refine r_iload_n (n := 94) rfl ok d_rc_report_93 rfl 4 rfl ?_
              refine r_iload_n (n := 95) rfl ok d_rc_report_94 rfl 5 rfl ?_
              obtain ⟨r17, hr17, h⟩ := bd_ok h
              refine r_callV (n := 98) rfl ok hG mf_nt_conclude k_607 k_608 k_606 (C_nt_conclude (by decide) vp2.1 vp2.2 hr17) ⟨rfl, rfl⟩ (rR hXR ⟨Nat.le_of_ble_eq_true rfl, Nat.le_of_ble_eq_true rfl⟩) rfl rfl (rv_NET (by decide)) rfl (Nat.le_of_ble_eq_true rfl) d_rc_report_95 ?_
              refine r_aload_n (n := 99) rfl ok d_rc_report_98 rfl 2 rfl ?_
              refine g_RC_now (n := 102) rfl ok hG  k_349 d_rc_report_99 ?_
              obtain ⟨r18, hr18, h⟩ := bd_ok h
              refine r_callV (n := 105) rfl ok hG mf_nt_updateEnded k_634 k_635 k_633 (C_nt_updateEnded (by decide) hr18) ⟨rfl, rfl⟩ (rR hXR ⟨Nat.le_of_ble_eq_true rfl, Nat.le_of_ble_eq_true rfl⟩) rfl rfl (rv_NET (by decide)) rfl (Nat.le_of_ble_eq_true rfl) d_rc_report_102 ?_
              refine r_iload (n := 107) rfl ok d_rc_report_105 0 rfl ?_
              obtain rfl := Option.some.inj h
              exact fin _ _ ⟨.int, rfl, rfl⟩ d_rc_report_107
            · replace h := if_n c15 h
              refine r_bipush (v := (-4)) (n := 75) rfl ok d_rc_report_73 (by decide) ?_
              obtain rfl := Option.some.inj h
              exact fin _ _ ⟨.int, rfl, rfl⟩ d_rc_report_75
          · replace h := if_n c13 h
            refine r_iconst (v := (-1)) (n := 45) rfl ok d_rc_report_44 (by decide) ?_
            obtain rfl := Option.some.inj h
            exact fin _ _ ⟨.int, rfl, rfl⟩ d_rc_report_45
      · replace h := if_n c5 h
        refine r_iconst (v := (-1)) (n := 30) rfl ok d_rc_report_29 (by decide) ?_
        obtain rfl := Option.some.inj h
        exact fin _ _ ⟨.int, rfl, rfl⟩ d_rc_report_30
set_option maxHeartbeats 4000000 in
set_option maxRecDepth 20000 in
theorem C_rc_pass {l : Launch} {G : Gt} {M : Me} {a1 : Int32}  {o : Int32 × Me} (h : f_rc_pass M a1 = some o) : Ct l G (WC G) (rC G) y_rc_pass b_rc_pass 2 (some .int) rm_rc_pass [.ref (G.1 + oRC), .int a1] M (some (.int o.1)) o.2 := by
  refine Ct.mk (own := "RetryChains") rfl (by decide) (Nat.le_of_ble_eq_true rfl) ⟨_, rfl⟩ (fun X hXl hXR hXn ok hG fin => ?_)
  subst hXl
  unfold f_rc_pass at h
  show Wt X M 0 [(0, .ref (G.1 + oRC)), (1, .int a1)] []
  refine r_iload_n (n := 1) rfl ok d_rc_pass_0 rfl 1 rfl ?_
  refine r_if_ge (tgt := 6) (n := 4) rfl ok d_rc_pass_1 (by decide) (fun c1 => ?_) (fun c1 => ?_)
  · replace h := if_p c1 h
    refine r_iload_n (n := 7) rfl ok d_rc_pass_6 rfl 1 rfl ?_
    refine r_ldc (n := 9) rfl ok d_rc_pass_7 k_605 ?_
    refine r_aload_n (n := 10) rfl ok d_rc_pass_9 rfl 0 rfl ?_
    refine g_RC_now (n := 13) rfl ok hG  k_349 d_rc_pass_10 ?_
    refine g_NET_time (n := 16) rfl ok hG (by decide) k_250 d_rc_pass_13 ?_
    refine r_isub (n := 17) rfl ok d_rc_pass_16 ?_
    refine r_icmp_le (tgt := 23) (n := 20) rfl ok d_rc_pass_17 (by decide) (fun c2 => ?_) (fun c2 => ?_)
    · replace h := if_p c2 h
      refine r_aload_n (n := 24) rfl ok d_rc_pass_23 rfl 0 rfl ?_
      refine g_RC_history (n := 27) rfl ok hG  k_353 d_rc_pass_24 ?_
      refine r_aload_n (n := 28) rfl ok d_rc_pass_27 rfl 0 rfl ?_
      refine g_RC_now (n := 31) rfl ok hG  k_349 d_rc_pass_28 ?_
      obtain ⟨r3, hr3, h⟩ := bd_ok h
      refine r_callV (n := 34) rfl ok hG mf_hi_keep k_376 k_377 k_375 (C_hi_keep (by decide) hr3) ⟨rfl, rfl⟩ (rR hXR ⟨Nat.le_of_ble_eq_true rfl, Nat.le_of_ble_eq_true rfl⟩) rfl rfl (rv_HIS) rfl (Nat.le_of_ble_eq_true rfl) d_rc_pass_31 ?_
      refine r_aload_n (n := 35) rfl ok d_rc_pass_34 rfl 0 rfl ?_
      refine g_RC_now (n := 38) rfl ok hG  k_349 d_rc_pass_35 ?_
      refine r_dup (n := 39) rfl ok d_rc_pass_38 rfl ?_
      refine g_NET_time (n := 42) rfl ok hG (by decide) k_250 d_rc_pass_39 ?_
      refine r_iload_n (n := 43) rfl ok d_rc_pass_42 rfl 1 rfl ?_
      refine r_iadd (n := 44) rfl ok d_rc_pass_43 ?_
      obtain ⟨M4, eM4, h⟩ := bd_ok h
      refine p_NET_time (n := 47) rfl ok hG (by decide) k_250 d_rc_pass_44 ?_
      refine r_mem (Option.some.inj eM4) ?_
      refine r_aload_n (n := 48) rfl ok d_rc_pass_47 rfl 0 rfl ?_
      refine g_RC_now (n := 51) rfl ok hG  k_349 d_rc_pass_48 ?_
      obtain ⟨r5, hr5, h⟩ := bd_ok h
      refine r_callV (n := 54) rfl ok hG mf_nt_updateEnded k_634 k_635 k_633 (C_nt_updateEnded (by decide) hr5) ⟨rfl, rfl⟩ (rR hXR ⟨Nat.le_of_ble_eq_true rfl, Nat.le_of_ble_eq_true rfl⟩) rfl rfl (rv_NET (by decide)) rfl (Nat.le_of_ble_eq_true rfl) d_rc_pass_51 ?_
      refine r_aload_n (n := 55) rfl ok d_rc_pass_54 rfl 0 rfl ?_
      refine g_RC_now (n := 58) rfl ok hG  k_349 d_rc_pass_55 ?_
      refine g_NET_time (n := 61) rfl ok hG (by decide) k_250 d_rc_pass_58 ?_
      obtain rfl := Option.some.inj h
      exact fin _ _ ⟨.int, rfl, rfl⟩ d_rc_pass_61
    · replace h := if_n c2 h
      refine r_bipush (v := (-4)) (n := 22) rfl ok d_rc_pass_20 (by decide) ?_
      obtain rfl := Option.some.inj h
      exact fin _ _ ⟨.int, rfl, rfl⟩ d_rc_pass_22
  · replace h := if_n c1 h
    refine r_iconst (v := (-1)) (n := 5) rfl ok d_rc_pass_4 (by decide) ?_
    obtain rfl := Option.some.inj h
    exact fin _ _ ⟨.int, rfl, rfl⟩ d_rc_pass_5
set_option maxHeartbeats 4000000 in
set_option maxRecDepth 20000 in
theorem C_rc_update {l : Launch} {G : Gt} {M : Me} {a1 : Int32}  {o : Int32 × Me} (h : f_rc_update M a1 = some o) : Ct l G (WC G) (rC G) y_rc_update b_rc_update 3 (some .int) rm_rc_update [.ref (G.1 + oRC), .int a1] M (some (.int o.1)) o.2 := by
  refine Ct.mk (own := "RetryChains") rfl (by decide) (Nat.le_of_ble_eq_true rfl) ⟨_, rfl⟩ (fun X hXl hXR hXn ok hG fin => ?_)
  subst hXl
  unfold f_rc_update at h
  show Wt X M 0 [(0, .ref (G.1 + oRC)), (1, .int a1)] []
  refine r_aload_n (n := 1) rfl ok d_rc_update_0 rfl 0 rfl ?_
  refine g_RC_now (n := 4) rfl ok hG  k_349 d_rc_update_1 ?_
  refine r_iload_n (n := 5) rfl ok d_rc_update_4 rfl 1 rfl ?_
  obtain ⟨r1, hr1, h⟩ := bd_ok h
  refine r_callV (n := 8) rfl ok hG mf_nt_stationAt k_465 k_466 k_464 (C_nt_stationAt (by decide) hr1) ⟨rfl, rfl⟩ (rR hXR ⟨Nat.le_of_ble_eq_true rfl, Nat.le_of_ble_eq_true rfl⟩) rfl rfl (rv_NET (by decide)) rfl (Nat.le_of_ble_eq_true rfl) d_rc_update_5 ?_
  rcases er1 : r1 with _ | p2
  · replace h := el_n er1 h
    try rw [er1]
    refine r_astore_nN (lv' := [(2, .null), (0, .ref (G.1 + oRC)), (1, .int a1)]) (n := 9) rfl ok d_rc_update_8 rfl (lt_n hXn (Nat.le_of_ble_eq_true rfl)) rfl ?_
    refine r_aload_nN (n := 10) rfl ok d_rc_update_9 rfl 0 rfl ?_
    refine r_ifnonnullN (n := 13) rfl ok d_rc_update_10 ?_
    refine r_iconst (v := (-1)) (n := 14) rfl ok d_rc_update_13 (by decide) ?_
    obtain rfl := Option.some.inj h
    exact fin _ _ ⟨.int, rfl, rfl⟩ d_rc_update_14
  · replace h := el_s er1 h
    try rw [er1]
    have vp2 := v_nt_stationAt (by decide) (hr1.trans (congrArg some er1))
    refine r_astore_n (lv' := [(2, .ref (G.1 + oSTA p2.1 p2.2)), (0, .ref (G.1 + oRC)), (1, .int a1)]) (n := 9) rfl ok d_rc_update_8 rfl (lt_n hXn (Nat.le_of_ble_eq_true rfl)) rfl ?_
    refine r_aload_n (n := 10) rfl ok d_rc_update_9 rfl 0 rfl ?_
    refine r_ifnonnull (tgt := 15) ok d_rc_update_10 (by decide) ?_
    refine r_aload_n (n := 16) rfl ok d_rc_update_15 rfl 1 rfl ?_
    refine g_RC_history (n := 19) rfl ok hG  k_353 d_rc_update_16 ?_
    refine r_aload_n (n := 20) rfl ok d_rc_update_19 rfl 1 rfl ?_
    refine g_RC_now (n := 23) rfl ok hG  k_349 d_rc_update_20 ?_
    obtain ⟨r3, hr3, h⟩ := bd_ok h
    refine r_callV (n := 26) rfl ok hG mf_hi_keep k_376 k_377 k_375 (C_hi_keep (by decide) hr3) ⟨rfl, rfl⟩ (rR hXR ⟨Nat.le_of_ble_eq_true rfl, Nat.le_of_ble_eq_true rfl⟩) rfl rfl (rv_HIS) rfl (Nat.le_of_ble_eq_true rfl) d_rc_update_23 ?_
    refine r_aload_n (n := 27) rfl ok d_rc_update_26 rfl 1 rfl ?_
    refine g_RC_now (n := 30) rfl ok hG  k_349 d_rc_update_27 ?_
    refine r_aload_n (n := 31) rfl ok d_rc_update_30 rfl 0 rfl ?_
    obtain ⟨r4, hr4, h⟩ := bd_ok h
    refine r_callV (n := 34) rfl ok hG mf_nt_refresh k_638 k_639 k_696 (C_nt_refresh (by decide) vp2.1 vp2.2 hr4) ⟨rfl, rfl⟩ (rR hXR ⟨Nat.le_of_ble_eq_true rfl, Nat.le_of_ble_eq_true rfl⟩) rfl rfl (rv_NET (by decide)) rfl (Nat.le_of_ble_eq_true rfl) d_rc_update_31 ?_
    obtain rfl := Option.some.inj h
    exact fin _ _ ⟨.int, rfl, rfl⟩ d_rc_update_34
set_option maxHeartbeats 4000000 in
set_option maxRecDepth 20000 in
theorem C_rc_kind {l : Launch} {G : Gt} {M : Me} {a1 : Int32}  {o : Int32} (h : f_rc_kind M a1 = some o) : Ct l G (WC G) (rC G) y_rc_kind b_rc_kind 3 (some .int) rm_rc_kind [.ref (G.1 + oRC), .int a1] M (some (.int o)) M := by
  refine Ct.mk (own := "RetryChains") rfl (by decide) (Nat.le_of_ble_eq_true rfl) ⟨_, rfl⟩ (fun X hXl hXR hXn ok hG fin => ?_)
  subst hXl
  unfold f_rc_kind at h
  show Wt X M 0 [(0, .ref (G.1 + oRC)), (1, .int a1)] []
  refine r_aload_n (n := 1) rfl ok d_rc_kind_0 rfl 0 rfl ?_
  refine g_RC_now (n := 4) rfl ok hG  k_349 d_rc_kind_1 ?_
  refine r_iload_n (n := 5) rfl ok d_rc_kind_4 rfl 1 rfl ?_
  obtain ⟨r1, hr1, h⟩ := bd_ok h
  refine r_callV (n := 8) rfl ok hG mf_nt_chainAt k_592 k_593 k_591 (C_nt_chainAt (by decide) hr1) ⟨rfl, rfl⟩ (rR hXR ⟨Nat.le_of_ble_eq_true rfl, Nat.le_of_ble_eq_true rfl⟩) rfl rfl (rv_NET (by decide)) rfl (Nat.le_of_ble_eq_true rfl) d_rc_kind_5 ?_
  rcases er1 : r1 with _ | p2
  · replace h := el_n er1 h
    try rw [er1]
    refine r_astore_nN (lv' := [(2, .null), (0, .ref (G.1 + oRC)), (1, .int a1)]) (n := 9) rfl ok d_rc_kind_8 rfl (lt_n hXn (Nat.le_of_ble_eq_true rfl)) rfl ?_
    refine r_aload_nN (n := 10) rfl ok d_rc_kind_9 rfl 0 rfl ?_
    refine r_ifnonnullN (n := 13) rfl ok d_rc_kind_10 ?_
    refine r_iconst (v := (-1)) (n := 14) rfl ok d_rc_kind_13 (by decide) ?_
    refine r_goto (tgt := 21) ok d_rc_kind_14 (by decide) ?_
    obtain rfl := Option.some.inj h
    exact fin _ _ ⟨.int, rfl, rfl⟩ d_rc_kind_21
  · replace h := el_s er1 h
    try rw [er1]
    have vp2 := v_nt_chainAt (by decide) (hr1.trans (congrArg some er1))
    refine r_astore_n (lv' := [(2, .ref (G.1 + oCHN p2.1 p2.2)), (0, .ref (G.1 + oRC)), (1, .int a1)]) (n := 9) rfl ok d_rc_kind_8 rfl (lt_n hXn (Nat.le_of_ble_eq_true rfl)) rfl ?_
    refine r_aload_n (n := 10) rfl ok d_rc_kind_9 rfl 0 rfl ?_
    refine r_ifnonnull (tgt := 17) ok d_rc_kind_10 (by decide) ?_
    refine r_aload_n (n := 18) rfl ok d_rc_kind_17 rfl 0 rfl ?_
    refine g_CHN_kind (n := 21) rfl ok hG vp2.1 vp2.2 k_214 d_rc_kind_18 ?_
    obtain rfl := Option.some.inj h
    exact fin _ _ ⟨.int, rfl, rfl⟩ d_rc_kind_21
set_option maxHeartbeats 4000000 in
set_option maxRecDepth 20000 in
theorem C_rc_stationOf {l : Launch} {G : Gt} {M : Me} {a1 : Int32}  {o : Int32} (h : f_rc_stationOf M a1 = some o) : Ct l G (WC G) (rC G) y_rc_stationOf b_rc_stationOf 3 (some .int) rm_rc_stationOf [.ref (G.1 + oRC), .int a1] M (some (.int o)) M := by
  refine Ct.mk (own := "RetryChains") rfl (by decide) (Nat.le_of_ble_eq_true rfl) ⟨_, rfl⟩ (fun X hXl hXR hXn ok hG fin => ?_)
  subst hXl
  unfold f_rc_stationOf at h
  show Wt X M 0 [(0, .ref (G.1 + oRC)), (1, .int a1)] []
  refine r_aload_n (n := 1) rfl ok d_rc_stationOf_0 rfl 0 rfl ?_
  refine g_RC_now (n := 4) rfl ok hG  k_349 d_rc_stationOf_1 ?_
  refine r_iload_n (n := 5) rfl ok d_rc_stationOf_4 rfl 1 rfl ?_
  obtain ⟨r1, hr1, h⟩ := bd_ok h
  refine r_callV (n := 8) rfl ok hG mf_nt_chainAt k_592 k_593 k_591 (C_nt_chainAt (by decide) hr1) ⟨rfl, rfl⟩ (rR hXR ⟨Nat.le_of_ble_eq_true rfl, Nat.le_of_ble_eq_true rfl⟩) rfl rfl (rv_NET (by decide)) rfl (Nat.le_of_ble_eq_true rfl) d_rc_stationOf_5 ?_
  rcases er1 : r1 with _ | p2
  · replace h := el_n er1 h
    try rw [er1]
    refine r_astore_nN (lv' := [(2, .null), (0, .ref (G.1 + oRC)), (1, .int a1)]) (n := 9) rfl ok d_rc_stationOf_8 rfl (lt_n hXn (Nat.le_of_ble_eq_true rfl)) rfl ?_
    refine r_aload_nN (n := 10) rfl ok d_rc_stationOf_9 rfl 0 rfl ?_
    refine r_ifnonnullN (n := 13) rfl ok d_rc_stationOf_10 ?_
    refine r_iconst (v := (-1)) (n := 14) rfl ok d_rc_stationOf_13 (by decide) ?_
    refine r_goto (tgt := 21) ok d_rc_stationOf_14 (by decide) ?_
    obtain rfl := Option.some.inj h
    exact fin _ _ ⟨.int, rfl, rfl⟩ d_rc_stationOf_21
  · replace h := el_s er1 h
    try rw [er1]
    have vp2 := v_nt_chainAt (by decide) (hr1.trans (congrArg some er1))
    refine r_astore_n (lv' := [(2, .ref (G.1 + oCHN p2.1 p2.2)), (0, .ref (G.1 + oRC)), (1, .int a1)]) (n := 9) rfl ok d_rc_stationOf_8 rfl (lt_n hXn (Nat.le_of_ble_eq_true rfl)) rfl ?_
    refine r_aload_n (n := 10) rfl ok d_rc_stationOf_9 rfl 0 rfl ?_
    refine r_ifnonnull (tgt := 17) ok d_rc_stationOf_10 (by decide) ?_
    refine r_aload_n (n := 18) rfl ok d_rc_stationOf_17 rfl 0 rfl ?_
    refine g_CHN_station (n := 21) rfl ok hG vp2.1 vp2.2 k_208 d_rc_stationOf_18 ?_
    obtain rfl := Option.some.inj h
    exact fin _ _ ⟨.int, rfl, rfl⟩ d_rc_stationOf_21
