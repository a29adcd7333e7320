theorem k_7 : (Cond.initialized "java/util/Arrays") ∈ gw := in_1 (List.mem_of_getElem? (i := 7) rfl) rfl
theorem k_18 : (Cond.code y_rc_init b_rc_init (2 : Nat) (Option.none : Option Jvm.ClassFile.FieldType)) ∈ gw := in_1 (List.mem_of_getElem? (i := 18) rfl) rfl
theorem k_19 : (Cond.methodLink "RetryChains" (1 : Nat) objectInit) ∈ gw := in_1 (List.mem_of_getElem? (i := 19) rfl) rfl
theorem k_20 : (Cond.instanceMethod objectInit) ∈ gw := in_1 (List.mem_of_getElem? (i := 20) rfl) rfl
theorem k_21 : Cond.code objectInit ⟨#[0xb1]⟩ 1 none ∈ gw := in_1 (List.mem_of_getElem? (i := 21) rfl) rfl
theorem k_22 : (Cond.classLink "RetryChains" (7 : Nat) "RetryChains$Network") ∈ gw := in_1 (List.mem_of_getElem? (i := 22) rfl) rfl
theorem k_23 : (Cond.instantiable "RetryChains$Network" (11 : Nat)) ∈ gw := in_1 (List.mem_of_getElem? (i := 23) rfl) rfl
theorem k_24 : (Cond.methodLink "RetryChains" (9 : Nat) y_nt_init) ∈ gw := in_1 (List.mem_of_getElem? (i := 24) rfl) rfl
theorem k_25 : (Cond.instanceMethod y_nt_init) ∈ gw := in_1 (List.mem_of_getElem? (i := 25) rfl) rfl
theorem k_26 : (Cond.code y_nt_init b_nt_init (2 : Nat) (Option.none : Option Jvm.ClassFile.FieldType)) ∈ gw := in_1 (List.mem_of_getElem? (i := 26) rfl) rfl
theorem k_27 : (Cond.methodLink "RetryChains$Network" (3 : Nat) objectInit) ∈ gw := in_1 (List.mem_of_getElem? (i := 27) rfl) rfl
theorem k_28 : (Cond.classLink "RetryChains$Network" (9 : Nat) "RetryChains$RateTable") ∈ gw := in_1 (List.mem_of_getElem? (i := 28) rfl) rfl
theorem k_29 : (Cond.instantiable "RetryChains$RateTable" (4 : Nat)) ∈ gw := in_1 (List.mem_of_getElem? (i := 29) rfl) rfl
theorem k_31 : (Cond.instanceMethod y_tb_init) ∈ gw := in_1 (List.mem_of_getElem? (i := 31) rfl) rfl
theorem k_32 : (Cond.code y_tb_init b_tb_init (1 : Nat) (Option.none : Option Jvm.ClassFile.FieldType)) ∈ gw := in_1 (List.mem_of_getElem? (i := 32) rfl) rfl
theorem k_33 : (Cond.methodLink "RetryChains$RateTable" (3 : Nat) objectInit) ∈ gw := in_1 (List.mem_of_getElem? (i := 33) rfl) rfl
theorem k_52 : (Cond.arrayClass Jvm.ClassFile.FieldType.int) ∈ gw := in_1 (List.mem_of_getElem? (i := 52) rfl) rfl
theorem k_53 : (Cond.classLink "RetryChains$Network" (18 : Nat) "RetryChains$Station") ∈ gw := in_1 (List.mem_of_getElem? (i := 53) rfl) rfl
theorem k_55 : (Cond.classLink "RetryChains$Network" (24 : Nat) "RetryChains$Chain") ∈ gw := in_1 (List.mem_of_getElem? (i := 55) rfl) rfl
theorem k_57 : (Cond.classLink "RetryChains$Network" (30 : Nat) "RetryChains$EventLog") ∈ gw := in_1 (List.mem_of_getElem? (i := 57) rfl) rfl
theorem k_58 : (Cond.instantiable "RetryChains$EventLog" (2 : Nat)) ∈ gw := in_1 (List.mem_of_getElem? (i := 58) rfl) rfl
theorem k_60 : (Cond.instanceMethod y_lo_init) ∈ gw := in_1 (List.mem_of_getElem? (i := 60) rfl) rfl
theorem k_61 : (Cond.code y_lo_init b_lo_init (1 : Nat) (Option.none : Option Jvm.ClassFile.FieldType)) ∈ gw := in_1 (List.mem_of_getElem? (i := 61) rfl) rfl
theorem k_62 : (Cond.methodLink "RetryChains$EventLog" (3 : Nat) objectInit) ∈ gw := in_1 (List.mem_of_getElem? (i := 62) rfl) rfl
theorem k_63 : (Cond.classLink "RetryChains$EventLog" (11 : Nat) "[[I") ∈ gw := in_1 (List.mem_of_getElem? (i := 63) rfl) rfl
theorem k_73 : (Cond.constant "RetryChains$Network" (44 : Nat) (100000 : Int32)) ∈ gw := in_1 (List.mem_of_getElem? (i := 73) rfl) rfl
theorem k_74 : (Cond.instantiable "RetryChains$Station" (15 : Nat)) ∈ gw := in_1 (List.mem_of_getElem? (i := 74) rfl) rfl
theorem k_75 : (Cond.methodLink "RetryChains$Network" (51 : Nat) y_st_init) ∈ gw := in_1 (List.mem_of_getElem? (i := 75) rfl) rfl
theorem k_76 : (Cond.instanceMethod y_st_init) ∈ gw := in_1 (List.mem_of_getElem? (i := 76) rfl) rfl
theorem k_77 : (Cond.code y_st_init b_st_init (3 : Nat) (Option.none : Option Jvm.ClassFile.FieldType)) ∈ gw := in_1 (List.mem_of_getElem? (i := 77) rfl) rfl
theorem k_78 : (Cond.methodLink "RetryChains$Station" (3 : Nat) objectInit) ∈ gw := in_1 (List.mem_of_getElem? (i := 78) rfl) rfl
theorem k_79 : (Cond.classLink "RetryChains$Station" (9 : Nat) "RetryChains$Link") ∈ gw := in_1 (List.mem_of_getElem? (i := 79) rfl) rfl
theorem k_81 : (Cond.instantiable "RetryChains$Link" (8 : Nat)) ∈ gw := in_1 (List.mem_of_getElem? (i := 81) rfl) rfl
theorem k_83 : (Cond.instanceMethod y_lk_init) ∈ gw := in_1 (List.mem_of_getElem? (i := 83) rfl) rfl
theorem k_84 : (Cond.code y_lk_init b_lk_init (1 : Nat) (Option.none : Option Jvm.ClassFile.FieldType)) ∈ gw := in_1 (List.mem_of_getElem? (i := 84) rfl) rfl
theorem k_85 : (Cond.methodLink "RetryChains$Link" (3 : Nat) objectInit) ∈ gw := in_1 (List.mem_of_getElem? (i := 85) rfl) rfl
theorem k_127 : (Cond.methodLink "RetryChains$Station" (35 : Nat) y_ja_fill) ∈ gw := in_1 (List.mem_of_getElem? (i := 127) rfl) rfl
theorem k_128 : (Cond.static y_ja_fill) ∈ gw := in_1 (List.mem_of_getElem? (i := 128) rfl) rfl
theorem k_129 : (Cond.code y_ja_fill b_ja_fill (4 : Nat) (Option.none : Option Jvm.ClassFile.FieldType)) ∈ gw := in_1 (List.mem_of_getElem? (i := 129) rfl) rfl
theorem k_130 : (Cond.fieldLink "RetryChains$Station" (27 : Nat) "RetryChains$Station" "number" "I") ∈ gw := in_1 (List.mem_of_getElem? (i := 130) rfl) rfl
theorem k_199 : (Cond.instantiable "RetryChains$Chain" (7 : Nat)) ∈ gw := in_1 (List.mem_of_getElem? (i := 199) rfl) rfl
theorem k_201 : (Cond.instanceMethod y_ch_init) ∈ gw := in_1 (List.mem_of_getElem? (i := 201) rfl) rfl
theorem k_202 : (Cond.code y_ch_init b_ch_init (1 : Nat) (Option.none : Option Jvm.ClassFile.FieldType)) ∈ gw := in_1 (List.mem_of_getElem? (i := 202) rfl) rfl
theorem k_203 : (Cond.methodLink "RetryChains$Chain" (3 : Nat) objectInit) ∈ gw := in_1 (List.mem_of_getElem? (i := 203) rfl) rfl
theorem k_285 : (Cond.classLink "RetryChains" (27 : Nat) "RetryChains$History") ∈ gw := in_2 (List.mem_of_getElem? (i := 45) rfl) rfl
theorem k_286 : (Cond.instantiable "RetryChains$History" (3 : Nat)) ∈ gw := in_2 (List.mem_of_getElem? (i := 46) rfl) rfl
theorem k_287 : (Cond.methodLink "RetryChains" (29 : Nat) y_hi_init) ∈ gw := in_2 (List.mem_of_getElem? (i := 47) rfl) rfl
theorem k_288 : (Cond.instanceMethod y_hi_init) ∈ gw := in_2 (List.mem_of_getElem? (i := 48) rfl) rfl
theorem k_289 : (Cond.code y_hi_init b_hi_init (2 : Nat) (Option.none : Option Jvm.ClassFile.FieldType)) ∈ gw := in_2 (List.mem_of_getElem? (i := 49) rfl) rfl
theorem k_290 : (Cond.methodLink "RetryChains$History" (3 : Nat) objectInit) ∈ gw := in_2 (List.mem_of_getElem? (i := 50) rfl) rfl
theorem k_291 : (Cond.classLink "RetryChains$History" (9 : Nat) "RetryChains$Network") ∈ gw := in_2 (List.mem_of_getElem? (i := 51) rfl) rfl
theorem k_292 : (Cond.methodLink "RetryChains$History" (17 : Nat) y_nt_init) ∈ gw := in_2 (List.mem_of_getElem? (i := 52) rfl) rfl
theorem k_304 : (Cond.arrayClass Jvm.ClassFile.FieldType.boolean) ∈ gw := in_2 (List.mem_of_getElem? (i := 64) rfl) rfl
theorem k_305 : (Cond.classLink "RetryChains" (34 : Nat) "RetryChains$ChainSearch") ∈ gw := in_2 (List.mem_of_getElem? (i := 65) rfl) rfl
theorem k_306 : (Cond.instantiable "RetryChains$ChainSearch" (11 : Nat)) ∈ gw := in_2 (List.mem_of_getElem? (i := 66) rfl) rfl
theorem k_308 : (Cond.instanceMethod y_se_init) ∈ gw := in_2 (List.mem_of_getElem? (i := 68) rfl) rfl
theorem k_309 : (Cond.code y_se_init b_se_init (1 : Nat) (Option.none : Option Jvm.ClassFile.FieldType)) ∈ gw := in_2 (List.mem_of_getElem? (i := 69) rfl) rfl
theorem k_310 : (Cond.methodLink "RetryChains$ChainSearch" (3 : Nat) objectInit) ∈ gw := in_2 (List.mem_of_getElem? (i := 70) rfl) rfl
theorem k_311 : (Cond.classLink "RetryChains$ChainSearch" (21 : Nat) "[[I") ∈ gw := in_2 (List.mem_of_getElem? (i := 71) rfl) rfl
theorem k_348 : (Cond.arrayClass Jvm.ClassFile.FieldType.long) ∈ gw := in_2 (List.mem_of_getElem? (i := 108) rfl) rfl
theorem k_983 : (Cond.code y_m_init b_m_init (1 : Nat) (Option.none : Option Jvm.ClassFile.FieldType)) ∈ gw := in_5 (List.mem_of_getElem? (i := 23) rfl) rfl
theorem k_984 : (Cond.methodLink "RetryChainsModel" (1 : Nat) objectInit) ∈ gw := in_5 (List.mem_of_getElem? (i := 24) rfl) rfl
abbrev rm_ja_fill : Room := { frames := 0, cells := 0, slots := 0, locals := 0 }
theorem mf_ja_fill : MF y_ja_fill b_ja_fill 4 none 2 := ⟨k_129, k_7, by decide +kernel⟩
theorem df_RC : ∀ j, j < 6 → defaultValue (t_RC j) = vp_V [.null, .null, .null, .null, .null, .null] j := fun j hj => match j, hj with | 0, _ => rfl | 1, _ => rfl | 2, _ => rfl | 3, _ => rfl | 4, _ => rfl | 5, _ => rfl | j + 6, hj => absurd hj (by omega)
theorem df_NET : ∀ j, j < 11 → defaultValue (t_NET j) = vp_V [.null, .null, .null, .null, .int 0, .int 0, .int 0, .int 0, .int 0, .int 0, .int 0] j := fun j hj => match j, hj with | 0, _ => rfl | 1, _ => rfl | 2, _ => rfl | 3, _ => rfl | 4, _ => rfl | 5, _ => rfl | 6, _ => rfl | 7, _ => rfl | 8, _ => rfl | 9, _ => rfl | 10, _ => rfl | j + 11, hj => absurd hj (by omega)
theorem df_TAB : ∀ j, j < 4 → defaultValue (t_TAB j) = vp_V [.int 0, .null, .null, .null] j := fun j hj => match j, hj with | 0, _ => rfl | 1, _ => rfl | 2, _ => rfl | 3, _ => rfl | j + 4, hj => absurd hj (by omega)
theorem df_LOG : ∀ j, j < 2 → defaultValue (t_LOG j) = vp_V [.int 0, .null] j := fun j hj => match j, hj with | 0, _ => rfl | 1, _ => rfl | j + 2, hj => absurd hj (by omega)
theorem df_STA : ∀ j, j < 15 → defaultValue (t_STA j) = vp_V [.int 0, .null, .null, .null, .null, .int 0, .int 0, .int 0, .int 0, .int 0, .int 0, .int 0, .int 0, .long 0, .int 0] j := fun j hj => match j, hj with | 0, _ => rfl | 1, _ => rfl | 2, _ => rfl | 3, _ => rfl | 4, _ => rfl | 5, _ => rfl | 6, _ => rfl | 7, _ => rfl | 8, _ => rfl | 9, _ => rfl | 10, _ => rfl | 11, _ => rfl | 12, _ => rfl | 13, _ => rfl | 14, _ => rfl | j + 15, hj => absurd hj (by omega)
theorem df_LNK : ∀ j, j < 8 → defaultValue (t_LNK j) = vp_V [.int 0, .int 0, .int 0, .int 0, .int 0, .int 0, .int 0, .int 0] j := fun j hj => match j, hj with | 0, _ => rfl | 1, _ => rfl | 2, _ => rfl | 3, _ => rfl | 4, _ => rfl | 5, _ => rfl | 6, _ => rfl | 7, _ => rfl | j + 8, hj => absurd hj (by omega)
theorem df_CHN : ∀ j, j < 7 → defaultValue (t_CHN j) = vp_V [.int 0, .int 0, .int 0, .int 0, .int 0, .null, .null] j := fun j hj => match j, hj with | 0, _ => rfl | 1, _ => rfl | 2, _ => rfl | 3, _ => rfl | 4, _ => rfl | 5, _ => rfl | 6, _ => rfl | j + 7, hj => absurd hj (by omega)
theorem df_HIS : ∀ j, j < 3 → defaultValue (t_HIS j) = vp_V [.null, .int 0, .int 0] j := fun j hj => match j, hj with | 0, _ => rfl | 1, _ => rfl | 2, _ => rfl | j + 3, hj => absurd hj (by omega)
theorem df_SEA : ∀ j, j < 11 → defaultValue (t_SEA j) = vp_V [.int 0, .null, .null, .null, .null, .null, .null, .null, .null, .long 0, .long 0] j := fun j hj => match j, hj with | 0, _ => rfl | 1, _ => rfl | 2, _ => rfl | 3, _ => rfl | 4, _ => rfl | 5, _ => rfl | 6, _ => rfl | 7, _ => rfl | 8, _ => rfl | 9, _ => rfl | 10, _ => rfl | j + 11, hj => absurd hj (by omega)
theorem df_MOD : ∀ j, j < 8 → defaultValue (t_MOD j) = vp_V [.null, .null, .null, .null, .null, .int 0, .long 0, .long 0] j := fun j hj => match j, hj with | 0, _ => rfl | 1, _ => rfl | 2, _ => rfl | 3, _ => rfl | 4, _ => rfl | 5, _ => rfl | 6, _ => rfl | 7, _ => rfl | j + 8, hj => absurd hj (by omega)
theorem C_fill3 {l : Launch} {G : Gt} {V : Nat → va_E} {q q0 : Nat} {f : Nat → Int32} {v : Int32} (hq : q0 < q) (hV : V q0 = .inl (G.2.2 0, 3, .inl f)) : Cn l G y_ja_fill b_ja_fill 4 rm_ja_fill [.ref (G.1 + q0), .int v] (V, q) (uV V q0 (.inl (G.2.2 0, 3, .inl (fun _ => v))), q) 0 0 := by
  refine Cn.mkS (own := "java/util/Arrays") rfl (by decide +kernel) (Nat.le_of_ble_eq_true rfl) (fun X hl hXR hn hz ok0 hG0 hx fin => ?_)
  refine r_more0 ?_
  have ok : Ok (X.more 0 0) b_ja_fill "java/util/Arrays" := Ok.more ok0
  have hG : GV (X.more 0 0) G := Gx.more hG0 (hz.fits hXR ⟨Nat.le_refl _, Nat.le_refl _⟩)
  show Wt (X.more 0 0) _ 0 [(0, .ref (G.1 + q0)), (1, .int v)] []
  refine r_iconst (v := nI 0) rfl ok d_ja_fill_0 (by decide +kernel) ?_
  refine r_istore_n rfl ok d_ja_fill_1 rfl (nl_more hn (Nat.le_of_ble_eq_true rfl)) rfl ?_
  refine r_aload_n rfl ok d_ja_fill_2 rfl 1 rfl ?_
  refine n_alen (t0 := 0) (v := nI 3) rfl ok hG hq hV rfl rfl d_ja_fill_3 ?_
  refine r_istore_n rfl ok d_ja_fill_4 rfl (nl_more hn (Nat.le_of_ble_eq_true rfl)) rfl ?_
  refine r_iload_n rfl ok d_ja_fill_5 rfl 1 rfl ?_
  refine r_iload_n rfl ok d_ja_fill_6 rfl 0 rfl ?_
  refine r_icmp_ge rfl ok d_ja_fill_7 rfl (fun hc => absurd hc (by decide +kernel)) (fun _ => ?_)
  refine r_aload_n rfl ok d_ja_fill_10 rfl 2 rfl ?_
  refine r_iload_n rfl ok d_ja_fill_11 rfl 1 rfl ?_
  refine r_iload_n rfl ok d_ja_fill_12 rfl 3 rfl ?_
  refine n_iast (t0 := 0) (f := f) rfl ok hG hq hV rfl (show ¬ (_ ∨ _) by decide +kernel) d_ja_fill_13 ?_
  refine r_m (M' := (uV V q0 (.inl (G.2.2 0, 3, .inl (upd f 0 v))), q)) (by rw [show (nI 0).toNatClampNeg = 0 by decide +kernel]) ?_
  refine r_iinc (v := nI 1) rfl ok d_ja_fill_14 1 rfl (by decide +kernel) (nl_more hn (Nat.le_of_ble_eq_true rfl)) rfl ?_
  refine r_goto ok d_ja_fill_17 rfl ?_
  refine r_iload_n rfl ok d_ja_fill_5 rfl 0 rfl ?_
  refine r_iload_n rfl ok d_ja_fill_6 rfl 1 rfl ?_
  refine r_icmp_ge rfl ok d_ja_fill_7 rfl (fun hc => absurd hc (by decide +kernel)) (fun _ => ?_)
  refine r_aload_n rfl ok d_ja_fill_10 rfl 2 rfl ?_
  refine r_iload_n rfl ok d_ja_fill_11 rfl 0 rfl ?_
  refine r_iload_n rfl ok d_ja_fill_12 rfl 3 rfl ?_
  refine n_iast (t0 := 0) (f := (upd f 0 v)) rfl ok hG hq uV_at rfl (show ¬ (_ ∨ _) by decide +kernel) d_ja_fill_13 ?_
  refine r_m (M' := (uV V q0 (.inl (G.2.2 0, 3, .inl (upd (upd f 0 v) 1 v))), q)) (by rw [uV_uV, show (nI 1).toNatClampNeg = 1 by decide +kernel]) ?_
  refine r_iinc (v := nI 2) rfl ok d_ja_fill_14 0 rfl (by decide +kernel) (nl_more hn (Nat.le_of_ble_eq_true rfl)) rfl ?_
  refine r_goto ok d_ja_fill_17 rfl ?_
  refine r_iload_n rfl ok d_ja_fill_5 rfl 0 rfl ?_
  refine r_iload_n rfl ok d_ja_fill_6 rfl 1 rfl ?_
  refine r_icmp_ge rfl ok d_ja_fill_7 rfl (fun hc => absurd hc (by decide +kernel)) (fun _ => ?_)
  refine r_aload_n rfl ok d_ja_fill_10 rfl 2 rfl ?_
  refine r_iload_n rfl ok d_ja_fill_11 rfl 0 rfl ?_
  refine r_iload_n rfl ok d_ja_fill_12 rfl 3 rfl ?_
  refine n_iast (t0 := 0) (f := (upd (upd f 0 v) 1 v)) rfl ok hG hq uV_at rfl (show ¬ (_ ∨ _) by decide +kernel) d_ja_fill_13 ?_
  refine r_m (M' := (uV V q0 (.inl (G.2.2 0, 3, .inl (upd (upd (upd f 0 v) 1 v) 2 v))), q)) (by rw [uV_uV, show (nI 2).toNatClampNeg = 2 by decide +kernel]) ?_
  refine r_iinc (v := nI 3) rfl ok d_ja_fill_14 0 rfl (by decide +kernel) (nl_more hn (Nat.le_of_ble_eq_true rfl)) rfl ?_
  refine r_goto ok d_ja_fill_17 rfl ?_
  refine r_iload_n rfl ok d_ja_fill_5 rfl 0 rfl ?_
  refine r_iload_n rfl ok d_ja_fill_6 rfl 1 rfl ?_
  refine r_icmp_ge rfl ok d_ja_fill_7 rfl (fun _ => ?_) (fun hc => absurd (by decide +kernel) hc)
  refine n_cell hG uV_at (cell_i (f := (upd (upd (upd f 0 v) 1 v) 2 v)) (g := fun _ => v) (fun k hk => match k, hk with | 0, _ => rfl | 1, _ => rfl | 2, _ => rfl | k + 3, hk => absurd hk (by omega))) ?_
  refine r_m (by rw [uV_uV]) (fin 20 _ d_ja_fill_20)
theorem C_fill4 {l : Launch} {G : Gt} {V : Nat → va_E} {q q0 : Nat} {f : Nat → Int32} {v : Int32} (hq : q0 < q) (hV : V q0 = .inl (G.2.2 0, 4, .inl f)) : Cn l G y_ja_fill b_ja_fill 4 rm_ja_fill [.ref (G.1 + q0), .int v] (V, q) (uV V q0 (.inl (G.2.2 0, 4, .inl (fun _ => v))), q) 0 0 := by
  refine Cn.mkS (own := "java/util/Arrays") rfl (by decide +kernel) (Nat.le_of_ble_eq_true rfl) (fun X hl hXR hn hz ok0 hG0 hx fin => ?_)
  refine r_more0 ?_
  have ok : Ok (X.more 0 0) b_ja_fill "java/util/Arrays" := Ok.more ok0
  have hG : GV (X.more 0 0) G := Gx.more hG0 (hz.fits hXR ⟨Nat.le_refl _, Nat.le_refl _⟩)
  show Wt (X.more 0 0) _ 0 [(0, .ref (G.1 + q0)), (1, .int v)] []
  refine r_iconst (v := nI 0) rfl ok d_ja_fill_0 (by decide +kernel) ?_
  refine r_istore_n rfl ok d_ja_fill_1 rfl (nl_more hn (Nat.le_of_ble_eq_true rfl)) rfl ?_
  refine r_aload_n rfl ok d_ja_fill_2 rfl 1 rfl ?_
  refine n_alen (t0 := 0) (v := nI 4) rfl ok hG hq hV rfl rfl d_ja_fill_3 ?_
  refine r_istore_n rfl ok d_ja_fill_4 rfl (nl_more hn (Nat.le_of_ble_eq_true rfl)) rfl ?_
  refine r_iload_n rfl ok d_ja_fill_5 rfl 1 rfl ?_
  refine r_iload_n rfl ok d_ja_fill_6 rfl 0 rfl ?_
  refine r_icmp_ge rfl ok d_ja_fill_7 rfl (fun hc => absurd hc (by decide +kernel)) (fun _ => ?_)
  refine r_aload_n rfl ok d_ja_fill_10 rfl 2 rfl ?_
  refine r_iload_n rfl ok d_ja_fill_11 rfl 1 rfl ?_
  refine r_iload_n rfl ok d_ja_fill_12 rfl 3 rfl ?_
  refine n_iast (t0 := 0) (f := f) rfl ok hG hq hV rfl (show ¬ (_ ∨ _) by decide +kernel) d_ja_fill_13 ?_
  refine r_m (M' := (uV V q0 (.inl (G.2.2 0, 4, .inl (upd f 0 v))), q)) (by rw [show (nI 0).toNatClampNeg = 0 by decide +kernel]) ?_
  refine r_iinc (v := nI 1) rfl ok d_ja_fill_14 1 rfl (by decide +kernel) (nl_more hn (Nat.le_of_ble_eq_true rfl)) rfl ?_
  refine r_goto ok d_ja_fill_17 rfl ?_
  refine r_iload_n rfl ok d_ja_fill_5 rfl 0 rfl ?_
  refine r_iload_n rfl ok d_ja_fill_6 rfl 1 rfl ?_
  refine r_icmp_ge rfl ok d_ja_fill_7 rfl (fun hc => absurd hc (by decide +kernel)) (fun _ => ?_)
  refine r_aload_n rfl ok d_ja_fill_10 rfl 2 rfl ?_
  refine r_iload_n rfl ok d_ja_fill_11 rfl 0 rfl ?_
  refine r_iload_n rfl ok d_ja_fill_12 rfl 3 rfl ?_
  refine n_iast (t0 := 0) (f := (upd f 0 v)) rfl ok hG hq uV_at rfl (show ¬ (_ ∨ _) by decide +kernel) d_ja_fill_13 ?_
  refine r_m (M' := (uV V q0 (.inl (G.2.2 0, 4, .inl (upd (upd f 0 v) 1 v))), q)) (by rw [uV_uV, show (nI 1).toNatClampNeg = 1 by decide +kernel]) ?_
  refine r_iinc (v := nI 2) rfl ok d_ja_fill_14 0 rfl (by decide +kernel) (nl_more hn (Nat.le_of_ble_eq_true rfl)) rfl ?_
  refine r_goto ok d_ja_fill_17 rfl ?_
  refine r_iload_n rfl ok d_ja_fill_5 rfl 0 rfl ?_
  refine r_iload_n rfl ok d_ja_fill_6 rfl 1 rfl ?_
  refine r_icmp_ge rfl ok d_ja_fill_7 rfl (fun hc => absurd hc (by decide +kernel)) (fun _ => ?_)
  refine r_aload_n rfl ok d_ja_fill_10 rfl 2 rfl ?_
  refine r_iload_n rfl ok d_ja_fill_11 rfl 0 rfl ?_
  refine r_iload_n rfl ok d_ja_fill_12 rfl 3 rfl ?_
  refine n_iast (t0 := 0) (f := (upd (upd f 0 v) 1 v)) rfl ok hG hq uV_at rfl (show ¬ (_ ∨ _) by decide +kernel) d_ja_fill_13 ?_
  refine r_m (M' := (uV V q0 (.inl (G.2.2 0, 4, .inl (upd (upd (upd f 0 v) 1 v) 2 v))), q)) (by rw [uV_uV, show (nI 2).toNatClampNeg = 2 by decide +kernel]) ?_
  refine r_iinc (v := nI 3) rfl ok d_ja_fill_14 0 rfl (by decide +kernel) (nl_more hn (Nat.le_of_ble_eq_true rfl)) rfl ?_
  refine r_goto ok d_ja_fill_17 rfl ?_
  refine r_iload_n rfl ok d_ja_fill_5 rfl 0 rfl ?_
  refine r_iload_n rfl ok d_ja_fill_6 rfl 1 rfl ?_
  refine r_icmp_ge rfl ok d_ja_fill_7 rfl (fun hc => absurd hc (by decide +kernel)) (fun _ => ?_)
  refine r_aload_n rfl ok d_ja_fill_10 rfl 2 rfl ?_
  refine r_iload_n rfl ok d_ja_fill_11 rfl 0 rfl ?_
  refine r_iload_n rfl ok d_ja_fill_12 rfl 3 rfl ?_
  refine n_iast (t0 := 0) (f := (upd (upd (upd f 0 v) 1 v) 2 v)) rfl ok hG hq uV_at rfl (show ¬ (_ ∨ _) by decide +kernel) d_ja_fill_13 ?_
  refine r_m (M' := (uV V q0 (.inl (G.2.2 0, 4, .inl (upd (upd (upd (upd f 0 v) 1 v) 2 v) 3 v))), q)) (by rw [uV_uV, show (nI 3).toNatClampNeg = 3 by decide +kernel]) ?_
  refine r_iinc (v := nI 4) rfl ok d_ja_fill_14 0 rfl (by decide +kernel) (nl_more hn (Nat.le_of_ble_eq_true rfl)) rfl ?_
  refine r_goto ok d_ja_fill_17 rfl ?_
  refine r_iload_n rfl ok d_ja_fill_5 rfl 0 rfl ?_
  refine r_iload_n rfl ok d_ja_fill_6 rfl 1 rfl ?_
  refine r_icmp_ge rfl ok d_ja_fill_7 rfl (fun _ => ?_) (fun hc => absurd (by decide +kernel) hc)
  refine n_cell hG uV_at (cell_i (f := (upd (upd (upd (upd f 0 v) 1 v) 2 v) 3 v)) (g := fun _ => v) (fun k hk => match k, hk with | 0, _ => rfl | 1, _ => rfl | 2, _ => rfl | 3, _ => rfl | k + 4, hk => absurd hk (by omega))) ?_
  refine r_m (by rw [uV_uV]) (fin 20 _ d_ja_fill_20)
def lkL : List va_E := [.inr (5, [.int 1, .int (-9), .int 0, .int 0, .int 0, .int 0, .int 0, .int 500])]
theorem lkL_len  : (lkL).length = 1 := rfl
theorem lkL_0  : (lkL)[0]? = some (.inr (5, [.int 1, .int (-9), .int 0, .int 0, .int 0, .int 0, .int 0, .int 500])) := rfl
abbrev rm_lk_init : Room := { frames := 1, cells := 0, slots := 0, locals := 20 }
theorem mf_lk_init : MF y_lk_init b_lk_init 1 none 0 := ⟨k_84, k_6, by decide +kernel⟩
theorem C_lk_init {l : Launch} {G : Gt} {V : Nat → va_E} {b : Nat} : Cn l G y_lk_init b_lk_init 1 rm_lk_init [.ref (G.1 + b)] (mL V b [.inr (5, [.int 0, .int 0, .int 0, .int 0, .int 0, .int 0, .int 0, .int 0])]) (mL V b (lkL)) 0 0 := by
  refine Cn.mk (own := "RetryChains$Link") rfl (by decide +kernel) rfl (Nat.le_of_ble_eq_true rfl) (fun X hl hXR hn hz ok hG hm hx fin => ?_)
  have h : Kc X b_lk_init "RetryChains$Link" G 0 0 := ⟨ok, hG, hm, hx, hz.fits hXR ⟨Nat.le_refl _, Nat.le_refl _⟩⟩
  show Wt X _ 0 [(0, .ref (G.1 + b))] []
  refine r_more0 ?_
  refine r_aload_n rfl h.ok d_lk_init_0 rfl 0 rfl ?_
  refine m_obj rfl h k_85 k_20 k_21 (rR2 hXR ⟨Nat.le_of_ble_eq_true rfl, Nat.le_of_ble_eq_true rfl⟩) (Nat.le_of_ble_eq_true rfl) d_lk_init_1 ?_
  refine r_aload_n rfl h.ok d_lk_init_4 rfl 0 rfl ?_
  refine r_iconst (v := 1) rfl h.ok d_lk_init_5 (by decide +kernel) ?_
  refine m_put (j := 0) (ci := 5) (fs := [.int 0, .int 0, .int 0, .int 0, .int 0, .int 0, .int 0, .int 0]) (L' := [.inr (5, [.int 1, .int 0, .int 0, .int 0, .int 0, .int 0, .int 0, .int 0])]) t_LNK rfl h i_LNK t_LNK_ok n_LNK rfl 0 (Nat.le_of_ble_eq_true rfl) k_86 rfl rfl (t_LNK_ok 0 (Nat.le_of_ble_eq_true rfl)) rfl rfl (Nat.le_of_ble_eq_true rfl) ⟨Nat.le_of_ble_eq_true rfl, Nat.le_of_ble_eq_true rfl⟩ rfl rfl d_lk_init_6 ?_
  refine r_aload_n rfl h.ok d_lk_init_9 rfl 0 rfl ?_
  refine r_bipush (v := (-9)) rfl h.ok d_lk_init_10 (by decide +kernel) ?_
  refine m_put (j := 0) (ci := 5) (fs := [.int 1, .int 0, .int 0, .int 0, .int 0, .int 0, .int 0, .int 0]) (L' := [.inr (5, [.int 1, .int (-9), .int 0, .int 0, .int 0, .int 0, .int 0, .int 0])]) t_LNK rfl h i_LNK t_LNK_ok n_LNK rfl 1 (Nat.le_of_ble_eq_true rfl) k_91 rfl rfl (t_LNK_ok 1 (Nat.le_of_ble_eq_true rfl)) rfl rfl (Nat.le_of_ble_eq_true rfl) ⟨Nat.le_of_ble_eq_true rfl, Nat.le_of_ble_eq_true rfl⟩ rfl rfl d_lk_init_12 ?_
  refine r_aload_n rfl h.ok d_lk_init_15 rfl 0 rfl ?_
  refine r_sipush (v := 500) rfl h.ok d_lk_init_16 (by decide +kernel) ?_
  refine m_put (j := 0) (ci := 5) (fs := [.int 1, .int (-9), .int 0, .int 0, .int 0, .int 0, .int 0, .int 0]) (L' := [.inr (5, [.int 1, .int (-9), .int 0, .int 0, .int 0, .int 0, .int 0, .int 500])]) t_LNK rfl h i_LNK t_LNK_ok n_LNK rfl 7 (Nat.le_of_ble_eq_true rfl) k_106 rfl rfl (t_LNK_ok 7 (Nat.le_of_ble_eq_true rfl)) rfl rfl (Nat.le_of_ble_eq_true rfl) ⟨Nat.le_of_ble_eq_true rfl, Nat.le_of_ble_eq_true rfl⟩ rfl rfl d_lk_init_19 ?_
  exact fin 22 _ d_lk_init_22
def chL (G : Gt) (b : Nat) : List va_E := (apd (apd [.inr (6, [.int 0, .int 0, .int 0, .int 0, .int (-9), .ref (G.1 + (b + 1)), .ref (G.1 + (b + 2))])] [.inl (G.2.2 0, 4, .inl (fun _ => 0))]) [.inl (G.2.2 0, 4, .inl (fun _ => 0))])
theorem chL_len {G : Gt} {b : Nat} : (chL G b).length = 3 := (l_a (a := 2) (c := 1) (n := 3) (l_a (a := 1) (c := 1) (n := 2) rfl rfl rfl) rfl rfl)
theorem chL_0 {G : Gt} {b : Nat} : (chL G b)[0]? = some (.inr (6, [.int 0, .int 0, .int 0, .int 0, .int (-9), .ref (G.1 + (b + 1)), .ref (G.1 + (b + 2))])) := (g_l (g_l rfl))
abbrev rm_ch_init : Room := { frames := 1, cells := 2, slots := 8, locals := 20 }
theorem mf_ch_init : MF y_ch_init b_ch_init 1 none 0 := ⟨k_202, k_8, by decide +kernel⟩
theorem C_ch_init {l : Launch} {G : Gt} {V : Nat → va_E} {b : Nat} : Cn l G y_ch_init b_ch_init 1 rm_ch_init [.ref (G.1 + b)] (mL V b [.inr (6, [.int 0, .int 0, .int 0, .int 0, .int 0, .null, .null])]) (mL V b (chL G b)) 2 8 := by
  refine Cn.mk (own := "RetryChains$Chain") rfl (by decide +kernel) rfl (Nat.le_of_ble_eq_true rfl) (fun X hl hXR hn hz ok hG hm hx fin => ?_)
  have h : Kc X b_ch_init "RetryChains$Chain" G 2 8 := ⟨ok, hG, hm, hx, hz.fits hXR ⟨Nat.le_refl _, Nat.le_refl _⟩⟩
  show Wt X _ 0 [(0, .ref (G.1 + b))] []
  refine r_more0 ?_
  refine r_aload_n rfl h.ok d_ch_init_0 rfl 0 rfl ?_
  refine m_obj rfl h k_203 k_20 k_21 (rR2 hXR ⟨Nat.le_of_ble_eq_true rfl, Nat.le_of_ble_eq_true rfl⟩) (Nat.le_of_ble_eq_true rfl) d_ch_init_1 ?_
  refine r_aload_n rfl h.ok d_ch_init_4 rfl 0 rfl ?_
  refine r_bipush (v := (-9)) rfl h.ok d_ch_init_5 (by decide +kernel) ?_
  refine m_put (j := 0) (ci := 6) (fs := [.int 0, .int 0, .int 0, .int 0, .int 0, .null, .null]) (L' := [.inr (6, [.int 0, .int 0, .int 0, .int 0, .int (-9), .null, .null])]) t_CHN rfl h i_CHN t_CHN_ok n_CHN rfl 4 (Nat.le_of_ble_eq_true rfl) k_215 rfl rfl (t_CHN_ok 4 (Nat.le_of_ble_eq_true rfl)) rfl rfl (Nat.le_of_ble_eq_true rfl) ⟨Nat.le_of_ble_eq_true rfl, Nat.le_of_ble_eq_true rfl⟩ rfl rfl d_ch_init_7 ?_
  refine r_aload_n rfl h.ok d_ch_init_10 rfl 0 rfl ?_
  refine r_iconst (v := 4) rfl h.ok d_ch_init_11 (by decide +kernel) ?_
  refine m_newa (a' := 1) (c' := 4) (atype := .int) (t0 := 0) (j := 1) (a0 := (4, .inl (fun _ => 0))) rfl h k_52 rfl (fun _ hp => hp) (fun _ => rfl) (by decide +kernel) (by decide +kernel) (Nat.le_of_ble_eq_true rfl) rfl rfl rfl ⟨Nat.le_of_ble_eq_true rfl, Nat.le_of_ble_eq_true rfl⟩ d_ch_init_12 ?_
  refine m_putF (j := 0) (ci := 6) (fs := [.int 0, .int 0, .int 0, .int 0, .int (-9), .null, .null]) (L' := (apd [.inr (6, [.int 0, .int 0, .int 0, .int 0, .int (-9), .ref (G.1 + (b + 1)), .null])] [.inl (G.2.2 0, 4, .inl (fun _ => 0))])) t_CHN rfl h i_CHN t_CHN_ok n_CHN rfl 5 (Nat.le_of_ble_eq_true rfl) k_218 rfl rfl rfl (t_CHN_ok 5 (Nat.le_of_ble_eq_true rfl)) rfl rfl (Nat.le_of_ble_eq_true rfl) ⟨Nat.le_of_ble_eq_true rfl, Nat.le_of_ble_eq_true rfl⟩ (g_l rfl) (s_l rfl (l_t (a := 1) rfl (Nat.le_of_ble_eq_true rfl))) d_ch_init_14 ?_
  refine r_aload_n rfl h.ok d_ch_init_17 rfl 0 rfl ?_
  refine r_iconst (v := 4) rfl h.ok d_ch_init_18 (by decide +kernel) ?_
  refine m_newa (a' := 2) (c' := 8) (atype := .int) (t0 := 0) (j := 2) (a0 := (4, .inl (fun _ => 0))) rfl h k_52 rfl (fun _ hp => hp) (fun _ => rfl) (by decide +kernel) (by decide +kernel) (Nat.le_of_ble_eq_true rfl) (l_a (a := 1) (c := 1) (n := 2) rfl rfl rfl) rfl rfl ⟨Nat.le_of_ble_eq_true rfl, Nat.le_of_ble_eq_true rfl⟩ d_ch_init_19 ?_
  refine m_putF (j := 0) (ci := 6) (fs := [.int 0, .int 0, .int 0, .int 0, .int (-9), .ref (G.1 + (b + 1)), .null]) (L' := (apd (apd [.inr (6, [.int 0, .int 0, .int 0, .int 0, .int (-9), .ref (G.1 + (b + 1)), .ref (G.1 + (b + 2))])] [.inl (G.2.2 0, 4, .inl (fun _ => 0))]) [.inl (G.2.2 0, 4, .inl (fun _ => 0))])) t_CHN rfl h i_CHN t_CHN_ok n_CHN rfl 6 (Nat.le_of_ble_eq_true rfl) k_221 rfl rfl rfl (t_CHN_ok 6 (Nat.le_of_ble_eq_true rfl)) rfl rfl (Nat.le_of_ble_eq_true rfl) ⟨Nat.le_of_ble_eq_true rfl, Nat.le_of_ble_eq_true rfl⟩ (g_l (g_l rfl)) (s_l (s_l rfl (l_t (a := 1) rfl (Nat.le_of_ble_eq_true rfl))) (l_t (a := 2) (l_a (a := 1) (c := 1) (n := 2) rfl rfl rfl) (Nat.le_of_ble_eq_true rfl))) d_ch_init_21 ?_
  exact fin 24 _ d_ch_init_24
def tbL (G : Gt) (b : Nat) : List va_E := (apd (apd (apd [.inr (2, [.int 0, .ref (G.1 + (b + 1)), .ref (G.1 + (b + 2)), .ref (G.1 + (b + 3))])] [.inl (G.2.2 0, 8, .inl (fun _ => 0))]) [.inl (G.2.2 0, 8, .inl (fun _ => 0))]) [.inl (G.2.2 0, 8, .inl (fun _ => 0))])
theorem tbL_len {G : Gt} {b : Nat} : (tbL G b).length = 4 := (l_a (a := 3) (c := 1) (n := 4) (l_a (a := 2) (c := 1) (n := 3) (l_a (a := 1) (c := 1) (n := 2) rfl rfl rfl) rfl rfl) rfl rfl)
theorem tbL_0 {G : Gt} {b : Nat} : (tbL G b)[0]? = some (.inr (2, [.int 0, .ref (G.1 + (b + 1)), .ref (G.1 + (b + 2)), .ref (G.1 + (b + 3))])) := (g_l (g_l (g_l rfl)))
abbrev rm_tb_init : Room := { frames := 1, cells := 3, slots := 24, locals := 20 }
theorem mf_tb_init : MF y_tb_init b_tb_init 1 none 0 := ⟨k_32, k_3, by decide +kernel⟩
theorem C_tb_init {l : Launch} {G : Gt} {V : Nat → va_E} {b : Nat} : Cn l G y_tb_init b_tb_init 1 rm_tb_init [.ref (G.1 + b)] (mL V b [.inr (2, [.int 0, .null, .null, .null])]) (mL V b (tbL G b)) 3 24 := by
  refine Cn.mk (own := "RetryChains$RateTable") rfl (by decide +kernel) rfl (Nat.le_of_ble_eq_true rfl) (fun X hl hXR hn hz ok hG hm hx fin => ?_)
  have h : Kc X b_tb_init "RetryChains$RateTable" G 3 24 := ⟨ok, hG, hm, hx, hz.fits hXR ⟨Nat.le_refl _, Nat.le_refl _⟩⟩
  show Wt X _ 0 [(0, .ref (G.1 + b))] []
  refine r_more0 ?_
  refine r_aload_n rfl h.ok d_tb_init_0 rfl 0 rfl ?_
  refine m_obj rfl h k_33 k_20 k_21 (rR2 hXR ⟨Nat.le_of_ble_eq_true rfl, Nat.le_of_ble_eq_true rfl⟩) (Nat.le_of_ble_eq_true rfl) d_tb_init_1 ?_
  refine r_aload_n rfl h.ok d_tb_init_4 rfl 0 rfl ?_
  refine r_bipush (v := 8) rfl h.ok d_tb_init_5 (by decide +kernel) ?_
  refine m_newa (a' := 1) (c' := 8) (atype := .int) (t0 := 0) (j := 1) (a0 := (8, .inl (fun _ => 0))) rfl h k_52 rfl (fun _ hp => hp) (fun _ => rfl) (by decide +kernel) (by decide +kernel) (Nat.le_of_ble_eq_true rfl) rfl rfl rfl ⟨Nat.le_of_ble_eq_true rfl, Nat.le_of_ble_eq_true rfl⟩ d_tb_init_7 ?_
  refine m_putF (j := 0) (ci := 2) (fs := [.int 0, .null, .null, .null]) (L' := (apd [.inr (2, [.int 0, .ref (G.1 + (b + 1)), .null, .null])] [.inl (G.2.2 0, 8, .inl (fun _ => 0))])) t_TAB rfl h i_TAB t_TAB_ok n_TAB rfl 1 (Nat.le_of_ble_eq_true rfl) k_39 rfl rfl rfl (t_TAB_ok 1 (Nat.le_of_ble_eq_true rfl)) rfl rfl (Nat.le_of_ble_eq_true rfl) ⟨Nat.le_of_ble_eq_true rfl, Nat.le_of_ble_eq_true rfl⟩ (g_l rfl) (s_l rfl (l_t (a := 1) rfl (Nat.le_of_ble_eq_true rfl))) d_tb_init_9 ?_
  refine r_aload_n rfl h.ok d_tb_init_12 rfl 0 rfl ?_
  refine r_bipush (v := 8) rfl h.ok d_tb_init_13 (by decide +kernel) ?_
  refine m_newa (a' := 2) (c' := 16) (atype := .int) (t0 := 0) (j := 2) (a0 := (8, .inl (fun _ => 0))) rfl h k_52 rfl (fun _ hp => hp) (fun _ => rfl) (by decide +kernel) (by decide +kernel) (Nat.le_of_ble_eq_true rfl) (l_a (a := 1) (c := 1) (n := 2) rfl rfl rfl) rfl rfl ⟨Nat.le_of_ble_eq_true rfl, Nat.le_of_ble_eq_true rfl⟩ d_tb_init_15 ?_
  refine m_putF (j := 0) (ci := 2) (fs := [.int 0, .ref (G.1 + (b + 1)), .null, .null]) (L' := (apd (apd [.inr (2, [.int 0, .ref (G.1 + (b + 1)), .ref (G.1 + (b + 2)), .null])] [.inl (G.2.2 0, 8, .inl (fun _ => 0))]) [.inl (G.2.2 0, 8, .inl (fun _ => 0))])) t_TAB rfl h i_TAB t_TAB_ok n_TAB rfl 2 (Nat.le_of_ble_eq_true rfl) k_40 rfl rfl rfl (t_TAB_ok 2 (Nat.le_of_ble_eq_true rfl)) rfl rfl (Nat.le_of_ble_eq_true rfl) ⟨Nat.le_of_ble_eq_true rfl, Nat.le_of_ble_eq_true rfl⟩ (g_l (g_l rfl)) (s_l (s_l rfl (l_t (a := 1) rfl (Nat.le_of_ble_eq_true rfl))) (l_t (a := 2) (l_a (a := 1) (c := 1) (n := 2) rfl rfl rfl) (Nat.le_of_ble_eq_true rfl))) d_tb_init_17 ?_
  refine r_aload_n rfl h.ok d_tb_init_20 rfl 0 rfl ?_
  refine r_bipush (v := 8) rfl h.ok d_tb_init_21 (by decide +kernel) ?_
  refine m_newa (a' := 3) (c' := 24) (atype := .int) (t0 := 0) (j := 3) (a0 := (8, .inl (fun _ => 0))) rfl h k_52 rfl (fun _ hp => hp) (fun _ => rfl) (by decide +kernel) (by decide +kernel) (Nat.le_of_ble_eq_true rfl) (l_a (a := 2) (c := 1) (n := 3) (l_a (a := 1) (c := 1) (n := 2) rfl rfl rfl) rfl rfl) rfl rfl ⟨Nat.le_of_ble_eq_true rfl, Nat.le_of_ble_eq_true rfl⟩ d_tb_init_23 ?_
  refine m_putF (j := 0) (ci := 2) (fs := [.int 0, .ref (G.1 + (b + 1)), .ref (G.1 + (b + 2)), .null]) (L' := (apd (apd (apd [.inr (2, [.int 0, .ref (G.1 + (b + 1)), .ref (G.1 + (b + 2)), .ref (G.1 + (b + 3))])] [.inl (G.2.2 0, 8, .inl (fun _ => 0))]) [.inl (G.2.2 0, 8, .inl (fun _ => 0))]) [.inl (G.2.2 0, 8, .inl (fun _ => 0))])) t_TAB rfl h i_TAB t_TAB_ok n_TAB rfl 3 (Nat.le_of_ble_eq_true rfl) k_41 rfl rfl rfl (t_TAB_ok 3 (Nat.le_of_ble_eq_true rfl)) rfl rfl (Nat.le_of_ble_eq_true rfl) ⟨Nat.le_of_ble_eq_true rfl, Nat.le_of_ble_eq_true rfl⟩ (g_l (g_l (g_l rfl))) (s_l (s_l (s_l rfl (l_t (a := 1) rfl (Nat.le_of_ble_eq_true rfl))) (l_t (a := 2) (l_a (a := 1) (c := 1) (n := 2) rfl rfl rfl) (Nat.le_of_ble_eq_true rfl))) (l_t (a := 3) (l_a (a := 2) (c := 1) (n := 3) (l_a (a := 1) (c := 1) (n := 2) rfl rfl rfl) rfl rfl) (Nat.le_of_ble_eq_true rfl))) d_tb_init_25 ?_
  exact fin 28 _ d_tb_init_28
def loL (G : Gt) (b : Nat) : List va_E := (apd [.inr (3, [.int 0, .ref (G.1 + (b + 1))])] [.inl (G.2.2 7, 4, .inr (.inr (.inr (.inr (fun k => some (G.1 + (b + 1 + 1 + k))))))), .inl (G.2.2 0, 20, .inl (fun _ => 0)), .inl (G.2.2 0, 20, .inl (fun _ => 0)), .inl (G.2.2 0, 20, .inl (fun _ => 0)), .inl (G.2.2 0, 20, .inl (fun _ => 0))])
theorem loL_len {G : Gt} {b : Nat} : (loL G b).length = 6 := (l_a (a := 1) (c := 5) (n := 6) rfl rfl rfl)
theorem loL_0 {G : Gt} {b : Nat} : (loL G b)[0]? = some (.inr (3, [.int 0, .ref (G.1 + (b + 1))])) := (g_l rfl)
abbrev rm_lo_init : Room := { frames := 1, cells := 5, slots := 84, locals := 20 }
theorem mf_lo_init : MF y_lo_init b_lo_init 1 none 0 := ⟨k_61, k_4, by decide +kernel⟩
theorem C_lo_init {l : Launch} {G : Gt} {V : Nat → va_E} {b : Nat} : Cn l G y_lo_init b_lo_init 1 rm_lo_init [.ref (G.1 + b)] (mL V b [.inr (3, [.int 0, .null])]) (mL V b (loL G b)) 5 84 := by
  refine Cn.mk (own := "RetryChains$EventLog") rfl (by decide +kernel) rfl (Nat.le_of_ble_eq_true rfl) (fun X hl hXR hn hz ok hG hm hx fin => ?_)
  have h : Kc X b_lo_init "RetryChains$EventLog" G 5 84 := ⟨ok, hG, hm, hx, hz.fits hXR ⟨Nat.le_refl _, Nat.le_refl _⟩⟩
  show Wt X _ 0 [(0, .ref (G.1 + b))] []
  refine r_more0 ?_
  refine r_aload_n rfl h.ok d_lo_init_0 rfl 0 rfl ?_
  refine m_obj rfl h k_62 k_20 k_21 (rR2 hXR ⟨Nat.le_of_ble_eq_true rfl, Nat.le_of_ble_eq_true rfl⟩) (Nat.le_of_ble_eq_true rfl) d_lo_init_1 ?_
  refine r_aload_n rfl h.ok d_lo_init_4 rfl 0 rfl ?_
  refine r_iconst (v := 4) rfl h.ok d_lo_init_5 (by decide +kernel) ?_
  refine r_bipush (v := 20) rfl h.ok d_lo_init_6 (by decide +kernel) ?_
  refine m_mnew (a' := 5) (c' := 84) (j := 1) (N' := 4) (K' := 20) (L' := (apd [.inr (3, [.int 0, .null])] [.inl (G.2.2 7, 4, .inr (.inr (.inr (.inr (fun k => some (G.1 + (b + 1 + 1 + k))))))), .inl (G.2.2 0, 20, .inl (fun _ => 0)), .inl (G.2.2 0, 20, .inl (fun _ => 0)), .inl (G.2.2 0, 20, .inl (fun _ => 0)), .inl (G.2.2 0, 20, .inl (fun _ => 0))])) rfl h k_63 k_52 (by decide +kernel) (by decide +kernel) (by decide +kernel) (by decide +kernel) (Nat.le_of_ble_eq_true rfl) (Nat.le_of_ble_eq_true rfl) (Nat.le_of_ble_eq_true rfl) rfl rfl rfl ⟨Nat.le_of_ble_eq_true rfl, Nat.le_of_ble_eq_true rfl⟩ d_lo_init_8 rfl ?_
  refine m_putF (j := 0) (ci := 3) (fs := [.int 0, .null]) (L' := (apd [.inr (3, [.int 0, .ref (G.1 + (b + 1))])] [.inl (G.2.2 7, 4, .inr (.inr (.inr (.inr (fun k => some (G.1 + (b + 1 + 1 + k))))))), .inl (G.2.2 0, 20, .inl (fun _ => 0)), .inl (G.2.2 0, 20, .inl (fun _ => 0)), .inl (G.2.2 0, 20, .inl (fun _ => 0)), .inl (G.2.2 0, 20, .inl (fun _ => 0))])) t_LOG rfl h i_LOG t_LOG_ok n_LOG rfl 1 (Nat.le_of_ble_eq_true rfl) k_67 rfl rfl rfl (t_LOG_ok 1 (Nat.le_of_ble_eq_true rfl)) rfl rfl (Nat.le_of_ble_eq_true rfl) ⟨Nat.le_of_ble_eq_true rfl, Nat.le_of_ble_eq_true rfl⟩ (g_l rfl) (s_l rfl (l_t (a := 1) rfl (Nat.le_of_ble_eq_true rfl))) d_lo_init_12 ?_
  exact fin 15 _ d_lo_init_15
