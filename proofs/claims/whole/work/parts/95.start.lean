theorem k_14 : (Cond.classLink "RetryChainsLaw" (7 : Nat) "RetryChains") ∈ gw := in_1 (List.mem_of_getElem? (i := 14) rfl) rfl
theorem k_15 : (Cond.instantiable "RetryChains" (6 : Nat)) ∈ gw := in_1 (List.mem_of_getElem? (i := 15) rfl) rfl
theorem k_16 : (Cond.methodLink "RetryChainsLaw" (9 : Nat) y_rc_init) ∈ gw := in_1 (List.mem_of_getElem? (i := 16) rfl) rfl
theorem k_17 : (Cond.instanceMethod y_rc_init) ∈ gw := in_1 (List.mem_of_getElem? (i := 17) rfl) rfl
theorem k_979 : (Cond.classLink "RetryChainsLaw" (10 : Nat) "RetryChainsModel") ∈ gw := in_5 (List.mem_of_getElem? (i := 19) rfl) rfl
theorem k_980 : (Cond.instantiable "RetryChainsModel" (8 : Nat)) ∈ gw := in_5 (List.mem_of_getElem? (i := 20) rfl) rfl
theorem k_981 : (Cond.methodLink "RetryChainsLaw" (12 : Nat) y_m_init) ∈ gw := in_5 (List.mem_of_getElem? (i := 21) rfl) rfl
theorem k_982 : (Cond.instanceMethod y_m_init) ∈ gw := in_5 (List.mem_of_getElem? (i := 22) rfl) rfl
section P95
variable {X : Cx Mv} {cc : ByteArray} {own : String} {V : Nat → va_E} {pc n b j a c a' c' A C : Nat} {L L' : List va_E} {lv : List (Nat × Value)} {st : List Value} {G : Gt}
theorem p_new {Cn : String} {T : u_T} {N ci ix : Nat} {fs : List Value} (ty : Nat → FieldType) (he : pc + 3 = n) (h1 : Ok X cc own) (h2 : GV X G) (h4 : Nx X) (h5 : X.fits A C) (hin : ∀ w ∈ u_ws Cn T N, w ∈ gw) (hty : ∀ k, k < N → parseFieldDescriptor (T k).2.2.1 = some (ty k)) (hc : cls[ci]? = some (Cn, T, N)) (hfs : ∀ j, j < N → defaultValue (ty j) = vp_V fs j) (hw1 : Cond.classLink own ix Cn ∈ gw) (hw2 : Cond.instantiable Cn N ∈ gw) (hw3 : Cond.initialized Cn ∈ gw) (hj : L.length = j) (ha : a + 1 = a') (hs : c + N = c') (hle : a' ≤ A ∧ c' ≤ C) (d : decode cc pc = .ok (.new ix, 3)) (k : Wt (X.more a' c') (mL V b (L ++ [.inr (ci, fs)])) n lv (.ref (G.1 + (b + j)) :: st)) : Wt (X.more a c) (mL V b L) pc lv st := by
  subst hj; subst ha; subst hs
  refine n_new ty he (Ok.more h1) (Gx.more h2 (fits_le h5 ⟨by omega, by omega⟩)) hin hty hc hfs hw1 hw2 hw3 (fits_more (fits_le h5 hle)) d ?_
  rw [more_more, ← mL_push]
  exact k
theorem p_callC {R L1 L2 : List va_E} {e0 : va_E} {st0 : List Value} {y : MethodName} {bb : ByteArray} {nl : Nat} {rm : Room} {na ix mc ms bj : Nat} {As : List Value} (he : pc + 3 = n) (h1 : Ok X cc own) (h2 : GV X G) (h4 : Nx X) (h5 : X.fits A C) (hF : MF y bb nl none na) (hy : y.name = "<init>") (hI : Cond.instanceMethod y ∈ gw) (hw : Cond.methodLink own ix y ∈ gw) (hC : Cn X.l G y bb nl rm (.ref (G.1 + bj) :: As) (mL (apV V b L) bj [e0]) (mL (apV V b L) bj R) mc ms) (hj : b + L.length = bj) (hrm : rm.cells = mc ∧ rm.slots = ms) (hR : rm.frames + 1 ≤ X.R.frames ∧ 8 + (nl + 11) + rm.locals ≤ X.R.locals) (hn : As.length = na)
    (hst : st0 = As.reverse ++ .ref (G.1 + bj) :: st) (hcat : (st.map fun v => v.category).sum ≤ 8) (d : decode cc pc = .ok (.invokespecial ix, 3)) (ha : a + mc = a') (hs : c + ms = c') (hle : a' ≤ A ∧ c' ≤ C) (hL1 : L ++ [e0] = L1) (hL2 : L ++ R = L2) (k : Wt (X.more a' c') (mL V b L2) n lv st) : Wt (X.more a c) (mL V b L1) pc lv st0 := by
  subst hj; subst hL1; subst hL2
  rw [← mL_app, ← mL_app] at hC
  rw [← ha, ← hs, ← more_more] at k
  rw [← more_l (a := a) (c := c)] at hC
  exact n_callC he (Ok.more h1) (Gx.more h2 (fits_le h5 ⟨by omega, by omega⟩)) (Nx.more h4) hF hy hI hw hC hrm (by rw [more_R]; exact hR) hn hst hcat d (fits_more (by rw [ha, hs]; exact fits_le h5 hle)) k
end P95
theorem it_1 {w : Cond} (h : w ∈ tables_1_1) : w ∈ lw_tbl := List.mem_append_right _ (List.mem_append_left _ h)
theorem it_2 {w : Cond} (h : w ∈ tables_1_2) : w ∈ lw_tbl := List.mem_append_right _ (List.mem_append_right _ (List.mem_append_left _ h))
theorem it_3 {w : Cond} (h : w ∈ tables_1_3) : w ∈ lw_tbl := List.mem_append_right _ (List.mem_append_right _ (List.mem_append_right _ (List.mem_append_left _ h)))
theorem arr_p {s : State} {A : Array Value} {ty : FieldType} (h : (Cond.arrayClass ty).before A s = true) : ∃ cA : ClassId, ArrOfT s cA ty ∧ s.vm.findClass ("[" ++ ty.toString) = some cA := by
  obtain ⟨comp, k, cc, h1, h2, h3⟩ := Cond.arrayClass_spec h
  exact ⟨comp, fun n z => ⟨(fun q e => by cases e), k, h2, cc, h3⟩, h1⟩
theorem arr_o {s : State} {C : String} (h : va_AO C s) : ∃ cA : ClassId, ArrOfT s cA (.object C) ∧ va_RA s cA (.object C) := by
  obtain ⟨comp, c, k, h1, h2, h3, h4, h5⟩ := Cond.arrayOver_spec h
  exact ⟨c, fun n z => ⟨(fun q e => by cases e), k, h3, comp, h4⟩, k, comp, h3, h4, h1, h5⟩
theorem arr_a {s : State} {A : Array Value} (h : (Cond.arrayOver (.array .int)).before A s = true) : ∃ cA : ClassId, ArrOfT s cA (.array .int) ∧ s.vm.findClass ("[" ++ (FieldType.array .int).toString) = some cA := by
  obtain ⟨comp, c, k, h1, h2, h3, h4, h5⟩ := arrayOverA_spec h
  exact ⟨c, fun n z => ⟨(fun q e => by cases e), k, h3, comp, h4⟩, h5⟩
theorem start_G {s : State} {b : Nat} (hts : ∀ w ∈ lw_tbl, w.before #[Value.ref b] s = true) : ∃ G : Gt, G.1 = s.heap.size ∧ Kn G s ∧ Nst s := by
  have htg : ∀ w ∈ gw, w.before #[Value.ref b] s = true := fun w hw => hts w (List.mem_filter.mp hw).1
  obtain ⟨c0, i0, k0⟩ := u_known (C := "RetryChains") (T := F_RC) (N := 6) (n := 6) htg i_RC (htg _ k_15)
  obtain ⟨c1, i1, k1⟩ := u_known (C := "RetryChains$Network") (T := F_NET) (N := 11) (n := 11) htg i_NET (htg _ k_23)
  obtain ⟨c2, i2, k2⟩ := u_known (C := "RetryChains$RateTable") (T := F_TAB) (N := 4) (n := 4) htg i_TAB (htg _ k_29)
  obtain ⟨c3, i3, k3⟩ := u_known (C := "RetryChains$EventLog") (T := F_LOG) (N := 2) (n := 2) htg i_LOG (htg _ k_58)
  obtain ⟨c4, i4, k4⟩ := u_known (C := "RetryChains$Station") (T := F_STA) (N := 15) (n := 15) htg i_STA (htg _ k_74)
  obtain ⟨c5, i5, k5⟩ := u_known (C := "RetryChains$Link") (T := F_LNK) (N := 8) (n := 8) htg i_LNK (htg _ k_81)
  obtain ⟨c6, i6, k6⟩ := u_known (C := "RetryChains$Chain") (T := F_CHN) (N := 7) (n := 7) htg i_CHN (htg _ k_199)
  obtain ⟨c7, i7, k7⟩ := u_known (C := "RetryChains$History") (T := F_HIS) (N := 3) (n := 3) htg i_HIS (htg _ k_286)
  obtain ⟨c8, i8, k8⟩ := u_known (C := "RetryChains$ChainSearch") (T := F_SEA) (N := 11) (n := 11) htg i_SEA (htg _ k_306)
  obtain ⟨c9, i9, k9⟩ := u_known (C := "RetryChainsModel") (T := F_MOD) (N := 8) (n := 8) htg i_MOD (htg _ k_980)
  obtain ⟨aI, aI1, aI2⟩ := arr_p (htg _ k_52)
  obtain ⟨aL, aL1, aL2⟩ := arr_p (htg _ k_348)
  obtain ⟨aZ, aZ1, aZ2⟩ := arr_p (htg _ k_304)
  have oN : va_AO "RetryChains$Network" s := va_AO.of (hts _ (it_2 (List.mem_of_getElem? (i := 44) rfl)))
  obtain ⟨aN, aN1, aN2⟩ := arr_o oN
  have oS : va_AO "RetryChains$Station" s := va_AO.of (hts _ (it_1 (List.mem_of_getElem? (i := 54) rfl)))
  obtain ⟨aS, aS1, aS2⟩ := arr_o oS
  have oC : va_AO "RetryChains$Chain" s := va_AO.of (hts _ (it_1 (List.mem_of_getElem? (i := 56) rfl)))
  obtain ⟨aC, aC1, aC2⟩ := arr_o oC
  have oK : va_AO "RetryChains$Link" s := va_AO.of (hts _ (it_1 (List.mem_of_getElem? (i := 80) rfl)))
  obtain ⟨aK, aK1, aK2⟩ := arr_o oK
  have oA : (Cond.arrayOver (.array .int)).before #[Value.ref b] s = true := hts _ (it_1 (List.mem_of_getElem? (i := 64) rfl))
  obtain ⟨aA, aA1, aA2⟩ := arr_a oA
  refine ⟨(s.heap.size, (fun k => match k with | 0 => c0 | 1 => c1 | 2 => c2 | 3 => c3 | 4 => c4 | 5 => c5 | 6 => c6 | 7 => c7 | 8 => c8 | _ => c9, fun k => match k with | 0 => i0 | 1 => i1 | 2 => i2 | 3 => i3 | 4 => i4 | 5 => i5 | 6 => i6 | 7 => i7 | 8 => i8 | _ => i9), fun k => match k with | 0 => aI | 1 => aL | 2 => aZ | 3 => aN | 4 => aS | 5 => aC | 6 => aK | _ => aA), rfl, ⟨⟨fun k q hq => ?_, fun k q hq => ?_⟩, va_tabs rfl rfl (hts _ (it_3 (List.mem_of_getElem? (i := 40) rfl)))⟩, ⟨oN, oS, oC, oK, oA⟩, va_tabs rfl rfl (hts _ (it_2 (List.mem_of_getElem? (i := 67) rfl))), va_tabs rfl rfl (hts _ (it_1 (List.mem_of_getElem? (i := 30) rfl))), va_tabs rfl rfl (hts _ (it_1 (List.mem_of_getElem? (i := 59) rfl))), va_tabs rfl rfl (hts _ (it_1 (List.mem_of_getElem? (i := 200) rfl))), va_tabs rfl rfl (hts _ (it_1 (List.mem_of_getElem? (i := 82) rfl)))⟩
  · match k, hq with
    | 0, hq => cases hq; exact k0
    | 1, hq => cases hq; exact k1
    | 2, hq => cases hq; exact k2
    | 3, hq => cases hq; exact k3
    | 4, hq => cases hq; exact k4
    | 5, hq => cases hq; exact k5
    | 6, hq => cases hq; exact k6
    | 7, hq => cases hq; exact k7
    | 8, hq => cases hq; exact k8
    | 9, hq => cases hq; exact k9
    | k + 10, hq => rw [List.getElem?_eq_none (by show 10 ≤ k + 10; omega)] at hq; cases hq
  · match k, hq with
    | 0, hq => cases hq; exact ⟨aI1, aI2⟩
    | 1, hq => cases hq; exact ⟨aL1, aL2⟩
    | 2, hq => cases hq; exact ⟨aZ1, aZ2⟩
    | 3, hq => cases hq; exact ⟨aN1, aN2⟩
    | 4, hq => cases hq; exact ⟨aS1, aS2⟩
    | 5, hq => cases hq; exact ⟨aC1, aC2⟩
    | 6, hq => cases hq; exact ⟨aK1, aK2⟩
    | 7, hq => cases hq; exact ⟨aA1, aA2⟩
    | k + 8, hq => rw [List.getElem?_eq_none (by show 8 ≤ k + 8; omega)] at hq; cases hq
