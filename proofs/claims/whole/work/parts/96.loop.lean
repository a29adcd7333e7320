section L96
variable {X : Cx (Me × Me)} {C N : Me} {w i : Nat} {G : Gt} {b L : Nat} {xs : Nat → Int32}
theorem law_body (h : Lx X G b L xs) (hi : i + 5 ≤ L) (R : Rl C N w) (hw : w ≤ 3000000) (k : ∀ C2 N2 w2, Rl C2 N2 w2 → w2 ≤ w + 5000 → Wt X (C2, N2) 1725 (LVs G b i) []) : Wt X (C, N) 26 (LVs G b i) [] := by
  have hL := h.2.2.2.2.2
  refine r_aload_n rfl h.1 d_law_26 rfl 3 rfl ?_
  refine r_iload_n rfl h.1 d_law_27 rfl 0 rfl ?_
  refine l_sld (j := i) rfl h.1 h.2.2.1 ?_ (nI_clamp (by omega)) d_law_28 ?_
  · unfold vp_in
    rw [nI_clamp (by omega)]
    rintro (c | c)
    · rw [lt_int, nI_toInt (by omega)] at c
      have c1 : ((i : Nat) : Int) < 0 := c
      omega
    · omega
  refine r_bipush (v := 63) rfl h.1 d_law_29 (by decide +kernel) ?_
  refine r_iand rfl h.1 d_law_31 ?_
  obtain ⟨c, hc, hv⟩ := and63 (xs i)
  refine r_ti hv.symm ?_
  clear hv
  match c, hc with
  | 0, _ => exact l_tabIn (off := 224) h.1 d_law_32 (by decide +kernel) (by decide +kernel) (by decide +kernel) rfl (L_0 h hi R hw k)
  | 1, _ => exact l_tabIn (off := 257) h.1 d_law_32 (by decide +kernel) (by decide +kernel) (by decide +kernel) rfl (L_1 h hi R hw k)
  | 2, _ => exact l_tabIn (off := 270) h.1 d_law_32 (by decide +kernel) (by decide +kernel) (by decide +kernel) rfl (L_2 h hi R hw k)
  | 3, _ => exact l_tabIn (off := 329) h.1 d_law_32 (by decide +kernel) (by decide +kernel) (by decide +kernel) rfl (L_3 h hi R hw k)
  | 4, _ => exact l_tabIn (off := 352) h.1 d_law_32 (by decide +kernel) (by decide +kernel) (by decide +kernel) rfl (L_4 h hi R hw k)
  | 5, _ => exact l_tabIn (off := 375) h.1 d_law_32 (by decide +kernel) (by decide +kernel) (by decide +kernel) rfl (L_5 h hi R hw k)
  | 6, _ => exact l_tabIn (off := 398) h.1 d_law_32 (by decide +kernel) (by decide +kernel) (by decide +kernel) rfl (L_6 h hi R hw k)
  | 7, _ => exact l_tabIn (off := 421) h.1 d_law_32 (by decide +kernel) (by decide +kernel) (by decide +kernel) rfl (L_7 h hi R hw k)
  | 8, _ => exact l_tabIn (off := 454) h.1 d_law_32 (by decide +kernel) (by decide +kernel) (by decide +kernel) rfl (L_8 h hi R hw k)
  | 9, _ => exact l_tabIn (off := 487) h.1 d_law_32 (by decide +kernel) (by decide +kernel) (by decide +kernel) rfl (L_9 h hi R hw k)
  | 10, _ => exact l_tabIn (off := 500) h.1 d_law_32 (by decide +kernel) (by decide +kernel) (by decide +kernel) rfl (L_10 h hi R hw k)
  | 11, _ => exact l_tabIn (off := 559) h.1 d_law_32 (by decide +kernel) (by decide +kernel) (by decide +kernel) rfl (L_11 h hi R hw k)
  | 12, _ => exact l_tabIn (off := 582) h.1 d_law_32 (by decide +kernel) (by decide +kernel) (by decide +kernel) rfl (L_12 h hi R hw k)
  | 13, _ => exact l_tabIn (off := 605) h.1 d_law_32 (by decide +kernel) (by decide +kernel) (by decide +kernel) rfl (L_13 h hi R hw k)
  | 14, _ => exact l_tabIn (off := 628) h.1 d_law_32 (by decide +kernel) (by decide +kernel) (by decide +kernel) rfl (L_14 h hi R hw k)
  | 15, _ => exact l_tabIn (off := 651) h.1 d_law_32 (by decide +kernel) (by decide +kernel) (by decide +kernel) rfl (L_15 h hi R hw k)
  | 16, _ => exact l_tabIn (off := 684) h.1 d_law_32 (by decide +kernel) (by decide +kernel) (by decide +kernel) rfl (L_16 h hi R hw k)
  | 17, _ => exact l_tabIn (off := 717) h.1 d_law_32 (by decide +kernel) (by decide +kernel) (by decide +kernel) rfl (L_17 h hi R hw k)
  | 18, _ => exact l_tabIn (off := 740) h.1 d_law_32 (by decide +kernel) (by decide +kernel) (by decide +kernel) rfl (L_18 h hi R hw k)
  | 19, _ => exact l_tabIn (off := 763) h.1 d_law_32 (by decide +kernel) (by decide +kernel) (by decide +kernel) rfl (L_19 h hi R hw k)
  | 20, _ => exact l_tabIn (off := 786) h.1 d_law_32 (by decide +kernel) (by decide +kernel) (by decide +kernel) rfl (L_20 h hi R hw k)
  | 21, _ => exact l_tabIn (off := 819) h.1 d_law_32 (by decide +kernel) (by decide +kernel) (by decide +kernel) rfl (L_21 h hi R hw k)
  | 22, _ => exact l_tabIn (off := 852) h.1 d_law_32 (by decide +kernel) (by decide +kernel) (by decide +kernel) rfl (L_22 h hi R hw k)
  | 23, _ => exact l_tabIn (off := 885) h.1 d_law_32 (by decide +kernel) (by decide +kernel) (by decide +kernel) rfl (L_23 h hi R hw k)
  | 24, _ => exact l_tabIn (off := 918) h.1 d_law_32 (by decide +kernel) (by decide +kernel) (by decide +kernel) rfl (L_24 h hi R hw k)
  | 25, _ => exact l_tabIn (off := 961) h.1 d_law_32 (by decide +kernel) (by decide +kernel) (by decide +kernel) rfl (L_25 h hi R hw k)
  | 26, _ => exact l_tabIn (off := 994) h.1 d_law_32 (by decide +kernel) (by decide +kernel) (by decide +kernel) rfl (L_26 h hi R hw k)
  | 27, _ => exact l_tabIn (off := 1027) h.1 d_law_32 (by decide +kernel) (by decide +kernel) (by decide +kernel) rfl (L_27 h hi R hw k)
  | 28, _ => exact l_tabIn (off := 1060) h.1 d_law_32 (by decide +kernel) (by decide +kernel) (by decide +kernel) rfl (L_28 h hi R hw k)
  | 29, _ => exact l_tabIn (off := 1093) h.1 d_law_32 (by decide +kernel) (by decide +kernel) (by decide +kernel) rfl (L_29 h hi R hw k)
  | 30, _ => exact l_tabIn (off := 1116) h.1 d_law_32 (by decide +kernel) (by decide +kernel) (by decide +kernel) rfl (L_30 h hi R hw k)
  | 31, _ => exact l_tabIn (off := 1159) h.1 d_law_32 (by decide +kernel) (by decide +kernel) (by decide +kernel) rfl (L_31 h hi R hw k)
  | 32, _ => exact l_tabIn (off := 1182) h.1 d_law_32 (by decide +kernel) (by decide +kernel) (by decide +kernel) rfl (L_32 h hi R hw k)
  | 33, _ => exact l_tabIn (off := 1205) h.1 d_law_32 (by decide +kernel) (by decide +kernel) (by decide +kernel) rfl (L_33 h hi R hw k)
  | 34, _ => exact l_tabIn (off := 1228) h.1 d_law_32 (by decide +kernel) (by decide +kernel) (by decide +kernel) rfl (L_34 h hi R hw k)
  | 35, _ => exact l_tabIn (off := 1251) h.1 d_law_32 (by decide +kernel) (by decide +kernel) (by decide +kernel) rfl (L_35 h hi R hw k)
  | 36, _ => exact l_tabIn (off := 1274) h.1 d_law_32 (by decide +kernel) (by decide +kernel) (by decide +kernel) rfl (L_36 h hi R hw k)
  | 37, _ => exact l_tabIn (off := 1297) h.1 d_law_32 (by decide +kernel) (by decide +kernel) (by decide +kernel) rfl (L_37 h hi R hw k)
  | 38, _ => exact l_tabIn (off := 1320) h.1 d_law_32 (by decide +kernel) (by decide +kernel) (by decide +kernel) rfl (L_38 h hi R hw k)
  | 39, _ => exact l_tabIn (off := 1333) h.1 d_law_32 (by decide +kernel) (by decide +kernel) (by decide +kernel) rfl (L_39 h hi R hw k)
  | 40, _ => exact l_tabIn (off := 1376) h.1 d_law_32 (by decide +kernel) (by decide +kernel) (by decide +kernel) rfl (L_40 h hi R hw k)
  | 41, _ => exact l_tabIn (off := 1429) h.1 d_law_32 (by decide +kernel) (by decide +kernel) (by decide +kernel) rfl (L_41 h hi R hw k)
  | 42, _ => exact l_tabIn (off := 1482) h.1 d_law_32 (by decide +kernel) (by decide +kernel) (by decide +kernel) rfl (L_42 h hi R hw k)
  | 43, _ => exact l_tabIn (off := 1515) h.1 d_law_32 (by decide +kernel) (by decide +kernel) (by decide +kernel) rfl (L_43 h hi R hw k)
  | 44, _ => exact l_tabIn (off := 1528) h.1 d_law_32 (by decide +kernel) (by decide +kernel) (by decide +kernel) rfl (L_44 h hi R hw k)
  | 45, _ => exact l_tabIn (off := 1551) h.1 d_law_32 (by decide +kernel) (by decide +kernel) (by decide +kernel) rfl (L_45 h hi R hw k)
  | 46, _ => exact l_tabIn (off := 1574) h.1 d_law_32 (by decide +kernel) (by decide +kernel) (by decide +kernel) rfl (L_46 h hi R hw k)
  | 47, _ => exact l_tabIn (off := 1597) h.1 d_law_32 (by decide +kernel) (by decide +kernel) (by decide +kernel) rfl (L_47 h hi R hw k)
  | 48, _ => exact l_tabIn (off := 1620) h.1 d_law_32 (by decide +kernel) (by decide +kernel) (by decide +kernel) rfl (L_48 h hi R hw k)
  | 49, _ => exact l_tabIn (off := 1643) h.1 d_law_32 (by decide +kernel) (by decide +kernel) (by decide +kernel) rfl (L_49 h hi R hw k)
  | 50, _ => exact l_tabIn (off := 1666) h.1 d_law_32 (by decide +kernel) (by decide +kernel) (by decide +kernel) rfl (L_50 h hi R hw k)
  | 51, _ => exact l_tabIn (off := 1679) h.1 d_law_32 (by decide +kernel) (by decide +kernel) (by decide +kernel) rfl (L_51 h hi R hw k)
  | c + 52, hc =>
    refine l_tabOut h.1 d_law_32 (Or.inr ?_) rfl (k C N w R (Nat.le_add_right _ _))
    rw [nI_toInt (by omega)]
    omega
theorem law_run (h : Lx X G b L xs) (kend : ∀ (C N : Me) (lv : List (Nat × Value)), Wt X (C, N) 1732 lv [.int 1]) : ∀ (d i : Nat) (C N : Me) (w : Nat), L ≤ i + 5 * d + 4 → i ≤ 2560 → Rl C N w → w ≤ 1000 * i → Wt X (C, N) 18 (LVs G b i) [] := by
  have hL := h.2.2.2.2.2
  intro d
  induction d with
  | zero =>
    intro i C N w hd hi0 R hw
    refine r_iload_n rfl h.1 d_law_18 rfl 0 rfl ?_
    refine r_aload_n rfl h.1 d_law_19 rfl 3 rfl ?_
    refine l_slen rfl h.1 h.2.2.1 d_law_20 ?_
    refine r_iconst (v := nI 5) rfl h.1 d_law_21 (by decide +kernel) ?_
    refine r_isub rfl h.1 d_law_22 ?_
    refine r_icmp_gt rfl h.1 d_law_23 rfl (fun _ => ?_) (fun hc => absurd (end_p hL hi0 (by omega)) hc)
    refine r_iconst (v := 1) rfl h.1 d_law_1731 (by decide +kernel) ?_
    exact kend C N _
  | succ d ih =>
    intro i C N w hd hi0 R hw
    refine r_iload_n rfl h.1 d_law_18 rfl 0 rfl ?_
    refine r_aload_n rfl h.1 d_law_19 rfl 3 rfl ?_
    refine l_slen rfl h.1 h.2.2.1 d_law_20 ?_
    refine r_iconst (v := nI 5) rfl h.1 d_law_21 (by decide +kernel) ?_
    refine r_isub rfl h.1 d_law_22 ?_
    refine r_icmp_gt rfl h.1 d_law_23 rfl (fun _ => ?_) (fun hc => ?_)
    · refine r_iconst (v := 1) rfl h.1 d_law_1731 (by decide +kernel) ?_
      exact kend C N _
    · have hi : i + 5 ≤ L := Nat.not_lt.mp (fun z => hc (end_p hL hi0 z))
      refine law_body h hi R (by omega) (fun C2 N2 w2 R2 hw2 => ?_)
      refine r_iinc (v := nI (i + 5)) rfl h.1 d_law_1725 0 rfl (by rw [show Int32.ofInt 5 = nI 5 by decide +kernel]; exact nI_add i 5) (by rw [h.2.2.2.2.1]; decide) rfl ?_
      refine r_goto h.1 d_law_1728 rfl ?_
      exact ih (i + 5) C2 N2 w2 (by omega) (by omega) R2 (by omega)
end L96
