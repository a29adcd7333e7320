/-! more calls that act -/
section L69
variable {C M : Me} {sc cnt w : Nat}
theorem T_lay (R : Rl C M w) (x y : Int32) : ∃ o C' M', f_rc_lay C x y = some (o, C') ∧ f_m_lay M x y = some (o, M') ∧ Rl C' M' (w + 5000) := by
  obtain ⟨⟨sc, cnt, h⟩, hs, hh⟩ := id R
  have hl := h.lt
  have st := sta_c (C := C) (M := M) (i := 0) h x
  rw [sN_e, sV_e] at st
  unfold f_rc_lay f_m_lay
  rcases st with ⟨s, h1, rfl, a1, a2⟩ | ⟨a1, a2⟩
  · rcases frame_c y with ⟨z, hz, hz2, rfl, b1, b2⟩ | ⟨b1, b2⟩
    · obtain ⟨c1, c2⟩ := c_hA (C := C) (i := 0) h h1
      obtain ⟨d1, d2⟩ := m_hA (M := M) h h1
      rw [sN_e] at c1 c2
      rw [sV_e] at d1 d2
      by_cases ha : hA (mV M) s cnt
      · have cf := c_fc (C := C) (i := 0) h.E
        have mf := m_fc (M := M) (v := mV M)
        rw [sN_e] at cf
        rw [sV_e] at mf
        cases hf : frC (mV M) with
        | none =>
          rw [hf] at cf mf
          refine fwd (o := -3) ?_ (bs a2 (im (by decide) (bs b2 (im (by decide) (bs (d1 ha) (im (by decide) (bs mf (ip rfl rfl)))))))) (Rl_m R (by omega))
          refine bs a1 ?_
          rw [oe]
          exact bs b1 (im (by decide) (bs (c1 ha) (im (by decide) (bs cf (ip rfl rfl)))))
        | some c =>
          rw [hf] at cf mf
          have hc := (frC_b hf).1
          obtain ⟨C', M', k1, k2, k3, k4⟩ := t_act hs hh h
          obtain ⟨N', v', l1, l2, l3, -⟩ := s_lays (C := C') (M := M') (i := 0) h h1 ha hf ⟨hz, hz2⟩
          refine fwd (o := nI c) ?_ (bs a2 (im (by decide) (bs b2 (im (by decide) (bs (d1 ha) (im (by decide) (bs mf (im (ne9 (by omega)) (bs k2 (bs l2 rfl)))))))))) (Rl_n k3 k4 (by omega) (RN_m l3 (by omega)))
          refine bs a1 ?_
          rw [oe]
          exact bs b1 (im (by decide) (bs (c1 ha) (im (by decide) (bs cf (im (ne9 (by omega)) (bs k1 (bs l1 rfl)))))))
      · refine fwd (o := -2) ?_ (bs a2 (im (by decide) (bs b2 (im (by decide) (bs (d2 ha) (ip rfl rfl)))))) (Rl_m R (by omega))
        refine bs a1 ?_
        rw [oe]
        exact bs b1 (im (by decide) (bs (c2 ha) (ip rfl rfl)))
    · refine fwd (o := -1) ?_ (bs a2 (im (by decide) (bs b2 (ip rfl rfl)))) (Rl_m R (by omega))
      refine bs a1 ?_
      rw [oe]
      exact bs b1 (ip rfl rfl)
  · exact fwd (o := -1) (bs a1 rfl) (bs a2 (ip rfl rfl)) (Rl_m R (by omega))
theorem T_enqueue (R : Rl C M w) (x y : Int32) : ∃ o C' M', f_rc_enqueue C x y = some (o, C') ∧ f_m_enqueue M x y = some (o, M') ∧ Rl C' M' (w + 5000) := by
  obtain ⟨⟨sc, cnt, h⟩, hs, hh⟩ := id R
  have hl := h.lt
  have st := sta_c (C := C) (M := M) (i := 0) h x
  rw [sN_e, sV_e] at st
  unfold f_rc_enqueue f_m_enqueue
  rcases st with ⟨s, h1, rfl, a1, a2⟩ | ⟨a1, a2⟩
  · rcases frame_c y with ⟨z, hz, hz2, rfl, b1, b2⟩ | ⟨b1, b2⟩
    · have hs4 : s < 4 := by omega
      obtain ⟨-, q2, -, -⟩ := h.iT s hs4
      obtain ⟨l, hl6, hl8⟩ : ∃ l, mV M (aS s + 6) = nI l ∧ l ≤ 8 := by
        have e := tN_int q2.1
        exact ⟨tN (mV M (aS s + 6)), nn_eq q2.1, by omega⟩
      have e31 : C.1 31 0 s 0 = nI l := (h.E 31 s 0 rfl (dS (by simp) hs4)).trans hl6
      have g6 : ∀ k : Nat, k < 20 → ∀ y : Int32, y = nI k → gin (nI (290 + 32 * s) + y) 600 := fun k hk y hy => gx (k := 290 + 32 * s + k) (by rw [hy]; exact l_add _ _) (by omega) (by omega)
      have r6 : ∀ M2 : Me, M2.1 100 0 0 (tN (nI (290 + 32 * s) + (6 : Int32))) = M2.1 100 0 0 (290 + 32 * s + 6) := fun M2 => by rw [tx (k := 290 + 32 * s + 6) (by simp only [IXr]) (by omega)]
      have m6 : M.1 100 0 0 (290 + 32 * s + 6) = nI l := hl6
      by_cases c8 : l = 8
      · refine fwd (o := -3) ?_ (bs a2 (im (by decide) (bs b2 (im (by decide) (bs (sd s) (ip (g6 6 (by omega) _ rfl) (ip (by rw [r6, m6, c8]; rfl) rfl))))))) (Rl_m R (by omega))
        refine bs a1 ?_
        rw [oe]
        refine bs b1 (im (by decide) (im ?_ rfl))
        show ¬ C.1 31 0 s 0 < 8
        rw [e31, c8]
        decide
      · obtain ⟨C', M', k1, k2, k3, k4⟩ := t_act hs hh h
        obtain ⟨N', l1, l2⟩ := s_enq (C := C') (i := 0) h h1 ⟨hz, hz2⟩ hl6 (by omega)
        refine fwd (o := nI (l + 1)) ?_ (bs a2 (im (by decide) (bs b2 (im (by decide) (bs (sd s) (ip (g6 6 (by omega) _ rfl) (im (by rw [r6, m6, show (8 : Int32) = nI 8 from rfl, nI_j (by omega) (by omega)]; exact c8) (bs k2 (ip (g6 6 (by omega) _ rfl) ?_))))))))) (Rl_n k3 k4 (by omega) (RN_m l2 (by omega)))
        · refine bs a1 ?_
          rw [oe]
          refine bs b1 (im (by decide) (ip ?_ (bs k1 (bs l1 rfl))))
          show C.1 31 0 s 0 < 8
          rw [e31]
          exact (nI_lt' (b := 8) (by omega) (by omega)).mpr (by omega)
        · rw [r6, rdV, show mV M (290 + 32 * s + 6) = nI l from hl6]
          refine ip (gx (k := 290 + 32 * s + 7 + l) (by simp only [IXr, l_add]) (by omega) (by omega)) (bs (wx (k := 290 + 32 * s + 7 + l) (by simp only [IXr, l_add]) (by omega)) (ip (g6 6 (by omega) _ rfl) (ip (g6 6 (by omega) _ rfl) ?_)))
          rw [r6, rdV, up_n (by omega), show mV M (290 + 32 * s + 6) = nI l from hl6, nI_1]
          refine bs (wx (k := 290 + 32 * s + 6) (by simp only [IXr]) (by omega)) (ip (g6 6 (by omega) _ rfl) ?_)
          rw [r6, rdV, up_s]
    · refine fwd (o := -1) ?_ (bs a2 (im (by decide) (bs b2 (ip rfl rfl)))) (Rl_m R (by omega))
      refine bs a1 ?_
      rw [oe]
      exact bs b1 (ip rfl rfl)
  · exact fwd (o := -1) (bs a1 rfl) (bs a2 (ip rfl rfl)) (Rl_m R (by omega))
theorem T_dispatch (R : Rl C M w) : ∃ o C' M', f_rc_dispatch C = some (o, C') ∧ f_m_dispatch M = some (o, M') ∧ Rl C' M' (w + 5000) := by
  obtain ⟨⟨sc, cnt, h⟩, hs, hh⟩ := id R
  have hl := h.lt
  have cf := c_fc (C := C) (i := 0) h.E
  have mf := m_fc (M := M) (v := mV M)
  obtain ⟨c1, c2⟩ := c_anR (C := C) (i := 0) h
  obtain ⟨d1, d2⟩ := m_anR (M := M) h
  rw [sN_e] at cf c1 c2
  rw [sV_e] at mf d1 d2
  unfold f_rc_dispatch f_m_dispatch
  cases hf : frC (mV M) with
  | none =>
    rw [hf] at cf mf
    exact fwd (o := -3) (bs cf (ip rfl rfl)) (bs mf (ip rfl rfl)) (Rl_m R (by omega))
  | some c =>
    rw [hf] at cf mf
    have hc := (frC_b hf).1
    by_cases ha : anR (mV M) sc cnt
    · obtain ⟨C', M', k1, k2, k3, k4⟩ := t_act hs hh h
      obtain ⟨N', v', l1, l2, l3⟩ := s_disp (C := C') (M := M') (i := 0) h ha hf
      exact fwd (o := nI c) (bs cf (im (ne9 (by omega)) (bs (c1 ha) (im (by decide) (bs k1 l1))))) (bs mf (im (ne9 (by omega)) (bs (d1 ha) (im (by decide) (bs k2 l2))))) (Rl_n k3 k4 (by omega) (RN_m l3 (by omega)))
    · exact fwd (o := -9) (bs cf (im (ne9 (by omega)) (bs (c2 ha) (ip rfl rfl)))) (bs mf (im (ne9 (by omega)) (bs (d2 ha) (ip rfl rfl)))) (Rl_m R (by omega))
theorem T_report (R : Rl C M w) (hw : w < 1000000000) (x y z : Int32) (hz : z = 0 ∨ z = 1) : ∃ o C' M', f_rc_report C x y z = some (o, C') ∧ f_m_report M x y z = some (o, M') ∧ Rl C' M' (w + 5000) := by
  obtain ⟨⟨sc, cnt, h⟩, hs, hh⟩ := id R
  have hl := h.lt
  have st := ch_c (C := C) (M := M) (i := 0) h x
  rw [sN_e, sV_e] at st
  unfold f_rc_report f_m_report
  rcases st with ⟨c, hc, rfl, ho, a1, a2⟩ | ⟨a1, a2⟩
  · have oc := h.iC.oc hc ho
    have hb := off_b oc
    have ca := c_all (C := C) (i := 0) h.E oc
    have ma := m_all (M := M) oc
    rw [sN_e] at ca
    rw [sV_e] at ma
    have eA : (nI (off (mV M) c 4)).toInt = (off (mV M) c 4 : Int) := nI_i (by omega)
    rcases in_c y (off (mV M) c 4 + 1) with ⟨T, hT, rfl⟩ | q
    · have eT : (nI T).toInt = (T : Int) := nI_i (by omega)
      by_cases hT1 : 1 ≤ T
      · have b1 : ¬ nI T < 1 := fun q => by rw [lt_int, z_1, eT] at q; omega
        have b2 : nI T ≤ nI (off (mV M) c 4) := by rw [le_int, eT, eA]; omega
        have b3 : f_m_in (nI T) 1 (nI (off (mV M) c 4)) = some 1 := m_inT (by rw [z_1, eT, eA]; omega)
        have ct := c_tot (C := C) (i := 0) (T := T) h.E h.iR oc (by omega)
        have mt := m_tot (M := M) (T := T) h.iR oc (by omega)
        rw [sN_e] at ct
        rw [sV_e] at mt
        have hsb := sF_b h.iR oc T (by omega)
        have e1 : C.1 1 0 0 0 = mV M 0 := h.E 1 0 0 rfl rfl
        have v00 := h.iS.2.2.2.2.2.2.1
        have vlt := Int32.toInt_lt (mV M 0)
        obtain ⟨tt, htt⟩ : ∃ tt, tt = sF (mV M) c T := ⟨_, rfl⟩
        rw [← htt] at ct mt hsb
        have et : (nI tt).toInt = (tt : Int) := nI_i (by omega)
        have e0 : mV M 0 = nI (tN (mV M 0)) := nn_eq v00
        have g0 := tN_int v00
        have cS : nI tt ≤ (2147483647 : Int32) - C.1 1 0 0 0 ↔ tN (mV M 0) + tt ≤ 2147483647 := by
          rw [e1, e0, show (2147483647 : Int32) = nI 2147483647 from rfl, tN_nI (by omega), nI_sb (by omega), nI_le' (by omega) (by omega)]
          omega
        have mS : M.1 100 0 0 (tN 0) ≤ (2147483647 : Int32) - nI tt ↔ tN (mV M 0) + tt ≤ 2147483647 := by
          show mV M 0 ≤ (2147483647 : Int32) - nI tt ↔ _
          rw [e0, show (2147483647 : Int32) = nI 2147483647 from rfl, tN_nI (by omega), nI_sb (by omega), nI_le' (by omega) (by omega)]
          omega
        have core : tN (mV M 0) + tt ≤ 2147483647 → ∃ C' M' C1, f_hi_keep C 0 = some (sN C1 0 (nN C 0)) ∧ ((f_nt_conclude (sN C1 0 (nN C 0)) 0 0 c (nI T) z).bind fun r17 => (f_nt_updateEnded r17 0).bind fun r18 => some (nI tt, r18)) = some (nI tt, C') ∧ ((f_m_act M).bind fun r15 => (f_m_reports r15 (nI c) (nI T) z).bind fun r16 => some (r16.1, r16.2)) = some (nI tt, M') ∧ Rl C' M' (w + 5000) := fun ht => by
          obtain ⟨C1, M1, k1, k2, k3, k4⟩ := t_act hs hh h
          obtain ⟨N1, N2, v', r1, r2, r3, r4, -⟩ := s_rep (C := C1) (M := M1) (i := 0) (T := T) (ok := z) h (by omega) hc ho hT1 (by omega) hz (by rw [← htt]; omega)
          rw [← htt] at r3
          exact ⟨_, _, C1, k1, bs r1 (bs r2 rfl), bs k2 (bs r3 rfl), Rl_n k3 k4 (by omega) (RN_m r4 (by omega))⟩
        rcases hz with rfl | rfl
        · by_cases c4 : off (mV M) c 4 ≤ T
          · have b4 : nI (off (mV M) c 4) ≤ nI T := (nI_le' (by omega) (by omega)).mpr c4
            by_cases ht : tN (mV M 0) + tt ≤ 2147483647
            · obtain ⟨C', M', C1, q1, q2, q3, q4⟩ := core ht
              refine fwd (o := nI tt) ?_ (bs a2 (im (by decide) (bs ma (bs b3 (im (by decide) (ip rfl (bs ma (ip b4 (bs mt (ip (mS.mpr ht) q3)))))))))) q4
              refine bs a1 ?_
              rw [oe]
              exact im b1 (bs ca (ip b2 (ip rfl (bs ca (ip b4 (bs ct (ip (cS.mpr ht) (bs q1 q2))))))))
            · refine fwd (o := -4) ?_ (bs a2 (im (by decide) (bs ma (bs b3 (im (by decide) (ip rfl (bs ma (ip b4 (bs mt (im (fun q => ht (mS.mp q)) rfl)))))))))) (Rl_m R (by omega))
              refine bs a1 ?_
              rw [oe]
              exact im b1 (bs ca (ip b2 (ip rfl (bs ca (ip b4 (bs ct (im (fun q => ht (cS.mp q)) rfl)))))))
          · have b4 : ¬ nI (off (mV M) c 4) ≤ nI T := fun q => c4 ((nI_le' (by omega) (by omega)).mp q)
            refine fwd (o := -1) ?_ (bs a2 (im (by decide) (bs ma (bs b3 (im (by decide) (ip rfl (bs ma (im b4 rfl)))))))) (Rl_m R (by omega))
            refine bs a1 ?_
            rw [oe]
            exact im b1 (bs ca (ip b2 (ip rfl (bs ca (im b4 rfl)))))
        · by_cases ht : tN (mV M 0) + tt ≤ 2147483647
          · obtain ⟨C', M', C1, q1, q2, q3, q4⟩ := core ht
            refine fwd (o := nI tt) ?_ (bs a2 (im (by decide) (bs ma (bs b3 (im (by decide) (im (by decide) (bs mt (ip (mS.mpr ht) q3)))))))) q4
            refine bs a1 ?_
            rw [oe]
            exact im b1 (bs ca (ip b2 (im (by decide) (bs ct (ip (cS.mpr ht) (bs q1 q2))))))
          · refine fwd (o := -4) ?_ (bs a2 (im (by decide) (bs ma (bs b3 (im (by decide) (im (by decide) (bs mt (im (fun q => ht (mS.mp q)) rfl)))))))) (Rl_m R (by omega))
            refine bs a1 ?_
            rw [oe]
            exact im b1 (bs ca (ip b2 (im (by decide) (bs ct (im (fun q => ht (cS.mp q)) rfl)))))
      · refine fwd (o := -1) ?_ (bs a2 (im (by decide) (bs ma (bs (m_inF (by rw [z_1, eT]; omega)) (ip rfl rfl))))) (Rl_m R (by omega))
        refine bs a1 ?_
        rw [oe]
        exact ip (by rw [lt_int, z_1, eT]; omega) rfl
    · refine fwd (o := -1) ?_ (bs a2 (im (by decide) (bs ma (bs (m_inF (by rw [z_1, eA]; omega)) (ip rfl rfl))))) (Rl_m R (by omega))
      refine bs a1 ?_
      rw [oe]
      by_cases c1 : y < 1
      · exact ip c1 rfl
      · rw [lt_int, z_1] at c1
        exact im (fun q => by rw [lt_int, z_1] at q; omega) (bs ca (im (fun q => by rw [le_int, eA] at q; omega) rfl))
  · exact fwd (o := -1) (bs a1 rfl) (bs a2 (ip rfl rfl)) (Rl_m R (by omega))
theorem T_pass (R : Rl C M w) (hw : w < 1000000000) (x : Int32) : ∃ o C' M', f_rc_pass C x = some (o, C') ∧ f_m_pass M x = some (o, M') ∧ Rl C' M' (w + 5000) := by
  obtain ⟨⟨sc, cnt, h⟩, hs, hh⟩ := id R
  have e1 : C.1 1 0 0 0 = mV M 0 := h.E 1 0 0 rfl rfl
  have v00 := h.iS.2.2.2.2.2.2.1
  unfold f_rc_pass f_m_pass
  by_cases hx : 0 ≤ x
  · have hx' : 0 ≤ x.toInt := by rw [le_int, z_0] at hx; exact hx
    have g0 := tN_int v00
    have gx' := tN_int hx'
    have vlt := Int32.toInt_lt (mV M 0)
    have xlt := Int32.toInt_lt x
    have e0 : mV M 0 = nI (tN (mV M 0)) := nn_eq v00
    have ex : x = nI (tN x) := nn_eq hx'
    have cS : x ≤ (2147483647 : Int32) - C.1 1 0 0 0 ↔ tN (mV M 0) + tN x ≤ 2147483647 := by
      have q : nI (tN x) ≤ (2147483647 : Int32) - nI (tN (mV M 0)) ↔ tN (mV M 0) + tN x ≤ 2147483647 := by
        rw [show (2147483647 : Int32) = nI 2147483647 from rfl, nI_sb (by omega), nI_le' (by omega) (by omega)]
        omega
      rw [← ex, ← e0] at q
      rw [e1]
      exact q
    have mS : M.1 100 0 0 (tN 0) ≤ (2147483647 : Int32) - x ↔ tN (mV M 0) + tN x ≤ 2147483647 := by
      have q : nI (tN (mV M 0)) ≤ (2147483647 : Int32) - nI (tN x) ↔ tN (mV M 0) + tN x ≤ 2147483647 := by
        rw [show (2147483647 : Int32) = nI 2147483647 from rfl, nI_sb (by omega), nI_le' (by omega) (by omega)]
        omega
      rw [← ex, ← e0] at q
      exact q
    by_cases ht : tN (mV M 0) + tN x ≤ 2147483647
    · obtain ⟨C', M', k1, k2, k3, k4⟩ := t_act hs hh h
      have es : (mV M 0 + x).toInt = (mV M 0).toInt + x.toInt := ad_I (by omega) (by omega)
      have h1 := RN_time (x := mV M 0 + x) h (by omega)
      obtain ⟨N', v', d1, d2, d3, d4, -⟩ := s_due (C := C') (M := M') (i := 0) h1 (by omega)
      refine fwd (o := v' 0) (ip hx (ip (cS.mpr ht) (bs k1 (bs (x := sN C' 0 (uN (nN C 0) 1 0 0 (mV M 0 + x))) ?_ (bs d1 ?_))))) (ip hx (ip (mS.mpr ht) (bs k2 (bs (x := sV M' (upd (mV M) 0 (mV M 0 + x))) (by rw [t_0, rdV, wrV]) (bs d2 (by rw [t_0, rdV])))))) (Rl_n k3 k4 (by omega) (RN_m d3 (by omega)))
      · rw [rdN (by decide), show (nN C 0).1 1 0 0 = mV M 0 from e1, wrN (by decide)]
      · rw [rdN (by decide), d3.E 1 0 0 rfl rfl]
        rfl
    · exact fwd (o := -4) (ip hx (im (fun q => ht (cS.mp q)) rfl)) (ip hx (im (fun q => ht (mS.mp q)) rfl)) (Rl_m R (by omega))
  · exact fwd (o := -1) (im hx rfl) (im hx rfl) (Rl_m R (by omega))
theorem T_update (R : Rl C M w) (hw : w < 1000000000) (x : Int32) : ∃ o C' M', f_rc_update C x = some (o, C') ∧ f_m_update M x = some (o, M') ∧ Rl C' M' (w + 5000) := by
  obtain ⟨⟨sc, cnt, h⟩, hs, hh⟩ := id R
  have st := sta_c (C := C) (M := M) (i := 0) h x
  rw [sN_e, sV_e] at st
  unfold f_rc_update f_m_update
  rcases st with ⟨s, h1, rfl, a1, a2⟩ | ⟨a1, a2⟩
  · obtain ⟨C', M', k1, k2, k3, k4⟩ := t_act hs hh h
    obtain ⟨y, N', v', d1, d2, d3, -⟩ := s_ref (C := C') (M := M') (i := 0) h h1 (by omega)
    refine fwd (o := y) ?_ (bs a2 (im (by decide) (bs k2 (bs d2 rfl)))) (Rl_n k3 k4 (by omega) (RN_m d3 (by omega)))
    refine bs a1 ?_
    rw [oe]
    exact bs k1 (bs d1 rfl)
  · exact fwd (o := -1) (bs a1 rfl) (bs a2 (ip rfl rfl)) (Rl_m R (by omega))
/-- why a simulation isn't done: both sides -/
theorem why_c (h : RN (nN C 0) (mV M) sc cnt w) (x y z : Int32) : (∃ e, ¬ e = 0 ∧ f_rc_errorOfSimulation C x y z = some e ∧ f_m_whyNot M x y z = some e) ∨ (f_rc_errorOfSimulation C x y z = some 0 ∧ f_m_whyNot M x y z = some 0 ∧ ∃ s n zz, s < sc ∧ x = nI s ∧ hA (mV M) s cnt ∧ (∃ c, frC (mV M) = some c) ∧ (1 ≤ n ∧ n ≤ 50) ∧ y = nI n ∧ (1 ≤ zz ∧ zz ≤ 4000) ∧ z = nI zz ∧ (mV M 0).toInt ≤ 1000000000) := by
  have hl := h.lt
  have st := sta_c (C := C) (M := M) (i := 0) h x
  rw [sN_e, sV_e] at st
  unfold f_m_whyNot
  rcases st with ⟨s, h1, rfl, a1, a2⟩ | ⟨a1, a2⟩
  · have cpre : ∀ o : Option Int32, (if y < 1 then some (-1) else if 50 < y then some (-1) else (f_rc_isFrame z).bind fun r5 => if r5 = 0 then some (-1) else (f_st_hasAllowedRate C 0 s 0).bind fun r7 => if r7 = 0 then some (-2) else (f_nt_freeChain C 0).bind fun r9 => if r9 = (-9) then some (-3) else if (C.1 1 0 0 0) ≤ 1000000000 then some 0 else some (-4)) = o → f_rc_errorOfSimulation C (nI s) y z = o := fun o q => by
      unfold f_rc_errorOfSimulation
      refine bs a1 ?_
      rw [oe]
      exact q
    rcases in_c y 51 with ⟨n, hn, rfl⟩ | q
    · have en : (nI n).toInt = (n : Int) := nI_i (by omega)
      by_cases hn1 : 1 ≤ n
      · have b1 : ¬ nI n < 1 := fun q => by rw [lt_int, z_1, en] at q; omega
        have b2 : ¬ (50 : Int32) < nI n := fun q => by rw [lt_int, z_50, en] at q; omega
        have b3 : f_m_in (nI n) 1 50 = some 1 := m_inT (by rw [z_1, z_50, en]; omega)
        rcases frame_c z with ⟨zz, hz, hz2, rfl, f1, f2⟩ | ⟨f1, f2⟩
        · obtain ⟨c1, c2⟩ := c_hA (C := C) (i := 0) h h1
          obtain ⟨d1, d2⟩ := m_hA (M := M) h h1
          have cf := c_fc (C := C) (i := 0) h.E
          have mf := m_fc (M := M) (v := mV M)
          rw [sN_e] at c1 c2 cf
          rw [sV_e] at d1 d2 mf
          by_cases ha : hA (mV M) s cnt
          · cases hf : frC (mV M) with
            | none =>
              rw [hf] at cf mf
              exact Or.inl ⟨-3, by decide, cpre _ (im b1 (im b2 (bs f1 (im (by decide) (bs (c1 ha) (im (by decide) (bs cf (ip rfl rfl)))))))), bs a2 (im (by decide) (bs b3 (im (by decide) (bs f2 (im (by decide) (bs (d1 ha) (im (by decide) (bs mf (ip rfl rfl)))))))))⟩
            | some c =>
              rw [hf] at cf mf
              have hc := (frC_b hf).1
              have e1 : C.1 1 0 0 0 = mV M 0 := h.E 1 0 0 rfl rfl
              by_cases ht : mV M 0 ≤ 1000000000
              · exact Or.inr ⟨cpre _ (im b1 (im b2 (bs f1 (im (by decide) (bs (c1 ha) (im (by decide) (bs cf (im (ne9 (by omega)) (ip (by rw [e1]; exact ht) rfl))))))))), bs a2 (im (by decide) (bs b3 (im (by decide) (bs f2 (im (by decide) (bs (d1 ha) (im (by decide) (bs mf (im (ne9 (by omega)) (ip ht rfl)))))))))), s, n, zz, h1, rfl, ha, ⟨c, rfl⟩, ⟨hn1, by omega⟩, rfl, ⟨hz, hz2⟩, rfl, by rw [le_int, z_1g] at ht; exact ht⟩
              · exact Or.inl ⟨-4, by decide, cpre _ (im b1 (im b2 (bs f1 (im (by decide) (bs (c1 ha) (im (by decide) (bs cf (im (ne9 (by omega)) (im (by rw [e1]; exact ht) rfl))))))))), bs a2 (im (by decide) (bs b3 (im (by decide) (bs f2 (im (by decide) (bs (d1 ha) (im (by decide) (bs mf (im (ne9 (by omega)) (im ht rfl))))))))))⟩
          · exact Or.inl ⟨-2, by decide, cpre _ (im b1 (im b2 (bs f1 (im (by decide) (bs (c2 ha) (ip rfl rfl)))))), bs a2 (im (by decide) (bs b3 (im (by decide) (bs f2 (im (by decide) (bs (d2 ha) (ip rfl rfl)))))))⟩
        · exact Or.inl ⟨-1, by decide, cpre _ (im b1 (im b2 (bs f1 (ip rfl rfl)))), bs a2 (im (by decide) (bs b3 (im (by decide) (bs f2 (ip rfl rfl)))))⟩
      · exact Or.inl ⟨-1, by decide, cpre _ (ip (by rw [lt_int, z_1, en]; omega) rfl), bs a2 (im (by decide) (bs (m_inF (by rw [z_1, en]; omega)) (ip rfl rfl)))⟩
    · refine Or.inl ⟨-1, by decide, cpre _ ?_, bs a2 (im (by decide) (bs (m_inF (by rw [z_1, z_50]; omega)) (ip rfl rfl)))⟩
      by_cases c : y < 1
      · exact ip c rfl
      · rw [lt_int, z_1] at c
        exact im (fun z => by rw [lt_int, z_1] at z; omega) (ip (by rw [lt_int, z_50]; omega) rfl)
  · exact Or.inl ⟨-1, by decide, by unfold f_rc_errorOfSimulation; exact bs a1 rfl, bs a2 (ip rfl rfl)⟩
theorem T_simulate (R : Rl C M w) (hw : w < 1000000000) (x y z t : Int32) : ∃ o C' M', f_rc_simulate C x y z t = some (o, C') ∧ f_m_simulate M x y z t = some (o, M') ∧ Rl C' M' (w + 5000) := by
  obtain ⟨⟨sc, cnt, h⟩, hs, hh⟩ := id R
  unfold f_rc_simulate f_m_simulate
  rcases why_c h x y z with ⟨e, e0, a1, a2⟩ | ⟨a1, a2, s, n, zz, h1, rfl, ha, hf, hn, rfl, hz, rfl, ht⟩
  · exact fwd (o := e) (bs a1 (im e0 rfl)) (bs a2 (im e0 rfl)) (Rl_m R (by omega))
  · obtain ⟨C', M', k1, k2, k3, k4⟩ := t_act hs hh h
    obtain ⟨g, N', v', d1, d2, d3⟩ := s_sim (C := C') (M := M') (i := 0) (seed := t) h (by omega) h1 ha hf hn hz ht
    exact fwd (o := g) (bs a1 (ip rfl (bs k1 (bs d1 rfl)))) (bs a2 (ip rfl (bs k2 (bs d2 rfl)))) (Rl_n k3 k4 (by omega) d3)
end L69
