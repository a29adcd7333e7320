/-! the calls that act: both sides -/
section L68
variable {C M : Me} {sc cnt w : Nat}
theorem Rl_m {w' : Nat} (R : Rl C M w) (hw : w ≤ w') : Rl C M w' := by
  obtain ⟨⟨sc, cnt, h⟩, hs, hh⟩ := R
  exact ⟨⟨sc, cnt, RN_m h hw⟩, Rs_x hs hw (fun _ => rfl) (fun _ _ _ => ⟨fun _ _ _ _ => rfl, fun _ _ => rfl⟩) (fun _ => rfl) (fun _ => rfl), Rh_x hh hw rfl rfl (fun _ _ => ⟨fun _ _ _ _ => rfl, fun _ _ => rfl⟩) rfl (fun _ => rfl)⟩
theorem fwd {o : Int32} {C' M' : Me} {a b : Option (Int32 × Me)} {w' : Nat} (h1 : a = some (o, C')) (h2 : b = some (o, M')) (R : Rl C' M' w') : ∃ o C' M', a = some (o, C') ∧ b = some (o, M') ∧ Rl C' M' w' := ⟨o, C', M', h1, h2, R⟩
theorem tq_set {f lo hi : Nat} {x : Int32} (R : Rl C M w) (hf : (f = 2 ∧ lo = 0 ∧ hi = 50) ∨ (f = 3 ∧ lo = 1 ∧ hi = 100) ∨ (f = 4 ∧ lo = 1000 ∧ hi = 1000000) ∨ (f = 5 ∧ lo = 100 ∧ hi = 100000)) (hx : wi lo x hi) : ∃ C1 M1, f_hi_keep C 0 = some C1 ∧ f_m_act M = some M1 ∧ C1.1 f 0 0 0 = M1.1 100 0 0 (ad f 0 0) ∧ Rl (wI C1 f 0 0 0 x) (wI M1 100 0 0 (ad f 0 0) x) (w + 5000) := by
  obtain ⟨⟨sc, cnt, h⟩, hs, hh⟩ := R
  obtain ⟨C', M', k1, k2, k3, k4⟩ := t_act hs hh h
  refine ⟨_, _, k1, k2, ?_, ?_⟩
  · rw [rdN (by omega), rdV]
    rcases hf with ⟨rfl, -, -⟩ | ⟨rfl, -, -⟩ | ⟨rfl, -, -⟩ | ⟨rfl, -, -⟩ <;> exact h.E _ 0 0 rfl rfl
  · rw [wrN (by omega), wrV]
    exact Rl_n k3 k4 (by omega) (RN_m (RN_set h hf hx) (by omega))
theorem m_sets {at' : Nat} {x lo hi : Int32} {M1 : Me} (ha : at' < 600) (hx : lo.toInt ≤ x.toInt ∧ x.toInt ≤ hi.toInt) (k : f_m_act M = some M1) : f_m_sets M (nI at') x lo hi = some (M1.1 100 0 0 at', wI M1 100 0 0 at' x) := by
  unfold f_m_sets
  refine bs (m_inT hx) (im (by decide) (bs k (ip (gin_nI ha (by omega)) (ip (gin_nI ha (by omega)) ?_))))
  rw [tN_nI (by omega)]
  rfl
theorem m_setsF {at' x lo hi : Int32} (hx : ¬ (lo.toInt ≤ x.toInt ∧ x.toInt ≤ hi.toInt)) : f_m_sets M at' x lo hi = some (-1, M) := by
  unfold f_m_sets
  exact bs (m_inF hx) (ip rfl rfl)
theorem T_setShare (R : Rl C M w) (x : Int32) : ∃ o C' M', f_rc_setShare C x = some (o, C') ∧ f_m_setShare M x = some (o, M') ∧ Rl C' M' (w + 5000) := by
  by_cases hx : (0 : Int32).toInt ≤ x.toInt ∧ x.toInt ≤ (50 : Int32).toInt
  · obtain ⟨C1, M1, k1, k2, k3, k4⟩ := tq_set (f := 2) (lo := 0) (hi := 50) (x := x) R (by simp) hx
    refine fwd (o := M1.1 100 0 0 3) ?_ ?_ k4
    · unfold f_rc_setShare
      refine im (fun q => by rw [lt_int] at q; omega) (ip (le_int.mpr hx.2) (bs k1 ?_))
      rw [k3]
      rfl
    · unfold f_m_setShare
      exact bs (m_sets (at' := 3) (by omega) hx k2) rfl
  · refine fwd (o := -1) ?_ ?_ (Rl_m R (by omega))
    · unfold f_rc_setShare
      by_cases c : x < 0
      · exact ip c rfl
      · rw [lt_int] at c
        exact im (fun q => by rw [lt_int] at q; omega) (im (fun q => by rw [le_int] at q; omega) rfl)
    · unfold f_m_setShare
      exact bs (m_setsF hx) rfl
theorem T_setWeight (R : Rl C M w) (x : Int32) : ∃ o C' M', f_rc_setWeight C x = some (o, C') ∧ f_m_setWeight M x = some (o, M') ∧ Rl C' M' (w + 5000) := by
  by_cases hx : (1 : Int32).toInt ≤ x.toInt ∧ x.toInt ≤ (100 : Int32).toInt
  · obtain ⟨C1, M1, k1, k2, k3, k4⟩ := tq_set (f := 3) (lo := 1) (hi := 100) (x := x) R (by simp) hx
    refine fwd (o := M1.1 100 0 0 4) ?_ ?_ k4
    · unfold f_rc_setWeight
      refine im (fun q => by rw [lt_int] at q; omega) (ip (le_int.mpr hx.2) (bs k1 ?_))
      rw [k3]
      rfl
    · unfold f_m_setWeight
      exact bs (m_sets (at' := 4) (by omega) hx k2) rfl
  · refine fwd (o := -1) ?_ ?_ (Rl_m R (by omega))
    · unfold f_rc_setWeight
      by_cases c : x < 1
      · exact ip c rfl
      · rw [lt_int] at c
        exact im (fun q => by rw [lt_int] at q; omega) (im (fun q => by rw [le_int] at q; omega) rfl)
    · unfold f_m_setWeight
      exact bs (m_setsF hx) rfl
theorem T_setInterval (R : Rl C M w) (x : Int32) : ∃ o C' M', f_rc_setInterval C x = some (o, C') ∧ f_m_setInterval M x = some (o, M') ∧ Rl C' M' (w + 5000) := by
  by_cases hx : (1000 : Int32).toInt ≤ x.toInt ∧ x.toInt ≤ (1000000 : Int32).toInt
  · obtain ⟨C1, M1, k1, k2, k3, k4⟩ := tq_set (f := 4) (lo := 1000) (hi := 1000000) (x := x) R (by simp) hx
    refine fwd (o := M1.1 100 0 0 5) ?_ ?_ k4
    · unfold f_rc_setInterval
      refine im (fun q => by rw [lt_int] at q; omega) (ip (le_int.mpr hx.2) (bs k1 ?_))
      rw [k3]
      rfl
    · unfold f_m_setInterval
      exact bs (m_sets (at' := 5) (by omega) hx k2) rfl
  · refine fwd (o := -1) ?_ ?_ (Rl_m R (by omega))
    · unfold f_rc_setInterval
      by_cases c : x < 1000
      · exact ip c rfl
      · rw [lt_int] at c
        exact im (fun q => by rw [lt_int] at q; omega) (im (fun q => by rw [le_int] at q; omega) rfl)
    · unfold f_m_setInterval
      exact bs (m_setsF hx) rfl
theorem T_setBudget (R : Rl C M w) (x : Int32) : ∃ o C' M', f_rc_setBudget C x = some (o, C') ∧ f_m_setBudget M x = some (o, M') ∧ Rl C' M' (w + 5000) := by
  by_cases hx : (100 : Int32).toInt ≤ x.toInt ∧ x.toInt ≤ (100000 : Int32).toInt
  · obtain ⟨C1, M1, k1, k2, k3, k4⟩ := tq_set (f := 5) (lo := 100) (hi := 100000) (x := x) R (by simp) hx
    refine fwd (o := M1.1 100 0 0 6) ?_ ?_ k4
    · unfold f_rc_setBudget
      refine im (fun q => by rw [lt_int] at q; omega) (ip (le_int.mpr hx.2) (bs k1 ?_))
      rw [k3]
      rfl
    · unfold f_m_setBudget
      exact bs (m_sets (at' := 6) (by omega) hx k2) rfl
  · refine fwd (o := -1) ?_ ?_ (Rl_m R (by omega))
    · unfold f_rc_setBudget
      by_cases c : x < 100
      · exact ip c rfl
      · rw [lt_int] at c
        exact im (fun q => by rw [lt_int] at q; omega) (im (fun q => by rw [le_int] at q; omega) rfl)
    · unfold f_m_setBudget
      exact bs (m_setsF hx) rfl
theorem T_addRate (R : Rl C M w) (x y : Int32) : ∃ o C' M', f_rc_addRate C x y = some (o, C') ∧ f_m_addRate M x y = some (o, M') ∧ Rl C' M' (w + 5000) := by
  obtain ⟨⟨sc, cnt, h⟩, hs, hh⟩ := id R
  have hl := h.lt
  have e10 : C.1 10 0 0 0 = nI cnt := by have := c_cnt (C := C) (i := 0) h; rw [sN_e] at this; exact this
  have m1 : M.1 100 0 0 (tN 1) = nI cnt := h.iR.2.1
  unfold f_rc_addRate f_m_addRate
  rcases mode_c x with ⟨m, hm, rfl, a1, a2⟩ | ⟨a1, a2⟩
  · rcases in_c y 10001 with ⟨p, hp, rfl⟩ | q
    · have ep : (nI p).toInt = (p : Int) := nI_i (by omega)
      by_cases hp2 : 10 ≤ p
      · by_cases hc : cnt < 8
        · obtain ⟨C', M', k1, k2, k3, k4⟩ := t_act hs hh h
          obtain ⟨N1, N', v', b1, b2, b3, b4⟩ := s_addRate (C := C') (M := M') (m := m) (p := p) h (by omega) ⟨hp2, by omega⟩ hc
          refine fwd (o := nI cnt) (bs a1 (im (by decide) (im (fun z => by rw [lt_int, z_10, ep] at z; omega) (ip (by rw [le_int, z_10000, ep]; omega) (ip ?_ (bs k1 (bs b1 (bs b2 rfl)))))))) (bs a2 (im (by decide) (bs (m_inT (by rw [z_10, z_10000, ep]; omega)) (im (by decide) (im ?_ (bs k2 ?_)))))) (Rl_n k3 k4 (by omega) (RN_m b4 (by omega)))
          · rw [e10]; exact (nI_lt' (b := 8) (by omega) (by omega)).mpr hc
          · rw [m1]; exact fun z => by rw [show (8 : Int32) = nI 8 from rfl, nI_j (by omega) (by omega)] at z; omega
          · have r1 : (sV M' (mV M)).1 100 0 0 (tN 1) = nI cnt := by rw [t_1, rdV]; exact m1
            have g1 : (10 : Int32) + nI cnt = nI (10 + cnt) := by simp only [IXl]
            have g2 : (18 : Int32) + nI cnt = nI (18 + cnt) := by simp only [IXl]
            rw [r1, g1, g2]
            refine ip (gin_nI (by omega) (by omega)) (bs (x := sV M' (upd (mV M) (10 + cnt) (nI m))) (by rw [tN_nI (by omega), wrV]) (ip (gin_nI (by omega) (by omega)) (bs (x := sV M' (upd (upd (mV M) (10 + cnt) (nI m)) (18 + cnt) (nI p))) (by rw [tN_nI (by omega), wrV]) ?_)))
            refine bs (x := sV M' (upd (upd (upd (mV M) (10 + cnt) (nI m)) (18 + cnt) (nI p)) 1 (nI (cnt + 1)))) ?_ (bs b3 rfl)
            rw [t_1, rdV, up_n (by omega), up_n (by omega), show mV M 1 = nI cnt from m1, nI_1, wrV]
        · refine fwd (o := -3) (bs a1 (im (by decide) (im (fun z => by rw [lt_int, z_10, ep] at z; omega) (ip (by rw [le_int, z_10000, ep]; omega) (im ?_ rfl))))) (bs a2 (im (by decide) (bs (m_inT (by rw [z_10, z_10000, ep]; omega)) (im (by decide) (ip ?_ rfl))))) (Rl_m R (by omega))
          · rw [e10]; exact fun z => hc ((nI_lt' (b := 8) (by omega) (by omega)).mp z)
          · rw [m1, show cnt = 8 by omega]; rfl
      · exact fwd (o := -1) (bs a1 (im (by decide) (ip (by rw [lt_int, z_10, ep]; omega) rfl))) (bs a2 (im (by decide) (bs (m_inF (by rw [z_10, z_10000, ep]; omega)) (ip rfl rfl)))) (Rl_m R (by omega))
    · refine fwd (o := -1) (bs a1 (im (by decide) ?_)) (bs a2 (im (by decide) (bs (m_inF (by rw [z_10, z_10000]; omega)) (ip rfl rfl)))) (Rl_m R (by omega))
      by_cases c : y < 10
      · exact ip c rfl
      · rw [lt_int, z_10] at c
        exact im (fun z => by rw [lt_int, z_10] at z; omega) (im (fun z => by rw [le_int, z_10000] at z; omega) rfl)
  · exact fwd (o := -1) (bs a1 (ip rfl rfl)) (bs a2 (ip rfl rfl)) (Rl_m R (by omega))
theorem T_addStation (R : Rl C M w) : ∃ o C' M', f_rc_addStation C = some (o, C') ∧ f_m_addStation M = some (o, M') ∧ Rl C' M' (w + 5000) := by
  obtain ⟨⟨sc, cnt, h⟩, hs, hh⟩ := id R
  have hl := h.lt
  have e0 : C.1 0 0 0 0 = nI sc := by have := c_sc (C := C) (i := 0) h; rw [sN_e] at this; exact this
  have m2 : M.1 100 0 0 (tN 2) = nI sc := h.iS.2.1
  unfold f_rc_addStation f_m_addStation
  rw [e0, m2]
  by_cases hc : sc < 4
  · obtain ⟨C', M', k1, k2, k3, k4⟩ := t_act hs hh h
    obtain ⟨N', v', b1, b2, b3⟩ := s_addSta (C := C') (M := M') h hc
    have r2 : (sV M' (mV M)).1 100 0 0 (tN 2) = nI sc := by rw [t_2, rdV]; exact m2
    refine fwd (o := nI sc) (ip (show nI sc < (4 : Int32) from (nI_lt' (b := 4) (by omega) (by omega)).mpr hc) (bs k1 (bs (x := sN C' 0 (uN (nN C 0) 0 0 0 (nI (sc + 1)))) (by rw [nI_1, wrN (by decide)]) (ip (gin_nI (by omega) (by omega)) ?_)))) (im (fun z => by rw [show (4 : Int32) = nI 4 from rfl, nI_j (by omega) (by omega)] at z; omega) (bs k2 ?_)) (Rl_n k3 k4 (by omega) (RN_m b3 (by omega)))
    · rw [tN_nI (by omega)]
      have hen : f_nt_endOfNewInterval (sN C' 0 (uN (nN C 0) 0 0 0 (nI (sc + 1)))) 0 = some (enL (mV M)) := by
        unfold f_nt_endOfNewInterval enL
        rw [rdN (by decide), rdN (by decide), uN_f (by decide), uN_f (by decide), h.E 1 0 0 rfl rfl, h.E 4 0 0 rfl rfl]
        rfl
      exact bs hen (bs (x := sN C' 0 (uL (uN (nN C 0) 0 0 0 (nI (sc + 1))) 39 sc 0 (enL (mV M)))) (by rw [wrL (by decide)]) (bs b1 rfl))
    · rw [r2]
      refine bs (x := sV M' (upd (mV M) 2 (nI (sc + 1)))) (by rw [t_2, nI_1, wrV]) ?_
      refine bs (m_bgt hc hl.2 (by rw [up_n (by omega)]; exact h.iR.2.1)) (bs (sd sc) (ip (gx (k := 290 + 32 * sc + 17) (by simp only [IXr]) (by omega) (by omega)) ?_))
      have e7 : (7 : Int32) * nI sc + 1 = nI (7 * sc + 1) := by simp only [IXm, IXr]
      rw [e7]
      refine bs (wx (k := 290 + 32 * sc + 17) (by simp only [IXr]) (by omega)) (bs (sd sc) ?_)
      have me := m_end (M := M') (v := upd (bgt (upd (mV M) 2 (nI (sc + 1))) sc cnt) (290 + 32 * sc + 17) (nI (7 * sc + 1)))
      have ee : enV (upd (bgt (upd (mV M) 2 (nI (sc + 1))) sc cnt) (290 + 32 * sc + 17) (nI (7 * sc + 1))) = enV (mV M) := by
        unfold enV
        rw [up_n (by omega), up_n (by omega), bgt_o hc cnt hl.2 (by omega), bgt_o hc cnt hl.2 (by omega), up_n (by omega), up_n (by omega)]
      rw [ee] at me
      refine bs me (ip (gx (k := 290 + 32 * sc + 16) (by simp only [IXr]) (by omega) (by omega)) (bs (wx (k := 290 + 32 * sc + 16) (by simp only [IXr]) (by omega)) (bs (m_ref3 hc) (bs b2 rfl))))
  · refine fwd (o := -3) (im (fun z => hc ((nI_lt' (b := 4) (by omega) (by omega)).mp z)) rfl) (ip (by rw [show sc = 4 by omega]; rfl) rfl) (Rl_m R (by omega))
theorem T_allow (R : Rl C M w) (x y z : Int32) (hz : z = 0 ∨ z = 1) : ∃ o C' M', f_rc_allow C x y z = some (o, C') ∧ f_m_allow M x y z = some (o, M') ∧ Rl C' M' (w + 5000) := by
  obtain ⟨⟨sc, cnt, h⟩, hs, hh⟩ := id R
  have hl := h.lt
  have st := sta_c (C := C) (M := M) (i := 0) h x
  have lk := link_c (C := C) (M := M) (i := 0) h x y
  rw [sN_e, sV_e] at st lk
  unfold f_rc_allow f_m_allow
  rcases lk with ⟨s, r, h1, h2, rfl, rfl, a1, a2⟩ | ⟨a1, a2⟩
  · have st1 : f_nt_stationAt C 0 (nI s) = some (some (0, s)) := by have := sta_t (C := C) (i := 0) h h1; rw [sN_e] at this; exact this
    obtain ⟨C', M', k1, k2, k3, k4⟩ := t_act hs hh h
    obtain ⟨q1, q2⟩ := RB_20 (s := s) (r := r) (x := z) h h1 h2 hz
    obtain ⟨N', v', b1, -, b2, b3, -, -, -⟩ := s_fill (C := C') (M := M') (i := 0) q1 h1 q2
    have e20 : (sN C' 0 (nN C 0)).1 20 0 s r = mV M (aP s r) := by rw [rdN (by decide)]; exact (h.lk h1 r h2).1
    have hal := (h.iL s r (by omega) (by omega)).2.2.2.2.1
    have hP := aP_lt (show s < 4 by omega) (show r < 8 by omega)
    have ww : some (wI (sN C' 0 (nN C 0)) 20 0 s r z) = some (sN C' 0 (uN (nN C 0) 20 s r z)) := by rw [wrN (by decide)]
    refine fwd (o := mV M (aP s r)) ?_ ?_ (Rl_n k3 k4 (by omega) (RN_m b3 (by omega)))
    · refine bs st1 ?_
      rw [oe]
      refine bs a1 ?_
      rw [oe]
      refine bs k1 ?_
      rw [e20]
      rcases hal with q | q
      · rw [q]
        exact ip rfl (ip hz (bs ww (bs b1 rfl)))
      · rw [q]
        exact im (by decide) (ip hz (bs ww (bs b1 rfl)))
    · refine bs a2 (im (by decide) (bs k2 (bs (spr s r) (ip (gx (k := 30 + 8 * (8 * s + r) + 0) (by simp only [IXr]) (by omega) (by omega)) (bs (spr s r) ?_)))))
      have er : (sV M' (mV M)).1 100 0 0 (tN (nI (30 + 8 * (8 * s + r)) + (0 : Int32))) = mV M (aP s r) := rx (k := 30 + 8 * (8 * s + r) + 0) (by simp only [IXr]) (by omega)
      rw [er]
      have w1 : ∀ b : Int32, some (wI (sV M' (mV M)) 100 0 0 (tN (nI (30 + 8 * (8 * s + r)) + (0 : Int32))) b) = some (sV M' (upd (mV M) (ad 20 s r) b)) := fun b => wx (k := 30 + 8 * (8 * s + r) + 0) (by simp only [IXr]) (by omega)
      have g0 : gin (nI (30 + 8 * (8 * s + r)) + (0 : Int32)) 600 := gx (k := 30 + 8 * (8 * s + r) + 0) (by simp only [IXr]) (by omega) (by omega)
      rcases hz with q | q
      · subst q
        exact ip rfl (ip g0 (bs (w1 0) (bs b2 rfl)))
      · subst q
        exact im (by decide) (ip g0 (bs (w1 1) (bs b2 rfl)))
  · refine fwd (o := -1) ?_ (bs a2 (ip rfl rfl)) (Rl_m R (by omega))
    rcases st with ⟨s, h1, rfl, b1, -⟩ | ⟨b1, -⟩
    · refine bs b1 ?_
      rw [oe]
      exact bs a1 rfl
    · exact bs b1 (bs a1 rfl)
theorem T_setQuality (R : Rl C M w) (x y z : Int32) : ∃ o C' M', f_rc_setQuality C x y z = some (o, C') ∧ f_m_setQuality M x y z = some (o, M') ∧ Rl C' M' (w + 5000) := by
  obtain ⟨⟨sc, cnt, h⟩, hs, hh⟩ := id R
  have hl := h.lt
  have lk := link_c (C := C) (M := M) (i := 0) h x y
  rw [sN_e, sV_e] at lk
  unfold f_rc_setQuality f_m_setQuality
  rcases lk with ⟨s, r, h1, h2, rfl, rfl, a1, a2⟩ | ⟨a1, a2⟩
  · have hP := aP_lt (show s < 4 by omega) (show r < 8 by omega)
    by_cases hx : (0 : Int32).toInt ≤ z.toInt ∧ z.toInt ≤ (1000 : Int32).toInt
    · obtain ⟨C', M', k1, k2, k3, k4⟩ := t_act hs hh h
      have e27 : (sN C' 0 (nN C 0)).1 27 0 s r = mV M (aP s r + 7) := by rw [rdN (by decide)]; exact (h.lk h1 r h2).2.1
      refine fwd (o := mV M (aP s r + 7)) ?_ ?_ (Rl_n k3 k4 (by omega) (RN_m (RN_27 (x := z) h h1 h2 hx) (by omega)))
      · refine bs a1 ?_
        rw [oe]
        refine im (fun q => by rw [lt_int] at q; omega) (ip (le_int.mpr hx.2) (bs k1 ?_))
        rw [e27, wrN (by decide)]
        rfl
      · refine bs a2 (im (by decide) (bs (spr s r) ?_))
        have e7 : nI (30 + 8 * (8 * s + r)) + (7 : Int32) = nI (30 + 8 * (8 * s + r) + 7) := by simp only [IXr]
        rw [e7]
        refine bs (m_sets (by omega) hx k2) ?_
        show some ((sV M' (mV M)).1 100 0 0 (30 + 8 * (8 * s + r) + 7), wI (sV M' (mV M)) 100 0 0 (30 + 8 * (8 * s + r) + 7) z) = _
        rw [rdV, wrV]
        rfl
    · refine fwd (o := -1) ?_ (bs a2 (im (by decide) (bs (spr s r) (bs (m_setsF hx) rfl)))) (Rl_m R (by omega))
      refine bs a1 ?_
      rw [oe]
      by_cases c : z < 0
      · exact ip c rfl
      · rw [lt_int] at c
        exact im (fun q => by rw [lt_int] at q; omega) (im (fun q => by rw [le_int] at q; omega) rfl)
  · exact fwd (o := -1) (bs a1 rfl) (bs a2 (ip rfl rfl)) (Rl_m R (by omega))
end L68
