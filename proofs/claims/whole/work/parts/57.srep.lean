/-! conclude and reports: both sides -/
theorem s_rep {C M : Me} {i : Nat} {N : Nt} {v : Vt} {sc cnt w c T : Nat} {ok : Int32} (h : RN N v sc cnt w) (hw : w < 1070000000) (hc : c < 6) (ho : v (aO c) = 1) (hT1 : 1 ≤ T) (hT : T ≤ off v c 4) (hok : ok = 0 ∨ ok = 1) (ht : (v 0).toInt + sF v c T < 2147483648) : ∃ N1 N' v', f_nt_conclude (sN C i N) i i c (nI T) ok = some (sN C i N1) ∧ f_nt_updateEnded (sN C i N1) i = some (sN C i N') ∧ f_m_reports (sV M v) (nI c) (nI T) ok = some (nI (sF v c T), sV M v') ∧ RN N' v' sc cnt (w + 100) ∧ (∀ s r, s < 4 → r < 8 → v' (aP s r) = v (aP s r)) ∧ v' (aO c) = 0 ∧ (v' 0).toInt = (v 0).toInt + sF v c T := by
  have hl := h.lt
  have oc := h.iC.oc hc ho
  have hb := off_b oc
  obtain ⟨-, o1, o2, o3, o4, o5, hk'⟩ := id oc
  obtain ⟨s, hsE⟩ : ∃ s, s = sC v c := ⟨_, rfl⟩
  rw [← hsE] at o1 o2
  have hs4 : s < 4 := by omega
  have hO : aO c = 420 + 16 * c := rfl
  have hS : aS s = 290 + 32 * s := rfl
  obtain ⟨g, hg⟩ : ∃ g, (ok = 0 ∧ g = 0) ∨ (ok = 1 ∧ g = 1) := by
    rcases hok with rfl | rfl
    · exact ⟨0, Or.inl ⟨rfl, rfl⟩⟩
    · exact ⟨1, Or.inr ⟨rfl, rfl⟩⟩
  obtain ⟨tt, htt⟩ : ∃ tt, tt = sF v c T := ⟨_, rfl⟩
  have htb : tt ≤ 604603 * T := by rw [htt]; exact sF_b h.iR oc T hT
  rw [← htt] at ht ⊢
  have h1 := RN_50c h hc
  have g1 : ∀ k, aO c < k → upd v (aO c) 0 k = v k := fun k hk => up_n (by omega)
  have oc1 := OC_c g1 oc
  obtain ⟨N2, cc, h2⟩ := c_cntT (C := C) (i := i) (s := s) (T := T) (g := g) (ok := ok) h1 oc1 (by omega) (by rw [off_c g1]; exact hT) hg (by omega)
  have mc := m_cntT (M := M) (s := s) (T := T) (g := g) (ok := ok) (tm := nI tt) oc hl.2 hs4 hT1 hT hg
  have g2o : ∀ k, k < 30 ∨ 286 ≤ k → VF v c s T g T k = v k := fun k hk => VF_o hs4 oc hl.2 hk T hT
  have g2a : ∀ s' r', VF v c s T g T (aP s' r') = v (aP s' r') := fun s' r' => VF_a T
  rw [VF_up oc hl.2 hs4 T hT] at h2
  generalize VF v c s T g T = V at h2 mc g2o g2a
  have k2 : ∀ k, aO c < k → upd V (aO c) 0 k = v k := fun k hk => by rw [up_n (by omega)]; exact g2o k (by omega)
  have k3 : ∀ k, k < 30 → upd V (aO c) 0 k = v k := fun k hk => by rw [up_n (by omega)]; exact g2o k (by omega)
  have ct := c_tot (C := C) (i := i) (T := T) h2.E h2.iR (OC_c k2 oc) (by rw [off_c k2]; exact hT)
  rw [sF_c k2 k3 oc hl.2 T hT, ← htt] at ct
  have v00 := h.iS.2.2.2.2.2.2.1
  have et : (v 0 + nI tt).toInt = (v 0).toInt + tt := by
    have e := nI_i (n := tt) (by omega)
    rw [ad_I (by omega) (by omega), e]
  have h3 := RN_time (x := v 0 + nI tt) h2 (by omega)
  have hd := (h.iT s hs4).2.2.1
  have ed : (v (aS s + 15) - nI tt).toInt = (v (aS s + 15)).toInt - tt := by
    have e := nI_i (n := tt) (by omega)
    rw [sb_I (by omega) (by omega), e]
  have z15 : ((-1000000 : Int32)).toInt = -1000000 := by decide
  have hx : wi (-1000000) (if (-1000000 : Int32) ≤ v (aS s + 15) - nI tt then v (aS s + 15) - nI tt else -1000000) 4000 := by
    by_cases c1 : (-1000000 : Int32) ≤ v (aS s + 15) - nI tt
    · rw [if_pos c1]
      rw [le_int, z15] at c1
      exact ⟨c1, by omega⟩
    · rw [if_neg c1]
      exact ⟨by rw [z15]; omega, by rw [z15]; omega⟩
  have h4 := RN_38 h3 hs4 hx
  obtain ⟨N5, e1, e2, e3, e4, e5⟩ := c_ends (C := C) (i := i) (ok := ok) h4 hs4 (by omega)
  have me := m_ends (M := M) (ok := ok) h4 hs4
  obtain ⟨N6, v6, d1, d2, d3, d4, d5⟩ := s_due (C := C) (M := M) (i := i) e2 (by omega)
  refine ⟨N5, N6, v6, ?_, d1, ?_, RN_m d3 (by omega), fun s' r' a b => ?_, ?_, ?_⟩
  · unfold f_nt_conclude
    have e51 : (sN C i N).1 51 i c 0 = nI s := by rw [rdN (by decide), h.E 51 c 0 rfl (dO (by simp) hc)]; exact o1
    rw [e51]
    refine bs (sta_t h o2) ?_
    rw [oe]
    refine bs (x := sN C i (uN N 50 c 0 0)) (by rw [wrN (by decide)]) (bs cc (bs ct ?_))
    have e10 : (sN C i N2).1 1 i 0 0 = v 0 := by rw [rdN (by decide), h2.E 1 0 0 rfl rfl]; exact k3 0 (by omega)
    have e38 : (sN C i (uN N2 1 0 0 (v 0 + nI tt))).1 38 i s 0 = v (aS s + 15) := by
      rw [rdN (by decide), uN_f (by decide), h2.E 38 s 0 rfl (dS (by simp) hs4)]
      show upd V (aO c) 0 (aS s + 15) = _
      rw [up_n (by omega)]
      exact g2o _ (by omega)
    rw [e10]
    refine bs (x := sN C i (uN N2 1 0 0 (v 0 + nI tt))) (by rw [wrN (by decide)]) ?_
    rw [e38, imax_e]
    refine bs (x := sN C i (uN (uN N2 1 0 0 (v 0 + nI tt)) 38 s 0 (if (-1000000 : Int32) ≤ v (aS s + 15) - nI tt then v (aS s + 15) - nI tt else -1000000))) (by rw [wrN (by decide)]) ?_
    exact e1
  · have q2 : upd V (420 + 16 * c + 0) 0 0 = v 0 := k3 0 (by omega)
    have q15 : upd (upd V (420 + 16 * c + 0) 0) 0 (v 0 + nI tt) (290 + 32 * s + 15) = v (aS s + 15) := by
      rw [up_n (by omega), up_n (by omega)]
      exact g2o _ (by omega)
    have mt := m_tot (M := M) (T := T) h.iR oc hT
    rw [← htt] at mt
    unfold f_m_reports
    refine bs (so c) (ip (gx (k := 420 + 16 * c + 1) (by simp only [IXr]) (by omega) (by omega)) (bs mt ?_))
    rw [rx (k := 420 + 16 * c + 1) (by simp only [IXr]) (by omega), show v (420 + 16 * c + 1) = nI s from o1]
    refine bs mc (bs (so c) (ip (gx (k := 420 + 16 * c + 0) (by simp only [IXr]) (by omega) (by omega)) (bs (wx (k := 420 + 16 * c + 0) (by simp only [IXr]) (by omega)) (bs (x := sV M (upd (upd V (420 + 16 * c + 0) 0) 0 (v 0 + nI tt))) (by rw [t_0, rdV, q2, wrV]) (bs (sd s) (ip (gx (k := 290 + 32 * s + 15) (by simp only [IXr]) (by omega) (by omega)) ?_))))))
    rw [rx (k := 290 + 32 * s + 15) (by simp only [IXr]) (by omega), q15]
    refine bs rfl (bs (sd s) ?_)
    by_cases c1 : (-1000000 : Int32) ≤ v (aS s + 15) - nI tt
    · rw [if_pos c1] at me
      exact ip c1 (ip (gx (k := 290 + 32 * s + 15) (by simp only [IXr]) (by omega) (by omega)) (bs (wx (k := 290 + 32 * s + 15) (by simp only [IXr]) (by omega)) (bs me (bs (by rw [if_pos c1] at d2; exact d2) rfl))))
    · rw [if_neg c1] at me
      exact im c1 (ip (gx (k := 290 + 32 * s + 15) (by simp only [IXr]) (by omega) (by omega)) (bs (wx (k := 290 + 32 * s + 15) (by simp only [IXr]) (by omega)) (bs me (bs (by rw [if_neg c1] at d2; exact d2) rfl))))
  · have hP := aP_lt a b
    rw [d5.1 s' r' a b, e5.1 s' r' a b, up_n (by show aP s' r' ≠ aS s + 15; omega), up_n (by show 30 + 8 * (8 * s' + r') ≠ 0; omega), up_n (by omega)]
    exact g2a s' r'
  · rw [d5.2 c hc, e5.2 c hc, up_n (by omega), up_n (by omega), up_s]
  · rw [d4, e4, up_n (by omega), up_s]
    exact et
