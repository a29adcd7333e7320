/-! forecasts, saved states, undo, the digest -/
section L70
variable {C M : Me} {sc cnt w : Nat}
theorem cp600 {f g d : Nat} {u : Vt} : (∀ j, j < 600 → cv u (fun r => M.1 g 0 0 r) d 600 (d + j) = M.1 g 0 0 j) := fun j hj => by
  show (if d ≤ d + j ∧ d + j < d + 600 then M.1 g 0 0 (d + j - d) else u (d + j)) = _
  rw [if_pos ⟨by omega, by omega⟩, show d + j - d = j by omega]
theorem T_forecast (R : Rl C M w) (hw : w < 1000000000) (x y z t : Int32) : ∃ o C' M', f_rc_forecast C x y z t = some (o, C') ∧ f_m_forecast M x y z t = some (o, M') ∧ Rl C' M' (w + 5000) := by
  obtain ⟨⟨sc, cnt, h⟩, hs, hh⟩ := id R
  unfold f_rc_forecast f_m_forecast
  rcases why_c h x y z with ⟨e, e0, a1, a2⟩ | ⟨a1, a2, s, n, zz, h1, rfl, ha, hf, hn, rfl, hz, rfl, ht⟩
  · exact fwd (o := e) (bs a1 (im e0 rfl)) (bs a2 (im e0 rfl)) (Rl_m R (by omega))
  · obtain ⟨N1, b1, b2⟩ := s_become (C := C) (i0 := 1) (i1 := 0) (by decide) h
    obtain ⟨M1, hM1⟩ : ∃ M1, M1 = sA M 104 (cv (fun r => M.1 104 0 0 r) (mV M) 0 600) := ⟨_, rfl⟩
    have l20 : lp FU (b_m_forecast_20 (nI s) (nI n) (nI zz) t) (0, M) = some M1 := by
      rw [hM1]
      have e0 : ((0 : Int32), M) = (nI 0, sA M 104 (cv (fun r => M.1 104 0 0 r) (mV M) 0 0)) := by rw [cv_0, sA_e]; rfl
      rw [e0]
      refine lp_n (fun k => (nI k, sA M 104 (cv (fun r => M.1 104 0 0 r) (mV M) 0 k))) 600 (lt_FU (by omega)) (fun k hk => ?_) ?_
      · have e100 : (sA M 104 (cv (fun r => M.1 104 0 0 r) (mV M) 0 k)).1 100 0 0 (tN (nI k)) = mV M k := by rw [sA_o (by decide), tN_nI (by omega)]; rfl
        have es := cv_s (u := fun r => M.1 104 0 0 r) (g := mV M) (d := 0) (k := k)
        rw [Nat.zero_add] at es
        unfold b_m_forecast_20
        refine im (show ¬ (600 : Int32) ≤ nI k from nle (n := 600) (by omega) (by omega)) (ip (gin_nI (by omega) (by omega)) (ip (gin_nI (by omega) (by omega)) ?_))
        show (some (wI (sA M 104 (cv (fun r => M.1 104 0 0 r) (mV M) 0 k)) 104 0 0 (tN (nI k)) ((sA M 104 (cv (fun r => M.1 104 0 0 r) (mV M) 0 k)).1 100 0 0 (tN (nI k))))).bind _ = _
        rw [e100, tN_nI (by omega), sA_w, es]
        simp only [↓ob, IXr]
      · unfold b_m_forecast_20
        exact ip (show (600 : Int32) ≤ nI 600 from by decide) rfl
    have vM1 : sV M1 (mV M) = M1 := by
      have : mV M1 = mV M := funext fun k => by show M1.1 100 0 0 k = _; rw [hM1, sA_o (by decide)]; rfl
      rw [← this, sV_e]
    obtain ⟨g, N2, v2, d1, d2, d3⟩ := s_sim (C := C) (M := M1) (i := 1) (seed := t) b2 (by omega) h1 ha hf hn hz ht
    rw [vM1] at d2
    have l62 : lp FU (b_m_forecast_62 g) (0, sV M1 v2) = some (sV M1 (cv v2 (fun r => M1.1 104 0 0 r) 0 600)) := by
      have e0 : ((0 : Int32), sV M1 v2) = (nI 0, sV M1 (cv v2 (fun r => M1.1 104 0 0 r) 0 0)) := by rw [cv_0]; rfl
      rw [e0]
      refine lp_n (fun k => (nI k, sV M1 (cv v2 (fun r => M1.1 104 0 0 r) 0 k))) 600 (lt_FU (by omega)) (fun k hk => ?_) ?_
      · have e104 : (sV M1 (cv v2 (fun r => M1.1 104 0 0 r) 0 k)).1 104 0 0 (tN (nI k)) = M1.1 104 0 0 k := by rw [rdV' _ _ _ _ (by decide), tN_nI (by omega)]
        have es := cv_s (u := v2) (g := fun r => M1.1 104 0 0 r) (d := 0) (k := k)
        rw [Nat.zero_add] at es
        unfold b_m_forecast_62
        refine im (show ¬ (600 : Int32) ≤ nI k from nle (n := 600) (by omega) (by omega)) (ip (gin_nI (by omega) (by omega)) (ip (gin_nI (by omega) (by omega)) ?_))
        show (some (wI (sV M1 (cv v2 (fun r => M1.1 104 0 0 r) 0 k)) 100 0 0 (tN (nI k)) ((sV M1 (cv v2 (fun r => M1.1 104 0 0 r) 0 k)).1 104 0 0 (tN (nI k))))).bind _ = _
        rw [e104, tN_nI (by omega), wrV, es]
        simp only [↓ob, IXr]
      · unfold b_m_forecast_62
        exact ip (show (600 : Int32) ≤ nI 600 from by decide) rfl
    refine fwd (o := g) (bs a1 (ip rfl (bs b1 (bs d1 rfl)))) (bs a2 (ip rfl (bs l20 (bs d2 (bs l62 rfl))))) ?_
    refine ⟨⟨sc, cnt, ?_⟩, Rs_x hs (Nat.le_add_right _ _) (fun _ => rdN' (by decide)) (fun j q1 q2 => ⟨fun f a b _ => rdNj (by omega), fun a b => rdN2j (by omega)⟩) (fun k => ?_) (fun k => ?_), Rh_x hh (Nat.le_add_right _ _) (rdN' (by decide)) (rdN' (by decide)) (fun j q1 => ⟨fun f a b _ => rdNj (by omega), fun a b => rdN2j (by omega)⟩) ?_ (fun k => ?_)⟩
    · refine RN_m (RN_nn (RN_xv (v := mV M) h (fun j hj => ?_)) (fun f a b _ => rdNj (by decide)) (fun a b => rdN2j (by decide))) (by omega)
      show (sV M1 (cv v2 (fun r => M1.1 104 0 0 r) 0 600)).1 100 0 0 j = _
      rw [rdV]
      show (if 0 ≤ j ∧ j < 0 + 600 then M1.1 104 0 0 (j - 0) else v2 j) = _
      rw [if_pos ⟨by omega, by omega⟩, hM1, sA_r]
      show (if 0 ≤ j - 0 ∧ j - 0 < 0 + 600 then mV M (j - 0 - 0) else _) = _
      rw [if_pos ⟨by omega, by omega⟩]
      rfl
    · rw [rdV' _ _ _ _ (by decide), hM1, sA_o (by decide)]
    · rw [rdV' _ _ _ _ (by decide), hM1, sA_o (by decide)]
    · rw [rdV' _ _ _ _ (by decide), hM1, sA_o (by decide)]
    · rw [rdV' _ _ _ _ (by decide), hM1, sA_o (by decide)]
theorem slot_c (x : Int32) : (∃ k, k < 2 ∧ x = nI k ∧ ¬ x < 0 ∧ x < 2 ∧ f_m_in x 0 1 = some 1) ∨ ((x < 0 ∨ ¬ x < 2) ∧ f_m_in x 0 1 = some 0) := by
  rcases in_c x 2 with ⟨k, hk, rfl⟩ | q
  · exact Or.inl ⟨k, hk, rfl, nI_pos (show k < 2 ^ 31 by omega), (nI_lt' (b := 2) (by omega) (by omega)).mpr hk, m_inT (by rw [z_0, z_1, nI_i (by omega)]; omega)⟩
  · refine Or.inr ⟨?_, m_inF (by rw [z_0, z_1]; omega)⟩
    by_cases c : x < 0
    · exact Or.inl c
    · rw [lt0] at c
      exact Or.inr (fun z => by rw [lt_int, z_2] at z; omega)
theorem T_save (R : Rl C M w) (x : Int32) : ∃ o C' M', f_rc_save C x = some (o, C') ∧ f_m_save M x = some (o, M') ∧ Rl C' M' (w + 5000) := by
  obtain ⟨⟨sc, cnt, h⟩, hs, hh⟩ := id R
  unfold f_rc_save f_m_save
  rcases slot_c x with ⟨k, hk, rfl, x1, x2, x3⟩ | ⟨x1, x3⟩
  · obtain ⟨N', b1, b2⟩ := s_become (C := C) (i0 := 2 + k) (i1 := 0) (by omega) h
    have l13 : lp FU (b_m_save_13 (nI k)) (0, M) = some (sA M 101 (cv (fun r => M.1 101 0 0 r) (mV M) (600 * k) 600)) := by
      have e0 : ((0 : Int32), M) = (nI 0, sA M 101 (cv (fun r => M.1 101 0 0 r) (mV M) (600 * k) 0)) := by rw [cv_0, sA_e]; rfl
      rw [e0]
      refine lp_n (fun j => (nI j, sA M 101 (cv (fun r => M.1 101 0 0 r) (mV M) (600 * k) j))) 600 (lt_FU (by omega)) (fun j hj => ?_) ?_
      · have e100 : (sA M 101 (cv (fun r => M.1 101 0 0 r) (mV M) (600 * k) j)).1 100 0 0 (tN (nI j)) = mV M j := by rw [sA_o (by decide), tN_nI (by omega)]; rfl
        have ea : (600 : Int32) * nI k + nI j = nI (600 * k + j) := by simp only [IXm, l_add]
        unfold b_m_save_13
        refine im (show ¬ (600 : Int32) ≤ nI j from nle (n := 600) (by omega) (by omega)) (ip (gin_nI (by omega) (by omega)) ?_)
        show (if gin ((600 : Int32) * nI k + nI j) 1200 then (some (wI (sA M 101 (cv (fun r => M.1 101 0 0 r) (mV M) (600 * k) j)) 101 0 0 (tN ((600 : Int32) * nI k + nI j)) ((sA M 101 (cv (fun r => M.1 101 0 0 r) (mV M) (600 * k) j)).1 100 0 0 (tN (nI j))))).bind _ else none) = _
        rw [ea, e100, if_pos (gin_nI (by omega) (by omega)), tN_nI (by omega), sA_w, cv_s]
        simp only [↓ob, IXr]
      · unfold b_m_save_13
        exact ip (show (600 : Int32) ≤ nI 600 from by decide) rfl
    have eC0 : (wI (sN C (2 + k) N') 91 0 0 k 1).1 1 0 0 0 = mV M 0 := by
      rw [w_o (by decide), rdNj (by omega)]
      exact h.E 1 0 0 rfl rfl
    have eM0 : (wI (sA M 101 (cv (fun r => M.1 101 0 0 r) (mV M) (600 * k) 600)) 102 0 0 k 1).1 100 0 0 0 = mV M 0 := by
      rw [w_o (by decide), sA_o (by decide)]
      rfl
    refine fwd (o := mV M 0) (C' := wI (sN C (2 + k) N') 91 0 0 k 1) (M' := wI (sA M 101 (cv (fun r => M.1 101 0 0 r) (mV M) (600 * k) 600)) 102 0 0 k 1) (im x1 (ip x2 (ip (gin_nI (by omega) (by omega)) ?_))) (bs x3 (im (by decide) (bs l13 (ip (gin_nI (by omega) (by omega)) ?_)))) ?_
    · rw [tN_nI (by omega)]
      refine bs b1 (ip (gin_nI (by omega) (by omega)) (bs rfl ?_))
      rw [eC0]
    · rw [tN_nI (by omega)]
      refine bs rfl ?_
      rw [t_0, eM0]
    · refine ⟨⟨sc, cnt, ?_⟩, fun k2 hk2 => ?_, Rh_x hh (Nat.le_add_right _ _) (by rw [w_o (by decide)]; exact rdN' (by decide)) (by rw [w_o (by decide)]; exact rdN' (by decide)) (fun j q1 => ⟨fun f a b hf => by rw [w_o (by omega)]; exact rdNj (by omega), fun a b => rdN2j (by omega)⟩) (by rw [w_o (by decide), sA_o (by decide)]) (fun j => by rw [w_o (by decide), sA_o (by decide)])⟩
      · have eV : mV (wI (sA M 101 (cv (fun r => M.1 101 0 0 r) (mV M) (600 * k) 600)) 102 0 0 k 1) = mV M := funext fun j => by show (wI _ 102 0 0 k 1).1 100 0 0 j = _; rw [w_o (by decide), sA_o (by decide)]; rfl
        rw [eV]
        exact RN_m (RN_nn h (fun f a b hf => by rw [w_o (by omega)]; exact rdNj (by omega)) (fun a b => rdN2j (by omega))) (by omega)
      · by_cases e : k2 = k
        · subst e
          rw [w_s, w_s]
          refine ⟨rfl, Or.inr ⟨rfl, sc, cnt, RN_m (RN_xv (v := mV M) (RN_nn (RN_ns b2) (fun f a b hf => by rw [w_o (by omega)]) (fun a b => rfl)) (fun j hj => ?_)) (by omega)⟩⟩
          show (wI _ 102 0 0 k2 1).1 101 0 0 (600 * k2 + j) = mV M j
          rw [w_o (by decide), sA_r]
          show (if 600 * k2 ≤ 600 * k2 + j ∧ 600 * k2 + j < 600 * k2 + 600 then mV M (600 * k2 + j - 600 * k2) else _) = _
          rw [if_pos ⟨by omega, by omega⟩, show 600 * k2 + j - 600 * k2 = j by omega]
        · obtain ⟨a1, a2⟩ := hs k2 hk2
          have n91 : (wI (sN C (2 + k) N') 91 0 0 k 1).1 91 0 0 k2 = C.1 91 0 0 k2 := by
            show (if 91 = 91 ∧ 0 = 0 ∧ 0 = 0 ∧ k2 = k then _ else (sN C (2 + k) N').1 91 0 0 k2) = _
            rw [if_neg (fun q => e q.2.2.2)]
            exact rdN' (by decide)
          have n102 : (wI (sA M 101 (cv (fun r => M.1 101 0 0 r) (mV M) (600 * k) 600)) 102 0 0 k 1).1 102 0 0 k2 = M.1 102 0 0 k2 := by
            show (if 102 = 102 ∧ 0 = 0 ∧ 0 = 0 ∧ k2 = k then _ else (sA M 101 _).1 102 0 0 k2) = _
            rw [if_neg (fun q => e q.2.2.2)]
            exact sA_o (by decide)
          rw [n91, n102]
          refine ⟨a1, a2.elim Or.inl (fun z => Or.inr ⟨z.1, ?_⟩)⟩
          obtain ⟨sc', cnt', q⟩ := z.2
          refine ⟨sc', cnt', RN_m (RN_xv (v := SW M k2) (RN_nn q (fun f a b hf => by rw [w_o (by omega)]; exact rdNj (by omega)) (fun a b => rdN2j (by omega))) (fun j hj => ?_)) (by omega)⟩
          show (wI _ 102 0 0 k 1).1 101 0 0 (600 * k2 + j) = M.1 101 0 0 (600 * k2 + j)
          rw [w_o (by decide), sA_r]
          exact if_neg (by omega)
  · refine fwd (o := -1) ?_ (bs x3 (ip rfl rfl)) (Rl_m R (by omega))
    rcases x1 with q | q
    · exact ip q rfl
    · by_cases c : x < 0
      · exact ip c rfl
      · exact im c (im q rfl)
theorem T_restore (R : Rl C M w) (x : Int32) : ∃ o C' M', f_rc_restore C x = some (o, C') ∧ f_m_restore M x = some (o, M') ∧ Rl C' M' (w + 5000) := by
  obtain ⟨⟨sc, cnt, h⟩, hs, hh⟩ := id R
  unfold f_rc_restore f_m_restore
  rcases slot_c x with ⟨k, hk, rfl, x1, x2, x3⟩ | ⟨x1, x3⟩
  · obtain ⟨s1, s2⟩ := hs k hk
    have g2 : gin (nI k) 2 := gin_nI (by omega) (by omega)
    have t2 : tN (nI k) = k := tN_nI (by omega)
    rcases s2 with z | ⟨z, sc', cnt', hq⟩
    · refine fwd (o := -2) (im x1 (ip x2 (ip g2 (ip ?_ rfl)))) (bs x3 (im (by decide) (ip g2 (ip ?_ rfl)))) (Rl_m R (by omega))
      · rw [t2]; exact z
      · rw [t2, ← s1]; exact z
    · obtain ⟨N', b1, b2⟩ := s_become (C := C) (i0 := 0) (i1 := 2 + k) (by omega) hq
      have l25 : lp FU (b_m_restore_25 (nI k)) (0, M) = some (sV M (cv (mV M) (SW M k) 0 600)) := by
        have e0 : ((0 : Int32), M) = (nI 0, sV M (cv (mV M) (SW M k) 0 0)) := by rw [cv_0, sV_e]; rfl
        rw [e0]
        refine lp_n (fun j => (nI j, sV M (cv (mV M) (SW M k) 0 j))) 600 (lt_FU (by omega)) (fun j hj => ?_) ?_
        · have ea : (600 : Int32) * nI k + nI j = nI (600 * k + j) := by simp only [IXm, l_add]
          have er : (sV M (cv (mV M) (SW M k) 0 j)).1 101 0 0 (600 * k + j) = SW M k j := by rw [rdV' _ _ _ _ (by decide)]; rfl
          have es := cv_s (u := mV M) (g := SW M k) (d := 0) (k := j)
          rw [Nat.zero_add] at es
          unfold b_m_restore_25
          refine im (show ¬ (600 : Int32) ≤ nI j from nle (n := 600) (by omega) (by omega)) ?_
          show (if gin ((600 : Int32) * nI k + nI j) 1200 then if gin (nI j) 600 then (some (wI (sV M (cv (mV M) (SW M k) 0 j)) 100 0 0 (tN (nI j)) ((sV M (cv (mV M) (SW M k) 0 j)).1 101 0 0 (tN ((600 : Int32) * nI k + nI j))))).bind _ else none else none) = _
          rw [ea, if_pos (gin_nI (k := 600 * k + j) (n := 1200) (by omega) (by omega)), if_pos (gin_nI (k := j) (n := 600) (by omega) (by omega)), tN_nI (n := j) (by omega), tN_nI (n := 600 * k + j) (by omega), er, wrV, es]
          simp only [↓ob, IXr]
        · unfold b_m_restore_25
          exact ip (show (600 : Int32) ≤ nI 600 from by decide) rfl
      have v2 : ∀ j, j < 600 → cv (mV M) (SW M k) 0 600 j = SW M k j := fun j hj => by
        show (if 0 ≤ j ∧ j < 0 + 600 then SW M k (j - 0) else _) = _
        rw [if_pos ⟨by omega, by omega⟩]
        rfl
      have b3 : RN N' (cv (mV M) (SW M k) 0 600) sc' cnt' w := RN_xv b2 v2
      have eC0 : (wI (sN C 0 N') 71 0 0 0 0).1 1 0 0 0 = cv (mV M) (SW M k) 0 600 0 := by
        rw [w_o (by decide), rdN (by decide)]
        exact b3.E 1 0 0 rfl rfl
      have eM0 : (wI (sV M (cv (mV M) (SW M k) 0 600)) 105 0 0 0 0).1 100 0 0 0 = cv (mV M) (SW M k) 0 600 0 := by
        rw [w_o (by decide), rdV]
      refine fwd (o := cv (mV M) (SW M k) 0 600 0) (C' := wI (sN C 0 N') 71 0 0 0 0) (M' := wI (sV M (cv (mV M) (SW M k) 0 600)) 105 0 0 0 0) (im x1 (ip x2 (ip g2 (im ?_ (ip g2 ?_))))) (bs x3 (im (by decide) (ip g2 (im ?_ (bs l25 (bs rfl ?_)))))) ?_
      · rw [t2, z]; decide
      · rw [t2]
        refine bs b1 (bs rfl ?_)
        rw [eC0]
      · rw [t2, ← s1, z]; decide
      · rw [t_0, eM0]
      · refine ⟨⟨sc', cnt', ?_⟩, Rs_x hs (Nat.le_add_right _ _) (fun _ => by rw [w_o (by decide)]; exact rdN' (by decide)) (fun j q1 q2 => ⟨fun f a b hf => by rw [w_o (by omega)]; exact rdNj (by omega), fun a b => rdN2j (by omega)⟩) (fun _ => by rw [w_o (by decide), rdV' _ _ _ _ (by decide)]) (fun _ => by rw [w_o (by decide), rdV' _ _ _ _ (by decide)]), ?_⟩
        · have eV : mV (wI (sV M (cv (mV M) (SW M k) 0 600)) 105 0 0 0 0) = cv (mV M) (SW M k) 0 600 := funext fun j => by show (wI _ 105 0 0 0 0).1 100 0 0 j = _; rw [w_o (by decide), rdV]
          rw [eV]
          exact RN_m (RN_nn (RN_ns b3) (fun f a b hf => w_o (by omega)) (fun a b => rfl)) (by omega)
        · obtain ⟨o, n, a1, a2, a3, a4, a5, a6⟩ := hh
          exact ⟨o, 0, a1, by omega, by rw [w_o (by decide)]; exact (rdN' (by decide)).trans a3, w_s, w_s, fun k hk => absurd hk (by omega)⟩
  · refine fwd (o := -1) ?_ (bs x3 (ip rfl rfl)) (Rl_m R (by omega))
    rcases x1 with q | q
    · exact ip q rfl
    · by_cases c : x < 0
      · exact ip c rfl
      · exact im c (im q rfl)
theorem T_undo (R : Rl C M w) : ∃ o C' M', f_rc_undo C = some (o, C') ∧ f_m_undo M = some (o, M') ∧ Rl C' M' (w + 5000) := by
  obtain ⟨⟨sc, cnt, h⟩, hs, hh⟩ := id R
  obtain ⟨o, n, a1, a2, a3, a4, a5, a6⟩ := hh
  unfold f_rc_undo f_m_undo
  rw [a4, a5]
  by_cases hn : n = 0
  · subst hn
    exact fwd (o := -2) (im (by decide) rfl) (ip rfl rfl) (Rl_m R (by omega))
  · obtain ⟨m, rfl⟩ : ∃ m, n = m + 1 := ⟨n - 1, by omega⟩
    obtain ⟨sc', cnt', hq⟩ := a6 m (by omega)
    have hp : (o + m) % 5 < 5 := Nat.mod_lt _ (by decide)
    have e1 : nI (m + 1) - (1 : Int32) = nI m := nI_sb (b := 1) (by omega)
    have em : imax 0 (nI m) = nI m := by
      rw [imax_e]
      exact if_pos (by rw [le_int, z_0, nI_i (by omega)]; omega)
    obtain ⟨C1, hC1⟩ : ∃ C1, C1 = wI C 71 0 0 0 (nI m) := ⟨_, rfl⟩
    have hq1 : RN (nN C1 (4 + (o + m) % 5)) (HV M m) sc' cnt' w := RN_nn hq (fun f a b hf => by rw [hC1]; exact w_o (by omega)) (fun a b => by rw [hC1]; rfl)
    obtain ⟨N', b1, b2⟩ := s_become (C := C1) (i0 := 0) (i1 := 4 + (o + m) % 5) (by omega) hq1
    obtain ⟨M1, hM1⟩ : ∃ M1, M1 = wI M 105 0 0 0 (nI m) := ⟨_, rfl⟩
    have m105 : M1.1 105 0 0 0 = nI m := by rw [hM1]; exact w_s
    have mo : ∀ f a b d, f ≠ 105 → M1.1 f a b d = M.1 f a b d := fun f a b d hf => by rw [hM1]; exact w_o hf
    have l22 : lp FU b_m_undo_22 (0, M1) = some (sV M1 (cv (mV M1) (HV M m) 0 600)) := by
      have e0 : ((0 : Int32), M1) = (nI 0, sV M1 (cv (mV M1) (HV M m) 0 0)) := by rw [cv_0, sV_e]; rfl
      rw [e0]
      refine lp_n (fun j => (nI j, sV M1 (cv (mV M1) (HV M m) 0 j))) 600 (lt_FU (by omega)) (fun j hj => ?_) ?_
      · have ea : (600 : Int32) * nI m + nI j = nI (600 * m + j) := by simp only [IXm, l_add]
        have e5 : (sV M1 (cv (mV M1) (HV M m) 0 j)).1 105 0 0 0 = nI m := by rw [rdV' _ _ _ _ (by decide)]; exact m105
        have er : (sV M1 (cv (mV M1) (HV M m) 0 j)).1 103 0 0 (600 * m + j) = HV M m j := by rw [rdV' _ _ _ _ (by decide), mo _ _ _ _ (by decide)]; rfl
        have es := cv_s (u := mV M1) (g := HV M m) (d := 0) (k := j)
        rw [Nat.zero_add] at es
        unfold b_m_undo_22
        refine im (show ¬ (600 : Int32) ≤ nI j from nle (n := 600) (by omega) (by omega)) ?_
        show (if gin ((600 : Int32) * (sV M1 (cv (mV M1) (HV M m) 0 j)).1 105 0 0 0 + nI j) 3000 then if gin (nI j) 600 then (some (wI (sV M1 (cv (mV M1) (HV M m) 0 j)) 100 0 0 (tN (nI j)) ((sV M1 (cv (mV M1) (HV M m) 0 j)).1 103 0 0 (tN ((600 : Int32) * (sV M1 (cv (mV M1) (HV M m) 0 j)).1 105 0 0 0 + nI j))))).bind _ else none else none) = _
        rw [e5, ea, if_pos (gin_nI (k := 600 * m + j) (n := 3000) (by omega) (by omega)), if_pos (gin_nI (k := j) (n := 600) (by omega) (by omega)), tN_nI (n := j) (by omega), tN_nI (n := 600 * m + j) (by omega), er, wrV, es]
        simp only [↓ob, IXr]
      · unfold b_m_undo_22
        exact ip (show (600 : Int32) ≤ nI 600 from by decide) rfl
    have v2 : ∀ j, j < 600 → cv (mV M1) (HV M m) 0 600 j = HV M m j := fun j hj => by
      show (if 0 ≤ j ∧ j < 0 + 600 then HV M m (j - 0) else _) = _
      rw [if_pos ⟨by omega, by omega⟩]
      rfl
    have b3 : RN N' (cv (mV M1) (HV M m) 0 600) sc' cnt' w := RN_xv b2 v2
    have c71 : (sN C1 0 N').1 71 0 0 0 = nI m := by rw [rdN' (by decide), hC1]; exact w_s
    have c105 : (sV M1 (cv (mV M1) (HV M m) 0 600)).1 105 0 0 0 = nI m := by rw [rdV' _ _ _ _ (by decide)]; exact m105
    refine fwd (o := nI m) (C' := sN C1 0 N') (M' := sV M1 (cv (mV M1) (HV M m) 0 600)) (ip ?_ (bs (x := sN C1 0 N') ?_ ?_)) (im ?_ ?_) ?_
    · rw [lt_int, z_0, nI_i (by omega)]; omega
    · unfold f_hi_takeBack
      rw [a4, e1, em, ← hC1]
      have c70 : C1.1 70 0 0 0 = nI o := by rw [hC1, w_o (by decide)]; exact a3
      have c71' : C1.1 71 0 0 0 = nI m := by rw [hC1]; exact w_s
      refine bs rfl ?_
      rw [c70, c71', l_add, show fmval (nI (o + m)) 5 = nI ((o + m) % 5) from fm_nI (b := 5) (by omega) (by decide) (by decide)]
      refine ip (gin_nI (by omega) (by omega)) ?_
      rw [tN_nI (by omega)]
      exact bs b1 rfl
    · rw [c71]
    · exact ne0 (by omega) (by omega)
    · rw [e1, ← hM1]
      refine bs rfl (bs l22 ?_)
      rw [c105]
    · refine ⟨⟨sc', cnt', ?_⟩, Rs_x hs (Nat.le_add_right _ _) (fun _ => ?_) (fun j q1 q2 => ⟨fun f a b hf => ?_, fun a b => ?_⟩) (fun _ => ?_) (fun _ => ?_), o, m, a1, by omega, ?_, c71, c105, fun k hk => ?_⟩
      · rw [mV_s]
        exact RN_m (RN_ns b3) (by omega)
      · rw [rdN' (by decide), hC1, w_o (by decide)]
      · rw [rdNj (by omega), hC1, w_o (by omega)]
      · rw [rdN2j (by omega), hC1]
        rfl
      · rw [rdV' _ _ _ _ (by decide), mo _ _ _ _ (by decide)]
      · rw [rdV' _ _ _ _ (by decide), mo _ _ _ _ (by decide)]
      · rw [rdN' (by decide), hC1, w_o (by decide)]
        exact a3
      · obtain ⟨sc2, cnt2, q⟩ := a6 k (by omega)
        have eH : HV (sV M1 (cv (mV M1) (HV M m) 0 600)) k = HV M k := funext fun j => by
          show (sV M1 _).1 103 0 0 (600 * k + j) = _
          rw [rdV' _ _ _ _ (by decide), mo _ _ _ _ (by decide)]
          rfl
        rw [eH]
        refine ⟨sc2, cnt2, RN_m (RN_nn q (fun f a b hf => ?_) (fun a b => ?_)) (by omega)⟩
        · rw [rdNj (by omega), hC1, w_o (by omega)]
        · rw [rdN2j (by omega), hC1]
          rfl
end L70
