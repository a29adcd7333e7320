/-! the questions: both sides answer alike -/
theorem oe {α β : Type} (p : α) (a : β) (f : α → β) : (some p).elim a f = f p := rfl
section L47
variable {C M : Me} {N : Nt} {v : Vt} {sc cnt w : Nat}
theorem q_kind (h : RN N v sc cnt w) (x : Int32) : ∃ y, f_rc_kind (sN C 0 N) x = some y ∧ f_m_kind (sV M v) x = some y := by
  unfold f_rc_kind f_m_kind
  rcases ch_c (C := C) (M := M) (i := 0) h x with ⟨c, hc, rfl, ho, a1, a2⟩ | ⟨a1, a2⟩
  · refine ⟨v (420 + 16 * c + 3), bs a1 ?_, bs a2 (im (by decide) ?_)⟩
    · show some ((sN C 0 N).1 53 0 c 0) = _
      rw [rdN (by decide), h.E 53 c 0 rfl (dO (by simp) hc)]
      rfl
    · unfold f_m_open
      simp (disch := omega) only [↓ob, ↓reduceIte, IXl, IXm, IXr, gin_t, tN_nI, rdV]
  · exact ⟨-1, bs a1 rfl, bs a2 (ip rfl rfl)⟩
theorem q_stationOf (h : RN N v sc cnt w) (x : Int32) : ∃ y, f_rc_stationOf (sN C 0 N) x = some y ∧ f_m_stationOf (sV M v) x = some y := by
  unfold f_rc_stationOf f_m_stationOf
  rcases ch_c (C := C) (M := M) (i := 0) h x with ⟨c, hc, rfl, ho, a1, a2⟩ | ⟨a1, a2⟩
  · refine ⟨v (420 + 16 * c + 1), bs a1 ?_, bs a2 (im (by decide) ?_)⟩
    · show some ((sN C 0 N).1 51 0 c 0) = _
      rw [rdN (by decide), h.E 51 c 0 rfl (dO (by simp) hc)]
      rfl
    · unfold f_m_open
      simp (disch := omega) only [↓ob, ↓reduceIte, IXl, IXm, IXr, gin_t, tN_nI, rdV]
  · exact ⟨-1, bs a1 rfl, bs a2 (ip rfl rfl)⟩
theorem q_entryRate (h : RN N v sc cnt w) (x y : Int32) : ∃ z, f_rc_entryRate (sN C 0 N) x y = some z ∧ f_m_entryRate (sV M v) x y = some z := by
  unfold f_rc_entryRate f_m_entryRate
  rcases ch_c (C := C) (M := M) (i := 0) h x with ⟨c, hc, rfl, ho, a1, a2⟩ | ⟨a1, a2⟩
  · rcases ent_c y with ⟨k, hk, rfl, b1, b2⟩ | ⟨b1, b2⟩
    · refine ⟨v (420 + 16 * c + 5 + k), bs a1 (bs b1 (im (by decide) ?_)), bs a2 (im (by decide) (bs b2 (im (by decide) ?_)))⟩
      · rw [if_pos (gin_nI (by omega) (by omega)), tN_nI (by omega)]
        show some ((sN C 0 N).1 55 0 c k) = _
        rw [rdN (by decide), h.E 55 c k rfl (d55 hc hk)]
        rfl
      · unfold f_m_open
        simp (disch := omega) only [↓ob, ↓reduceIte, IXl, IXm, IXr, l_add, gin_t, tN_nI, rdV]
    · exact ⟨-1, bs a1 (bs b1 (ip rfl rfl)), bs a2 (im (by decide) (bs b2 (ip rfl rfl)))⟩
  · exact ⟨-1, bs a1 rfl, bs a2 (ip rfl rfl)⟩
theorem q_entryTries (h : RN N v sc cnt w) (x y : Int32) : ∃ z, f_rc_entryTries (sN C 0 N) x y = some z ∧ f_m_entryTries (sV M v) x y = some z := by
  unfold f_rc_entryTries f_m_entryTries
  rcases ch_c (C := C) (M := M) (i := 0) h x with ⟨c, hc, rfl, ho, a1, a2⟩ | ⟨a1, a2⟩
  · rcases ent_c y with ⟨k, hk, rfl, b1, b2⟩ | ⟨b1, b2⟩
    · refine ⟨v (420 + 16 * c + 9 + k), bs a1 (bs b1 (im (by decide) ?_)), bs a2 (im (by decide) (bs b2 (im (by decide) ?_)))⟩
      · rw [if_pos (gin_nI (by omega) (by omega)), tN_nI (by omega)]
        show some ((sN C 0 N).1 56 0 c k) = _
        rw [rdN (by decide), h.E 56 c k rfl (d56 hc hk)]
        rfl
      · unfold f_m_open
        simp (disch := omega) only [↓ob, ↓reduceIte, IXl, IXm, IXr, l_add, gin_t, tN_nI, rdV]
    · exact ⟨-1, bs a1 (bs b1 (ip rfl rfl)), bs a2 (im (by decide) (bs b2 (ip rfl rfl)))⟩
  · exact ⟨-1, bs a1 rfl, bs a2 (ip rfl rfl)⟩
theorem q_tag (h : RN N v sc cnt w) (x : Int32) : ∃ y, f_rc_tag (sN C 0 N) x = some y ∧ f_m_tag (sV M v) x = some y := by
  rcases ch_c (C := C) (M := M) (i := 0) h x with ⟨c, hc, rfl, ho, a1, a2⟩ | ⟨a1, a2⟩
  · have e51 : (sN C 0 N).1 51 0 c 0 = v (aO c + 1) := by rw [rdN (by decide)]; exact h.E 51 c 0 rfl (dO (by simp) hc)
    have e52 : (sN C 0 N).1 52 0 c 0 = v (aO c + 2) := by rw [rdN (by decide)]; exact h.E 52 c 0 rfl (dO (by simp) hc)
    have e53 : (sN C 0 N).1 53 0 c 0 = v (aO c + 3) := by rw [rdN (by decide)]; exact h.E 53 c 0 rfl (dO (by simp) hc)
    have e54 : (sN C 0 N).1 54 0 c 0 = N.1 54 c 0 := rdN (by decide)
    have e55 : ∀ k, k < 4 → (sN C 0 N).1 55 0 c k = v (aO c + 5 + k) := fun k hk => by rw [rdN (by decide)]; exact h.E 55 c k rfl (d55 hc hk)
    obtain ⟨-, i2⟩ := h.iC c hc
    obtain ⟨-, -, -, i3, -⟩ := i2 ho
    have hK := h.K c hc
    have mm : ∀ o, (if v (aO c + 3) = 0 then some ((4 : Int32) * v (aO c + 2) + v (aO c + 1)) else if v (aO c + 3) = 1 then some ((3 : Int32) * ((4 : Int32) * v (aO c + 2) + v (aO c + 1)) + v (aO c + 4)) else some ((4 : Int32) * v (aO c + 2) + v (aO c + 1) + 100000)) = o → f_m_tag (sV M v) (nI c) = o := by
      intro o q
      unfold f_m_tag
      refine bs a2 (im (by decide) ?_)
      unfold f_m_open
      simp (disch := omega) only [↓ob, ↓reduceIte, IXl, IXm, IXr, l_add, gin_t, tN_nI, rdV]
      exact q
    by_cases k1 : v (aO c + 3) = 1
    · rw [if_neg (by rw [k1]; decide), if_pos k1] at mm
      have fin : ∀ k, k < 2 → N.1 54 c 0 = nI k → v (aO c + 4) = v (aO c + 5 + k) → ∃ y, f_rc_tag (sN C 0 N) (nI c) = some y ∧ f_m_tag (sV M v) (nI c) = some y := fun k hk q1 q2 => by
        refine ⟨_, ?_, mm _ rfl⟩
        unfold f_rc_tag
        refine bs a1 ?_
        rw [oe, ob]
        show (if (sN C 0 N).1 53 0 c 0 = 1 then (f_rc_isEntry ((sN C 0 N).1 54 0 c 0)).bind _ else _) = _
        rw [e53, if_pos k1, e54, q1]
        have b1 : f_rc_isEntry (nI k) = some 1 := by
          rcases (show k = 0 ∨ k = 1 by omega) with rfl | rfl <;> decide
        refine bs b1 (im (by decide) ?_)
        rw [if_pos (gin_nI (by omega) (by omega)), tN_nI (by omega), e55 k (by omega), e52, e51, q2]
      rcases hK k1 with ⟨q1, q2⟩ | ⟨q1, q2⟩
      · exact fin 0 (by omega) q1 q2
      · exact fin 1 (by omega) q1 q2
    · have cc : ∀ o, (if v (aO c + 3) = 2 then some ((4 : Int32) * v (aO c + 2) + v (aO c + 1) + 100000) else some ((4 : Int32) * v (aO c + 2) + v (aO c + 1))) = o → f_rc_tag (sN C 0 N) (nI c) = o := fun o q => by
        unfold f_rc_tag
        refine bs a1 ?_
        rw [oe, ob]
        show (if (sN C 0 N).1 53 0 c 0 = 1 then _ else if (sN C 0 N).1 53 0 c 0 = 2 then _ else _) = _
        rw [e53, if_neg k1, e52, e51]
        exact q
      by_cases k0 : v (aO c + 3) = 0
      · rw [if_pos k0] at mm
        rw [if_neg (by rw [k0]; decide)] at cc
        exact ⟨_, cc _ rfl, mm _ rfl⟩
      · rw [if_neg k0, if_neg k1] at mm
        have k2 : v (aO c + 3) = 2 := by
          have z0 : (v (aO c + 3)).toInt ≠ 0 := fun q => k0 (eq_int.mpr (by rw [q]; rfl))
          have z1 : (v (aO c + 3)).toInt ≠ 1 := fun q => k1 (eq_int.mpr (by rw [q]; rfl))
          exact eq_int.mpr (by rw [z_2]; omega)
        rw [if_pos k2] at cc
        exact ⟨_, cc _ rfl, mm _ rfl⟩
  · refine ⟨-1, ?_, ?_⟩
    · unfold f_rc_tag
      exact bs a1 rfl
    · unfold f_m_tag
      exact bs a2 (ip rfl rfl)
theorem q_estimate (h : RN N v sc cnt w) (x y : Int32) : ∃ z, f_rc_estimate (sN C 0 N) x y = some z ∧ f_m_estimate (sV M v) x y = some z := by
  unfold f_rc_estimate f_m_estimate
  have hl := h.lt
  rcases link_c (C := C) (M := M) (i := 0) h x y with ⟨s, r, hs, hr, rfl, rfl, a1, a2⟩ | ⟨a1, a2⟩
  · refine ⟨esC (v (aP s r + 1)), bs a1 ?_, bs a2 (im (by decide) ?_)⟩
    · show some ((sN C 0 N).1 21 0 s r) = _
      rw [rdN (by decide), (h.lk hs r hr).2.2]
    · unfold f_m_pair
      simp (disch := omega) only [↓ob, ↓reduceIte, IXl, IXm, IXr, l_add, gin_t, tN_nI, rdV]
      show (if 0 ≤ v (aP s r + 1) then some (v (aP s r + 1)) else some (-9)) = _
      unfold esC
      by_cases c : v (aP s r + 1) < 0
      · rw [if_pos c, if_neg (fun q => by rw [lt0] at c; rw [le_int, z_0] at q; omega)]
      · rw [if_neg c, if_pos (by rw [lt0] at c; rw [le_int, z_0]; omega)]
  · exact ⟨-1, bs a1 rfl, bs a2 (ip rfl rfl)⟩
theorem q_triesOf (h : RN N v sc cnt w) (x y : Int32) : ∃ z, f_rc_triesOf (sN C 0 N) x y = some z ∧ f_m_triesOf (sV M v) x y = some z := by
  unfold f_rc_triesOf f_m_triesOf
  have hl := h.lt
  rcases link_c (C := C) (M := M) (i := 0) h x y with ⟨s, r, hs, hr, rfl, rfl, a1, a2⟩ | ⟨a1, a2⟩
  · refine ⟨v (aP s r + 4), bs a1 ?_, bs a2 (im (by decide) ?_)⟩
    · show some ((sN C 0 N).1 25 0 s r) = _
      rw [rdN (by decide), h.E 25 s r rfl (dP (by simp) (by omega) (by omega))]
      rfl
    · unfold f_m_pair
      simp (disch := omega) only [↓ob, ↓reduceIte, IXl, IXm, IXr, l_add, gin_t, tN_nI, rdV]
  · exact ⟨-1, bs a1 rfl, bs a2 (ip rfl rfl)⟩
theorem q_successesOf (h : RN N v sc cnt w) (x y : Int32) : ∃ z, f_rc_successesOf (sN C 0 N) x y = some z ∧ f_m_successesOf (sV M v) x y = some z := by
  unfold f_rc_successesOf f_m_successesOf
  have hl := h.lt
  rcases link_c (C := C) (M := M) (i := 0) h x y with ⟨s, r, hs, hr, rfl, rfl, a1, a2⟩ | ⟨a1, a2⟩
  · refine ⟨v (aP s r + 5), bs a1 ?_, bs a2 (im (by decide) ?_)⟩
    · show some ((sN C 0 N).1 26 0 s r) = _
      rw [rdN (by decide), h.E 26 s r rfl (dP (by simp) (by omega) (by omega))]
      rfl
    · unfold f_m_pair
      simp (disch := omega) only [↓ob, ↓reduceIte, IXl, IXm, IXr, l_add, gin_t, tN_nI, rdV]
  · exact ⟨-1, bs a1 rfl, bs a2 (ip rfl rfl)⟩
theorem q_airTime (h : RN N v sc cnt w) (x y : Int32) : ∃ z, f_rc_airTime (sN C 0 N) x y = some z ∧ f_m_airTime (sV M v) x y = some z := by
  unfold f_rc_airTime f_m_airTime
  rcases rate_c (C := C) (M := M) (i := 0) h x with ⟨r, hr, rfl, a1, a2⟩ | ⟨a1, a2⟩
  · rcases size_c y with ⟨z, hz, hz2, rfl, b1, b2⟩ | ⟨b1, b2⟩
    · refine ⟨nI (aN v r z), bs a1 (im (by decide) (bs b1 (im (by decide) (bs (c_airv h.E h.iR hr hz2) rfl)))), bs a2 (im (by decide) (bs b2 (im (by decide) (bs (m_airv h.iR hr hz2) rfl))))⟩
    · exact ⟨-1, bs a1 (im (by decide) (bs b1 (ip rfl rfl))), bs a2 (im (by decide) (bs b2 (ip rfl rfl)))⟩
  · exact ⟨-1, bs a1 (ip rfl rfl), bs a2 (ip rfl rfl)⟩
theorem q_throughput (h : RN N v sc cnt w) (x y t : Int32) : ∃ z, f_rc_throughput (sN C 0 N) x y t = some z ∧ f_m_throughput (sV M v) x y t = some z := by
  have hl := h.lt
  rcases link_c (C := C) (M := M) (i := 0) h x y with ⟨s, r, hs, hr, rfl, rfl, a1, a2⟩ | ⟨a1, a2⟩
  · rcases size_c t with ⟨z, hz, hz2, rfl, b1, b2⟩ | ⟨b1, b2⟩
    · have he := (h.lk hs r hr).2.2
      have h2' := esC_9 (h.iL s r (by omega) (by omega)).2.2.2.1.1
      have ce := c_isE (C := C) (i := 0) h.iL (show s < 4 by omega) (show r < 8 by omega) he
      have ca := c_airv (C := C) (i := 0) h.E h.iR hr hz2
      have ma := m_airv (M := M) h.iR hr hz2
      have hab := airN_b (m := md v r) (p := sp v r) (z := z) (h.iR.m hr).2.2.2.1 hz2
      have hab' : 80 ≤ aN v r z ∧ aN v r z ≤ 600000 := hab
      have im1 : imax 1 (nI (aN v r z)) = nI (aN v r z) := if_pos ((nI_lt' (a := 1) (by omega) (by omega)).mpr (by omega))
      have nz : ¬ nI (aN v r z) = 0 := ne0 (by omega) (by omega)
      have mm : ∀ o, (if 0 ≤ v (aP s r + 1) then (some ((v (aP s r + 1)).toInt64 * ((8 : Int32) * nI z).toInt64)).bind fun x8 => if (lg_cmp x8 2147483647) ≤ 0 then (f_m_air (sV M v) (nI r) (nI z)).bind fun r10 => if ¬ r10 = 0 then some ((x8.toInt32) / r10) else none else some (-4) else some (-9)) = o → f_m_throughput (sV M v) (nI s) (nI r) (nI z) = o := fun o q => by
        unfold f_m_throughput
        refine bs a2 (im (by decide) (bs b2 (im (by decide) ?_)))
        unfold f_m_pair
        simp (disch := omega) only [↓ob, ↓reduceIte, IXl, IXm, IXr, l_add, gin_t, tN_nI, rdV]
        simp only [IXm] at q
        exact q
      have cc : ∀ o, (f_lk_isEstimated (sN C 0 N) 0 s r).bind (fun r5 => if r5 = 0 then some (-9) else (some ((((sN C 0 N).1 21 0 s r).toInt64) * ((((8 : Int32) * nI z)).toInt64))).bind fun x7 => if (lg_cmp x7 2147483647) ≤ 0 then (f_tb_timeInAir (sN C 0 N) 0 (nI r) (nI z)).bind fun r9 => (some (imax 1 r9)).bind fun x10 => if ¬ x10 = 0 then some ((x7.toInt32) / x10) else none else some (-4)) = o → f_rc_throughput (sN C 0 N) (nI s) (nI r) (nI z) = o := fun o q => by
        unfold f_rc_throughput
        exact bs a1 (bs b1 (im (by decide) q))
      by_cases c : v (aP s r + 1) < 0
      · rw [if_neg (fun q => by rw [lt0] at c; rw [le_int, z_0] at q; omega)] at mm
        rw [if_pos c] at ce
        exact ⟨-9, cc _ (bs ce (ip rfl rfl)), mm _ rfl⟩
      · rw [if_pos (by rw [lt0] at c; rw [le_int, z_0]; omega)] at mm
        rw [if_neg c] at ce
        have e21 : (sN C 0 N).1 21 0 s r = v (aP s r + 1) := by rw [rdN (by decide), he, h2'.2 c]
        by_cases k : (lg_cmp ((v (aP s r + 1)).toInt64 * ((8 : Int32) * nI z).toInt64) 2147483647) ≤ 0
        · refine ⟨((v (aP s r + 1)).toInt64 * ((8 : Int32) * nI z).toInt64).toInt32 / nI (aN v r z), cc _ (bs ce (im (by decide) ?_)), mm _ (bs rfl (ip k (bs ma (ip nz rfl))))⟩
          show (some (((sN C 0 N).1 21 0 s r).toInt64 * ((8 : Int32) * nI z).toInt64)).bind _ = _
          rw [e21]
          refine bs rfl (ip k (bs ca ?_))
          rw [im1]
          exact bs rfl (ip nz rfl)
        · refine ⟨-4, cc _ (bs ce (im (by decide) ?_)), mm _ (bs rfl (im k rfl))⟩
          show (some (((sN C 0 N).1 21 0 s r).toInt64 * ((8 : Int32) * nI z).toInt64)).bind _ = _
          rw [e21]
          exact bs rfl (im k rfl)
    · refine ⟨-1, ?_, ?_⟩
      · unfold f_rc_throughput
        exact bs a1 (bs b1 (ip rfl rfl))
      · unfold f_m_throughput
        exact bs a2 (im (by decide) (bs b2 (ip rfl rfl)))
  · refine ⟨-1, ?_, ?_⟩
    · unfold f_rc_throughput
      exact bs a1 rfl
    · unfold f_m_throughput
      exact bs a2 (ip rfl rfl)
theorem q_role (h : RN N v sc cnt w) (x y : Int32) : ∃ z, f_rc_role (sN C 0 N) x y = some z ∧ f_m_role (sV M v) x y = some z := by
  unfold f_rc_role f_m_role
  have hl := h.lt
  rcases sta_c (C := C) (M := M) (i := 0) h x with ⟨s, hs, rfl, a1, a2⟩ | ⟨a1, a2⟩
  · rcases in_c y 4 with ⟨k, hk, rfl⟩ | q
    · refine ⟨v (290 + 32 * s + 18 + k), bs a1 ?_, bs a2 (im (by decide) (bs (m_inT (by rw [z_0, z_3, nI_i (by omega)]; omega)) (im (by decide) ?_)))⟩
      · refine im (nI_pos (show k < 2 ^ 31 by omega)) (ip ((nI_lt' (b := 4) (by omega) (by omega)).mpr hk) (ip (gin_nI (by omega) (by omega)) ?_))
        show some ((sN C 0 N).1 41 0 s (tN (nI k))) = _
        rw [rdN (by decide), tN_nI (by omega), (h.2 s hs).1 k hk]
      · unfold f_m_roleOf f_m_side
        simp (disch := omega) only [↓ob, ↓reduceIte, IXl, IXm, IXr, l_add, gin_t, tN_nI, rdV]
    · refine ⟨-1, bs a1 ?_, bs a2 (im (by decide) (bs (m_inF (by rw [z_0, z_3]; omega)) (ip rfl rfl)))⟩
      show (if y < 0 then some (-1) else if y < 4 then _ else some (-1)) = _
      by_cases c : y < 0
      · rw [if_pos c]
      · rw [lt0] at c
        rw [if_neg (fun z => c (lt0.mp z)), if_neg (fun z => by rw [lt_int, z_4] at z; omega)]
  · exact ⟨-1, bs a1 rfl, bs a2 (ip rfl rfl)⟩
theorem q_refusal (h : RN N v sc cnt w) (x y : Int32) : ∃ z, f_rc_refusal (sN C 0 N) x y = some z ∧ f_m_refusal (sV M v) x y = some z := by
  unfold f_rc_refusal f_m_refusal
  have hl := h.lt
  rcases sta_c (C := C) (M := M) (i := 0) h x with ⟨s, hs, rfl, a1, a2⟩ | ⟨a1, a2⟩
  · rcases in_c y 3 with ⟨k, hk, rfl⟩ | q
    · refine ⟨v (290 + 32 * s + 22 + k), bs a1 ?_, bs a2 (im (by decide) (bs (m_inT (by rw [z_0, z_2, nI_i (by omega)]; omega)) (im (by decide) ?_)))⟩
      · refine im (nI_pos (show k < 2 ^ 31 by omega)) (ip ((nI_lt' (b := 3) (by omega) (by omega)).mpr hk) (ip (gin_nI (by omega) (by omega)) ?_))
        show some ((sN C 0 N).1 42 0 s (tN (nI k))) = _
        rw [rdN (by decide), tN_nI (by omega), ((h.T s (by omega)).1 hs).2.1 k hk]
      · unfold f_m_side
        simp (disch := omega) only [↓ob, ↓reduceIte, IXl, IXm, IXr, l_add, gin_t, tN_nI, rdV]
    · refine ⟨-1, bs a1 ?_, bs a2 (im (by decide) (bs (m_inF (by rw [z_0, z_2]; omega)) (ip rfl rfl)))⟩
      show (if y < 0 then some (-1) else if y < 3 then _ else some (-1)) = _
      by_cases c : y < 0
      · rw [if_pos c]
      · rw [lt0] at c
        rw [if_neg (fun z => c (lt0.mp z)), if_neg (fun z => by rw [lt_int, z_3] at z; omega)]
  · exact ⟨-1, bs a1 rfl, bs a2 (ip rfl rfl)⟩
theorem m_told (h : RN N v sc cnt w) (k : Nat) (hk : k < 8) (x : Int32) : ∃ z, f_m_told (sV M v) x (nI k) = some z ∧ ((∃ s, s < sc ∧ x = nI s ∧ z = v (aS s + k) ∧ f_nt_stationAt (sN C 0 N) 0 x = some (some (0, s))) ∨ (z = -1 ∧ f_nt_stationAt (sN C 0 N) 0 x = some none)) := by
  have hl := h.lt
  unfold f_m_told
  rcases sta_c (C := C) (M := M) (i := 0) h x with ⟨s, hs, rfl, a1, a2⟩ | ⟨a1, a2⟩
  · refine ⟨v (290 + 32 * s + k), bs a2 (im (by decide) ?_), Or.inl ⟨s, hs, rfl, rfl, a1⟩⟩
    unfold f_m_side
    simp (disch := omega) only [↓ob, ↓reduceIte, IXl, IXm, IXr, l_add, gin_t, tN_nI, rdV]
  · exact ⟨-1, bs a2 (ip rfl rfl), Or.inr ⟨rfl, a1⟩⟩
theorem q_chains (h : RN N v sc cnt w) (x : Int32) : ∃ z, f_rc_chains (sN C 0 N) x = some z ∧ f_m_chains (sV M v) x = some z := by
  obtain ⟨z, a1, ⟨s, hs, rfl, rfl, a2⟩ | ⟨rfl, a2⟩⟩ := m_told (C := C) (M := M) h 0 (by omega) x
  · refine ⟨_, ?_, bs a1 rfl⟩
    refine bs a2 ?_
    show some ((sN C 0 N).1 32 0 s 0) = _
    rw [rdN (by decide), h.E 32 s 0 rfl (dS (by simp) (by have := h.lt; omega))]
    rfl
  · exact ⟨-1, bs a2 rfl, bs a1 rfl⟩
theorem q_sampled (h : RN N v sc cnt w) (x : Int32) : ∃ z, f_rc_sampled (sN C 0 N) x = some z ∧ f_m_sampled (sV M v) x = some z := by
  obtain ⟨z, a1, ⟨s, hs, rfl, rfl, a2⟩ | ⟨rfl, a2⟩⟩ := m_told (C := C) (M := M) h 1 (by omega) x
  · refine ⟨_, ?_, bs a1 rfl⟩
    refine bs a2 ?_
    show some ((sN C 0 N).1 33 0 s 0) = _
    rw [rdN (by decide), h.E 33 s 0 rfl (dS (by simp) (by have := h.lt; omega))]
    rfl
  · exact ⟨-1, bs a2 rfl, bs a1 rfl⟩
theorem q_delivered (h : RN N v sc cnt w) (x : Int32) : ∃ z, f_rc_delivered (sN C 0 N) x = some z ∧ f_m_delivered (sV M v) x = some z := by
  obtain ⟨z, a1, ⟨s, hs, rfl, rfl, a2⟩ | ⟨rfl, a2⟩⟩ := m_told (C := C) (M := M) h 2 (by omega) x
  · refine ⟨_, ?_, bs a1 rfl⟩
    refine bs a2 ?_
    show some ((sN C 0 N).1 34 0 s 0) = _
    rw [rdN (by decide), h.E 34 s 0 rfl (dS (by simp) (by have := h.lt; omega))]
    rfl
  · exact ⟨-1, bs a2 rfl, bs a1 rfl⟩
theorem q_lost (h : RN N v sc cnt w) (x : Int32) : ∃ z, f_rc_lost (sN C 0 N) x = some z ∧ f_m_lost (sV M v) x = some z := by
  obtain ⟨z, a1, ⟨s, hs, rfl, rfl, a2⟩ | ⟨rfl, a2⟩⟩ := m_told (C := C) (M := M) h 3 (by omega) x
  · refine ⟨_, ?_, bs a1 rfl⟩
    refine bs a2 ?_
    show some ((sN C 0 N).1 35 0 s 0) = _
    rw [rdN (by decide), h.E 35 s 0 rfl (dS (by simp) (by have := h.lt; omega))]
    rfl
  · exact ⟨-1, bs a2 rfl, bs a1 rfl⟩
theorem q_queued (h : RN N v sc cnt w) (x : Int32) : ∃ z, f_rc_queued (sN C 0 N) x = some z ∧ f_m_queued (sV M v) x = some z := by
  obtain ⟨z, a1, ⟨s, hs, rfl, rfl, a2⟩ | ⟨rfl, a2⟩⟩ := m_told (C := C) (M := M) h 6 (by omega) x
  · refine ⟨_, ?_, bs a1 rfl⟩
    refine bs a2 ?_
    show some ((sN C 0 N).1 31 0 s 0) = _
    rw [rdN (by decide), h.E 31 s 0 rfl (dS (by simp) (by have := h.lt; omega))]
    rfl
  · exact ⟨-1, bs a2 rfl, bs a1 rfl⟩
theorem q_inFallback (h : RN N v sc cnt w) (x : Int32) : ∃ z, f_rc_inFallback (sN C 0 N) x = some z ∧ f_m_inFallback (sV M v) x = some z := by
  obtain ⟨z, a1, ⟨s, hs, rfl, rfl, a2⟩ | ⟨rfl, a2⟩⟩ := m_told (C := C) (M := M) h 5 (by omega) x
  · have hs4 : s < 4 := by have := h.lt; omega
    refine ⟨v (aS s + 5), ?_, bs a1 rfl⟩
    refine bs a2 ?_
    show (if (sN C 0 N).1 37 0 s 0 = 0 then some 0 else some 1) = _
    rw [rdN (by decide), h.E 37 s 0 rfl (dS (by simp) hs4)]
    show (if v (aS s + 5) = 0 then some 0 else some 1) = _
    rcases (h.iT s hs4).1 with q | q
    · rw [q]; rfl
    · rw [q]; rfl
  · exact ⟨-1, bs a2 rfl, bs a1 rfl⟩
theorem q_deficit (h : RN N v sc cnt w) (x : Int32) : ∃ z, f_rc_deficit (sN C 0 N) x = some z ∧ f_m_deficit (sV M v) x = some z := by
  have hl := h.lt
  unfold f_rc_deficit f_m_deficit
  rcases sta_c (C := C) (M := M) (i := 0) h x with ⟨s, hs, rfl, a1, a2⟩ | ⟨a1, a2⟩
  · refine ⟨v (290 + 32 * s + 15), bs a1 ?_, bs a2 (im (by decide) ?_)⟩
    · show some ((sN C 0 N).1 38 0 s 0) = _
      rw [rdN (by decide), h.E 38 s 0 rfl (dS (by simp) (by omega))]
      rfl
    · unfold f_m_side
      simp (disch := omega) only [↓ob, ↓reduceIte, IXl, IXm, IXr, l_add, gin_t, tN_nI, rdV]
  · exact ⟨_, bs a1 rfl, bs a2 (ip rfl rfl)⟩
theorem q_time (h : RN N v sc cnt w) : ∃ z, f_rc_time (sN C 0 N) = some z ∧ f_m_time (sV M v) = some z := by
  refine ⟨v 0, ?_, by unfold f_m_time; rw [t_0, rdV]⟩
  unfold f_rc_time
  rw [rdN (by decide), h.E 1 0 0 rfl rfl]
  rfl
theorem q_events (h : RN N v sc cnt w) : ∃ z, f_rc_events (sN C 0 N) = some z ∧ f_m_events (sV M v) = some z := by
  refine ⟨v 8, ?_, by unfold f_m_events; rw [t_8, rdV]⟩
  unfold f_rc_events
  rw [rdN (by decide), h.E 60 0 0 rfl rfl]
  rfl
theorem q_event (h : RN N v sc cnt w) (hw : w < 1073741824) (k : Nat) (hk : k < 4) (x : Int32) : ∃ z, f_lo_look (sN C 0 N) 0 (nI k) x = some z ∧ f_m_event (sV M v) x (nI k) = some z := by
  have g := h.iS.2.2.2.2.2.2.2.2.2
  have e8 : v 8 = nI (tN (v 8)) := nn_eq g.1
  have b8 := tN_int g.1
  have e60 : (sN C 0 N).1 60 0 0 0 = nI (tN (v 8)) := by rw [rdN (by decide), h.E 60 0 0 rfl rfl]; exact e8
  unfold f_lo_look f_m_event
  rw [t_8, rdV, e60]
  generalize hn : tN (v 8) = n at e8 b8 ⊢
  rw [e8]
  have hmin : imin (nI n) 20 = nI (min n 20) := by
    by_cases c : 20 < n
    · rw [show min n 20 = 20 by omega]
      exact if_pos ((nI_lt' (a := 20) (by omega) (by omega)).mpr c)
    · rw [show min n 20 = n by omega]
      exact if_neg (fun q => c ((nI_lt' (a := 20) (by omega) (by omega)).mp q))
  by_cases c : x < 0
  · exact ⟨-1, if_pos c, im (fun q => by rw [lt0] at c; rw [le_int, z_0] at q; omega) rfl⟩
  · have cx : 0 ≤ x.toInt := by rw [lt0] at c; omega
    obtain ⟨j, rfl⟩ : ∃ j, x = nI j := ⟨tN x, nn_eq cx⟩
    have hjb : tN (nI j) < 2147483648 := by
      have := tN_int cx
      have := Int32.toInt_lt (nI j)
      omega
    obtain ⟨m, hm, hmj⟩ : ∃ m, m < 2147483648 ∧ nI j = nI m := ⟨tN (nI j), hjb, nn_eq cx⟩
    rw [hmj]
    have l0 : ¬ nI m < 0 := nI_pos (show m < 2 ^ 31 by omega)
    have lk0 : ¬ nI k < 0 := nI_pos (show k < 2 ^ 31 by omega)
    have lk4 : nI k < (4 : Int32) := (nI_lt' (b := 4) (by omega) (by omega)).mpr hk
    have g0 : (0 : Int32) ≤ nI m := by rw [le_int, z_0, nI_i hm]; omega
    rw [hmin]
    by_cases c2 : m < min n 20
    · have hp : (n - 1 - m) % 20 < 20 := Nat.mod_lt _ (by decide)
      have e1 : nI n - (1 : Int32) - nI m = nI (n - 1 - m) := by rw [show (1 : Int32) = nI 1 from rfl, nI_sb (by omega), nI_sb (by omega)]
      have e2 : fmval (nI (n - 1 - m)) 20 = nI ((n - 1 - m) % 20) := fm_nI (b := 20) (by omega) (by decide) (by decide)
      have e3 : nI (n - 1 - m) - nI (n - 1 - m) / 20 * 20 = nI ((n - 1 - m) % 20) := pk_rem (by omega) (by decide) (by decide)
      rw [e1, e2, e3]
      generalize (n - 1 - m) % 20 = p at hp
      refine ⟨v (516 + 4 * p + k), im l0 (im lk0 (ip lk4 (ip ((nI_lt' (by omega) (by omega)).mpr c2) ?_))), ip g0 (im ?_ (im ?_ ?_))⟩
      · rw [if_pos (gin_nI (by omega) (by omega)), if_pos (gin_nI (by omega) (by omega)), tN_nI (by omega), tN_nI (by omega), rdN (by decide), h.E 61 k p rfl (d61 hk hp)]
        rfl
      · exact nle (n := 20) (by omega) (by omega)
      · exact nle (by omega) (by omega)
      · simp (disch := omega) only [↓ob, ↓reduceIte, IXl, IXm, IXr, l_add, gin_t, tN_nI, rdV]
    · refine ⟨-9, im l0 (im lk0 (ip lk4 (im (fun q => c2 ((nI_lt' (by omega) (by omega)).mp q)) rfl))), ip g0 ?_⟩
      by_cases c3 : 20 ≤ m
      · exact ip ((nI_le' (a := 20) (by omega) hm).mpr c3) rfl
      · exact im (fun q => c3 ((nI_le' (a := 20) (by omega) hm).mp q)) (ip ((nI_le' (by omega) hm).mpr (by omega)) rfl)
end L47
