/-! an update as a whole; the updates that are due -/
theorem up_c {v : Vt} {a b : Nat} {x y : Int32} (h : a ≠ b) : upd (upd v a x) b y = upd (upd v b y) a x := by
  funext k
  by_cases e1 : k = a
  · subst e1
    rw [up_n h, up_s, up_s]
  · by_cases e2 : k = b
    · subst e2
      rw [up_s, up_n e1, up_s]
    · rw [up_n e2, up_n e1, up_n e1, up_n e2]
theorem up_e {v : Vt} {a : Nat} {x : Int32} (h : v a = x) : upd v a x = v := by
  funext k
  by_cases e1 : k = a
  · subst e1
    rw [up_s, h]
  · rw [up_n e1]
theorem lg_flag {v : Vt} {k a r x : Int32} {s : Nat} (hs : s < 4) : lgV (upd v (aS s + 5) x) k a r = upd (lgV v k a r) (aS s + 5) x := by
  have hS : aS s = 290 + 32 * s := rfl
  unfold lgV
  rw [aS5 hs 8 (by decide), aS5 hs 0 (by decide)]
  generalize hP : tN (v 8) % 20 = P
  rw [up_c (a := aS s + 5) (b := 516 + 4 * P) (by omega), up_c (a := aS s + 5) (b := 516 + 4 * P + 1) (by omega), up_c (a := aS s + 5) (b := 516 + 4 * P + 2) (by omega), up_c (a := aS s + 5) (b := 516 + 4 * P + 3) (by omega), up_c (a := aS s + 5) (b := 8) (by omega)]
theorem s_ref {C M : Me} {i : Nat} {N : Nt} {v : Vt} {sc cnt w s : Nat} (h : RN N v sc cnt w) (hs : s < sc) (hw : w < 1072000000) : ∃ y N' v', f_nt_refresh (sN C i N) i i s = some (y, sN C i N') ∧ f_m_updates (sV M v) (nI s) = some (y, sV M v') ∧ RN N' v' sc cnt (w + 12) ∧ v' 0 = v 0 ∧ Ka v v' := by
  have hl := h.lt
  have hs4 : s < 4 := by omega
  have hS : aS s = 290 + 32 * s := rfl
  obtain ⟨x1, c1, c2⟩ := c_coll (C := C) (i := i) h.E (h.lk hs) h.iL h.iR hs4
  obtain ⟨x2, m1, m2⟩ := m_coll (M := M) h.iL h.iR hs4
  have g41 : (sN C i N).1 41 i s (tN 0) = v (aS s + 18) := by rw [t_0, rdN (by decide)]; exact (h.2 s hs).1 0 (by omega)
  unfold f_nt_refresh f_m_updates
  rw [g41]
  by_cases c : clB v s cnt
  · obtain ⟨N1, v1, a1, a2, a3, a4⟩ := s_coll (C := C) (M := M) (i := i) h hs
    have b3 := RN_log (k := 2) (s := nI s) (r := -9) a3 (by omega)
    have b1 := c_log (C := C) (i := i) (k := 2) (s := nI s) (r := -9) a3 (by omega)
    have b2 := m_log (M := M) (k := 2) (s := nI s) (r := -9) a3.iS.2.2.2.2.2.2.2.2.2.1
    have b4 := a4.log (k := 2) (a := nI s) (r := -9) hs4
    have e1 : (sN C i N1).1 1 i 0 0 = v1 0 := by rw [rdN (by decide)]; exact a3.E 1 0 0 rfl rfl
    generalize lgN N1 (tN (v1 8) % 20) 2 (nI s) (-9) (v1 0) (v1 8 + 1) = N2 at b1 b3
    generalize lgV v1 2 (nI s) (-9) = v2 at b2 b3 b4
    have d1 := c_bf (C := C) (i := i) b3 hs4 (by omega)
    have d3 := RN_bf b3 hs4 (by omega)
    have d4 := Kp_bf b4 hs4 hs4
    have d2 : f_m_collapse (sV M v) (nI s) = some (sV M (bfV v2 s)) := by
      have zl := fun f => bq (β := Me) (m_log (M := M) (k := 3) (s := nI s) (r := -9) b3.iS.2.2.2.2.2.2.2.2.2.1) f
      unfold f_m_collapse f_m_side
      refine bs a2 (bs b2 ?_)
      simp (disch := omega) only [↓ob, ↓zl, ↓reduceIte, IXl, IXm, IXr, gin_t, tN_nI, rdV, wrV, IXt]
      unfold bfV
      by_cases z : v2 (aS s + 5) = 0
      · refine ip z ?_
        rw [if_pos z, lg_flag hs4]
      · refine im z ?_
        rw [if_neg z, show (290 + 32 * s + 5) = aS s + 5 from rfl, up_e ((b3.iT s hs4).1.resolve_left z)]
    obtain ⟨N', v', t1, t2, t3, t4⟩ := s_tail (C := C) (M := M) (i := i) (v0 := v) (y := nI (tcN v s cnt)) d3 hs (by omega) d4
    refine ⟨nI (tcN v s cnt), N', v', ?_, ?_, RN_m t3 (by omega), t4⟩
    · refine bs (c_rt h hs4) (bs c1 (im (fun q => c2.mp q c) (bs a1 ?_)))
      rw [e1]
      exact bs b1 (bs d1 t1)
    · exact bs m1 (im (fun q => m2.mp q c) (bs d2 t2))
  · obtain ⟨N1, N2, v2, a1, a2, a3, a4, a5⟩ := s_follow (C := C) (M := M) (i := i) h hs (by omega)
    obtain ⟨N', v', t1, t2, t3, t4⟩ := s_tail (C := C) (M := M) (i := i) (v0 := v) (y := nI (tcN v s cnt)) a4 hs (by omega) a5
    refine ⟨nI (tcN v s cnt), N', v', ?_, ?_, RN_m t3 (by omega), t4⟩
    · exact bs (c_rt h hs4) (bs c1 (ip (c2.mpr c) (bs a1 (bs a2 t1))))
    · exact bs m1 (ip (m2.mpr c) (bs a3 t2))
theorem cmp_gt0 (x y : Int64) : 0 < lg_cmp x y ↔ y < x := by
  have q := cmp_le0 x y
  rw [lt_int]
  rw [le_int] at q
  rw [Int64.lt_iff_toInt_lt]
  rw [Int64.le_iff_toInt_le] at q
  have z : ((0 : Int32)).toInt = 0 := rfl
  rw [z] at q ⊢
  omega
theorem l_tl (x : Int32) : x.toInt64.toInt = x.toInt := by
  rw [Int32.toInt_toInt64]
theorem s_due {C M : Me} {i : Nat} {N : Nt} {v : Vt} {sc cnt w : Nat} (h : RN N v sc cnt w) (hw : w < 1071000000) : ∃ N' v', f_nt_updateEnded (sN C i N) i = some (sN C i N') ∧ f_m_updatesDue (sV M v) = some (sV M v') ∧ RN N' v' sc cnt (w + 48) ∧ v' 0 = v 0 ∧ Ka v v' := by
  have hl := h.lt
  have key := lpT (C := C) (M := M) (i := i) (bC := b_nt_updateEnded_2 i) (bM := b_m_updatesDue_2) (fun k N' v' => RN N' v' sc cnt (w + 12 * k) ∧ v' 0 = v 0 ∧ Ka v v') sc (by omega) (fun k N v1 hk hR => ?_) (fun N v1 hR => ?_) (N := N) (v := v) ⟨h, rfl, Ka.rf v⟩
  · obtain ⟨N', v', a1, a2, a3, a4⟩ := key
    refine ⟨N', v', ?_, ?_, RN_m a3 (by omega), a4⟩
    · unfold f_nt_updateEnded
      exact bs a1 rfl
    · unfold f_m_updatesDue
      exact bs a2 rfl
  · obtain ⟨h, h0, hka⟩ := hR
    have hS : aS k = 290 + 32 * k := rfl
    obtain ⟨y, N2, v2, c1, c2, c3, c4, cka⟩ := s_ref (C := C) (M := M) (i := i) h hk (by omega)
    have e0 : (sN C i N).1 0 i 0 0 = nI sc := by rw [rdN (by decide), h.E 0 0 0 rfl rfl]; exact h.iS.2.1
    have e1 : (sN C i N).1 1 i 0 0 = v1 0 := by rw [rdN (by decide)]; exact h.E 1 0 0 rfl rfl
    have hT := ((h.T k (by omega)).1 hk).2.2
    have h00 := h.iS.2.2.2.2.2.2.1
    have hlt := Int32.toInt_lt (v1 0)
    unfold b_nt_updateEnded_2 b_m_updatesDue_2 f_m_side
    show ∃ N' v', (if (sN C i N).1 0 i 0 0 ≤ nI k then _ else _) = _ ∧ (if (sV M v1).1 100 0 0 (tN 2) ≤ nI k then _ else _) = _ ∧ _
    rw [e0, t_2, rdV, h.iS.2.1, if_neg (nle hk (by omega)), if_neg (nle hk (by omega)), if_pos (gin_nI (by omega) (by omega)), tN_nI (by omega), if_pos (gin_nI (k := k) (n := 4) (by omega) (by omega)), rdN2 (by decide), e1]
    simp (disch := omega) only [↓ob, ↓reduceIte, IXl, IXm, IXr, l_add, gin_t, tN_nI, rdV, IXt]
    have skip : 0 < lg_cmp (N.2 39 k 0) (v1 0).toInt64 → (v1 (aS k + 16) = -9 ∨ v1 0 < v1 (aS k + 16)) → ∃ N' v', (if 0 < lg_cmp (N.2 39 k 0) (v1 0).toInt64 then some (Sum.inl (nI (k + 1), sN C i N)) else (f_nt_refresh (sN C i N) i i k).bind fun r6 => some (Sum.inl (nI (k + 1), r6.2))) = (some (Sum.inl (nI (k + 1), sN C i N')) : Option ((Int32 × Me) ⊕ Me)) ∧ (if v1 (290 + 32 * k + 16) = -9 then some (Sum.inl (nI (k + 1), sV M v1)) else if v1 0 < v1 (290 + 32 * k + 16) then some (Sum.inl (nI (k + 1), sV M v1)) else (f_m_updates (sV M v1) (nI k)).bind fun r8 => some (Sum.inl (nI (k + 1), r8.2))) = (some (Sum.inl (nI (k + 1), sV M v')) : Option ((Int32 × Me) ⊕ Me)) ∧ RN N' v' sc cnt (w + 12 * (k + 1)) ∧ v' 0 = v 0 ∧ Ka v v' := by
      intro q1 q2
      refine ⟨N, v1, if_pos q1, ?_, RN_m h (by omega), h0, hka⟩
      by_cases q3 : v1 (aS k + 16) = -9
      · exact ip q3 rfl
      · exact im q3 (ip (q2.resolve_left q3) rfl)
    rcases hT with ⟨q1, q2⟩ | ⟨q1, q2⟩
    · exact skip ((cmp_gt0 _ _).mpr (by rw [Int64.lt_iff_toInt_lt, l_tl]; omega)) (Or.inl q1)
    · by_cases q3 : (v1 0).toInt < (v1 (aS k + 16)).toInt
      · exact skip ((cmp_gt0 _ _).mpr (by rw [Int64.lt_iff_toInt_lt, l_tl]; omega)) (Or.inr (lt_int.mpr q3))
      · refine ⟨N2, v2, ?_, ?_, RN_m c3 (by omega), c4.trans h0, hka.tr cka⟩
        · exact im (fun z => by rw [cmp_gt0, Int64.lt_iff_toInt_lt, l_tl] at z; omega) (bs c1 rfl)
        · refine im (fun z => ?_) (im (fun z => q3 (lt_int.mp z)) (bs c2 rfl))
          have z2 : v1 (aS k + 16) = -9 := z
          rw [z2] at q1
          exact absurd q1 (by decide)
  · obtain ⟨h, h0, hka⟩ := hR
    have e0 : (sN C i N).1 0 i 0 0 = nI sc := by rw [rdN (by decide), h.E 0 0 0 rfl rfl]; exact h.iS.2.1
    unfold b_nt_updateEnded_2 b_m_updatesDue_2
    show (if (sN C i N).1 0 i 0 0 ≤ nI sc then _ else _) = _ ∧ (if (sV M v1).1 100 0 0 (tN 2) ≤ nI sc then _ else _) = _
    rw [e0, t_2, rdV, h.iS.2.1, if_pos (nle_s (by omega)), if_pos (nle_s (by omega))]
    exact ⟨rfl, rfl⟩
