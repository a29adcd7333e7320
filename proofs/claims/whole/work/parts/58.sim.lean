/-! the simulated channel -/
theorem fc_none {v : Vt} : ∀ d k, fc v d k = none → ∀ j, k ≤ j → j < k + d → v (aO j) ≠ 0
  | 0, k, _, j, h1, h2 => absurd h2 (by omega)
  | d + 1, k, h, j, h1, h2 => by
    by_cases z : v (aO k) = 0
    · rw [fc_t z] at h
      cases h
    · rw [fc_f z] at h
      by_cases e : j = k
      · subst e
        exact z
      · exact fc_none d (k + 1) h j (by omega) (by omega)
theorem frC_s {v : Vt} {c : Nat} (hc : c < 6) (h : v (aO c) = 0) : ∃ c', frC v = some c' := by
  cases e : frC v with
  | some c' => exact ⟨c', rfl⟩
  | none => exact absurd h (fc_none 6 0 e c (by omega) (by omega))
theorem hA_c {v v' : Vt} {s cnt : Nat} (hs : s < 4) (h8 : cnt ≤ 8) (h : ∀ r, r < 8 → v' (aP s r) = v (aP s r)) (ha : hA v s cnt) : hA v' s cnt := by
  obtain ⟨r, q1, q2⟩ := ha
  exact ⟨r, q1, by show v' (aP s r) = 1; rw [h r (by omega)]; exact q2⟩
section L58
variable {C M : Me} {i : Nat} {N : Nt} {v : Vt} {sc cnt w c s n z : Nat}
theorem s_tries {y1 y2 y3 y6 y7 a2 a3 a6 a7 : Int32} (h : RN N v sc cnt w) (oc : OC v sc cnt c) (hs : s < sc) (hy1 : y1 = nI s) : ∀ (d k : Nat) (y : Int32) (F : Nat), k + d = off v c 4 → 1 ≤ k + d → d + 1 < F → ∃ y' T ok, (d = 0 ∨ k < T) ∧ k ≤ T ∧ T ≤ off v c 4 ∧ (ok = 0 ∨ ok = 1) ∧ lp F (b_nt_sendFrames_66 (sN C i N) i y1 y2 y3 y6 y7 i c (nI (off v c 4))) (y, nI k, 0) = some (y', nI T, ok) ∧ lp F (b_m_simulates_38 (sV M v) y1 a2 a3 a6 a7 (nI c) (nI (off v c 4))) (y, nI k, 0) = some (y', nI T, ok) := by
  have hl := h.lt
  have hb := off_b oc
  subst hy1
  intro d
  induction d with
  | zero =>
    intro k y F h1 h0 h2
    obtain ⟨F, rfl⟩ : ∃ G, F = G + 1 := ⟨F - 1, by omega⟩
    obtain rfl : k = off v c 4 := by omega
    refine ⟨y, off v c 4, 0, Or.inl rfl, Nat.le_refl _, Nat.le_refl _, Or.inl rfl, lp_inr ?_, lp_inr ?_⟩
    · unfold b_nt_sendFrames_66
      exact ip (nle_s (by omega)) rfl
    · unfold b_m_simulates_38
      exact ip rfl (ip (nle_s (by omega)) rfl)
  | succ d ih =>
    intro k y F h1 h0 h2
    obtain ⟨F, rfl⟩ : ∃ G, F = G + 1 := ⟨F - 1, by omega⟩
    have hk : k < off v c 4 := by omega
    have eb := en_b oc hk
    have hr := (oc.2.2.2.2.2.2 _ eb.1).2.1
    have crt := c_rt' (C := C) (i := i) h.E oc hk
    have mrt := m_rt (M := M) oc hk
    have lk : f_nt_linkAt (sN C i N) i (nI s) (nI (raC v c (enF v c k))) = some (some (i, s, raC v c (enF v c k))) := by
      unfold f_nt_linkAt
      refine bs (sta_t h hs) (bs (c_hasv h.E h.iR hr) (im (by decide) ?_))
      rw [if_pos (gin_nI (by omega) (by omega)), tN_nI (by omega)]
    generalize raC v c (enF v c k) = r at hr crt mrt lk
    have e27 : (sN C i N).1 27 i s r = v (aP s r + 7) := by rw [rdN (by decide)]; exact (h.lk hs r hr).2.1
    have hP := aP_lt (show s < 4 by omega) (show r < 8 by omega)
    have hP2 : aP s r = 30 + 8 * (8 * s + r) := rfl
    obtain ⟨y2', hy2⟩ : ∃ y2', y2' = (1103515245 : Int32) * y + 12345 := ⟨_, rfl⟩
    have cst : ∀ o, (if v (aP s r + 7) ≤ ((((y2').toUInt32 >>> ((16 : Int32).toUInt32 &&& Int32.toUInt32 31)).toInt32) - (((y2').toUInt32 >>> ((16 : Int32).toUInt32 &&& Int32.toUInt32 31)).toInt32) / 1000 * 1000) then some (.inl (y2', nI (k + 1), 0)) else some (.inl (y2', nI (k + 1), 1))) = o → b_nt_sendFrames_66 (sN C i N) i (nI s) y2 y3 y6 y7 i c (nI (off v c 4)) (y, nI k, 0) = o := fun o q => by
      unfold b_nt_sendFrames_66
      refine im (nle hk (by omega)) (ip rfl (bs crt (bs lk ?_)))
      rw [oe]
      unfold f_rc_nextDraw
      rw [← hy2]
      refine bs rfl ?_
      rw [e27]
      simp only [↓ob, IXr]
      exact q
    have mst : ∀ o, (if v (aP s r + 7) ≤ ((((y2').toUInt32 >>> ((16 : Int32).toUInt32 &&& Int32.toUInt32 31)).toInt32) - (((y2').toUInt32 >>> ((16 : Int32).toUInt32 &&& Int32.toUInt32 31)).toInt32) / 1000 * 1000) then some (.inl (y2', nI (k + 1), 0)) else some (.inl (y2', nI (k + 1), 1))) = o → b_m_simulates_38 (sV M v) (nI s) a2 a3 a6 a7 (nI c) (nI (off v c 4)) (y, nI k, 0) = o := fun o q => by
      unfold b_m_simulates_38
      refine ip rfl (im (nle hk (by omega)) ?_)
      rw [← hy2]
      refine bs rfl (bs mrt (bs (spr s r) (ip (gx (k := 30 + 8 * (8 * s + r) + 7) (by simp only [IXr]) (by omega) (by omega)) ?_)))
      rw [rx (k := 30 + 8 * (8 * s + r) + 7) (by simp only [IXr]) (by omega)]
      simp only [↓ob, IXr]
      exact q
    by_cases cq : v (aP s r + 7) ≤ ((((y2').toUInt32 >>> ((16 : Int32).toUInt32 &&& Int32.toUInt32 31)).toInt32) - (((y2').toUInt32 >>> ((16 : Int32).toUInt32 &&& Int32.toUInt32 31)).toInt32) / 1000 * 1000)
    · rw [if_pos cq] at cst mst
      obtain ⟨y', T, ok, p1, p2, p3, p4, p5, p6⟩ := ih (k + 1) y2' F (by omega) (by omega) (by omega)
      exact ⟨y', T, ok, Or.inr (by omega), by omega, p3, p4, by rw [lp_inl (cst _ rfl)]; exact p5, by rw [lp_inl (mst _ rfl)]; exact p6⟩
    · rw [if_neg cq] at cst mst
      obtain ⟨F, rfl⟩ : ∃ G, F = G + 1 := ⟨F - 1, by omega⟩
      refine ⟨y2', k + 1, 1, Or.inr (by omega), by omega, by omega, Or.inr rfl, ?_, ?_⟩
      · rw [lp_inl (cst _ rfl)]
        refine lp_inr ?_
        unfold b_nt_sendFrames_66
        by_cases ce : nI (off v c 4) ≤ nI (k + 1)
        · exact ip ce rfl
        · exact im ce (im (show ¬ (1 : Int32) = 0 by decide) rfl)
      · rw [lp_inl (mst _ rfl)]
        refine lp_inr ?_
        unfold b_m_simulates_38
        exact im (show ¬ (1 : Int32) = 0 by decide) rfl
/-- frames over the simulated channel -/
theorem s_sim {seed : Int32} (h : RN N v sc cnt w) (hw : w < 1060000000) (hs : s < sc) (ha : hA v s cnt) (hf : ∃ c, frC v = some c) (hn : 1 ≤ n ∧ n ≤ 50) (hz : 1 ≤ z ∧ z ≤ 4000) (ht : (v 0).toInt ≤ 1000000000) : ∃ g N' v', f_nt_sendFrames (sN C i N) i (nI s) (nI n) (nI z) seed = some (g, sN C i N') ∧ f_m_simulates (sV M v) (nI s) (nI n) (nI z) seed = some (g, sV M v') ∧ RN N' v' sc cnt (w + 5000) := by
  have hl := h.lt
  have key := lpG (bC := b_nt_sendFrames_10 i (nI s) (nI n) (nI z)) (bM := b_m_simulates_10 (nI s) (nI n) (nI z)) (fun k x y => ∃ y0 g N v, x = (y0, g, nI k, sN C i N) ∧ y = (y0, g, nI k, sV M v) ∧ RN N v sc cnt (w + 100 * k) ∧ hA v s cnt ∧ (∃ c, frC v = some c) ∧ (v 0).toInt ≤ 1000000000 + 16928884 * (k : Int)) (fun p q => ∃ g N v, p = .inl (g, sN C i N) ∧ q = (g, sV M v) ∧ RN N v sc cnt (w + 100 * n)) n (by omega) (fun k x y hk hR => ?_) (fun x y hR => ?_) (x := (seed, 0, 0, sN C i N)) (y := (seed, 0, 0, sV M v)) ⟨seed, 0, N, v, rfl, rfl, h, ha, hf, by omega⟩
  · obtain ⟨p, q, a1, a2, g, N', v', rfl, rfl, a3⟩ := key
    refine ⟨g, N', v', ?_, ?_, RN_m a3 (by omega)⟩
    · unfold f_nt_sendFrames
      exact bs a1 rfl
    · unfold f_m_simulates
      exact bs a2 rfl
  · obtain ⟨y0, g, N, v, rfl, rfl, h, ha, ⟨c, hf⟩, ht⟩ := hR
    obtain ⟨N1, v1, l1, l2, l3, hc, l4, l5, l6⟩ := s_lays (C := C) (M := M) (i := i) h hs ha hf hz
    have oc := l3.iC.oc hc l4
    have hb := off_b oc
    obtain ⟨y', T, ok, p1, p2, p3, p4, p5, p6⟩ := s_tries (C := C) (M := M) (i := i) (y2 := nI n) (y3 := nI z) (y6 := g) (y7 := nI k) (a2 := nI n) (a3 := nI z) (a6 := g) (a7 := nI k) l3 oc hs rfl (off v1 c 4) 0 y0 FU (by omega) (by omega) (lt_FU (by omega))
    have hsb := sF_b l3.iR oc T p3
    have ht1 : (v1 0).toInt = (v 0).toInt := by rw [l6 0 (by omega)]
    obtain ⟨N2, N3, v3, r1, r2, r3, r4, r5, r6, r7⟩ := s_rep (C := C) (M := M) (i := i) (ok := ok) l3 (by omega) hc l4 (by omega) p3 p4 (by omega)
    have ha3 : hA v3 s cnt := hA_c (by omega) hl.2 (fun r hr => by rw [r5 s r (by omega) hr, l6 _ (by have := aP_lt (show s < 4 by omega) hr; omega)]) ha
    have ch := ch_t (C := C) (M := M) (i := i) l3 hc l4
    have cpre : ∀ o, (if ok = 0 then (some (g + (0 : Int32))).bind fun x23 => (f_nt_updateEnded (sN C i N2) i).bind fun r24 => (some (nI k + 1)).bind fun x25 => some (Sum.inl (y', x23, x25, r24)) else (some (g + (1 : Int32))).bind fun x26 => (f_nt_updateEnded (sN C i N2) i).bind fun r27 => (some (nI k + 1)).bind fun x28 => some (.inl (y', x26, x28, r27))) = o → b_nt_sendFrames_10 i (nI s) (nI n) (nI z) (y0, g, nI k, sN C i N) = o := fun o q => by
      unfold b_nt_sendFrames_10
      refine im (nle hk (by omega)) (bs (sta_t h hs) ?_)
      rw [oe]
      refine bs l1 (bs ch.1 ?_)
      rw [oe]
      exact bs (c_all l3.E oc) (bs p5 (bs r1 q))
    have mpre : ∀ o, (if ok = 0 then (some (g + (0 : Int32))).bind fun x17 => (some (nI k + 1)).bind fun x18 => some (Sum.inl (y', x17, x18, sV M v3)) else (some (g + (1 : Int32))).bind fun x19 => (some (nI k + 1)).bind fun x20 => some (.inl (y', x19, x20, sV M v3))) = o → b_m_simulates_10 (nI s) (nI n) (nI z) (y0, g, nI k, sV M v) = o := fun o q => by
      unfold b_m_simulates_10
      exact im (nle hk (by omega)) (bs l2 (bs (m_all oc) (bs p6 (bs r3 q))))
    rcases p4 with rfl | rfl
    · refine ⟨_, _, cpre _ (ip rfl (bs rfl (bs r2 (bs rfl rfl)))), mpre _ (ip rfl (bs rfl (bs rfl rfl))), y', g + 0, N3, v3, ?_, ?_, RN_m r4 (by omega), ha3, frC_s hc r6, by omega⟩
      · rw [nI_1]
      · rw [nI_1]
    · refine ⟨_, _, cpre _ (im (by decide) (bs rfl (bs r2 (bs rfl rfl)))), mpre _ (im (by decide) (bs rfl (bs rfl rfl))), y', g + 1, N3, v3, ?_, ?_, RN_m r4 (by omega), ha3, frC_s hc r6, by omega⟩
      · rw [nI_1]
      · rw [nI_1]
  · obtain ⟨y0, g, N, v, rfl, rfl, h, ha, hf, ht⟩ := hR
    refine ⟨_, _, (?_ : _ = some (Sum.inr (.inl (g, sN C i N)))), (?_ : _ = some (Sum.inr (g, sV M v))), g, N, v, rfl, rfl, h⟩
    · unfold b_nt_sendFrames_10
      exact ip (nle_s (by omega)) rfl
    · unfold b_m_simulates_10
      exact ip (nle_s (by omega)) rfl
end L58
