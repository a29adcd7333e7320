/-! the digest -/
section L71
variable {C M : Me} {N : Nt} {v : Vt} {sc cnt w s : Nat}
theorem lk_t {i r : Nat} (h : RN N v sc cnt w) (hs : s < sc) (hr : r < cnt) : f_nt_linkAt (sN C i N) i (nI s) (nI r) = some (some (i, s, r)) := by
  have hl := h.lt
  unfold f_nt_linkAt
  refine bs (sta_t h hs) (bs (c_hasv h.E h.iR hr) (im (by decide) ?_))
  rw [if_pos (gin_nI (by omega) (by omega)), tN_nI (by omega)]
def hS (h : Int64) (x : Int32) : Int64 := (31 : Int64) * h + x.toInt64
def rF (v : Vt) (s : Nat) (x : Int64) : Nat → Int64
  | 0 => x
  | k + 1 => hS (rF v s x k) (v (aS s + 18 + k))
def tF (v : Vt) (s : Nat) (x : Int64) : Nat → Int64
  | 0 => x
  | k + 1 => hS (hS (hS (tF v s x k) (esC (v (aP s k + 1)))) (v (aP s k + 4))) (v (aP s k + 5))
def sD (v : Vt) (s cnt : Nat) (h : Int64) : Int64 := tF v s (rF v s (hS (hS (hS (hS (hS (hS (hS h (v (aS s + 0))) (v (aS s + 1))) (v (aS s + 2))) (v (aS s + 3))) (v (aS s + 6))) (v (aS s + 15))) (v (aS s + 5))) 4) cnt
theorem c_sD (h : RN N v sc cnt w) (hs : s < sc) (x : Int64) : f_rc_digestOfStation (sN C 0 N) x (nI s) = some (sD v s cnt x) := by
  have hl := h.lt
  have hs4 : s < 4 := by omega
  have st := sta_t (C := C) (i := 0) h hs
  have e : ∀ f k, uf f = true → dm f s 0 = true → f < 70 → ad f s 0 = aS s + k → (sN C 0 N).1 f 0 s 0 = v (aS s + k) := fun f k h1 h2 h3 h4 => by rw [rdN h3, h.E f s 0 h1 h2, h4]
  have q1 : f_rc_chains (sN C 0 N) (nI s) = some (v (aS s + 0)) := by
    unfold f_rc_chains
    refine bs st ?_
    rw [oe]
    exact congrArg some (e 32 0 rfl (dS (by simp) hs4) (by decide) rfl)
  have q2 : f_rc_sampled (sN C 0 N) (nI s) = some (v (aS s + 1)) := by
    unfold f_rc_sampled
    refine bs st ?_
    rw [oe]
    exact congrArg some (e 33 1 rfl (dS (by simp) hs4) (by decide) rfl)
  have q3 : f_rc_delivered (sN C 0 N) (nI s) = some (v (aS s + 2)) := by
    unfold f_rc_delivered
    refine bs st ?_
    rw [oe]
    exact congrArg some (e 34 2 rfl (dS (by simp) hs4) (by decide) rfl)
  have q4 : f_rc_lost (sN C 0 N) (nI s) = some (v (aS s + 3)) := by
    unfold f_rc_lost
    refine bs st ?_
    rw [oe]
    exact congrArg some (e 35 3 rfl (dS (by simp) hs4) (by decide) rfl)
  have q5 : f_rc_queued (sN C 0 N) (nI s) = some (v (aS s + 6)) := by
    unfold f_rc_queued
    refine bs st ?_
    rw [oe]
    exact congrArg some (e 31 6 rfl (dS (by simp) hs4) (by decide) rfl)
  have q6 : f_rc_deficit (sN C 0 N) (nI s) = some (v (aS s + 15)) := by
    unfold f_rc_deficit
    refine bs st ?_
    rw [oe]
    exact congrArg some (e 38 15 rfl (dS (by simp) hs4) (by decide) rfl)
  have q7 : f_rc_inFallback (sN C 0 N) (nI s) = some (v (aS s + 5)) := by
    unfold f_rc_inFallback
    refine bs st ?_
    rw [oe]
    show (if (sN C 0 N).1 37 0 s 0 = 0 then some 0 else some 1) = _
    rw [e 37 5 rfl (dS (by simp) hs4) (by decide) rfl]
    rcases (h.iT s hs4).1 with q | q
    · rw [q]; rfl
    · rw [q]; rfl
  have l1 : ∀ y : Int64, lp FU (b_rc_digestOfStation_111 (sN C 0 N) (nI s)) (y, 0) = some (rF v s y 4) := fun y => by
    refine lp_n (fun k => (rF v s y k, nI k)) 4 (lt_FU (by omega)) (fun k hk => ?_) ?_
    · have qr : f_rc_role (sN C 0 N) (nI s) (nI k) = some (v (aS s + 18 + k)) := by
        unfold f_rc_role
        refine bs st ?_
        rw [oe]
        refine im (nI_pos (show k < 2 ^ 31 by omega)) (ip ((nI_lt' (b := 4) (by omega) (by omega)).mpr hk) (ip (gin_nI (by omega) (by omega)) ?_))
        show some ((sN C 0 N).1 41 0 s (tN (nI k))) = _
        rw [rdN (by decide), tN_nI (by omega), (h.2 s hs).1 k hk]
      unfold b_rc_digestOfStation_111
      refine im (show ¬ (4 : Int32) ≤ nI k from nle (n := 4) (by omega) (by omega)) (bs qr ?_)
      simp only [↓ob, IXr]
      rfl
    · unfold b_rc_digestOfStation_111
      exact ip (show (4 : Int32) ≤ nI 4 from by decide) rfl
  have l2 : ∀ y : Int64, lp FU (b_rc_digestOfStation_143 (sN C 0 N) (nI s)) (y, 0) = some (tF v s y cnt) := fun y => by
    refine lp_n (fun k => (tF v s y k, nI k)) cnt (lt_FU (by omega)) (fun k hk => ?_) ?_
    · have lk := lk_t (C := C) (i := 0) h hs hk
      have p1 : f_rc_estimate (sN C 0 N) (nI s) (nI k) = some (esC (v (aP s k + 1))) := by
        unfold f_rc_estimate
        refine bs lk ?_
        rw [oe]
        show some ((sN C 0 N).1 21 0 s k) = _
        rw [rdN (by decide), (h.lk hs k hk).2.2]
      have p2 : f_rc_triesOf (sN C 0 N) (nI s) (nI k) = some (v (aP s k + 4)) := by
        unfold f_rc_triesOf
        refine bs lk ?_
        rw [oe]
        show some ((sN C 0 N).1 25 0 s k) = _
        rw [rdN (by decide), h.E 25 s k rfl (dP (by simp) hs4 (by omega))]
        rfl
      have p3 : f_rc_successesOf (sN C 0 N) (nI s) (nI k) = some (v (aP s k + 5)) := by
        unfold f_rc_successesOf
        refine bs lk ?_
        rw [oe]
        show some ((sN C 0 N).1 26 0 s k) = _
        rw [rdN (by decide), h.E 26 s k rfl (dP (by simp) hs4 (by omega))]
        rfl
      unfold b_rc_digestOfStation_143
      rw [c_cnt h]
      refine im (nle hk (by omega)) (bs p1 (bs rfl (bs p2 (bs rfl (bs p3 (bs rfl ?_))))))
      simp only [↓ob, IXr]
      rfl
    · unfold b_rc_digestOfStation_143
      rw [c_cnt h]
      exact ip (nle_s (by omega)) rfl
  unfold f_rc_digestOfStation
  exact bs q1 (bs rfl (bs q2 (bs rfl (bs q3 (bs rfl (bs q4 (bs rfl (bs q5 (bs rfl (bs q6 (bs rfl (bs q7 (bs rfl (bs (l1 _) (bs (l2 _) rfl)))))))))))))))
theorem m_sD (h : RN N v sc cnt w) (hs : s < sc) (x : Int64) : f_m_stationDigest (sV M v) x (nI s) = some (sD v s cnt x) := by
  have hl := h.lt
  have hs4 : s < 4 := by omega
  have l0 : lp FU (b_m_stationDigest_6 (sV M v) (nI s)) (x, 0) = some (hS (hS (hS (hS x (v (aS s + 0))) (v (aS s + 1))) (v (aS s + 2))) (v (aS s + 3))) := by
    have st : ∀ k (y : Int64), k < 4 → b_m_stationDigest_6 (sV M v) (nI s) (y, nI k) = some (.inl (hS y (v (aS s + k)), nI (k + 1))) := fun k y hk => by
      unfold b_m_stationDigest_6
      refine im (show ¬ (4 : Int32) ≤ nI k from nle (n := 4) (by omega) (by omega)) (bs (sd s) (ip (gx (k := 290 + 32 * s + k) (by simp only [l_add]) (by omega) (by omega)) ?_))
      rw [rx (k := 290 + 32 * s + k) (by simp only [l_add]) (by omega)]
      simp only [↓ob, IXr]
      rfl
    have en : ∀ y : Int64, b_m_stationDigest_6 (sV M v) (nI s) (y, nI 4) = some (.inr y) := fun y => by
      unfold b_m_stationDigest_6
      exact ip (show (4 : Int32) ≤ nI 4 from by decide) rfl
    show lp (4995 + 1 + 1 + 1 + 1 + 1) (b_m_stationDigest_6 (sV M v) (nI s)) (x, nI 0) = _
    rw [lp_inl (st 0 x (by omega)), lp_inl (st 1 _ (by omega)), lp_inl (st 2 _ (by omega)), lp_inl (st 3 _ (by omega)), lp_inr (en _)]
  have l1 : ∀ y : Int64, lp FU (b_m_stationDigest_108 (sV M v) (nI s)) (y, 0) = some (rF v s y 4) := fun y => by
    refine lp_n (fun k => (rF v s y k, nI k)) 4 (lt_FU (by omega)) (fun k hk => ?_) ?_
    · unfold b_m_stationDigest_108
      refine im (show ¬ (4 : Int32) ≤ nI k from nle (n := 4) (by omega) (by omega)) (bs (m_role hs4 hk) ?_)
      simp only [↓ob, IXr]
      rfl
    · unfold b_m_stationDigest_108
      exact ip (show (4 : Int32) ≤ nI 4 from by decide) rfl
  have l2 : ∀ y : Int64, lp FU (b_m_stationDigest_140 (sV M v) (nI s)) (y, 0) = some (tF v s y cnt) := fun y => by
    refine lp_n (fun k => (tF v s y k, nI k)) cnt (lt_FU (by omega)) (fun k hk => ?_) ?_
    · have hP := aP_lt hs4 (show k < 8 by omega)
      have hP2 : aP s k = 30 + 8 * (8 * s + k) := rfl
      have p1 : f_m_estimate (sV M v) (nI s) (nI k) = some (esC (v (aP s k + 1))) := by
        rcases link_c (C := M) (M := M) (i := 0) h (nI s) (nI k) with ⟨s', r', q1, q2, q3, q4, a1, a2⟩ | ⟨a1, a2⟩
        · unfold f_m_estimate
          refine bs a2 (im (by decide) (bs (spr s k) (ip (gx (k := 30 + 8 * (8 * s + k) + 1) (by simp only [IXr]) (by omega) (by omega)) ?_)))
          rw [rx (k := 30 + 8 * (8 * s + k) + 1) (by simp only [IXr]) (by omega), show 30 + 8 * (8 * s + k) + 1 = aP s k + 1 from rfl]
          unfold esC
          by_cases c : v (aP s k + 1) < 0
          · rw [if_pos c]
            exact im (fun q => by rw [lt0] at c; rw [le_int, z_0] at q; omega) rfl
          · rw [if_neg c]
            exact ip (by rw [lt0] at c; rw [le_int, z_0]; omega) rfl
        · rw [lk_t h hs hk] at a1
          cases a1
      unfold b_m_stationDigest_140
      rw [t_1, rdV, h.iR.2.1]
      refine im (nle hk (by omega)) (bs p1 (bs rfl (bs (spr s k) (ip (gx (k := 30 + 8 * (8 * s + k) + 4) (by simp only [IXr]) (by omega) (by omega)) ?_))))
      rw [rx (x := nI (30 + 8 * (8 * s + k)) + (4 : Int32)) (k := 30 + 8 * (8 * s + k) + 4) (by simp only [IXr]) (by omega)]
      refine bs rfl (bs (spr s k) (ip (gx (k := 30 + 8 * (8 * s + k) + 5) (by simp only [IXr]) (by omega) (by omega)) ?_))
      rw [rx (x := nI (30 + 8 * (8 * s + k)) + (5 : Int32)) (k := 30 + 8 * (8 * s + k) + 5) (by simp only [IXr]) (by omega)]
      simp only [↓ob, IXr]
      rfl
    · unfold b_m_stationDigest_140
      rw [t_1, rdV, h.iR.2.1]
      exact ip (nle_s (by omega)) rfl
  unfold f_m_stationDigest
  refine bs l0 (bs (sd s) (ip (gx (k := 290 + 32 * s + 6) (by simp only [IXr]) (by omega) (by omega)) ?_))
  rw [rx (x := nI (290 + 32 * s) + (6 : Int32)) (k := 290 + 32 * s + 6) (by simp only [IXr]) (by omega)]
  refine bs rfl (bs (sd s) (ip (gx (k := 290 + 32 * s + 15) (by simp only [IXr]) (by omega) (by omega)) ?_))
  rw [rx (x := nI (290 + 32 * s) + (15 : Int32)) (k := 290 + 32 * s + 15) (by simp only [IXr]) (by omega)]
  refine bs rfl (bs (sd s) (ip (gx (k := 290 + 32 * s + 5) (by simp only [IXr]) (by omega) (by omega)) ?_))
  rw [rx (x := nI (290 + 32 * s) + (5 : Int32)) (k := 290 + 32 * s + 5) (by simp only [IXr]) (by omega)]
  exact bs rfl (bs (l1 _) (bs (l2 _) rfl))
theorem q_digest (h : RN N v sc cnt w) : ∃ y, f_rc_digest (sN C 0 N) = some y ∧ f_m_digest (sV M v) = some y := by
  have hl := h.lt
  obtain ⟨K, hK⟩ : ∃ K : Nat → Int32, ∀ c, f_rc_kind (sN C 0 N) (nI c) = some (K c) ∧ f_m_kind (sV M v) (nI c) = some (K c) := ⟨fun c => Classical.choose (q_kind (C := C) (M := M) h (nI c)), fun c => Classical.choose_spec (q_kind (C := C) (M := M) h (nI c))⟩
  let A : Nat → Int64 := fun k => Nat.rec (hS ((527 : Int64) + (v 0).toInt64) (v 8)) (fun s y => sD v s cnt y) k
  let B : Nat → Int64 := fun k => Nat.rec (A sc) (fun c y => hS y (K c)) k
  have eC0 : (sN C 0 N).1 1 0 0 0 = v 0 := by rw [rdN (by decide)]; exact h.E 1 0 0 rfl rfl
  have eC8 : (sN C 0 N).1 60 0 0 0 = v 8 := by rw [rdN (by decide)]; exact h.E 60 0 0 rfl rfl
  refine ⟨B 6, ?_, ?_⟩
  · unfold f_rc_digest f_rc_time f_rc_events
    rw [eC0, eC8]
    refine bs rfl (bs rfl (bs rfl (bs rfl (bs (x := A sc) ?_ (bs (x := B 6) ?_ rfl)))))
    · refine lp_n (fun k => (A k, nI k)) sc (lt_FU (by omega)) (fun k hk => ?_) ?_
      · unfold b_rc_digest_24
        rw [c_sc h]
        refine im (nle hk (by omega)) (bs (c_sD h hk _) ?_)
        simp only [↓ob, IXr]
        rfl
      · unfold b_rc_digest_24
        rw [c_sc h]
        exact ip (nle_s (by omega)) rfl
    · refine lp_n (fun k => (B k, nI k)) 6 (lt_FU (by omega)) (fun k hk => ?_) ?_
      · unfold b_rc_digest_50
        refine im (show ¬ (6 : Int32) ≤ nI k from nle (n := 6) (by omega) (by omega)) (bs (hK k).1 ?_)
        simp only [↓ob, IXr]
        rfl
      · unfold b_rc_digest_50
        exact ip (show (6 : Int32) ≤ nI 6 from by decide) rfl
  · unfold f_m_digest
    rw [t_0, t_8, rdV, rdV]
    refine bs rfl (bs rfl (bs (x := A sc) ?_ (bs (x := B 6) ?_ rfl)))
    · refine lp_n (fun k => (A k, nI k)) sc (lt_FU (by omega)) (fun k hk => ?_) ?_
      · unfold b_m_digest_29
        rw [t_2, rdV, h.iS.2.1]
        refine im (nle hk (by omega)) (bs (m_sD h hk _) ?_)
        simp only [↓ob, IXr]
        rfl
      · unfold b_m_digest_29
        rw [t_2, rdV, h.iS.2.1]
        exact ip (nle_s (by omega)) rfl
    · refine lp_n (fun k => (B k, nI k)) 6 (lt_FU (by omega)) (fun k hk => ?_) ?_
      · unfold b_m_digest_54
        refine im (show ¬ (6 : Int32) ≤ nI k from nle (n := 6) (by omega) (by omega)) (bs (hK k).2 ?_)
        simp only [↓ob, IXr]
        rfl
      · unfold b_m_digest_54
        exact ip (show (6 : Int32) ≤ nI 6 from by decide) rfl
end L71
