theorem lpG {σ τ ρ π : Type} {bC : σ → Option (σ ⊕ ρ)} {bM : τ → Option (τ ⊕ π)} (Rl : Nat → σ → τ → Prop) (Z : ρ → π → Prop) (n : Nat) (hn : n < 5000)
    (hs : ∀ k x y, k < n → Rl k x y → ∃ x' y', bC x = some (.inl x') ∧ bM y = some (.inl y') ∧ Rl (k + 1) x' y')
    (he : ∀ x y, Rl n x y → ∃ p q, bC x = some (.inr p) ∧ bM y = some (.inr q) ∧ Z p q) {x : σ} {y : τ} (h0 : Rl 0 x y) :
    ∃ p q, lp FU bC x = some p ∧ lp FU bM y = some q ∧ Z p q := by
  have key : ∀ d k F x y, k + d = n → d < F → Rl k x y → ∃ p q, lp F bC x = some p ∧ lp F bM y = some q ∧ Z p q := by
    intro d
    induction d with
    | zero =>
      intro k F x y h1 h2 h3
      obtain ⟨F, rfl⟩ : ∃ G, F = G + 1 := ⟨F - 1, by omega⟩
      obtain rfl : k = n := by omega
      obtain ⟨p, q, a1, a2, a3⟩ := he x y h3
      exact ⟨p, q, lp_inr a1, lp_inr a2, a3⟩
    | succ d ih =>
      intro k F x y h1 h2 h3
      obtain ⟨F, rfl⟩ : ∃ G, F = G + 1 := ⟨F - 1, by omega⟩
      obtain ⟨x1, y1, a1, a2, a3⟩ := hs k x y (by omega) h3
      obtain ⟨p, q, b1, b2, b3⟩ := ih (k + 1) F x1 y1 (by omega) (by omega) a3
      exact ⟨p, q, by rw [lp_inl a1]; exact b1, by rw [lp_inl a2]; exact b2, b3⟩
  exact key n 0 FU x y (by omega) (lt_FU hn) h0
theorem c_cnt {C : Me} {i : Nat} {N : Nt} {v : Vt} {sc cnt w : Nat} (h : RN N v sc cnt w) : (sN C i N).1 10 i 0 0 = nI cnt := by rw [rdN (by decide), h.E 10 0 0 rfl rfl]; exact h.iR.2.1
theorem nle {k n : Nat} (h : k < n) (hn : n < 2147483648) : ¬ nI n ≤ nI k := fun q => by rw [nI_le' (by omega) (by omega)] at q; omega
theorem nle_s {n : Nat} (hn : n < 2147483648) : nI n ≤ nI n := (nI_le' hn hn).mpr (Nat.le_refl _)
/-- an update that is no collapse, up to the end of the fallback -/
theorem s_follow {C M : Me} {i : Nat} {N : Nt} {v : Vt} {sc cnt w s : Nat} (h : RN N v sc cnt w) (hs : s < sc) (hw : w < 1073000000) : ∃ N1 N' v', f_nt_learnAll (sN C i N) i i s = some (sN C i N1) ∧ f_nt_endFallback (sN C i N1) i i s = some (sN C i N') ∧ f_m_follow (sV M v) (nI s) = some (sV M v') ∧ RN N' v' sc cnt (w + 9) ∧ Kp v v' s := by
  have hl := h.lt
  have hs4 : s < 4 := by omega
  have key := lpT (C := C) (M := M) (i := i) (bC := b_nt_learnAll_2 i i s) (bM := b_m_follow_2 (nI s)) (fun k N' v' => RN N' v' sc cnt (w + k) ∧ Kp v v' s) cnt (by omega) (fun k N v1 hk hR => ?_) (fun N v1 hR => ?_) (N := N) (v := v) ⟨h, Kp.rf v s⟩
  · obtain ⟨N1, v1, a1, a2, a3, a4⟩ := key
    refine ⟨N1, efN N1 v1 s, efV v1 s, ?_, c_ef a3 hs4 (by omega), ?_, RN_m (RN_ef a3 hs4 (by omega)) (by omega), Kp_ef a4 hs4 hs4⟩
    · unfold f_nt_learnAll
      exact bs a1 rfl
    · unfold f_m_follow f_m_side
      refine bs a2 ?_
      have hb : aS s + 5 < 600 := by show 290 + 32 * s + 5 < 600; omega
      simp (disch := omega) only [↓ob, ↓reduceIte, IXl, IXm, IXr, gin_t, tN_nI, rdV, wrV, IXt]
      unfold efV
      by_cases c : v1 (aS s + 5) = 1
      · refine ip c ?_
        rw [if_pos c]
        have q := RN_37 (x := 0) a3 hs4 (Or.inl rfl)
        exact bs (m_log q.iS.2.2.2.2.2.2.2.2.2.1) rfl
      · refine im c ?_
        rw [if_neg c]
  · obtain ⟨h, hKp⟩ := hR
    have t0 := tr_pos h.iL hs4 (show k < 8 by omega)
    have hp := aP_lt hs4 (show k < 8 by omega)
    have e23 : N.1 23 s k = v1 (aP s k + 2) := h.E 23 s k rfl (dP (by simp) hs4 (by omega))
    unfold b_nt_learnAll_2 b_m_follow_2 f_m_pair
    show ∃ N' v', (if (sN C i N).1 10 i 0 0 ≤ nI k then _ else _) = _ ∧ (if (sV M v1).1 100 0 0 (tN 1) ≤ nI k then _ else _) = _ ∧ _
    rw [c_cnt h, t_1, rdV, h.iR.2.1, if_neg (nle hk (by omega)), if_neg (nle hk (by omega)), if_pos (gin_nI (by omega) (by omega)), tN_nI (by omega), rdN (by decide), e23]
    simp (disch := omega) only [↓ob, ↓reduceIte, IXl, IXm, IXr, l_add, gin_t, tN_nI, rdV]
    by_cases c1 : v1 (aP s k + 2) ≤ 0
    · refine ⟨N, v1, ?_, ip c1 rfl, RN_m h (by omega), hKp⟩
      rw [if_pos c1]
    · have t1 : 0 < trN' v1 s k := by
        by_cases z : 0 < trN' v1 s k
        · exact z
        · exact absurd (t0.mpr z) c1
      obtain ⟨x, N1, N', v', a1, a2, a3, a4, a5, a6⟩ := s_learn (C := C) (M := M) (i := i) h hs hk t1 (by omega)
      refine ⟨N', v', ?_, im c1 (bs a4 rfl), a5, a6 _ _ hs4 hKp⟩
      rw [if_neg c1]
      have e3 : (sN C i N).1 3 i 0 0 = v1 4 := by rw [rdN (by decide)]; exact h.E 3 0 0 rfl rfl
      rw [e3]
      refine bs a1 ?_
      by_cases c2 : x = 0
      · rw [if_pos c2] at a2
        refine ip c2 ?_
        rw [Option.some.inj a2]
      · rw [if_neg c2] at a2
        refine im c2 ?_
        show (f_lo_note (sN C i N1) i 1 (nI s) (nI k) ((sN C i N1).1 1 i 0 0)).bind _ = _
        rw [rdN (by decide), a3]
        exact bs a2 rfl
  · obtain ⟨h, hKp⟩ := hR
    unfold b_nt_learnAll_2 b_m_follow_2
    show (if (sN C i N).1 10 i 0 0 ≤ nI cnt then _ else _) = _ ∧ (if (sV M v1).1 100 0 0 (tN 1) ≤ nI cnt then _ else _) = _
    rw [c_cnt h, t_1, rdV, h.iR.2.1, if_pos (nle_s (by omega)), if_pos (nle_s (by omega))]
    exact ⟨rfl, rfl⟩
/-- tries and successes of a rate in the interval are set -/
theorem RN_t2 {N : Nt} {v : Vt} {sc cnt w w' s r : Nat} {x y : Int32} (h : RN N v sc cnt w) (hs : s < 4) (hr : r < 8) (hw : w ≤ w') (hx : wi 0 x w') (hy : 0 ≤ y.toInt) (hxy : y.toInt ≤ x.toInt) : RN (uN (uN N 23 s r x) 24 s r y) (upd (upd v (ad 23 s r) x) (ad 24 s r) y) sc cnt w' := by
  have hl := h.lt
  have hd : dm 23 s r = true := dP (by simp) hs hr
  have hd2 : dm 24 s r = true := dP (by simp) hs hr
  refine ⟨⟨(h.E.set hd).set hd2, RL_s (RL_s h.L hd (by omega)) hd2 (by omega), RT_s (RT_s h.T hd (by omega)) hd2 (by omega), RQ_s (RQ_s h.Q hd (by omega)) hd2 (by omega), RK_s (RK_s h.K hd (by omega)) hd2 (by omega), RM_s (RM_s h.M hl.2 hd (by omega)) hl.2 hd2 (by omega), IR_v (IR_v h.iR hd (by omega)) hd2 (by omega), IS_m (IS_v (IS_v h.iS hd (by omega)) hd2 (by omega)) hw, ?_, IT_v (IT_v h.iT hd (by omega)) hd2 (by omega), IC_v (IC_v h.iC hd (by omega)) hd2 (by omega)⟩, fun t ht => RO_s (by omega) hl.2 (RO_s (by omega) hl.2 (h.2 t ht) hd (by omega)) hd2 (by omega)⟩
  intro s' r' h1 h2
  have b := h.iL s' r' h1 h2
  have k0 : ∀ f', (f' = 20 ∨ f' = 21 ∨ f' = 27) → ∀ k, ad f' s' r' = k → upd (upd v (ad 23 s r) x) (ad 24 s r) y k = v k := fun f' a k hk => by
    rw [up_ad (k := k) hd2 (dP (f := f') (by omega) h1 h2) (by omega) hk, up_ad (k := k) hd (dP (f := f') (by omega) h1 h2) (by omega) hk]
  rw [k0 20 (by simp) (aP s' r') rfl, k0 21 (by simp) (aP s' r' + 1) rfl, k0 27 (by simp) (aP s' r' + 7) rfl]
  by_cases e : s' = s ∧ r' = r
  · obtain ⟨rfl, rfl⟩ := e
    have e2 : upd (upd v (ad 23 s' r') x) (ad 24 s' r') y (aP s' r' + 2) = x := by
      rw [up_ad (k := aP s' r' + 2) hd2 (dP (f := 23) (by simp) h1 h2) (by decide) rfl]
      exact up_s
    have e3 : upd (upd v (ad 23 s' r') x) (ad 24 s' r') y (aP s' r' + 3) = y := up_s
    rw [e2, e3]
    exact ⟨hx, hy, hxy, b.2.2.2⟩
  · have ne : ∀ f', (f' = 23 ∨ f' = 24) → ∀ k, ad f' s' r' = k → upd (upd v (ad 23 s r) x) (ad 24 s r) y k = v k := fun f' a k hk => by
      subst hk
      rw [up_n (fun q => e (ad_inj (dP (f := f') (by omega) h1 h2) hd2 q).2), up_n (fun q => e (ad_inj (dP (f := f') (by omega) h1 h2) hd q).2)]
    rw [ne 23 (by simp) (aP s' r' + 2) rfl, ne 24 (by simp) (aP s' r' + 3) rfl]
    exact ⟨⟨b.1.1, by have := b.1.2; omega⟩, b.2⟩
/-- the end of an interval -/
theorem RN_end {N : Nt} {v : Vt} {sc cnt w s : Nat} {L : Int64} {e : Int32} (h : RN N v sc cnt w) (hs : s < 4) (he : relEnd L e) : RN (uL N 39 s 0 L) (upd v (ad 39 s 0) e) sc cnt w := by
  have hl := h.lt
  have hd : dm 39 s 0 = true := dS (by simp) hs
  refine ⟨⟨h.E.setv hd rfl, RL_v h.L hd (by omega), ?_, RQ_v h.Q hd (by omega), RK_v h.K hd (by omega), RM_v h.M hl.2 hd (by omega), IR_v h.iR hd (by omega), IS_v h.iS hd (by omega), IL_v h.iL hd (by omega), IT_v h.iT hd (by omega), IC_v h.iC hd (by omega)⟩, fun t ht => RO_v (by omega) hl.2 (h.2 t ht) hd (by omega)⟩
  intro s' h1
  obtain ⟨a, b⟩ := h.T s' h1
  refine ⟨fun q => ?_, b⟩
  obtain ⟨a1, a2, a3⟩ := a q
  rw [up_ad (k := aS s' + 17) hd (dS (f := 40) (by simp) h1) (by decide) rfl]
  refine ⟨a1, fun k hk => ?_, ?_⟩
  · rw [up_ad (k := aS s' + 22 + k) hd (d42 h1 hk) (by decide) rfl]
    exact a2 k hk
  · by_cases q2 : s' = s
    · subst q2
      rw [show upd v (ad 39 s' 0) e (aS s' + 16) = e from up_s, show (uL N 39 s' 0 L).2 39 s' 0 = L from if_pos ⟨rfl, rfl, rfl⟩]
      exact he
    · rw [show upd v (ad 39 s 0) e (aS s' + 16) = v (aS s' + 16) from up_n (fun z => q2 (ad_inj (dS (f := 39) (by simp) h1) hd z).2.1), show (uL N 39 s 0 L).2 39 s' 0 = N.2 39 s' 0 from if_neg (fun z => q2 z.2.1)]
      exact a3
def enV (v : Vt) : Int32 := if v 0 ≤ ((2147483647 : Int32) - v 5) then v 0 + v 5 else -9
def enL (v : Vt) : Int64 := (v 0).toInt64 + (v 5).toInt64
theorem rel_en {v : Vt} {sc w : Nat} (h : IS v sc w) : relEnd (enL v) (enV v) := by
  obtain ⟨-, -, -, -, h5, -, h0, -⟩ := h
  have e0 : v 0 = nI (tN (v 0)) := nn_eq h0
  have e5 : v 5 = nI (tN (v 5)) := nn_eq (by omega)
  have g0 := tN_int h0
  have g5 := tN_int (x := v 5) (by omega)
  have b0 := Int32.toInt_lt (v 0)
  unfold enL enV relEnd
  rw [e0, e5]
  generalize tN (v 0) = a at g0
  generalize tN (v 5) = b at g5
  rw [show (2147483647 : Int32) = nI 2147483647 from rfl, nI_sb (by omega), l_add, nI_l (show a < 2 ^ 31 by omega), nI_l (show b < 2 ^ 31 by omega), lN_add, l_int (by omega)]
  by_cases c : a ≤ 2147483647 - b
  · rw [if_pos ((nI_le' (by omega) (by omega)).mpr c), nI_i (by omega)]
    right
    omega
  · rw [if_neg (fun q => c ((nI_le' (by omega) (by omega)).mp q))]
    left
    exact ⟨rfl, by omega⟩
theorem m_end {M : Me} {v : Vt} : f_m_endFromNow (sV M v) = some (enV v) := by
  unfold f_m_endFromNow enV
  rw [t_0, t_5, rdV, rdV]
  split <;> rfl
theorem c_end {C : Me} {i : Nat} {N : Nt} {v : Vt} (hE : RE N v) : f_nt_endOfNewInterval (sN C i N) i = some (enL v) := by
  unfold f_nt_endOfNewInterval enL
  rw [rdN (by decide), rdN (by decide), hE 1 0 0 rfl rfl, hE 4 0 0 rfl rfl]
  rfl
/-- rates with tries -/
noncomputable def tcN (v : Vt) (s : Nat) : Nat → Nat := cN (fun r => 0 < trN' v s r)
theorem c_rt {C : Me} {i : Nat} {N : Nt} {v : Vt} {sc cnt w s : Nat} (h : RN N v sc cnt w) (hs : s < 4) : f_st_ratesTried (sN C i N) i s i = some (nI (tcN v s cnt)) := by
  have hl := h.lt
  unfold f_st_ratesTried
  have key : lp FU (b_st_ratesTried_4 (sN C i N) i s i) ((0 : Int32), (0 : Int32)) = some (nI (tcN v s cnt)) := by
    refine lp_n (fun k => (nI (tcN v s k), nI k)) cnt (lt_FU (by omega)) (fun k hk => ?_) ?_
    · have t0 := tr_pos h.iL hs (show k < 8 by omega)
      have e23 : (sN C i N).1 23 i s k = v (aP s k + 2) := by rw [rdN (by decide)]; exact h.E 23 s k rfl (dP (by simp) hs (by omega))
      unfold b_st_ratesTried_4
      show (if (sN C i N).1 10 i 0 0 ≤ nI k then _ else _) = some (Sum.inl (nI (tcN v s (k + 1)), nI (k + 1)))
      rw [c_cnt h, if_neg (nle hk (by omega)), if_pos (gin_nI (by omega) (by omega)), tN_nI (by omega), e23]
      simp only [↓ob, IXr]
      by_cases c1 : v (aP s k + 2) ≤ 0
      · have e : tcN v s (k + 1) = tcN v s k := cN_f (t0.mp c1)
        rw [if_pos c1, e]
      · have e : tcN v s (k + 1) = tcN v s k + 1 := cN_t (Classical.byContradiction fun z => c1 (t0.mpr z))
        rw [if_neg c1, e]
    · unfold b_st_ratesTried_4
      show (if (sN C i N).1 10 i 0 0 ≤ nI cnt then _ else _) = _
      rw [c_cnt h, if_pos (nle_s (by omega))]
  exact bs key rfl
