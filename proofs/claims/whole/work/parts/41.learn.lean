/-! two loops side by side -/
theorem lpT {C M : Me} {i : Nat} {bC bM : Int32 × Me → Option ((Int32 × Me) ⊕ Me)} (Rl : Nat → Nt → Vt → Prop) (n : Nat) (hn : n < 5000)
    (hs : ∀ k N v, k < n → Rl k N v → ∃ N' v', bC (nI k, sN C i N) = some (.inl (nI (k + 1), sN C i N')) ∧ bM (nI k, sV M v) = some (.inl (nI (k + 1), sV M v')) ∧ Rl (k + 1) N' v')
    (he : ∀ N v, Rl n N v → bC (nI n, sN C i N) = some (.inr (sN C i N)) ∧ bM (nI n, sV M v) = some (.inr (sV M v))) {N : Nt} {v : Vt} (h0 : Rl 0 N v) :
    ∃ N' v', lp FU bC (nI 0, sN C i N) = some (sN C i N') ∧ lp FU bM (nI 0, sV M v) = some (sV M v') ∧ Rl n N' v' := by
  have key : ∀ d k F N v, k + d = n → d < F → Rl k N v → ∃ N' v', lp F bC (nI k, sN C i N) = some (sN C i N') ∧ lp F bM (nI k, sV M v) = some (sV M v') ∧ Rl n N' v' := by
    intro d
    induction d with
    | zero =>
      intro k F N v h1 h2 h3
      obtain ⟨F, rfl⟩ : ∃ G, F = G + 1 := ⟨F - 1, by omega⟩
      obtain rfl : k = n := by omega
      obtain ⟨a1, a2⟩ := he N v h3
      exact ⟨N, v, lp_inr a1, lp_inr a2, h3⟩
    | succ d ih =>
      intro k F N v h1 h2 h3
      obtain ⟨F, rfl⟩ : ∃ G, F = G + 1 := ⟨F - 1, by omega⟩
      obtain ⟨N1, v1, a1, a2, a3⟩ := hs k N v (by omega) h3
      obtain ⟨N2, v2, b1, b2, b3⟩ := ih (k + 1) F N1 v1 (by omega) (by omega) a3
      exact ⟨N2, v2, by rw [lp_inl a1]; exact b1, by rw [lp_inl a2]; exact b2, b3⟩
  exact key n 0 FU N v (by omega) (lt_FU hn) h0
section L41
variable {N : Nt} {v : Vt} {sc cnt w s r : Nat} {x : Int32}
theorem RN.lt (h : RN N v sc cnt w) : sc ≤ 4 ∧ cnt ≤ 8 := ⟨h.1.2.2.2.2.2.2.2.1.1, h.1.2.2.2.2.2.2.1.1⟩
theorem RN.E (h : RN N v sc cnt w) : RE N v := h.1.1
theorem RN.L (h : RN N v sc cnt w) : RL N v sc cnt := h.1.2.1
theorem RN.T (h : RN N v sc cnt w) : RT N v sc := h.1.2.2.1
theorem RN.Q (h : RN N v sc cnt w) : RQ N v := h.1.2.2.2.1
theorem RN.K (h : RN N v sc cnt w) : RK N v := h.1.2.2.2.2.1
theorem RN.M (h : RN N v sc cnt w) : RM N v cnt := h.1.2.2.2.2.2.1
theorem RN.iR (h : RN N v sc cnt w) : IR v cnt := h.1.2.2.2.2.2.2.1
theorem RN.iS (h : RN N v sc cnt w) : IS v sc w := h.1.2.2.2.2.2.2.2.1
theorem RN.iL (h : RN N v sc cnt w) : IL v w := h.1.2.2.2.2.2.2.2.2.1
theorem RN.iT (h : RN N v sc cnt w) : IT v := h.1.2.2.2.2.2.2.2.2.2.1
theorem RN.iC (h : RN N v sc cnt w) : IC v sc cnt := h.1.2.2.2.2.2.2.2.2.2.2
theorem RN.lk (h : RN N v sc cnt w) (hs : s < sc) : LK N v s cnt := h.L.lk hs h.lt.1 h.lt.2
/-- an estimate is set -/
theorem RN_21 (h : RN N v sc cnt w) (hs : s < sc) (hr : r < cnt) (hx : wi 0 x 65536) : RN (uN N 21 s r x) (upd v (aP s r + 1) x) sc cnt w := by
  have hl := h.lt
  have hd : dm 21 s r = true := dP (by simp) (by omega) (by omega)
  have hne : ∀ f' s' r', (f' = 20 ∨ f' = 21 ∨ f' = 22 ∨ f' = 23 ∨ f' = 24 ∨ f' = 25 ∨ f' = 26 ∨ f' = 27) → s' < 4 → r' < 8 → ¬ (f' = 21 ∧ s' = s ∧ r' = r) → ad f' s' r' ≠ aP s r + 1 := fun f' s' r' a1 a2 a3 a4 e => a4 (by obtain ⟨q1, q2, q3⟩ := ad_inj (dP a1 a2 a3) hd e; exact ⟨q1, q2, q3⟩)
  have hxn : ¬ x < 0 := fun q => by rw [lt0] at q; omega
  refine ⟨⟨h.E.set hd, ?_, RT_s h.T hd (by omega), RQ_s h.Q hd (by omega), RK_s h.K hd (by omega), RM_s h.M hl.2 hd (by omega), IR_v h.iR hd (by omega), IS_v h.iS hd (by omega), ?_, IT_v h.iT hd (by omega), IC_v h.iC hd (by omega)⟩, fun t ht => RO_s (by omega) hl.2 (h.2 t ht) hd (by omega)⟩
  · intro s' r' h1 h2
    obtain ⟨b1, b2⟩ := h.L s' r' h1 h2
    have n20 := hne 20 s' r' (by simp) h1 h2 (by omega)
    have n27 := hne 27 s' r' (by simp) h1 h2 (by omega)
    have n22 : upd v (aP s r + 1) x (aP s' r' + 6) = v (aP s' r' + 6) := up_n (hne 22 s' r' (by simp) h1 h2 (by omega))
    by_cases e : s' = s ∧ r' = r
    · obtain ⟨rfl, rfl⟩ := e
      refine ⟨fun q => ?_, fun q => absurd ⟨hs, hr⟩ q⟩
      obtain ⟨c1, c2, c3, c4⟩ := b1 q
      rw [uN_f (by decide), uN_f (by decide), uN_s, n22, show upd v (aP s' r' + 1) x (aP s' r') = v (aP s' r') from up_n n20, show upd v (aP s' r' + 1) x (aP s' r' + 7) = v (aP s' r' + 7) from up_n n27, up_s]
      exact ⟨c1, c2, (if_neg hxn).symm, fun q => absurd q hxn⟩
    · have n21 := hne 21 s' r' (by simp) h1 h2 (by omega)
      rw [uN_f (by decide), uN_f (by decide), uN_n (by omega), n22, show upd v (aP s r + 1) x (aP s' r') = v (aP s' r') from up_n n20, show upd v (aP s r + 1) x (aP s' r' + 7) = v (aP s' r' + 7) from up_n n27, show upd v (aP s r + 1) x (aP s' r' + 1) = v (aP s' r' + 1) from up_n n21]
      exact ⟨b1, b2⟩
  · intro s' r' h1 h2
    have b := h.iL s' r' h1 h2
    rw [show upd v (aP s r + 1) x (aP s' r') = v (aP s' r') from up_n (hne 20 s' r' (by simp) h1 h2 (by omega)), show upd v (aP s r + 1) x (aP s' r' + 2) = v (aP s' r' + 2) from up_n (hne 23 s' r' (by simp) h1 h2 (by omega)), show upd v (aP s r + 1) x (aP s' r' + 3) = v (aP s' r' + 3) from up_n (hne 24 s' r' (by simp) h1 h2 (by omega)), show upd v (aP s r + 1) x (aP s' r' + 7) = v (aP s' r' + 7) from up_n (hne 27 s' r' (by simp) h1 h2 (by omega))]
    by_cases e : s' = s ∧ r' = r
    · obtain ⟨rfl, rfl⟩ := e
      rw [up_s]
      exact ⟨b.1, b.2.1, b.2.2.1, ⟨by omega, hx.2⟩, b.2.2.2.2⟩
    · rw [show upd v (aP s r + 1) x (aP s' r' + 1) = v (aP s' r' + 1) from up_n (hne 21 s' r' (by simp) h1 h2 (by omega))]
      exact b
/-- a tendency is set -/
theorem RN_22' (h : RN N v sc cnt w) (hs : s < sc) (hr : r < cnt) (hx : ¬ v (aP s r + 1) < 0 ∨ x = 0) : RN (uN N 22 s r x) (upd v (ad 22 s r) x) sc cnt w := by
  have hl := h.lt
  have hd : dm 22 s r = true := dP (by simp) (by omega) (by omega)
  refine ⟨⟨h.E.set hd, ?_, RT_s h.T hd (by omega), RQ_s h.Q hd (by omega), RK_s h.K hd (by omega), RM_s h.M hl.2 hd (by omega), IR_v h.iR hd (by omega), IS_v h.iS hd (by omega), IL_v h.iL hd (by omega), IT_v h.iT hd (by omega), IC_v h.iC hd (by omega)⟩, fun t ht => RO_s (by omega) hl.2 (h.2 t ht) hd (by omega)⟩
  intro s' r' h1 h2
  obtain ⟨b1, b2⟩ := h.L s' r' h1 h2
  have n20 : upd v (ad 22 s r) x (aP s' r') = v (aP s' r') := up_ad (k := aP s' r') hd (dP (f := 20) (by simp) h1 h2) (by decide) rfl
  have n21 : upd v (ad 22 s r) x (aP s' r' + 1) = v (aP s' r' + 1) := up_ad (k := aP s' r' + 1) hd (dP (f := 21) (by simp) h1 h2) (by decide) rfl
  have n27 : upd v (ad 22 s r) x (aP s' r' + 7) = v (aP s' r' + 7) := up_ad (k := aP s' r' + 7) hd (dP (f := 27) (by simp) h1 h2) (by decide) rfl
  rw [uN_f (by decide), uN_f (by decide), uN_f (by decide), n20, n21, n27]
  by_cases e : s' = s ∧ r' = r
  · obtain ⟨rfl, rfl⟩ := e
    rw [show upd v (ad 22 s' r') x (aP s' r' + 6) = x from up_s]
    refine ⟨fun q => ?_, fun q => absurd ⟨hs, hr⟩ q⟩
    obtain ⟨c1, c2, c3, c4⟩ := b1 q
    exact ⟨c1, c2, c3, fun z => hx.resolve_left (fun z2 => z2 z)⟩
  · have n22 : upd v (ad 22 s r) x (aP s' r' + 6) = v (aP s' r' + 6) := up_n (fun q => by
      obtain ⟨-, q2, q3⟩ := ad_inj (dP (f := 22) (by simp) h1 h2) hd q
      exact e ⟨q2, q3⟩)
    rw [n22]
    exact ⟨b1, b2⟩
theorem RN_22 (h : RN N v sc cnt w) (hs : s < sc) (hr : r < cnt) (hx : ¬ v (aP s r + 1) < 0 ∨ x = 0) : RN (uN N 22 s r x) (upd v (aP s r + 6) x) sc cnt w := RN_22' h hs hr hx
end L41
/-- what every update leaves as it was: which rates are allowed, which chains are open -/
def Ka (v0 v : Vt) : Prop := (∀ s r, s < 4 → r < 8 → v (aP s r) = v0 (aP s r)) ∧ ∀ c, c < 6 → v (aO c) = v0 (aO c)
theorem Ka.rf (v : Vt) : Ka v v := ⟨fun _ _ _ _ => rfl, fun _ _ => rfl⟩
theorem Ka.tr {v0 v1 v2 : Vt} (h : Ka v0 v1) (h2 : Ka v1 v2) : Ka v0 v2 := ⟨fun s r a b => (h2.1 s r a b).trans (h.1 s r a b), fun c a => (h2.2 c a).trans (h.2 c a)⟩
theorem Ka.up {v0 v : Vt} {f s' r' : Nat} {x : Int32} (h : Ka v0 v) (hd : dm f s' r' = true) (hf : f ≠ 20 ∧ f ≠ 50) : Ka v0 (upd v (ad f s' r') x) := by
  refine ⟨fun s r a b => ?_, fun c a => ?_⟩
  · rw [up_ad (k := aP s r) hd (dP (f := 20) (by simp) a b) hf.1.symm rfl]
    exact h.1 s r a b
  · rw [up_ad (k := aO c) hd (dO (f := 50) (by simp) a) hf.2.symm rfl]
    exact h.2 c a
/-- what an update leaves as it was: the tries, first, the time -/
def Kp (v0 v : Vt) (s : Nat) : Prop := (∀ q, q < 8 → v (aP s q + 2) = v0 (aP s q + 2)) ∧ v (aS s + 18) = v0 (aS s + 18) ∧ v 0 = v0 0 ∧ Ka v0 v
theorem Kp.up {v0 v : Vt} {s f s' r' : Nat} {x : Int32} (h : Kp v0 v s) (hs : s < 4) (hd : dm f s' r' = true) (hf : f ≠ 23 ∧ f ≠ 41 ∧ f ≠ 1 ∧ f ≠ 20 ∧ f ≠ 50) : Kp v0 (upd v (ad f s' r') x) s := by
  refine ⟨fun q hq => ?_, ?_, ?_, h.2.2.2.up hd hf.2.2.2⟩
  · rw [up_ad (k := aP s q + 2) hd (dP (f := 23) (by simp) hs hq) hf.1.symm rfl]
    exact h.1 q hq
  · rw [up_ad (k := aS s + 18) hd (d41 hs (show 0 < 4 by decide)) hf.2.1.symm rfl]
    exact h.2.1
  · rw [up_ad (k := 0) hd (show dm 1 0 0 = true from rfl) hf.2.2.1.symm rfl]
    exact h.2.2.1
theorem Kp.log {v0 v : Vt} {s : Nat} {k a r : Int32} (h : Kp v0 v s) (hs : s < 4) : Kp v0 (lgV v k a r) s := by
  have hp : tN (v 8) % 20 < 20 := Nat.mod_lt _ (by decide)
  unfold lgV
  generalize tN (v 8) % 20 = P at hp
  have h1 := h.up (x := k) hs (d61 (f := 0) (by decide) hp) (by decide)
  have h2 := h1.up (x := a) hs (d61 (f := 1) (by decide) hp) (by decide)
  have h3 := h2.up (x := r) hs (d61 (f := 2) (by decide) hp) (by decide)
  have h4 := h3.up (x := v 0) hs (d61 (f := 3) (by decide) hp) (by decide)
  exact h4.up (x := v 8 + 1) hs (show dm 60 0 0 = true from rfl) (by decide)
theorem Kp.rf (v : Vt) (s : Nat) : Kp v v s := ⟨fun _ _ => rfl, rfl, rfl, Ka.rf v⟩
/-- the estimates and tendencies of a collapse -/
theorem s_coll {C M : Me} {i : Nat} {N : Nt} {v : Vt} {sc cnt w s : Nat} (h : RN N v sc cnt w) (hs : s < sc) : ∃ N' v', f_st_collapse (sN C i N) i s i = some (sN C i N') ∧ lp FU (b_m_collapse_2 (nI s)) (0, sV M v) = some (sV M v') ∧ RN N' v' sc cnt w ∧ Kp v v' s := by
  have hl := h.lt
  have key := lpT (C := C) (M := M) (i := i) (bC := b_st_collapse_2 i s i) (bM := b_m_collapse_2 (nI s)) (fun _ N' v' => RN N' v' sc cnt w ∧ Kp v v' s) cnt (by omega) (fun k N v1 hk hR => ?_) (fun N v1 hR => ?_) (N := N) (v := v) ⟨h, Kp.rf v s⟩
  · obtain ⟨N', v', a1, a2, a3, a4⟩ := key
    refine ⟨N', v', ?_, a2, a3, a4⟩
    unfold f_st_collapse
    exact bs a1 rfl
  · obtain ⟨h, hKp⟩ := hR
    have hp := aP_lt (show s < 4 by omega) (show k < 8 by omega)
    have t0 := tr_pos h.iL (show s < 4 by omega) (show k < 8 by omega)
    have hc : (sN C i N).1 10 i 0 0 = nI cnt := by rw [rdN (by decide), h.E 10 0 0 rfl rfl]; exact h.iR.2.1
    have e23 : N.1 23 s k = v1 (aP s k + 2) := h.E 23 s k rfl (dP (by simp) (by omega) (by omega))
    have he := (h.lk hs k hk).2.2
    have h2' := esC_9 (h.iL s k (by omega) (by omega)).2.2.2.1.1
    have hd21 : dm 21 s k = true := dP (by simp) (by omega) (by omega)
    have hd22 : dm 22 s k = true := dP (by simp) (by omega) (by omega)
    unfold b_st_collapse_2 b_m_collapse_2 f_m_pair
    have g1 : ¬ nI cnt ≤ nI k := fun q => by rw [nI_le' (by omega) (by omega)] at q; omega
    show ∃ N' v', (if (sN C i N).1 10 i 0 0 ≤ nI k then _ else _) = _ ∧ (if (sV M v1).1 100 0 0 (tN 1) ≤ nI k then _ else _) = _ ∧ _
    rw [hc, t_1, rdV, h.iR.2.1, if_neg g1, if_neg g1, if_pos (gin_nI (by omega) (by omega)), tN_nI (by omega), rdN (by decide), e23]
    simp (disch := omega) only [↓ob, ↓reduceIte, IXl, IXm, IXr, l_add, gin_t, tN_nI, rdV]
    by_cases c1 : v1 (aP s k + 2) ≤ 0
    · rw [if_pos c1, c_isE h.iL (by omega) (by omega) he]
      by_cases c2 : v1 (aP s k + 1) < 0
      · refine ⟨N, v1, ?_, ?_, h, hKp⟩
        · rw [if_pos c2, ob, if_pos rfl]
        · refine ip c1 ?_
          exact ip c2 rfl
      · have hk1 := (h.iL.k (show s < 4 by omega) (show k < 8 by omega)).1
        have e2 : v1 (aP s k + 1) / (2 : Int32) = nI (kN v1 s k / 2) := by
          rw [kN_pos c2, show (2 : Int32) = nI 2 from rfl, nI_dv (by omega) (by decide) (by decide)]
        refine ⟨uN N 21 s k (nI (kN v1 s k / 2)), upd v1 (aP s k + 1) (nI (kN v1 s k / 2)), ?_, ?_, RN_21 h hs hk (wi_n (by omega) ⟨by omega, by omega⟩), hKp.up (by omega) hd21 (by decide)⟩
        · rw [if_neg c2, ob, if_neg (by decide), rdN (by decide), he, h2'.2 c2, e2, wrN (by decide)]
        · refine ip c1 ?_
          refine im c2 ?_
          show some (Sum.inl (nI (k + 1), wI (sV M v1) 100 0 0 (aP s k + 1) (v1 (aP s k + 1) / 2))) = _
          rw [e2, wrV]
    · have t1 : 0 < trN' v1 s k := by
        by_cases z : 0 < trN' v1 s k
        · exact z
        · exact absurd (t0.mpr z) c1
      have hsb := saN_b h.iL (show s < 4 by omega) (show k < 8 by omega) t1
      rw [if_neg c1, c_samp h.E h.iL (by omega) (by omega) t1]
      refine ⟨uN (uN N 21 s k (nI (saN v1 s k))) 22 s k 0, upd (upd v1 (aP s k + 1) (nI (saN v1 s k))) (aP s k + 6) 0, ?_, ?_, ?_, ?_⟩
      · unfold f_lk_startFrom
        simp only [↓ob]
        rw [wrN (by decide), wrN (by decide)]
      · refine im c1 ?_
        refine bs (m_samp h.iL (by omega) (by omega) t1) ?_
        show some (Sum.inl (nI (k + 1), wI (wI (sV M v1) 100 0 0 (aP s k + 1) _) 100 0 0 (aP s k + 6) 0)) = _
        rw [wrV, wrV]
      · exact RN_22 (RN_21 h hs hk (wi_n (by omega) ⟨by omega, by omega⟩)) hs hk (Or.inr rfl)
      · exact (hKp.up (by omega) hd21 (by decide)).up (by omega) hd22 (by decide)
  · obtain ⟨h, hKp⟩ := hR
    have hc : (sN C i N).1 10 i 0 0 = nI cnt := by rw [rdN (by decide), h.E 10 0 0 rfl rfl]; exact h.iR.2.1
    have g1 : nI cnt ≤ nI cnt := (nI_le' (by omega) (by omega)).mpr (Nat.le_refl _)
    unfold b_st_collapse_2 b_m_collapse_2
    show (if (sN C i N).1 10 i 0 0 ≤ nI cnt then _ else _) = _ ∧ (if (sV M v1).1 100 0 0 (tN 1) ≤ nI cnt then _ else _) = _
    rw [hc, t_1, rdV, h.iR.2.1, if_pos g1, if_pos g1]
    exact ⟨rfl, rfl⟩
