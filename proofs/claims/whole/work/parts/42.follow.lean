/-! the flag of the fallback, learning -/
section L42
variable {N : Nt} {v : Vt} {sc cnt w s : Nat} {x : Int32}
theorem RN_it {f : Nat} (h : RN N v sc cnt w) (hs : s < 4) (hf : f = 37 ∨ f = 38) (hI : IT (upd v (ad f s 0) x)) : RN (uN N f s 0 x) (upd v (ad f s 0) x) sc cnt w := by
  have hl := h.lt
  have hd : dm f s 0 = true := dS (by omega) hs
  exact ⟨⟨h.E.set hd, RL_s h.L hd (by omega), RT_s h.T hd (by omega), RQ_s h.Q hd (by omega), RK_s h.K hd (by omega), RM_s h.M hl.2 hd (by omega), IR_v h.iR hd (by omega), IS_v h.iS hd (by omega), IL_v h.iL hd (by omega), hI, IC_v h.iC hd (by omega)⟩, fun t ht => RO_s (by omega) hl.2 (h.2 t ht) hd (by omega)⟩
theorem RN_37 (h : RN N v sc cnt w) (hs : s < 4) (hx : x = 0 ∨ x = 1) : RN (uN N 37 s 0 x) (upd v (aS s + 5) x) sc cnt w := by
  have hd : dm 37 s 0 = true := dS (by simp) hs
  refine RN_it h hs (Or.inl rfl) ?_
  intro s' h1
  obtain ⟨a1, a2, a3, a4⟩ := h.iT s' h1
  rw [up_ad (k := aS s' + 6) hd (dS (f := 31) (by simp) h1) (by decide) rfl, up_ad (k := aS s' + 15) hd (dS (f := 38) (by simp) h1) (by decide) rfl]
  refine ⟨?_, a2, a3, fun k hk q => ?_⟩
  · by_cases e : s' = s
    · subst e
      rw [show upd v (ad 37 s' 0) x (aS s' + 5) = x from up_s]
      exact hx
    · rw [show upd v (ad 37 s 0) x (aS s' + 5) = v (aS s' + 5) from up_n (fun q => e (ad_inj (dS (f := 37) (by simp) h1) hd q).2.1)]
      exact a1
  · rw [up_ad (k := aS s' + 7 + k) hd (d43 h1 hk) (by decide) rfl]
    exact a4 k hk q
/-- a fallback ends, a fallback begins -/
def efV (v : Vt) (s : Nat) : Vt := if v (aS s + 5) = 1 then lgV (upd v (aS s + 5) 0) 4 (nI s) (-9) else v
def efN (N : Nt) (v : Vt) (s : Nat) : Nt := if v (aS s + 5) = 1 then lgN (uN N 37 s 0 0) (tN (v 8) % 20) 4 (nI s) (-9) (v 0) (v 8 + 1) else N
def bfV (v : Vt) (s : Nat) : Vt := if v (aS s + 5) = 0 then lgV (upd v (aS s + 5) 1) 3 (nI s) (-9) else v
def bfN (N : Nt) (v : Vt) (s : Nat) : Nt := if v (aS s + 5) = 0 then lgN (uN N 37 s 0 1) (tN (v 8) % 20) 3 (nI s) (-9) (v 0) (v 8 + 1) else N
theorem aS5 (hs : s < 4) (k : Nat) (hk : k < 30) : upd v (aS s + 5) x k = v k := up_n (by show k ≠ 290 + 32 * s + 5; omega)
theorem RN_ef (h : RN N v sc cnt w) (hs : s < 4) (hw : w < 1073741824) : RN (efN N v s) (efV v s) sc cnt (w + 1) := by
  unfold efN efV
  by_cases c : v (aS s + 5) = 1
  · rw [if_pos c, if_pos c]
    have q := RN_log (k := 4) (s := nI s) (r := -9) (RN_37 (x := 0) h hs (Or.inl rfl)) hw
    rw [aS5 hs 8 (by decide), aS5 hs 0 (by decide)] at q
    exact q
  · rw [if_neg c, if_neg c]
    exact RN_m h (by omega)
theorem RN_bf (h : RN N v sc cnt w) (hs : s < 4) (hw : w < 1073741824) : RN (bfN N v s) (bfV v s) sc cnt (w + 1) := by
  unfold bfN bfV
  by_cases c : v (aS s + 5) = 0
  · rw [if_pos c, if_pos c]
    have q := RN_log (k := 3) (s := nI s) (r := -9) (RN_37 (x := 1) h hs (Or.inr rfl)) hw
    rw [aS5 hs 8 (by decide), aS5 hs 0 (by decide)] at q
    exact q
  · rw [if_neg c, if_neg c]
    exact RN_m h (by omega)
theorem c_ef {C : Me} {i : Nat} (h : RN N v sc cnt w) (hs : s < 4) (hw : w < 1073741824) : f_nt_endFallback (sN C i N) i i s = some (sN C i (efN N v s)) := by
  have e37 : N.1 37 s 0 = v (aS s + 5) := h.E 37 s 0 rfl (dS (by simp) hs)
  have hz := (h.iT s hs).1
  unfold f_nt_endFallback efN
  rw [rdN (by decide), e37]
  by_cases c : v (aS s + 5) = 1
  · rw [if_neg (by rw [c]; decide), if_pos c]
    refine bs (x := sN C i (uN N 37 s 0 0)) (by rw [wrN (by decide)]) ?_
    have h2 := RN_37 (x := 0) h hs (Or.inl rfl)
    have q := c_log (C := C) (i := i) (k := 4) (s := nI s) (r := -9) h2 hw
    rw [aS5 hs 8 (by decide), aS5 hs 0 (by decide)] at q
    have e1 : (sN C i (uN N 37 s 0 0)).1 1 i 0 0 = v 0 := by rw [rdN (by decide), uN_f (by decide)]; exact h.E 1 0 0 rfl rfl
    rw [e1]
    exact bs q rfl
  · rw [if_pos (hz.resolve_right c), if_neg c]
theorem c_bf {C : Me} {i : Nat} (h : RN N v sc cnt w) (hs : s < 4) (hw : w < 1073741824) : f_nt_beginFallback (sN C i N) i i s = some (sN C i (bfN N v s)) := by
  have e37 : N.1 37 s 0 = v (aS s + 5) := h.E 37 s 0 rfl (dS (by simp) hs)
  unfold f_nt_beginFallback bfN
  rw [rdN (by decide), e37]
  by_cases c : v (aS s + 5) = 0
  · rw [if_pos c, if_pos c]
    refine bs (x := sN C i (uN N 37 s 0 1)) (by rw [wrN (by decide)]) ?_
    have h2 := RN_37 (x := 1) h hs (Or.inr rfl)
    have q := c_log (C := C) (i := i) (k := 3) (s := nI s) (r := -9) h2 hw
    rw [aS5 hs 8 (by decide), aS5 hs 0 (by decide)] at q
    have e1 : (sN C i (uN N 37 s 0 1)).1 1 i 0 0 = v 0 := by rw [rdN (by decide), uN_f (by decide)]; exact h.E 1 0 0 rfl rfl
    rw [e1]
    exact bs q rfl
  · rw [if_neg c, if_neg c]
theorem Kp_ef {v0 : Vt} {t : Nat} (h : Kp v0 v t) (ht : t < 4) (hs : s < 4) : Kp v0 (efV v s) t := by
  unfold efV
  split
  · exact (h.up (f := 37) (s' := s) (r' := 0) ht (dS (by simp) hs) (by decide)).log ht
  · exact h
theorem Kp_bf {v0 : Vt} {t : Nat} (h : Kp v0 v t) (ht : t < 4) (hs : s < 4) : Kp v0 (bfV v s) t := by
  unfold bfV
  split
  · exact (h.up (f := 37) (s' := s) (r' := 0) ht (dS (by simp) hs) (by decide)).log ht
  · exact h
end L42
/-- the weighted mean -/
def lwI (v : Vt) (s r : Nat) : Int32 := ((v (aP s r + 1) * ((100 : Int32) - v 4)) + (nI (saN v s r) * v 4)) / (100 : Int32)
theorem lw_b {v : Vt} {w s r : Nat} (h : IL v w) (hs : s < 4) (hr : r < 8) (ht : 0 < trN' v s r) (he : ¬ v (aP s r + 1) < 0) (hw : wi 1 (v 4) 100) : wi 0 (lwI v s r) 65536 := by
  have hk := (h.k hs hr).1
  have hsa := saN_b h hs hr ht
  have e4 : v 4 = nI (tN (v 4)) := nn_eq (by omega)
  have g4 := tN_int (x := v 4) (by omega)
  unfold lwI
  rw [kN_pos he, e4, show (100 : Int32) = nI 100 from rfl, nI_sb (by omega), l_mul, l_mul, l_add]
  generalize tN (v 4) = W at g4
  generalize kN v s r = a at hk
  generalize saN v s r = b at hsa
  have b1 : a * (100 - W) ≤ 65536 * (100 - W) := Nat.mul_le_mul_right _ hk
  have b2 : b * W ≤ 65536 * W := Nat.mul_le_mul_right _ hsa
  have b3 : 65536 * (100 - W) + 65536 * W = 6553600 := by omega
  rw [nI_dv (by omega) (by decide) (by decide)]
  refine wi_n (by omega) ⟨by omega, ?_⟩
  have : (a * (100 - W) + b * W) / 100 ≤ 65536 := Nat.div_le_of_le_mul (by omega)
  omega
/-- learning from one rate: the class's learn with its note, the reference's learn -/
theorem s_learn {C M : Me} {i : Nat} {N : Nt} {v : Vt} {sc cnt w s k : Nat} (h : RN N v sc cnt w) (hs : s < sc) (hk : k < cnt) (ht : 0 < trN' v s k) (hw : w < 1073741824) : ∃ x N1 N' v', f_lk_learn (sN C i N) i s k (v 4) = some (x, sN C i N1) ∧ (if x = 0 then some (sN C i N1) else f_lo_note (sN C i N1) i 1 (nI s) (nI k) (v 0)) = some (sN C i N') ∧ N1.1 1 0 0 = v 0 ∧ f_m_learn (sV M v) (nI s) (nI k) = some (sV M v') ∧ RN N' v' sc cnt (w + 1) ∧ ∀ v0 t, t < 4 → Kp v0 v t → Kp v0 v' t := by
  have hl := h.lt
  have hs4 : s < 4 := by omega
  have hk8 : k < 8 := by omega
  have hp := aP_lt hs4 hk8
  have he := (h.lk hs k hk).2.2
  have h2' := esC_9 (h.iL s k hs4 hk8).2.2.2.1.1
  have hd21 : dm 21 s k = true := dP (by simp) hs4 hk8
  have hd22 : dm 22 s k = true := dP (by simp) hs4 hk8
  have hsb := saN_b h.iL hs4 hk8 ht
  have e22 : N.1 22 s k = v (aP s k + 6) := h.E 22 s k rfl hd22
  have e1 : N.1 1 0 0 = v 0 := h.E 1 0 0 rfl rfl
  have kp : ∀ (f : Nat) (x : Int32) (v1 v0 : Vt) (t : Nat), (f = 21 ∨ f = 22) → t < 4 → Kp v0 v1 t → Kp v0 (upd v1 (ad f s k) x) t := fun f x v1 v0 t a1 a2 a3 => a3.up a2 (dP (by omega) hs4 hk8) (by omega)
  have cs := c_samp (C := C) (i := i) h.E h.iL hs4 hk8 ht
  have ms := m_samp (M := M) h.iL hs4 hk8 ht
  have ce := c_isE (C := C) (i := i) h.iL hs4 hk8 he
  have mc := m_chg (M := M) h.iL hs4 hk8 ht
  have W4 := h.iS.2.2.2.1
  have pre : f_m_learn (sV M v) (nI s) (nI k) = if 0 ≤ v (aP s k + 1) then (f_m_change (sV M v) (nI (aP s k))).bind fun r5 => if r5 = 0 then some (sV M (upd (upd v (aP s k + 1) (lwI v s k)) (aP s k + 6) r5)) else if r5 = v (aP s k + 6) then (f_m_log (sV M (upd (upd v (aP s k + 1) (nI (saN v s k))) (aP s k + 6) 0)) 1 (nI s) (nI k)).bind fun r => some r else some (sV M (upd (upd v (aP s k + 1) (lwI v s k)) (aP s k + 6) r5)) else some (sV M (upd v (aP s k + 1) (nI (saN v s k)))) := by
    unfold f_m_learn f_m_pair
    refine bs (x := nI (aP s k)) (by simp only [IXl, IXm, l_add]) ?_
    refine bs ms ?_
    simp (disch := omega) only [↓ob, ↓reduceIte, IXr, gin_t, tN_nI, rdV, wrV, IXt]
    rfl
  by_cases c2 : v (aP s k + 1) < 0
  · have c2' : ¬ 0 ≤ v (aP s k + 1) := fun q => by rw [lt0] at c2; have := le_int.mp q; rw [show ((0 : Int32)).toInt = 0 from rfl] at this; omega
    rw [if_neg c2'] at pre
    rw [if_pos c2] at ce
    have ht0 := ((h.L s k hs4 hk8).1 ⟨hs, hk⟩).2.2.2 c2
    refine ⟨0, uN (uN N 21 s k (nI (saN v s k))) 22 s k 0, uN (uN N 21 s k (nI (saN v s k))) 22 s k 0, upd v (aP s k + 1) (nI (saN v s k)), ?_, by rw [if_pos rfl], ?_, pre, ?_, fun v0 t a1 a2 => kp 21 _ _ _ _ (by omega) a1 a2⟩
    · unfold f_lk_learn
      refine bs cs (bs ce (ip rfl ?_))
      unfold f_lk_startFrom
      simp only [↓ob]
      rw [wrN (by decide), wrN (by decide)]
    · rw [uN_f (by decide), uN_f (by decide)]
      exact e1
    · have q1 := RN_21 h hs hk (x := nI (saN v s k)) (wi_n (by omega) ⟨by omega, by omega⟩)
      have q2 := RN_22 q1 hs hk (x := 0) (Or.inr rfl)
      have e : upd (upd v (aP s k + 1) (nI (saN v s k))) (aP s k + 6) 0 = upd v (aP s k + 1) (nI (saN v s k)) := by
        funext j
        by_cases hj : j = aP s k + 6
        · rw [hj, up_s, up_n (by omega), ht0]
        · rw [up_n hj]
      rw [e] at q2
      exact RN_m q2 (by omega)
  · have c2' : 0 ≤ v (aP s k + 1) := le_int.mpr (by rw [lt0] at c2; rw [show ((0 : Int32)).toInt = 0 from rfl]; omega)
    rw [if_pos c2', mc, ob] at pre
    rw [if_neg c2] at ce
    have ev : N.1 21 s k = v (aP s k + 1) := he.trans (h2'.2 c2)
    have cc := c_chg (C := C) (i := i) (s := s) (r := k) ev
    have lb := lw_b h.iL hs4 hk8 ht c2 W4
    have cl : f_lk_learn (sN C i N) i s k (v 4) = if chI v s k = 0 then some (0, sN C i (uN (uN N 21 s k (lwI v s k)) 22 s k (chI v s k))) else if chI v s k = v (aP s k + 6) then some (1, sN C i (uN (uN N 21 s k (nI (saN v s k))) 22 s k 0)) else some (0, sN C i (uN (uN N 21 s k (lwI v s k)) 22 s k (chI v s k))) := by
      unfold f_lk_learn
      refine bs cs (bs ce (im (by decide) (bs cc ?_)))
      unfold f_lk_startFrom
      simp only [↓ob]
      rw [rdN (by decide), rdN (by decide), ev, e22]
      simp only [wrN (show 21 < 70 by decide), wrN (show 22 < 70 by decide)]
      rfl
    have mean : RN (uN (uN N 21 s k (lwI v s k)) 22 s k (chI v s k)) (upd (upd v (aP s k + 1) (lwI v s k)) (aP s k + 6) (chI v s k)) sc cnt (w + 1) := by
      refine RN_m (RN_22 (RN_21 h hs hk lb) hs hk (Or.inl ?_)) (by omega)
      rw [up_s, lt0]
      omega
    have stay : f_lk_learn (sN C i N) i s k (v 4) = some (0, sN C i (uN (uN N 21 s k (lwI v s k)) 22 s k (chI v s k))) → f_m_learn (sV M v) (nI s) (nI k) = some (sV M (upd (upd v (aP s k + 1) (lwI v s k)) (aP s k + 6) (chI v s k))) → ∃ x N1 N' v', f_lk_learn (sN C i N) i s k (v 4) = some (x, sN C i N1) ∧ (if x = 0 then some (sN C i N1) else f_lo_note (sN C i N1) i 1 (nI s) (nI k) (v 0)) = some (sN C i N') ∧ N1.1 1 0 0 = v 0 ∧ f_m_learn (sV M v) (nI s) (nI k) = some (sV M v') ∧ RN N' v' sc cnt (w + 1) ∧ ∀ v0 t, t < 4 → Kp v0 v t → Kp v0 v' t := fun q1 q2 =>
      ⟨0, _, _, _, q1, by rw [if_pos rfl], by rw [uN_f (by decide), uN_f (by decide)]; exact e1, q2, mean, fun v0 t a1 a2 => kp 22 _ _ _ _ (by omega) a1 (kp 21 _ _ _ _ (by omega) a1 a2)⟩
    by_cases c3 : chI v s k = 0
    · rw [if_pos c3] at pre cl
      exact stay cl pre
    · rw [if_neg c3] at pre cl
      by_cases c4 : chI v s k = v (aP s k + 6)
      · rw [if_pos c4] at pre cl
        have q1 := RN_21 h hs hk (x := nI (saN v s k)) (wi_n (by omega) ⟨by omega, by omega⟩)
        have q2 := RN_22 q1 hs hk (x := 0) (Or.inr rfl)
        have e8 : upd (upd v (aP s k + 1) (nI (saN v s k))) (aP s k + 6) 0 8 = v 8 := by rw [up_n (by show 8 ≠ 30 + 8 * (8 * s + k) + 6; omega), up_n (by show 8 ≠ 30 + 8 * (8 * s + k) + 1; omega)]
        have e0 : upd (upd v (aP s k + 1) (nI (saN v s k))) (aP s k + 6) 0 0 = v 0 := by rw [up_n (by omega), up_n (by omega)]
        have q3 := RN_log (k := 1) (s := nI s) (r := nI k) q2 hw
        have q4 := c_log (C := C) (i := i) (k := 1) (s := nI s) (r := nI k) q2 hw
        rw [e0] at q3 q4
        have hg := q2.iS.2.2.2.2.2.2.2.2.2.1
        have m := m_log (M := M) (k := 1) (s := nI s) (r := nI k) hg
        rw [m] at pre
        exact ⟨1, _, _, _, cl, by rw [if_neg (by decide)]; exact q4, by rw [uN_f (by decide), uN_f (by decide)]; exact e1, pre, q3, fun v0 t a1 a2 => (kp 22 _ _ _ _ (by omega) a1 (kp 21 _ _ _ _ (by omega) a1 a2)).log a1⟩
      · rw [if_neg c4] at pre cl
        exact stay cl pre
