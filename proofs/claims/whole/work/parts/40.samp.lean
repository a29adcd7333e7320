/-! samples, sudden changes, whether it is a collapse -/
def trN' (v : Vt) (s r : Nat) : Nat := tN (v (aP s r + 2))
def suN (v : Vt) (s r : Nat) : Nat := tN (v (aP s r + 3))
def saN (v : Vt) (s r : Nat) : Nat := suN v s r * 65536 / trN' v s r
theorem IL.t {v : Vt} {w s r : Nat} (h : IL v w) (hs : s < 4) (hr : r < 8) : v (aP s r + 2) = nI (trN' v s r) ∧ v (aP s r + 3) = nI (suN v s r) ∧ suN v s r ≤ trN' v s r ∧ trN' v s r ≤ w ∧ trN' v s r < 2147483648 := by
  obtain ⟨a1, a2, a3, -⟩ := h s r hs hr
  have e1 := tN_int a1.1
  have e2 := tN_int a2
  have b := Int32.toInt_lt (v (aP s r + 2))
  have g1 : ((trN' v s r : Nat) : Int) = (v (aP s r + 2)).toInt := e1
  have g2 : ((suN v s r : Nat) : Int) = (v (aP s r + 3)).toInt := e2
  exact ⟨nn_eq a1.1, nn_eq a2, by omega, by omega, by omega⟩
theorem saN_b {v : Vt} {w s r : Nat} (h : IL v w) (hs : s < 4) (hr : r < 8) (ht : 0 < trN' v s r) : saN v s r ≤ 65536 := by
  obtain ⟨-, -, a3, -, -⟩ := h.t hs hr
  unfold saN
  apply Nat.div_le_of_le_mul
  exact Nat.mul_le_mul_right _ a3
theorem sa_eq {v : Vt} {w s r : Nat} (h : IL v w) (hs : s < 4) (hr : r < 8) (ht : 0 < trN' v s r) : ((((v (aP s r + 3)).toInt64) * (65536 : Int64)) / ((v (aP s r + 2)).toInt64)).toInt32 = nI (saN v s r) := by
  obtain ⟨a1, a2, a3, -, a5⟩ := h.t hs hr
  rw [a1, a2, nI_l (show suN v s r < 2 ^ 31 by omega), nI_l (show trN' v s r < 2 ^ 31 by omega), show (65536 : Int64) = lN 65536 from rfl, lN_mul, pk_lDiv (by omega) ht (by omega), lN_i]
  rfl
theorem tl_ne0 {v : Vt} {w s r : Nat} (h : IL v w) (hs : s < 4) (hr : r < 8) (ht : 0 < trN' v s r) : ¬ (v (aP s r + 2)).toInt64 = 0 := by
  obtain ⟨a1, -, -, -, a5⟩ := h.t hs hr
  rw [a1, nI_l (show trN' v s r < 2 ^ 31 by omega)]
  intro e
  have q := congrArg Int64.toInt e
  rw [l_int (by omega), show ((0 : Int64)).toInt = 0 from by decide] at q
  omega
theorem m_samp {M : Me} {v : Vt} {w s r : Nat} (h : IL v w) (hs : s < 4) (hr : r < 8) (ht : 0 < trN' v s r) : f_m_sampleOf (sV M v) (nI (aP s r)) = some (nI (saN v s r)) := by
  have := aP_lt hs hr
  unfold f_m_sampleOf
  simp (disch := omega) only [↓reduceIte, IXr, gin_t, tN_nI, rdV]
  rw [if_pos (tl_ne0 h hs hr ht), sa_eq h hs hr ht]
theorem c_samp {C : Me} {i : Nat} {N : Nt} {v : Vt} {w s r : Nat} (hE : RE N v) (h : IL v w) (hs : s < 4) (hr : r < 8) (ht : 0 < trN' v s r) : f_lk_sample (sN C i N) i s r = some (nI (saN v s r)) := by
  obtain ⟨a1, -, -, -, a5⟩ := h.t hs hr
  unfold f_lk_sample
  have e1 : (sN C i N).1 23 i s r = v (aP s r + 2) := by rw [rdN (by decide)]; exact hE 23 s r rfl (dP (by simp) hs hr)
  have e2 : (sN C i N).1 24 i s r = v (aP s r + 3) := by rw [rdN (by decide)]; exact hE 24 s r rfl (dP (by simp) hs hr)
  rw [e1, e2, if_pos (by rw [a1]; exact (nI_le' (a := 1) (by omega) (by omega)).mpr ht), if_pos (tl_ne0 h hs hr ht), sa_eq h hs hr ht]
/-- a sudden change -/
def chI (v : Vt) (s r : Nat) : Int32 := if nI (saN v s r) - v (aP s r + 1) < 19661 then (if (-19661) < nI (saN v s r) - v (aP s r + 1) then 0 else -1) else 1
theorem m_chg {M : Me} {v : Vt} {w s r : Nat} (h : IL v w) (hs : s < 4) (hr : r < 8) (ht : 0 < trN' v s r) : f_m_change (sV M v) (nI (aP s r)) = some (chI v s r) := by
  have := aP_lt hs hr
  unfold f_m_change
  refine bs (m_samp h hs hr ht) ?_
  simp (disch := omega) only [↓ob, ↓reduceIte, IXr, gin_t, tN_nI, rdV]
  unfold chI
  split
  · split <;> rfl
  · rfl
theorem c_chg {C : Me} {i : Nat} {N : Nt} {v : Vt} {s r : Nat} (he : N.1 21 s r = v (aP s r + 1)) : f_lk_swing (sN C i N) i s r (nI (saN v s r)) = some (chI v s r) := by
  unfold f_lk_swing chI
  rw [rdN (by decide), he]
  split
  · split <;> rfl
  · rfl
theorem c_isE {C : Me} {i : Nat} {N : Nt} {v : Vt} {w s r : Nat} (h : IL v w) (hs : s < 4) (hr : r < 8) (he : N.1 21 s r = esC (v (aP s r + 1))) : f_lk_isEstimated (sN C i N) i s r = some (if v (aP s r + 1) < 0 then 0 else 1) := by
  have h2 := esC_9 (h s r hs hr).2.2.2.1.1
  unfold f_lk_isEstimated
  rw [rdN (by decide), he]
  by_cases c : v (aP s r + 1) < 0
  · rw [if_pos (h2.1.mpr c), if_pos c]
  · rw [if_neg (fun q => c (h2.1.mp q)), if_neg c]
/-- a rate that is judged -/
def jd (v : Vt) (s r : Nat) : Prop := 0 < trN' v s r ∧ ¬ v (aP s r + 1) < 0
noncomputable def cN (p : Nat → Prop) : Nat → Nat
  | 0 => 0
  | k + 1 => @ite _ (p k) (Classical.propDecidable _) (cN p k + 1) (cN p k)
theorem cN_t {p : Nat → Prop} {k : Nat} (h : p k) : cN p (k + 1) = cN p k + 1 := if_pos h
theorem cN_f {p : Nat → Prop} {k : Nat} (h : ¬ p k) : cN p (k + 1) = cN p k := if_neg h
theorem cN_b (p : Nat → Prop) : ∀ k, cN p k ≤ k
  | 0 => Nat.le_refl _
  | k + 1 => by
    have := cN_b p k
    by_cases h : p k
    · rw [cN_t h]; omega
    · rw [cN_f h]; omega
theorem cN_m {p q : Nat → Prop} (h : ∀ k, q k → p k) : ∀ d k, cN p k + cN q (k + d) ≤ cN p (k + d) + cN q k
  | 0, k => Nat.le_refl _
  | d + 1, k => by
    have ih := cN_m h d k
    rw [show k + (d + 1) = (k + d) + 1 by omega]
    by_cases c : p (k + d)
    · rw [cN_t c]
      by_cases c2 : q (k + d)
      · rw [cN_t c2]; omega
      · rw [cN_f c2]; omega
    · rw [cN_f c, cN_f (fun z => c (h _ z))]
      exact ih
noncomputable def mnN (v : Vt) (s : Nat) : Nat → Nat := cN (jd v s)
noncomputable def dnN (v : Vt) (s : Nat) : Nat → Nat := cN (fun r => jd v s r ∧ chI v s r = -1)
def clB (v : Vt) (s cnt : Nat) : Prop := 2 ≤ mnN v s cnt ∧ dnN v s cnt = mnN v s cnt
theorem tr_pos {v : Vt} {w s r : Nat} (h : IL v w) (hs : s < 4) (hr : r < 8) : v (aP s r + 2) ≤ 0 ↔ ¬ 0 < trN' v s r := by
  obtain ⟨a1, -, -, -, a5⟩ := h.t hs hr
  rw [a1, show (0 : Int32) = nI 0 from rfl, nI_le' a5 (by omega)]
  omega
theorem m_coll {M : Me} {v : Vt} {w cnt s : Nat} (h : IL v w) (hR : IR v cnt) (hs : s < 4) : ∃ x, f_m_collapses (sV M v) (nI s) = some x ∧ (x = 0 ↔ ¬ clB v s cnt) := by
  have h8 := hR.1
  unfold f_m_collapses
  have key : lp FU (b_m_collapses_7 (sV M v) (nI s)) ((0 : Int32), (0 : Int32), (0 : Int32)) = some (nI (mnN v s cnt), nI (dnN v s cnt)) := by
    refine lp_n (fun k => (nI (mnN v s k), nI (dnN v s k), nI k)) cnt (lt_FU (by omega)) (fun k hk => ?_) ?_
    · have hp := aP_lt hs (show k < 8 by omega)
      have t0 := tr_pos h hs (show k < 8 by omega)
      have b1 := cN_b (jd v s) k
      have b2 := cN_b (fun r => jd v s r ∧ chI v s r = -1) k
      unfold b_m_collapses_7 f_m_pair
      show (if (sV M v).1 100 0 0 (tN 1) ≤ nI k then _ else _) = some (Sum.inl (nI (mnN v s (k + 1)), nI (dnN v s (k + 1)), nI (k + 1)))
      rw [t_1, rdV, hR.2.1, if_neg (fun q => by rw [nI_le' (by omega) (by omega)] at q; omega)]
      simp (disch := omega) only [↓ob, ↓reduceIte, IXl, IXm, IXr, l_add, gin_t, tN_nI, rdV]
      by_cases c1 : v (aP s k + 2) ≤ 0
      · have n1 : ¬ jd v s k := fun q => t0.mp c1 q.1
        have e1 : mnN v s (k + 1) = mnN v s k := cN_f n1
        have e2 : dnN v s (k + 1) = dnN v s k := cN_f (fun q => n1 q.1)
        refine ip c1 ?_
        rw [e1, e2]
      · have t1 : 0 < trN' v s k := by
          by_cases z : 0 < trN' v s k
          · exact z
          · exact absurd (t0.mpr z) c1
        refine im c1 ?_
        by_cases c2 : v (aP s k + 1) < 0
        · have n1 : ¬ jd v s k := fun q => q.2 c2
          have e1 : mnN v s (k + 1) = mnN v s k := cN_f n1
          have e2 : dnN v s (k + 1) = dnN v s k := cN_f (fun q => n1 q.1)
          refine ip c2 ?_
          rw [e1, e2]
        · have y1 : jd v s k := ⟨t1, c2⟩
          have e1 : mnN v s (k + 1) = mnN v s k + 1 := cN_t y1
          refine im c2 ?_
          refine bs (m_chg h hs (by omega) t1) ?_
          by_cases c3 : chI v s k = -1
          · have e2 : dnN v s (k + 1) = dnN v s k + 1 := cN_t ⟨y1, c3⟩
            refine ip c3 ?_
            rw [e1, e2]
          · have e2 : dnN v s (k + 1) = dnN v s k := cN_f (fun q => c3 q.2)
            refine im c3 ?_
            rw [e1, e2]
            rfl
    · unfold b_m_collapses_7
      simp only [IXt, rdV, hR.2.1]
      rw [if_pos ((nI_le' (by omega) (by omega)).mpr (Nat.le_refl _))]
  refine (show ∃ x, _ ∧ _ from ?_)
  have b1 := cN_b (jd v s) cnt
  have b2 := cN_b (fun r => jd v s r ∧ chI v s r = -1) cnt
  have b1' : mnN v s cnt ≤ cnt := b1
  have b2' : dnN v s cnt ≤ cnt := b2
  rw [key]
  simp only [ob]
  unfold clB
  by_cases c1 : mnN v s cnt < 2
  · rw [if_pos (show nI (mnN v s cnt) < 2 from (nI_lt' (b := 2) (by omega) (by omega)).mpr c1)]
    exact ⟨0, rfl, fun _ q => by omega, fun _ => rfl⟩
  · rw [if_neg (show ¬ nI (mnN v s cnt) < 2 from fun q => c1 ((nI_lt' (b := 2) (by omega) (by omega)).mp q))]
    by_cases c2 : dnN v s cnt = mnN v s cnt
    · rw [if_pos (by rw [c2])]
      exact ⟨1, rfl, fun q => absurd q (by decide), fun q => absurd ⟨by omega, c2⟩ q⟩
    · rw [if_neg (fun q => c2 ((nI_j (by omega) (by omega)).mp q))]
      exact ⟨0, rfl, fun _ q => c2 q.2, fun _ => rfl⟩
theorem c_coll {C : Me} {i : Nat} {N : Nt} {v : Vt} {w cnt s : Nat} (hE : RE N v) (hK : LK N v s cnt) (h : IL v w) (hR : IR v cnt) (hs : s < 4) : ∃ x, f_st_isCollapse (sN C i N) i s i = some x ∧ (x = 0 ↔ ¬ clB v s cnt) := by
  have h8 := hR.1
  unfold f_st_isCollapse
  have hc : (sN C i N).1 10 i 0 0 = nI cnt := by rw [rdN (by decide), hE 10 0 0 rfl rfl]; exact hR.2.1
  have key : ∀ d k F, k + d = cnt → dnN v s k = mnN v s k → d < F → ∃ t x, lp F (b_st_isCollapse_4 (sN C i N) i s i) (nI (mnN v s k), nI k) = some t ∧ Sum.elim (fun e => if e < 2 then some 0 else some 1) (fun o => some o) t = some x ∧ (x = 0 ↔ ¬ clB v s cnt) := by
    intro d
    induction d with
    | zero =>
      intro k F h1 h2 h3
      obtain ⟨F, rfl⟩ : ∃ G, F = G + 1 := ⟨F - 1, by omega⟩
      obtain rfl : k = cnt := by omega
      have b1' : mnN v s k ≤ k := cN_b (jd v s) k
      have e : b_st_isCollapse_4 (sN C i N) i s i (nI (mnN v s k), nI k) = some (.inr (.inl (nI (mnN v s k)))) := by
        unfold b_st_isCollapse_4
        show (if (sN C i N).1 10 i 0 0 ≤ nI k then _ else _) = _
        rw [hc, if_pos ((nI_le' (by omega) (by omega)).mpr (Nat.le_refl _))]
      refine ⟨_, if mnN v s k < 2 then 0 else 1, lp_inr e, ?_, ?_⟩
      · show (if nI (mnN v s k) < 2 then some 0 else some 1) = _
        by_cases c1 : mnN v s k < 2
        · rw [if_pos (show nI (mnN v s k) < 2 from (nI_lt' (b := 2) (by omega) (by omega)).mpr c1), if_pos c1]
        · rw [if_neg (show ¬ nI (mnN v s k) < 2 from fun q => c1 ((nI_lt' (b := 2) (by omega) (by omega)).mp q)), if_neg c1]
      · unfold clB
        by_cases c1 : mnN v s k < 2
        · rw [if_pos c1]
          exact ⟨fun _ q => by omega, fun _ => rfl⟩
        · rw [if_neg c1]
          exact ⟨fun q => absurd q (by decide), fun q => absurd ⟨by omega, h2⟩ q⟩
    | succ d ih =>
      intro k F h1 h2 h3
      obtain ⟨F, rfl⟩ : ∃ G, F = G + 1 := ⟨F - 1, by omega⟩
      have t0 := tr_pos h hs (show k < 8 by omega)
      have hE23 : (sN C i N).1 23 i s k = v (aP s k + 2) := by rw [rdN (by decide)]; exact hE 23 s k rfl (dP (by simp) hs (by omega))
      have he := (hK k (by omega)).2.2
      have h2' := esC_9 (h s k hs (by omega)).2.2.2.1.1
      have go : ∀ x : Int32 × Int32, b_st_isCollapse_4 (sN C i N) i s i (nI (mnN v s k), nI k) = some (.inl x) → dnN v s (k + 1) = mnN v s (k + 1) → x = (nI (mnN v s (k + 1)), nI (k + 1)) → ∃ t x, lp (F + 1) (b_st_isCollapse_4 (sN C i N) i s i) (nI (mnN v s k), nI k) = some t ∧ Sum.elim (fun e => if e < 2 then some 0 else some 1) (fun o => some o) t = some x ∧ (x = 0 ↔ ¬ clB v s cnt) := by
        intro x hx h4 h5
        obtain ⟨t, y, y1, y2⟩ := ih (k + 1) F (by omega) h4 (by omega)
        exact ⟨t, y, by rw [lp_inl hx, h5]; exact y1, y2⟩
      have pre : b_st_isCollapse_4 (sN C i N) i s i (nI (mnN v s k), nI k) = if v (aP s k + 2) ≤ 0 then some (.inl (nI (mnN v s k), nI (k + 1))) else (f_lk_isEstimated (sN C i N) i s k).bind fun r5 => if r5 = 0 then some (.inl (nI (mnN v s k), nI (k + 1))) else (f_lk_sample (sN C i N) i s k).bind fun r8 => (f_lk_swing (sN C i N) i s k r8).bind fun r9 => if r9 = (-1) then some (.inl (nI (mnN v s k + 1), nI (k + 1))) else some (.inr (.inr 0)) := by
        unfold b_st_isCollapse_4
        show (if (sN C i N).1 10 i 0 0 ≤ nI k then _ else _) = _
        rw [hc, if_neg (fun q => by rw [nI_le' (by omega) (by omega)] at q; omega), if_pos (gin_nI (by omega) (by omega)), tN_nI (by omega), hE23]
        simp only [↓ob, IXr]
      by_cases c1 : v (aP s k + 2) ≤ 0
      · have n1 : ¬ jd v s k := fun q => t0.mp c1 q.1
        have e1 : mnN v s (k + 1) = mnN v s k := cN_f n1
        have e2 : dnN v s (k + 1) = dnN v s k := cN_f (fun q => n1 q.1)
        exact go _ (by rw [pre, if_pos c1]) (by rw [e1, e2]; exact h2) (by rw [e1])
      · have t1 : 0 < trN' v s k := by
          by_cases z : 0 < trN' v s k
          · exact z
          · exact absurd (t0.mpr z) c1
        rw [if_neg c1, c_isE h hs (by omega) he] at pre
        by_cases c2 : v (aP s k + 1) < 0
        · have n1 : ¬ jd v s k := fun q => q.2 c2
          have e1 : mnN v s (k + 1) = mnN v s k := cN_f n1
          have e2 : dnN v s (k + 1) = dnN v s k := cN_f (fun q => n1 q.1)
          rw [if_pos c2, ob, if_pos rfl] at pre
          exact go _ pre (by rw [e1, e2]; exact h2) (by rw [e1])
        · have y1 : jd v s k := ⟨t1, c2⟩
          have e1 : mnN v s (k + 1) = mnN v s k + 1 := cN_t y1
          rw [if_neg c2, ob, if_neg (by decide), c_samp hE h hs (by omega) t1, ob, c_chg (he.trans (h2'.2 c2)), ob] at pre
          by_cases c3 : chI v s k = -1
          · have e2 : dnN v s (k + 1) = dnN v s k + 1 := cN_t ⟨y1, c3⟩
            rw [if_pos c3] at pre
            exact go _ pre (by rw [e1, e2, h2]) (by rw [e1])
          · have e2 : dnN v s (k + 1) = dnN v s k := cN_f (fun q => c3 q.2)
            rw [if_neg c3] at pre
            refine ⟨_, 0, lp_inr pre, rfl, fun _ q => ?_, fun _ => rfl⟩
            have m := cN_m (p := jd v s) (q := fun r => jd v s r ∧ chI v s r = -1) (fun _ z => z.1) d (k + 1)
            rw [show k + 1 + d = cnt by omega] at m
            have m' : mnN v s (k + 1) + dnN v s cnt ≤ mnN v s cnt + dnN v s (k + 1) := m
            have := q.2
            omega
  obtain ⟨t, x, y1, y2, y3⟩ := key cnt 0 FU (by omega) rfl (lt_FU (by omega))
  refine ⟨x, ?_, y3⟩
  rw [show ((0 : Int32), (0 : Int32)) = (nI (mnN v s 0), nI 0) from rfl, y1, ob]
  exact y2
