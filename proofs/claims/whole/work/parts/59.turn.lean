/-! stations that are ready; whose turn it is -/
def rd (v : Vt) (s cnt : Nat) : Prop := 0 < (v (aS s + 6)).toInt ∧ hA v s cnt
section L59
variable {C M : Me} {i : Nat} {N : Nt} {v : Vt} {sc cnt w s : Nat}
theorem c_rd (h : RN N v sc cnt w) (hs : s < sc) : (rd v s cnt → f_st_isReady (sN C i N) i s i = some 1) ∧ (¬ rd v s cnt → f_st_isReady (sN C i N) i s i = some 0) := by
  have hl := h.lt
  obtain ⟨a1, a2⟩ := c_hA (C := C) (i := i) h hs
  have e31 : (sN C i N).1 31 i s 0 = v (aS s + 6) := by rw [rdN (by decide)]; exact h.E 31 s 0 rfl (dS (by simp) (by omega))
  unfold f_st_isReady
  rw [e31]
  refine ⟨fun q => ?_, fun q => ?_⟩
  · exact im (fun z => by rw [le_int, z_0] at z; have := q.1; omega) (bs (a1 q.2) (im (by decide) rfl))
  · by_cases c : v (aS s + 6) ≤ 0
    · exact ip c rfl
    · refine im c (bs (a2 (fun z => q ⟨by rw [le_int, z_0] at c; omega, z⟩)) (ip rfl rfl))
theorem m_rd (h : RN N v sc cnt w) (hs : s < sc) : (rd v s cnt → f_m_isReady (sV M v) (nI s) = some 1) ∧ (¬ rd v s cnt → f_m_isReady (sV M v) (nI s) = some 0) := by
  have hl := h.lt
  obtain ⟨a1, a2⟩ := m_hA (M := M) h hs
  have pre : ∀ o, (if v (aS s + 6) ≤ 0 then some 0 else (f_m_hasAllowed (sV M v) (nI s)).bind fun r4 => if r4 = 0 then some 0 else some 1) = o → f_m_isReady (sV M v) (nI s) = o := fun o q => by
    unfold f_m_isReady
    refine bs (sd s) (ip (gx (k := 290 + 32 * s + 6) (by simp only [IXr]) (by omega) (by omega)) ?_)
    rw [rx (k := 290 + 32 * s + 6) (by simp only [IXr]) (by omega)]
    exact q
  refine ⟨fun q => ?_, fun q => ?_⟩
  · exact pre _ (im (fun z => by rw [le_int, z_0] at z; have := q.1; omega) (bs (a1 q.2) (im (by decide) rfl)))
  · by_cases c : v (aS s + 6) ≤ 0
    · exact pre _ (ip c rfl)
    · exact pre _ (im c (bs (a2 (fun z => q ⟨by rw [le_int, z_0] at c; omega, z⟩)) (ip rfl rfl)))
def anR (v : Vt) (k cnt : Nat) : Prop := ∃ s, s < k ∧ rd v s cnt
theorem anR_s {k : Nat} : anR v (k + 1) cnt ↔ anR v k cnt ∨ rd v k cnt := by
  constructor
  · rintro ⟨r, h1, h2⟩
    by_cases e : r = k
    · subst e; exact Or.inr h2
    · exact Or.inl ⟨r, by omega, h2⟩
  · rintro (⟨r, h1, h2⟩ | h)
    · exact ⟨r, by omega, h2⟩
    · exact ⟨k, by omega, h⟩
theorem c_anR (h : RN N v sc cnt w) : (anR v sc cnt → f_nt_hasReadyStation (sN C i N) i = some 1) ∧ (¬ anR v sc cnt → f_nt_hasReadyStation (sN C i N) i = some 0) := by
  have hl := h.lt
  have key : ∀ d k F, k + d = sc → d < F → ¬ anR v k cnt → ∃ t, lp F (b_nt_hasReadyStation_2 (sN C i N) i) (nI k) = some t ∧ (anR v sc cnt → t = .inr 1) ∧ (¬ anR v sc cnt → t = .inl ()) := by
    intro d
    induction d with
    | zero =>
      intro k F h1 h2 h3
      obtain ⟨F, rfl⟩ : ∃ G, F = G + 1 := ⟨F - 1, by omega⟩
      obtain rfl : k = sc := by omega
      refine ⟨.inl (), lp_inr ?_, fun q => absurd q h3, fun _ => rfl⟩
      unfold b_nt_hasReadyStation_2
      rw [c_sc h]
      exact ip (nle_s (by omega)) rfl
    | succ d ih =>
      intro k F h1 h2 h3
      obtain ⟨F, rfl⟩ : ∃ G, F = G + 1 := ⟨F - 1, by omega⟩
      obtain ⟨a1, a2⟩ := c_rd (C := C) (i := i) h (show k < sc by omega)
      have b : ∀ o, ((f_st_isReady (sN C i N) i k i).bind fun r3 => if r3 = 0 then (some (Sum.inl (nI (k + 1))) : Option (Int32 ⊕ (Unit ⊕ Int32))) else some (.inr (.inr 1))) = o → b_nt_hasReadyStation_2 (sN C i N) i (nI k) = o := fun o q => by
        unfold b_nt_hasReadyStation_2
        rw [c_sc h]
        refine im (nle (by omega) (by omega)) (ip (gin_nI (by omega) (by omega)) ?_)
        rw [tN_nI (by omega)]
        simp only [↓ob, IXr]
        exact q
      by_cases c : rd v k cnt
      · refine ⟨_, lp_inr (b _ (bs (a1 c) (im (by decide) rfl))), fun _ => rfl, fun q => absurd ⟨k, by omega, c⟩ q⟩
      · obtain ⟨t, t1, t2⟩ := ih (k + 1) F (by omega) (by omega) (fun q => (anR_s.mp q).elim h3 c)
        exact ⟨t, by rw [lp_inl (b _ (bs (a2 c) (ip rfl rfl)))]; exact t1, t2⟩
  obtain ⟨t, t1, t2, t3⟩ := key sc 0 FU (by omega) (lt_FU (by omega)) (fun ⟨r, q, _⟩ => absurd q (by omega))
  have e : ∀ o, Sum.elim (fun e7 => some 0) (fun o => some o) t = o → f_nt_hasReadyStation (sN C i N) i = o := fun o q => by
    unfold f_nt_hasReadyStation
    exact bs t1 q
  exact ⟨fun q => e _ (by rw [t2 q]; rfl), fun q => e _ (by rw [t3 q]; rfl)⟩
theorem m_anR (h : RN N v sc cnt w) : (anR v sc cnt → f_m_isAnyReady (sV M v) = some 1) ∧ (¬ anR v sc cnt → f_m_isAnyReady (sV M v) = some 0) := by
  have hl := h.lt
  have key : ∀ d k F (x : Int32), k + d = sc → d < F → (x = 0 ∨ x = 1) → (x = 0 ↔ ¬ anR v k cnt) → ∃ t, lp F (b_m_isAnyReady_4 (sV M v)) (x, nI k) = some t ∧ (t = 0 ∨ t = 1) ∧ (t = 0 ↔ ¬ anR v sc cnt) := by
    intro d
    induction d with
    | zero =>
      intro k F x h1 h2 h3 h4
      obtain ⟨F, rfl⟩ : ∃ G, F = G + 1 := ⟨F - 1, by omega⟩
      obtain rfl : k = sc := by omega
      refine ⟨x, lp_inr ?_, h3, h4⟩
      unfold b_m_isAnyReady_4
      rw [t_2, rdV, h.iS.2.1]
      exact ip (nle_s (by omega)) rfl
    | succ d ih =>
      intro k F x h1 h2 h3 h4
      obtain ⟨F, rfl⟩ : ∃ G, F = G + 1 := ⟨F - 1, by omega⟩
      obtain ⟨a1, a2⟩ := m_rd (M := M) h (show k < sc by omega)
      have b : ∀ o, (if x = 0 then (f_m_isReady (sV M v) (nI k)).bind fun r4 => if r4 = 0 then (some (Sum.inl ((0 : Int32), nI (k + 1))) : Option ((Int32 × Int32) ⊕ Int32)) else some (.inl (1, nI (k + 1))) else some (.inl (1, nI (k + 1)))) = o → b_m_isAnyReady_4 (sV M v) (x, nI k) = o := fun o q => by
        unfold b_m_isAnyReady_4
        rw [t_2, rdV, h.iS.2.1]
        refine im (nle (by omega) (by omega)) ?_
        simp only [↓ob, IXr]
        exact q
      have go : ∀ y : Int32, b_m_isAnyReady_4 (sV M v) (x, nI k) = some (.inl (y, nI (k + 1))) → (y = 0 ∨ y = 1) → (y = 0 ↔ ¬ anR v (k + 1) cnt) → ∃ t, lp (F + 1) (b_m_isAnyReady_4 (sV M v)) (x, nI k) = some t ∧ (t = 0 ∨ t = 1) ∧ (t = 0 ↔ ¬ anR v sc cnt) := fun y q1 q2 q3 => by
        obtain ⟨t, t1, t2⟩ := ih (k + 1) F y (by omega) (by omega) q2 q3
        exact ⟨t, by rw [lp_inl q1]; exact t1, t2⟩
      by_cases c : x = 0
      · by_cases c2 : rd v k cnt
        · exact go _ (b _ (ip c (bs (a1 c2) (im (by decide) rfl)))) (Or.inr rfl) ⟨fun q => absurd q (by decide), fun q => absurd (anR_s.mpr (Or.inr c2)) q⟩
        · exact go _ (b _ (ip c (bs (a2 c2) (ip rfl rfl)))) (Or.inl rfl) ⟨fun _ q => (anR_s.mp q).elim (h4.mp c) c2, fun _ => rfl⟩
      · have : anR v k cnt := Classical.byContradiction fun z => c (h4.mpr z)
        exact go _ (b _ (im c rfl)) (Or.inr rfl) ⟨fun q => absurd q (by decide), fun q => absurd (anR_s.mpr (Or.inl this)) q⟩
  obtain ⟨t, t1, t2, t3⟩ := key sc 0 FU 0 (by omega) (lt_FU (by omega)) (Or.inl rfl) ⟨fun _ ⟨r, q, _⟩ => absurd q (by omega), fun _ => rfl⟩
  have e : f_m_isAnyReady (sV M v) = some t := by
    unfold f_m_isAnyReady
    exact bs t1 (if_pos t2)
  exact ⟨fun q => by rw [e, t2.resolve_left (fun z => t3.mp z q)], fun q => by rw [e, t3.mpr q]⟩
/-- the turn -/
def nxT (t sc : Nat) : Nat := if t + 1 < sc then t + 1 else 0
theorem RN_turn {t : Nat} (h : RN N v sc cnt w) (ht : t < sc) : RN (uN N 6 0 0 (nI t)) (upd v 7 (nI t)) sc cnt w := by
  have hl := h.lt
  refine RN_i (f := 6) h (Or.inl (by omega)) (Nat.le_refl _) ?_
  obtain ⟨a1, a2, a3, a4, a5, a6, a7, a8, a9, a10⟩ := h.iS
  show IS (upd v 7 (nI t)) sc w
  exact ⟨a1, by rw [up_n (by decide)]; exact a2, by rw [up_n (by decide)]; exact a3, by rw [up_n (by decide)]; exact a4, by rw [up_n (by decide)]; exact a5, by rw [up_n (by decide)]; exact a6, by rw [up_n (by decide)]; exact a7, by rw [up_s, nI_i (by omega)]; omega, by rw [up_s, nI_i (by omega)]; omega, by rw [up_n (by decide)]; exact a10⟩
theorem c_turn {t : Nat} {α : Type} {f : Me → Option α} (h : RN N v sc cnt w) (h7 : v 7 = nI t) (ht : t < sc) {o : Option α} (q : f (sN C i (uN N 6 0 0 (nI (nxT t sc)))) = o) : (if ((sN C i N).1 0 i 0 0) ≤ (((sN C i N).1 6 i 0 0) + (1 : Int32)) then (some (wI (sN C i N) 6 i 0 0 0)).bind f else (some (wI (sN C i N) 6 i 0 0 (((sN C i N).1 6 i 0 0) + (1 : Int32)))).bind f) = o := by
  have hl := h.lt
  have e6 : (sN C i N).1 6 i 0 0 = nI t := by rw [rdN (by decide), h.E 6 0 0 rfl rfl]; exact h7
  rw [c_sc h, e6, nI_1]
  unfold nxT at q
  by_cases c : t + 1 < sc
  · rw [if_pos c] at q
    refine im (nle c (by omega)) (bs (x := sN C i (uN N 6 0 0 (nI (t + 1)))) (by rw [wrN (by decide)]) q)
  · rw [if_neg c] at q
    refine ip ((nI_le' (by omega) (by omega)).mpr (by omega)) (bs (x := sN C i (uN N 6 0 0 (nI 0))) (by rw [wrN (by decide)]; rfl) q)
theorem m_turn {t : Nat} (h : RN N v sc cnt w) (h7 : v 7 = nI t) (ht : t < sc) : f_m_turns (sV M v) = some (sV M (upd v 7 (nI (nxT t sc)))) := by
  have hl := h.lt
  unfold f_m_turns nxT
  rw [t_7, t_2, rdV, rdV, h7, h.iS.2.1, nI_1]
  by_cases c : t + 1 < sc
  · rw [if_pos c]
    exact ip ((nI_lt' (by omega) (by omega)).mpr c) (bs (x := sV M (upd v 7 (nI (t + 1)))) (by rw [wrV]) rfl)
  · rw [if_neg c]
    exact im (fun q => c ((nI_lt' (by omega) (by omega)).mp q)) (bs (x := sV M (upd v 7 (nI 0))) (by rw [wrV]; rfl) rfl)
def ndD (d : Int) : Nat := if 0 < d then 0 else (-d).toNat / 4000 + 1
def dsT (t s sc : Nat) : Nat := if t ≤ s then s - t else s + sc - t
theorem s_choose {ss : Nat} : ∀ (μ k : Nat) (N : Nt) (v : Vt) (F t : Nat), RN N v sc cnt w → v 7 = nI t → t < sc → ss < sc → rd v ss cnt → 4 * ndD (v (aS ss + 15)).toInt + dsT t ss sc ≤ μ → μ < F → k + μ < 2000 → ∃ s N' v', s < sc ∧ rd v' s cnt ∧ lp F (b_nt_chooseByDeficit_2 i) (nI k, sN C i N) = some (.inr (some (i, s), sN C i N')) ∧ lp F b_m_dispatch_28 (nI k, sV M v) = some (sV M v') ∧ RN N' v' sc cnt w ∧ v' 7 = nI s ∧ (∀ j, j ≠ 7 → (∀ s, s < 4 → j ≠ aS s + 15) → v' j = v j) := by
  intro μ
  induction μ with
  | zero =>
    intro k N v F t h h7 ht hss hrd hm hF hk
    have hl := h.lt
    obtain ⟨F, rfl⟩ : ∃ G, F = G + 1 := ⟨F - 1, by omega⟩
    have hd0 : 0 < (v (aS ss + 15)).toInt := by
      unfold ndD at hm
      split at hm
      · assumption
      · omega
    have hts : t = ss := by
      unfold dsT at hm
      split at hm <;> omega
    subst hts
    have cr := (c_rd (C := C) (i := i) h ht).1 hrd
    have mr := (m_rd (M := M) h ht).1 hrd
    have e6 : (sN C i N).1 6 i 0 0 = nI t := by rw [rdN (by decide), h.E 6 0 0 rfl rfl]; exact h7
    have e38 : (sN C i N).1 38 i t 0 = v (aS t + 15) := by rw [rdN (by decide)]; exact h.E 38 t 0 rfl (dS (by simp) (by omega))
    refine ⟨t, N, v, ht, hrd, lp_inr ?_, lp_inr ?_, h, h7, fun _ _ _ => rfl⟩
    · unfold b_nt_chooseByDeficit_2
      refine im (show ¬ (1000000 : Int32) ≤ nI k from nle (n := 1000000) (by omega) (by omega)) ?_
      show ((f_nt_stationAt (sN C i N) i ((sN C i N).1 6 i 0 0)).bind _) = _
      rw [e6]
      refine bs (sta_t h ht) ?_
      rw [oe]
      refine bs cr (im (by decide) ?_)
      show (if (sN C i N).1 38 i t 0 ≤ 0 then _ else _) = _
      rw [e38]
      exact im (fun z => by rw [le_int, z_0] at z; omega) rfl
    · unfold b_m_dispatch_28
      refine im (show ¬ (2000 : Int32) ≤ nI k from nle (n := 2000) (by omega) (by omega)) ?_
      show ((f_m_isReady (sV M v) ((sV M v).1 100 0 0 (tN 7))).bind _) = _
      rw [t_7, rdV, h7]
      refine bs mr (im (by decide) (bs (sd t) (ip (gx (k := 290 + 32 * t + 15) (by simp only [IXr]) (by omega) (by omega)) ?_)))
      rw [rx (k := 290 + 32 * t + 15) (by simp only [IXr]) (by omega)]
      exact ip (by rw [lt_int, z_0]; exact hd0) rfl
  | succ μ ih =>
    intro k N v F t h h7 ht hss hrd hm hF hk
    have hl := h.lt
    have ht4 : t < 4 := by omega
    have hS : aS t = 290 + 32 * t := rfl
    have hSS : aS ss = 290 + 32 * ss := rfl
    obtain ⟨F, rfl⟩ : ∃ G, F = G + 1 := ⟨F - 1, by omega⟩
    have e6 : (sN C i N).1 6 i 0 0 = nI t := by rw [rdN (by decide), h.E 6 0 0 rfl rfl]; exact h7
    have e38 : (sN C i N).1 38 i t 0 = v (aS t + 15) := by rw [rdN (by decide)]; exact h.E 38 t 0 rfl (dS (by simp) (by omega))
    have cst : ∀ o, ((f_st_isReady (sN C i N) i t i).bind _) = o → b_nt_chooseByDeficit_2 i (nI k, sN C i N) = o := fun o q => by
      unfold b_nt_chooseByDeficit_2
      refine im (show ¬ (1000000 : Int32) ≤ nI k from nle (n := 1000000) (by omega) (by omega)) ?_
      show ((f_nt_stationAt (sN C i N) i ((sN C i N).1 6 i 0 0)).bind _) = _
      rw [e6]
      refine bs (sta_t h ht) ?_
      rw [oe]
      exact q
    have mst : ∀ o, ((f_m_isReady (sV M v) (nI t)).bind _) = o → b_m_dispatch_28 (nI k, sV M v) = o := fun o q => by
      unfold b_m_dispatch_28
      refine im (show ¬ (2000 : Int32) ≤ nI k from nle (n := 2000) (by omega) (by omega)) ?_
      show ((f_m_isReady (sV M v) ((sV M v).1 100 0 0 (tN 7))).bind _) = _
      rw [t_7, rdV, h7]
      exact q
    have nx : nxT t sc < sc := by
      unfold nxT
      split <;> omega
    by_cases c : rd v t cnt
    · have cr := (c_rd (C := C) (i := i) h ht).1 c
      have mr := (m_rd (M := M) h ht).1 c
      by_cases c2 : 0 < (v (aS t + 15)).toInt
      · refine ⟨t, N, v, ht, c, lp_inr (cst _ (bs cr (im (by decide) ?_))), lp_inr (mst _ (bs mr (im (by decide) (bs (sd t) (ip (gx (k := 290 + 32 * t + 15) (by simp only [IXr]) (by omega) (by omega)) ?_))))), h, h7, fun _ _ _ => rfl⟩
        · show (if (sN C i N).1 38 i t 0 ≤ 0 then _ else _) = _
          rw [e38]
          exact im (fun z => by rw [le_int, z_0] at z; omega) rfl
        · rw [rx (k := 290 + 32 * t + 15) (by simp only [IXr]) (by omega)]
          exact ip (by rw [lt_int, z_0]; exact c2) rfl
      · have hd := (h.iT t ht4).2.2.1
        have e4 : (v (aS t + 15) + 4000).toInt = (v (aS t + 15)).toInt + 4000 := by rw [ad_I (by rw [z_4000]; omega) (by rw [z_4000]; omega), z_4000]
        have h1 := RN_38 (s := t) (x := v (aS t + 15) + 4000) h ht4 ⟨by omega, by omega⟩
        have h17 : upd v (aS t + 15) (v (aS t + 15) + 4000) 7 = nI t := by rw [up_n (by omega)]; exact h7
        have h2 := RN_turn h1 nx
        have mt : f_m_turns (sV M (upd v (290 + 32 * t + 15) (v (290 + 32 * t + 15) + 4000))) = some (sV M (upd (upd v (290 + 32 * t + 15) (v (290 + 32 * t + 15) + 4000)) 7 (nI (nxT t sc)))) := m_turn h1 h17 ht
        have hrd' : rd (upd (upd v (aS t + 15) (v (aS t + 15) + 4000)) 7 (nI (nxT t sc))) ss cnt := by
          refine ⟨by rw [up_n (by omega), up_n (by omega)]; exact hrd.1, hA_c (by omega) hl.2 (fun r hr => ?_) hrd.2⟩
          have hP := aP_lt (show ss < 4 by omega) hr
          rw [up_n (by show 30 + 8 * (8 * ss + r) ≠ 7; omega), up_n (by omega)]
        have hm' : 4 * ndD ((upd (upd v (aS t + 15) (v (aS t + 15) + 4000)) 7 (nI (nxT t sc))) (aS ss + 15)).toInt + dsT (nxT t sc) ss sc ≤ μ := by
          rw [up_n (show aS ss + 15 ≠ 7 by omega)]
          by_cases e : t = ss
          · subst e
            rw [up_s, e4]
            generalize (v (aS t + 15)).toInt = D at hm hd c2
            unfold ndD dsT nxT at *
            rw [if_neg c2] at hm
            split <;> split <;> split at hm <;> split <;> omega
          · rw [up_n (by omega)]
            generalize ndD (v (aS ss + 15)).toInt = D at hm
            unfold dsT nxT at *
            split at hm <;> split <;> split <;> omega
        obtain ⟨s', N', v', i1, i2, i3, i4, i5, i6, i7⟩ := ih (k + 1) _ _ F _ h2 (up_s) nx hss hrd' hm' (by omega) (by omega)
        refine ⟨s', N', v', i1, i2, ?_, ?_, i5, i6, fun j j1 j2 => by rw [i7 j j1 j2, up_n j1, up_n (j2 t ht4)]⟩
        · rw [lp_inl (cst _ (bs cr (im (by decide) (?_ : _ = some (Sum.inl (nI (k + 1), sN C i (uN (uN N 38 t 0 (v (aS t + 15) + 4000)) 6 0 0 (nI (nxT t sc)))))))))]
          · exact i3
          · show (if (sN C i N).1 38 i t 0 ≤ 0 then (some (wI (sN C i N) 38 i t 0 (((sN C i N).1 38 i t 0) + (4000 : Int32)))).bind _ else _) = _
            rw [e38]
            refine ip (by rw [le_int, z_0]; omega) (bs (x := sN C i (uN N 38 t 0 (v (aS t + 15) + 4000))) (by rw [wrN (by decide)]) ?_)
            refine c_turn (f := fun M12 => (some (nI k + 1)).bind fun x13 => some (Sum.inl (x13, M12))) h1 h17 ht ?_
            simp only [↓ob, IXr]
        · rw [lp_inl (mst _ (bs mr (im (by decide) (bs (sd t) (ip (gx (k := 290 + 32 * t + 15) (by simp only [IXr]) (by omega) (by omega)) (?_ : _ = some (Sum.inl (nI (k + 1), sV M (upd (upd v (aS t + 15) (v (aS t + 15) + 4000)) 7 (nI (nxT t sc)))))))))))]
          · exact i4
          · rw [rx (k := 290 + 32 * t + 15) (by simp only [IXr]) (by omega)]
            refine im (fun z => c2 (by rw [lt_int, z_0] at z; exact z)) (bs mr (im (by decide) (bs (sd t) (ip (gx (k := 290 + 32 * t + 15) (by simp only [IXr]) (by omega) (by omega)) (ip (gx (k := 290 + 32 * t + 15) (by simp only [IXr]) (by omega) (by omega)) (bs (wx (k := 290 + 32 * t + 15) (by simp only [IXr]) (by omega)) ?_))))))
            have er : (sV M v).1 100 0 0 (tN (nI (290 + 32 * t) + (15 : Int32))) = v (290 + 32 * t + 15) := rx (k := 290 + 32 * t + 15) (by simp only [IXr]) (by omega)
            show ((f_m_turns (sV M (upd v (290 + 32 * t + 15) ((sV M v).1 100 0 0 (tN (nI (290 + 32 * t) + (15 : Int32))) + 4000)))).bind fun r30 => (some (nI k + 1)).bind fun x31 => some (Sum.inl (x31, r30))) = _
            rw [er]
            refine bs mt ?_
            rw [ob, nI_1]
    · have cr := (c_rd (C := C) (i := i) h ht).2 c
      have mr := (m_rd (M := M) h ht).2 c
      have hne : t ≠ ss := fun e => c (by rw [e]; exact hrd)
      have h2 := RN_turn h nx
      have hrd' : rd (upd v 7 (nI (nxT t sc))) ss cnt := by
        refine ⟨by rw [up_n (by omega)]; exact hrd.1, hA_c (by omega) hl.2 (fun r hr => ?_) hrd.2⟩
        rw [up_n (by show 30 + 8 * (8 * ss + r) ≠ 7; omega)]
      have hm' : 4 * ndD ((upd v 7 (nI (nxT t sc))) (aS ss + 15)).toInt + dsT (nxT t sc) ss sc ≤ μ := by
        rw [up_n (show aS ss + 15 ≠ 7 by omega)]
        generalize ndD (v (aS ss + 15)).toInt = D at hm
        unfold dsT nxT at *
        split at hm <;> split <;> split <;> omega
      obtain ⟨s', N', v', i1, i2, i3, i4, i5, i6, i7⟩ := ih (k + 1) _ _ F _ h2 (up_s) nx hss hrd' hm' (by omega) (by omega)
      refine ⟨s', N', v', i1, i2, ?_, ?_, i5, i6, fun j j1 j2 => by rw [i7 j j1 j2, up_n j1]⟩
      · rw [lp_inl (cst _ (bs cr (ip rfl (?_ : _ = some (Sum.inl (nI (k + 1), sN C i (uN N 6 0 0 (nI (nxT t sc)))))))))]
        · exact i3
        · have ct := c_turn (C := C) (i := i) (α := (Int32 × Me) ⊕ (Me ⊕ (Option (Nat × Nat) × Me))) (f := fun M12 => (some (nI k + 1)).bind fun x13 => some (Sum.inl (x13, M12))) (o := some (Sum.inl (nI (k + 1), sN C i (uN N 6 0 0 (nI (nxT t sc)))))) h h7 ht (by simp only [↓ob, IXr])
          rw [e6] at ct
          exact ct
      · rw [lp_inl (mst _ (bs mr (ip rfl (bs mr (ip rfl (bs (m_turn h h7 ht) (?_ : _ = some (Sum.inl (nI (k + 1), sV M (upd v 7 (nI (nxT t sc)))))))))))) ]
        · exact i4
        · simp only [↓ob, IXr]
end L59
