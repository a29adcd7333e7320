/-! an update: the counts of the interval begin anew, the roles, the end -/
theorem s_reset {C M : Me} {i : Nat} {N : Nt} {v v0 : Vt} {sc cnt w s : Nat} {L : Int64} (h : RN N v sc cnt w) (hs : s < sc) (hK : ∀ q, q < 8 → v (aP s q + 2) = v0 (aP s q + 2)) :
    ∃ N' v', lp FU (b_st_beginInterval_3 i s i L) (0, sN C i N) = some (sN C i N') ∧ lp FU (b_m_updates_25 (nI s)) (0, 0, sV M v) = some (nI (tcN v0 s cnt), sV M v') ∧ RN N' v' sc cnt w ∧ (∀ k, k < 30 ∨ 286 ≤ k → v' k = v k) ∧ Ka v v' := by
  have hl := h.lt
  have hs4 : s < 4 := by omega
  have key := lpG (bC := b_st_beginInterval_3 i s i L) (bM := b_m_updates_25 (nI s)) (fun k x y => ∃ N' v', x = (nI k, sN C i N') ∧ y = (nI (tcN v0 s k), nI k, sV M v') ∧ RN N' v' sc cnt w ∧ ((∀ j, j < 30 ∨ 286 ≤ j → v' j = v j) ∧ Ka v v') ∧ ∀ q, k ≤ q → q < 8 → v' (aP s q + 2) = v0 (aP s q + 2)) (fun p q => ∃ N' v', p = sN C i N' ∧ q = (nI (tcN v0 s cnt), sV M v') ∧ RN N' v' sc cnt w ∧ (∀ j, j < 30 ∨ 286 ≤ j → v' j = v j) ∧ Ka v v') cnt (by omega) (fun k x y hk hR => ?_) (fun x y hR => ?_) (x := (0, sN C i N)) (y := (0, 0, sV M v)) ⟨N, v, rfl, rfl, h, ⟨fun _ _ => rfl, Ka.rf v⟩, fun q _ hq => hK q hq⟩
  · obtain ⟨p, q, a1, a2, N', v', rfl, rfl, a3, a4⟩ := key
    exact ⟨N', v', a1, a2, a3, a4⟩
  · obtain ⟨N1, v1, rfl, rfl, h, hj, hq⟩ := hR
    have hp := aP_lt hs4 (show k < 8 by omega)
    have hg := RN_t2 (s := s) (r := k) (x := 0) (y := 0) (w' := w) h hs4 (by omega) (Nat.le_refl _) (wi_n (n := 0) (by omega) ⟨by omega, by omega⟩) (by decide) (by decide)
    have e2 := hq k (Nat.le_refl _) (by omega)
    have t0 := tr_pos h.iL hs4 (show k < 8 by omega)
    have t0' : v1 (aP s k + 2) ≤ 0 ↔ ¬ 0 < trN' v0 s k := by rw [t0]; unfold trN'; rw [e2]
    refine ⟨_, _, (?_ : _ = some (Sum.inl (nI (k + 1), sN C i (uN (uN N1 23 s k 0) 24 s k 0)))), (?_ : _ = some (Sum.inl (nI (tcN v0 s (k + 1)), nI (k + 1), sV M (upd (upd v1 (ad 23 s k) 0) (ad 24 s k) 0)))), _, _, rfl, rfl, hg, ⟨fun j hj2 => ?_, (hj.2.up (dP (by simp) hs4 (by omega)) (by decide)).up (dP (by simp) hs4 (by omega)) (by decide)⟩, fun q q1 q2 => ?_⟩
    · unfold b_st_beginInterval_3
      show (if (sN C i N1).1 10 i 0 0 ≤ nI k then _ else _) = _
      rw [c_cnt h, if_neg (nle hk (by omega))]
      simp (disch := omega) only [↓ob, ↓reduceIte, IXr, gin_t, tN_nI, wrN]
    · unfold b_m_updates_25 f_m_pair
      show (if (sV M v1).1 100 0 0 (tN 1) ≤ nI k then _ else _) = _
      rw [t_1, rdV, h.iR.2.1, if_neg (nle hk (by omega))]
      simp (disch := omega) only [↓ob, ↓reduceIte, IXl, IXm, IXr, l_add, gin_t, tN_nI, rdV, wrV]
      by_cases c1 : v1 (aP s k + 2) ≤ 0
      · have e : tcN v0 s (k + 1) = tcN v0 s k := cN_f (t0'.mp c1)
        refine ip c1 ?_
        rw [e]
        rfl
      · have e : tcN v0 s (k + 1) = tcN v0 s k + 1 := cN_t (Classical.byContradiction fun z => c1 (t0'.mpr z))
        refine im c1 ?_
        rw [e]
        rfl
    · show upd (upd v1 (aP s k + 2) 0) (aP s k + 3) 0 j = v j
      rw [up_n (by show j ≠ 30 + 8 * (8 * s + k) + 3; omega), up_n (by show j ≠ 30 + 8 * (8 * s + k) + 2; omega)]
      exact hj.1 j hj2
    · show upd (upd v1 (aP s k + 2) 0) (aP s k + 3) 0 (aP s q + 2) = _
      rw [up_n (by show 30 + 8 * (8 * s + q) + 2 ≠ 30 + 8 * (8 * s + k) + 3; omega), up_n (by show 30 + 8 * (8 * s + q) + 2 ≠ 30 + 8 * (8 * s + k) + 2; omega)]
      exact hq q (by omega) q2
  · obtain ⟨N1, v1, rfl, rfl, h, hj, hq⟩ := hR
    refine ⟨_, _, (?_ : _ = some (Sum.inr (sN C i N1))), (?_ : _ = some (Sum.inr (nI (tcN v0 s cnt), sV M v1))), N1, v1, rfl, rfl, h, hj⟩
    · unfold b_st_beginInterval_3
      show (if (sN C i N1).1 10 i 0 0 ≤ nI cnt then _ else _) = _
      rw [c_cnt h, if_pos (nle_s (by omega))]
    · unfold b_m_updates_25
      show (if (sV M v1).1 100 0 0 (tN 1) ≤ nI cnt then _ else _) = _
      rw [t_1, rdV, h.iR.2.1, if_pos (nle_s (by omega))]
theorem c_log' {C : Me} {i : Nat} {N : Nt} {v : Vt} {w : Nat} {k s r : Int32} (h : N.1 60 0 0 = v 8) (g : wi 0 (v 8) w) (hw : w < 1073741824) : f_lo_note (sN C i N) i k s r (v 0) = some (sN C i (lgN N (tN (v 8) % 20) k s r (v 0) (v 8 + 1))) := by
  have e : v 8 = nI (tN (v 8)) := nn_eq g.1
  have e2 := tN_int g.1
  have q := c_note (C := C) (i := i) (N := N) (k := k) (s := s) (r := r) (t := v 0) (n := tN (v 8)) (h.trans e) (by omega)
  rw [q]
  rw [show v 8 + 1 = nI (tN (v 8) + 1) by conv => lhs; rw [e, nI_1]]
theorem lgV_lo {v : Vt} {k a r : Int32} {j : Nat} (h : j ≠ 8) (h2 : j < 516) : lgV v k a r j = v j := by
  have hp : tN (v 8) % 20 < 20 := Nat.mod_lt _ (by decide)
  unfold lgV
  rw [up_n h, up_n (by omega), up_n (by omega), up_n (by omega), up_n (by omega)]
theorem Ka_log {v0 v : Vt} {k a r : Int32} (h : Ka v0 v) : Ka v0 (lgV v k a r) := by
  refine ⟨fun s q h1 h2 => ?_, fun c h1 => ?_⟩
  · have := aP_lt h1 h2
    rw [lgV_lo (by show 30 + 8 * (8 * s + q) ≠ 8; omega) (by omega)]
    exact h.1 s q h1 h2
  · rw [lgV_lo (by show 420 + 16 * c ≠ 8; omega) (by show 420 + 16 * c < 516; omega)]
    exact h.2 c h1
/-- roles are filled: both sides; also with another end of the interval -/
theorem s_fill {C M : Me} {i : Nat} {N : Nt} {v : Vt} {sc cnt w s : Nat} (h : RB N v sc cnt w) (hs : s < sc) (ho : ∀ t, t < sc → t ≠ s → RO N v t cnt) :
    ∃ N' v', f_st_fillRoles (sN C i N) i s i = some (sN C i N') ∧ (∀ L, f_st_fillRoles (sN C i (uL N 39 s 0 L)) i s i = some (sN C i (uL N' 39 s 0 L))) ∧ f_m_fillRoles (sV M v) (nI s) = some (sV M v') ∧ RN N' v' sc cnt w ∧ (∀ k, k < aS s + 18 ∨ aS s + 22 ≤ k → v' k = v k) ∧ (∀ f a b, f ≠ 41 → N'.1 f a b = N.1 f a b) ∧ Ka v v' := by
  obtain ⟨h1, h2, h3, h4, h5, h6, h7, h8, h9, h10, h11⟩ := id h
  have hs4 : s < 4 := by have := h8.1; omega
  have hK := h2.lk hs h8.1 h7.1
  refine ⟨gR N v s cnt, fR v s cnt, c_fill h1 hK h6 h9 h7 hs4, fun L => ?_, m_fill h9 h7 hs4, RN_fill h hs4 ho, fun k hk => fR_hi hk, fun f a b hf => ?_, fun t r h1 h2 => ?_, fun c h1 => ?_⟩
  · have hE : RE (uL N 39 s 0 L) v := h1
    have hK2 : LK (uL N 39 s 0 L) v s cnt := hK
    have hM2 : RM (uL N 39 s 0 L) v cnt := h6
    exact c_fill (C := C) (i := i) hE hK2 hM2 h9 h7 hs4
  · unfold gR
    rw [uN_f hf, uN_f hf, uN_f hf, uN_f hf]
  · have := aP_lt h1 h2
    exact fR_hi (by left; show aP t r < 290 + 32 * s + 18; omega)
  · exact fR_hi (by right; show 290 + 32 * s + 22 ≤ 420 + 16 * c; omega)
theorem lgN_L (N : Nt) (s : Nat) (L : Int64) (p : Nat) (k a r t x : Int32) : lgN (uL N 39 s 0 L) p k a r t x = uL (lgN N p k a r t x) 39 s 0 L := rfl
theorem tl_C {C : Me} {i s : Nat} {N N1 N4 : Nt} {L : Int64} {x0 y : Int32} {o : Option (Int32 × Me)} (e : f_nt_endOfNewInterval (sN C i N) i = some L) (a1 : lp FU (b_st_beginInterval_3 i s i L) (0, sN C i N) = some (sN C i N1)) (f1 : f_st_fillRoles (sN C i (uL (uN N1 36 s 0 0) 39 s 0 L)) i s i = some (sN C i N4)) (q : (if N4.1 41 s 0 = x0 then some (y, sN C i N4) else (f_lo_note (sN C i N4) i 5 (nI s) (N4.1 41 s 0) (N4.1 1 0 0)).bind fun r10 => some (y, r10)) = o) : j_nt_refresh_71 (sN C i N) i i s x0 y = o := by
  unfold j_nt_refresh_71
  refine bs e ?_
  refine bs (x := sN C i (uL (uN N1 36 s 0 0) 39 s 0 L)) ?_ ?_
  · unfold f_st_beginInterval
    refine bs a1 ?_
    simp only [↓ob]
    rw [wrN (by decide), wrL (by decide)]
  · refine bs f1 ?_
    rw [t_0, rdN (by decide), rdN (by decide)]
    exact q
theorem tl_M {M : Me} {s n : Nat} {v v1 v3 v5 : Vt} {e3 e5 : Int32} {o : Option (Int32 × Me)} (hs4 : s < 4) (a2 : lp FU (b_m_updates_25 (nI s)) (0, 0, sV M v) = some (nI n, sV M v1)) (f2 : f_m_fillRoles (sV M (upd v1 (290 + 32 * s + 4) 0)) (nI s) = some (sV M v3)) (m3 : f_m_endFromNow (sV M v3) = some e3) (ml : f_m_log (sV M v3) 5 (nI s) (v3 (290 + 32 * s + 18)) = some (sV M v5)) (m5 : f_m_endFromNow (sV M v5) = some e5) (q : (if v3 (290 + 32 * s + 18) = v1 (290 + 32 * s + 18) then some (nI n, sV M (upd v3 (290 + 32 * s + 16) e3)) else some (nI n, sV M (upd v5 (290 + 32 * s + 16) e5))) = o) : j_m_updates_23 (sV M v) (nI s) 0 = o := by
  have u18 : upd v1 (290 + 32 * s + 4) 0 (290 + 32 * s + 18) = v1 (290 + 32 * s + 18) := up_n (by omega)
  have sd : f_m_side (nI s) = some (nI (290 + 32 * s)) := by unfold f_m_side; simp only [IXl, IXm]
  have g4 : gin (nI (290 + 32 * s) + (4 : Int32)) 600 := by simp only [IXr]; exact gin_nI (by omega) (by omega)
  have g16 : gin (nI (290 + 32 * s) + (16 : Int32)) 600 := by simp only [IXr]; exact gin_nI (by omega) (by omega)
  have g18 : gin (nI (290 + 32 * s) + (18 : Int32)) 600 := by simp only [IXr]; exact gin_nI (by omega) (by omega)
  have t4 : tN (nI (290 + 32 * s) + (4 : Int32)) = 290 + 32 * s + 4 := by simp only [IXr]; exact tN_nI (by omega)
  have t16 : tN (nI (290 + 32 * s) + (16 : Int32)) = 290 + 32 * s + 16 := by simp only [IXr]; exact tN_nI (by omega)
  have t18 : tN (nI (290 + 32 * s) + (18 : Int32)) = 290 + 32 * s + 18 := by simp only [IXr]; exact tN_nI (by omega)
  unfold j_m_updates_23
  refine bs a2 (bs sd (ip g4 (bs (x := sV M (upd v1 (290 + 32 * s + 4) 0)) (by rw [t4]; exact congrArg some (wrV _ _ _ _)) (bs sd (ip g18 (bs f2 (bs sd (ip g18 ?_))))))))
  rw [t18, rdV, rdV, u18]
  by_cases c : v3 (290 + 32 * s + 18) = v1 (290 + 32 * s + 18)
  · rw [if_pos c] at q
    refine ip c (bs sd (bs m3 (ip g16 (bs (x := sV M (upd v3 (290 + 32 * s + 16) e3)) (by rw [t16]; exact congrArg some (wrV _ _ _ _)) q))))
  · rw [if_neg c] at q
    refine im c (bs sd (ip g18 ?_))
    rw [t18, rdV]
    refine bs ml (bs sd (bs m5 (ip g16 (bs (x := sV M (upd v5 (290 + 32 * s + 16) e5)) (by rw [t16]; exact congrArg some (wrV _ _ _ _)) q))))
theorem s_tail {C M : Me} {i : Nat} {N : Nt} {v v0 : Vt} {sc cnt w s : Nat} {y : Int32} (h : RN N v sc cnt w) (hs : s < sc) (hw : w < 1073000000) (hK : Kp v0 v s) :
    ∃ N' v', j_nt_refresh_71 (sN C i N) i i s (v0 (aS s + 18)) y = some (y, sN C i N') ∧ j_m_updates_23 (sV M v) (nI s) 0 = some (nI (tcN v0 s cnt), sV M v') ∧ RN N' v' sc cnt (w + 1) ∧ v' 0 = v0 0 ∧ Ka v0 v' := by
  have hl := h.lt
  have hs4 : s < 4 := by omega
  obtain ⟨N1, v1, a1, a2, a3, a4, ka1⟩ := s_reset (C := C) (M := M) (i := i) (L := enL v) (v0 := v0) h hs hK.1
  have b1 := RN_s (x := 0) (f := 36) (s := s) (r := 0) a3 (dS (by simp) hs4) (by omega)
  obtain ⟨N3, v3, -, f1, f2, b2, lo1, -, ka3⟩ := s_fill (C := C) (M := M) (i := i) b1.1 hs (fun t ht _ => b1.2 t ht)
  have e18 : v1 (290 + 32 * s + 18) = v0 (aS s + 18) := by
    rw [a4 _ (by omega)]
    exact hK.2.1
  have lo : ∀ k, k < 30 → v3 k = v k := fun k hk => by
    rw [lo1 k (by left; show k < 290 + 32 * s + 18; omega), show upd v1 (ad 36 s 0) 0 k = v1 k from up_n (by show k ≠ 290 + 32 * s + 4; omega)]
    exact a4 k (by omega)
  have ka : Ka v0 v3 := ((hK.2.2.2.tr ka1).up (f := 36) (s' := s) (r' := 0) (x := 0) (dS (by simp) hs4) (by decide)).tr ka3
  have hen := rel_en h.iS
  have hf1 := f1 (enL v)
  have g41 : (uL N3 39 s 0 (enL v)).1 41 s 0 = v3 (290 + 32 * s + 18) := (b2.2 s hs).1 0 (by omega)
  have g1 : (uL N3 39 s 0 (enL v)).1 1 0 0 = v 0 := (b2.E 1 0 0 rfl rfl).trans (lo 0 (by decide))
  have f2' : f_m_fillRoles (sV M (upd v1 (290 + 32 * s + 4) 0)) (nI s) = some (sV M v3) := f2
  have e : enV v3 = enV v := by unfold enV; rw [lo 0 (by decide), lo 5 (by decide)]
  have m1 := m_end (M := M) (v := v3)
  rw [e] at m1
  have q3 := m_log (M := M) (k := 5) (s := nI s) (r := v3 (290 + 32 * s + 18)) b2.iS.2.2.2.2.2.2.2.2.2.1
  have e5 : enV (lgV v3 5 (nI s) (v3 (290 + 32 * s + 18))) = enV v := by unfold enV; rw [lgV_lo (by decide) (by decide), lgV_lo (by decide) (by decide), lo 0 (by decide), lo 5 (by decide)]
  have m5 := m_end (M := M) (v := lgV v3 5 (nI s) (v3 (290 + 32 * s + 18)))
  rw [e5] at m5
  have pC := fun o q => tl_C (x0 := v0 (aS s + 18)) (y := y) (o := o) (c_end h.E) a1 hf1 q
  have pM := fun o q => tl_M (o := o) hs4 a2 f2' m1 q3 m5 q
  rw [g41, g1] at pC
  rw [e18] at pM
  by_cases c : v3 (290 + 32 * s + 18) = v0 (aS s + 18)
  · rw [if_pos c] at pC pM
    refine ⟨_, _, pC _ rfl, pM _ rfl, RN_m (RN_end b2 hs4 hen) (by omega), ?_, ka.up (f := 39) (s' := s) (r' := 0) (dS (by simp) hs4) (by decide)⟩
    rw [up_n (by omega), lo 0 (by decide)]
    exact hK.2.2.1
  · rw [if_neg c] at pC pM
    have q1 := RN_log (k := 5) (s := nI s) (r := v3 (290 + 32 * s + 18)) b2 (by omega)
    have q2 := c_log' (C := C) (i := i) (N := uL N3 39 s 0 (enL v)) (v := v3) (w := w) (k := 5) (s := nI s) (r := v3 (290 + 32 * s + 18)) (b2.E 60 0 0 rfl rfl) b2.iS.2.2.2.2.2.2.2.2.2 (by omega)
    rw [lgN_L, lo 0 (by decide)] at q2
    rw [lo 0 (by decide)] at q1
    have z0 : lgV v3 5 (nI s) (v3 (290 + 32 * s + 18)) 0 = v0 0 := by
      rw [lgV_lo (by decide) (by decide), lo 0 (by decide)]
      exact hK.2.2.1
    refine ⟨_, _, pC _ (bs q2 rfl), pM _ rfl, RN_end q1 hs4 hen, ?_, (Ka_log ka).up (f := 39) (s' := s) (r' := 0) (dS (by simp) hs4) (by decide)⟩
    rw [up_n (by omega)]
    exact z0
