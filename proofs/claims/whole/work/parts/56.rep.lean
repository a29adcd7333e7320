/-! a report as a whole -/
theorem sb_I {x y : Int32} (h1 : -2147483648 ≤ x.toInt - y.toInt) (h2 : x.toInt - y.toInt < 2147483648) : (x - y).toInt = x.toInt - y.toInt := by
  rw [Int32.toInt_sub]
  exact Int.bmod_eq_of_le (by omega) (by omega)
theorem ad_I {x y : Int32} (h1 : -2147483648 ≤ x.toInt + y.toInt) (h2 : x.toInt + y.toInt < 2147483648) : (x + y).toInt = x.toInt + y.toInt := by
  rw [Int32.toInt_add]
  exact Int.bmod_eq_of_le (by omega) (by omega)
section L56
variable {N : Nt} {v : Vt} {sc cnt w c s T : Nat} {x ok : Int32}
theorem RN_50d (h : RN N v sc cnt w) (hc : c < 6) : RN (uN N 50 c 0 0) (upd v (ad 50 c 0) 0) sc cnt w := by
  have hl := h.lt
  have hd : dm 50 c 0 = true := dO (by simp) hc
  refine ⟨⟨h.E.set hd, RL_s h.L hd (by omega), RT_s h.T hd (by omega), RQ_s h.Q hd (by omega), RK_s h.K hd (by omega), RM_s h.M hl.2 hd (by omega), IR_v h.iR hd (by omega), IS_v h.iS hd (by omega), IL_v h.iL hd (by omega), IT_v h.iT hd (by omega), ?_⟩, fun t ht => RO_s (by omega) hl.2 (h.2 t ht) hd (by omega)⟩
  show IC (upd v (aO c) 0) sc cnt
  intro c' h1
  obtain ⟨a1, a2⟩ := h.iC c' h1
  by_cases e : c' = c
  · subst e
    rw [up_s]
    exact ⟨Or.inl rfl, fun q => absurd q (by decide)⟩
  · have hO : aO c = 420 + 16 * c := rfl
    have hO' : aO c' = 420 + 16 * c' := rfl
    rw [up_n (by omega), up_n (by omega), up_n (by omega), up_n (by omega)]
    refine ⟨a1, fun q => ?_⟩
    obtain ⟨b1, b2, b3, b4, b5⟩ := a2 q
    refine ⟨b1, b2, b3, b4, fun k hk => ?_⟩
    rw [up_n (by omega), up_n (by omega)]
    exact b5 k hk
theorem RN_50c (h : RN N v sc cnt w) (hc : c < 6) : RN (uN N 50 c 0 0) (upd v (aO c) 0) sc cnt w := RN_50d h hc
theorem RN_time (h : RN N v sc cnt w) (hx : 0 ≤ x.toInt) : RN (uN N 1 0 0 x) (upd v 0 x) sc cnt w := by
  refine RN_i (f := 1) h (Or.inl (by omega)) (Nat.le_refl _) ?_
  obtain ⟨a1, a2, a3, a4, a5, a6, a7, a8, a9, a10⟩ := h.iS
  show IS (upd v 0 x) sc w
  exact ⟨a1, by rw [up_n (by decide)]; exact a2, by rw [up_n (by decide)]; exact a3, by rw [up_n (by decide)]; exact a4, by rw [up_n (by decide)]; exact a5, by rw [up_n (by decide)]; exact a6, by rw [up_s]; exact hx, by rw [up_n (by decide)]; exact a8, by rw [up_n (by decide)]; exact a9, by rw [up_n (by decide)]; exact a10⟩
theorem RN_38 (h : RN N v sc cnt w) (hs : s < 4) (hx : wi (-1000000) x 4000) : RN (uN N 38 s 0 x) (upd v (aS s + 15) x) sc cnt w := by
  have hd : dm 38 s 0 = true := dS (by simp) hs
  refine RN_it h hs (Or.inr rfl) ?_
  intro s' h1
  obtain ⟨a1, a2, a3, a4⟩ := h.iT s' h1
  rw [up_ad (k := aS s' + 6) hd (dS (f := 31) (by simp) h1) (by decide) rfl, up_ad (k := aS s' + 5) hd (dS (f := 37) (by simp) h1) (by decide) rfl]
  refine ⟨a1, a2, ?_, fun k hk q => ?_⟩
  · by_cases e : s' = s
    · subst e
      rw [show upd v (ad 38 s' 0) x (aS s' + 15) = x from up_s]
      exact hx
    · rw [show upd v (ad 38 s 0) x (aS s' + 15) = v (aS s' + 15) from up_n (fun q => e (ad_inj (dS (f := 38) (by simp) h1) hd q).2.1)]
      exact a3
  · rw [up_ad (k := aS s' + 7 + k) hd (d43 h1 hk) (by decide) rfl]
    exact a4 k hk q
theorem imax_e {a b : Int32} : imax a b = if a ≤ b then b else a := by
  by_cases c : a < b
  · have : a ≤ b := le_int.mpr (by rw [lt_int] at c; omega)
    rw [if_pos this]
    exact if_pos c
  · by_cases c2 : a ≤ b
    · have e : a = b := eq_int.mpr (by rw [lt_int] at c; rw [le_int] at c2; omega)
      rw [if_pos c2, e]
      exact ite_self _
    · rw [if_neg c2]
      exact if_neg c
/-- the end of a chain: delivered or lost -/
def enV' (v : Vt) (s : Nat) (ok : Int32) : Vt := if ok = 0 then (if v (aS s + 4) + 1 = 3 then bfV (upd (upd v (aS s + 3) (v (aS s + 3) + 1)) (aS s + 4) (v (aS s + 4) + 1)) s else upd (upd v (aS s + 3) (v (aS s + 3) + 1)) (aS s + 4) (v (aS s + 4) + 1)) else efV (upd (upd v (aS s + 2) (v (aS s + 2) + 1)) (aS s + 4) 0) s
theorem m_ends {M : Me} (h : RN N v sc cnt w) (hs : s < 4) : f_m_ends (sV M v) (nI s) ok = some (sV M (enV' v s ok)) := by
  have hS : aS s = 290 + 32 * s := rfl
  have h8 := h.iS.2.2.2.2.2.2.2.2.2.1
  have hg : ∀ k : Nat, k < 26 → ∀ y : Int32, y = nI k → gin (nI (290 + 32 * s) + y) 600 := fun k hk y hy => gx (k := 290 + 32 * s + k) (by rw [hy]; exact l_add _ _) (by omega) (by omega)
  unfold f_m_ends
  refine bs (sd s) ?_
  by_cases c : ok = 0
  · have eE : enV' v s ok = (if v (aS s + 4) + 1 = 3 then bfV (upd (upd v (aS s + 3) (v (aS s + 3) + 1)) (aS s + 4) (v (aS s + 4) + 1)) s else upd (upd v (aS s + 3) (v (aS s + 3) + 1)) (aS s + 4) (v (aS s + 4) + 1)) := if_pos c
    rw [eE]
    refine ip c (ip (hg 3 (by omega) _ rfl) (ip (hg 3 (by omega) _ rfl) ?_))
    rw [rx (k := 290 + 32 * s + 3) (by simp only [IXr]) (by omega)]
    refine bs (wx (k := 290 + 32 * s + 3) (by simp only [IXr]) (by omega)) (ip (hg 4 (by omega) _ rfl) (ip (hg 4 (by omega) _ rfl) ?_))
    rw [rx (k := 290 + 32 * s + 4) (by simp only [IXr]) (by omega), up_n (by omega)]
    refine bs (wx (k := 290 + 32 * s + 4) (by simp only [IXr]) (by omega)) (ip (hg 4 (by omega) _ rfl) ?_)
    rw [rx (k := 290 + 32 * s + 4) (by simp only [IXr]) (by omega), up_s]
    by_cases c3 : v (290 + 32 * s + 4) + 1 = 3
    · rw [show (if v (aS s + 4) + 1 = 3 then bfV (upd (upd v (aS s + 3) (v (aS s + 3) + 1)) (aS s + 4) (v (aS s + 4) + 1)) s else upd (upd v (aS s + 3) (v (aS s + 3) + 1)) (aS s + 4) (v (aS s + 4) + 1)) = bfV (upd (upd v (aS s + 3) (v (aS s + 3) + 1)) (aS s + 4) (v (aS s + 4) + 1)) s from if_pos c3]
      refine ip c3 (ip (hg 5 (by omega) _ rfl) ?_)
      rw [rx (k := 290 + 32 * s + 5) (by simp only [IXr]) (by omega), up_n (by omega), up_n (by omega)]
      have e5 : (upd (upd v (aS s + 3) (v (aS s + 3) + 1)) (aS s + 4) (v (aS s + 4) + 1)) (aS s + 5) = v (290 + 32 * s + 5) := by rw [up_n (by omega), up_n (by omega)]
      by_cases c5 : v (290 + 32 * s + 5) = 0
      · have eB : bfV (upd (upd v (aS s + 3) (v (aS s + 3) + 1)) (aS s + 4) (v (aS s + 4) + 1)) s = lgV (upd (upd (upd v (aS s + 3) (v (aS s + 3) + 1)) (aS s + 4) (v (aS s + 4) + 1)) (aS s + 5) 1) 3 (nI s) (-9) := if_pos (e5.trans c5)
        rw [eB]
        refine ip c5 (ip (hg 5 (by omega) _ rfl) (bs (wx (k := 290 + 32 * s + 5) (by simp only [IXr]) (by omega)) (bs (m_log ?_) rfl)))
        rw [up_n (by omega), up_n (by omega), up_n (by omega)]
        exact h8
      · have eB : bfV (upd (upd v (aS s + 3) (v (aS s + 3) + 1)) (aS s + 4) (v (aS s + 4) + 1)) s = upd (upd v (aS s + 3) (v (aS s + 3) + 1)) (aS s + 4) (v (aS s + 4) + 1) := if_neg (fun q => c5 (e5.symm.trans q))
        rw [eB]
        exact im c5 rfl
    · rw [show (if v (aS s + 4) + 1 = 3 then bfV (upd (upd v (aS s + 3) (v (aS s + 3) + 1)) (aS s + 4) (v (aS s + 4) + 1)) s else upd (upd v (aS s + 3) (v (aS s + 3) + 1)) (aS s + 4) (v (aS s + 4) + 1)) = upd (upd v (aS s + 3) (v (aS s + 3) + 1)) (aS s + 4) (v (aS s + 4) + 1) from if_neg c3]
      exact im c3 rfl
  · have eE : enV' v s ok = efV (upd (upd v (aS s + 2) (v (aS s + 2) + 1)) (aS s + 4) 0) s := if_neg c
    rw [eE]
    refine im c (ip (hg 2 (by omega) _ rfl) (ip (hg 2 (by omega) _ rfl) ?_))
    rw [rx (k := 290 + 32 * s + 2) (by simp only [IXr]) (by omega)]
    refine bs (wx (k := 290 + 32 * s + 2) (by simp only [IXr]) (by omega)) (ip (hg 4 (by omega) _ rfl) (bs (wx (k := 290 + 32 * s + 4) (by simp only [IXr]) (by omega)) (ip (hg 5 (by omega) _ rfl) ?_)))
    rw [rx (k := 290 + 32 * s + 5) (by simp only [IXr]) (by omega), up_n (by omega), up_n (by omega)]
    have e5 : (upd (upd v (aS s + 2) (v (aS s + 2) + 1)) (aS s + 4) 0) (aS s + 5) = v (290 + 32 * s + 5) := by rw [up_n (by omega), up_n (by omega)]
    by_cases c5 : v (290 + 32 * s + 5) = 1
    · have eB : efV (upd (upd v (aS s + 2) (v (aS s + 2) + 1)) (aS s + 4) 0) s = lgV (upd (upd (upd v (aS s + 2) (v (aS s + 2) + 1)) (aS s + 4) 0) (aS s + 5) 0) 4 (nI s) (-9) := if_pos (e5.trans c5)
      rw [eB]
      refine ip c5 (ip (hg 5 (by omega) _ rfl) (bs (wx (k := 290 + 32 * s + 5) (by simp only [IXr]) (by omega)) (bs (m_log ?_) rfl)))
      rw [up_n (by omega), up_n (by omega), up_n (by omega)]
      exact h8
    · have eB : efV (upd (upd v (aS s + 2) (v (aS s + 2) + 1)) (aS s + 4) 0) s = upd (upd v (aS s + 2) (v (aS s + 2) + 1)) (aS s + 4) 0 := if_neg (fun q => c5 (e5.symm.trans q))
      rw [eB]
      exact im c5 rfl
theorem c_ends {C : Me} {i : Nat} (h : RN N v sc cnt w) (hs : s < 4) (hw : w < 1073000000) : ∃ N', (if ok = 0 then (some (wI (sN C i N) 35 i s 0 (((sN C i N).1 35 i s 0) + (1 : Int32)))).bind fun M9 => (some (wI M9 36 i s 0 ((M9.1 36 i s 0) + (1 : Int32)))).bind fun M10 => if (M10.1 36 i s 0) = 3 then (f_nt_beginFallback M10 i i s).bind fun r12 => some r12 else some M10 else (some (wI (sN C i N) 34 i s 0 (((sN C i N).1 34 i s 0) + (1 : Int32)))).bind fun M13 => (some (wI M13 36 i s 0 0)).bind fun M14 => (f_nt_endFallback M14 i i s).bind fun r15 => some r15) = some (sN C i N') ∧ RN N' (enV' v s ok) sc cnt (w + 1) ∧ (∀ k, (k < 418 ∨ 516 ≤ k) ∨ enV' v s ok k = v k) ∧ enV' v s ok 0 = v 0 ∧ Ka v (enV' v s ok) := by
  have hS : aS s = 290 + 32 * s := rfl
  have d3 : ∀ f, (f = 34 ∨ f = 35 ∨ f = 36 ∨ f = 37) → dm f s 0 = true := fun f hf => dS (by omega) hs
  unfold enV'
  have e35 : N.1 35 s 0 = v (aS s + 3) := h.E 35 s 0 rfl (d3 35 (by simp))
  have e34 : N.1 34 s 0 = v (aS s + 2) := h.E 34 s 0 rfl (d3 34 (by simp))
  have e36 : N.1 36 s 0 = v (aS s + 4) := h.E 36 s 0 rfl (d3 36 (by simp))
  have lo : ∀ (W : Vt) k a r, (∀ j, (j < 418 ∨ 516 ≤ j) ∨ W j = v j) → W 0 = v 0 → (∀ j, (j < 418 ∨ 516 ≤ j) ∨ lgV W k a r j = v j) ∧ lgV W k a r 0 = v 0 := fun W k a r h1 h2 => ⟨fun j => by
    by_cases q : j < 418 ∨ 516 ≤ j
    · exact Or.inl q
    · refine Or.inr ?_
      rw [lgV_lo (by omega) (by omega)]
      exact (h1 j).resolve_left q, by rw [lgV_lo (by decide) (by decide)]; exact h2⟩
  by_cases c : ok = 0
  · rw [if_pos c, if_pos c]
    have h2 := RN_s (f := 36) (x := v (aS s + 4) + 1) (RN_s (f := 35) (x := v (aS s + 3) + 1) h (d3 35 (by simp)) (by simp)) (d3 36 (by simp)) (by simp)
    have ka : Ka v (upd (upd v (aS s + 3) (v (aS s + 3) + 1)) (aS s + 4) (v (aS s + 4) + 1)) := ((Ka.rf v).up (f := 35) (s' := s) (r' := 0) (d3 35 (by simp)) (by decide)).up (f := 36) (s' := s) (r' := 0) (d3 36 (by simp)) (by decide)
    have b2 : ∀ j, (j < 418 ∨ 516 ≤ j) ∨ upd (upd v (aS s + 3) (v (aS s + 3) + 1)) (aS s + 4) (v (aS s + 4) + 1) j = v j := fun j => by
      by_cases q : j < 418 ∨ 516 ≤ j
      · exact Or.inl q
      · exact Or.inr (by rw [up_n (by omega), up_n (by omega)])
    have b0 : upd (upd v (aS s + 3) (v (aS s + 3) + 1)) (aS s + 4) (v (aS s + 4) + 1) 0 = v 0 := by rw [up_n (by omega), up_n (by omega)]
    have h2 : RN (uN (uN N 35 s 0 (v (aS s + 3) + 1)) 36 s 0 (v (aS s + 4) + 1)) (upd (upd v (aS s + 3) (v (aS s + 3) + 1)) (aS s + 4) (v (aS s + 4) + 1)) sc cnt w := h2
    have pre : ∀ o, (if v (aS s + 4) + 1 = 3 then (f_nt_beginFallback (sN C i (uN (uN N 35 s 0 (v (aS s + 3) + 1)) 36 s 0 (v (aS s + 4) + 1))) i i s).bind fun r12 => some r12 else some (sN C i (uN (uN N 35 s 0 (v (aS s + 3) + 1)) 36 s 0 (v (aS s + 4) + 1)))) = o → ((some (wI (sN C i N) 35 i s 0 (((sN C i N).1 35 i s 0) + (1 : Int32)))).bind fun M9 => (some (wI M9 36 i s 0 ((M9.1 36 i s 0) + (1 : Int32)))).bind fun M10 => if (M10.1 36 i s 0) = 3 then (f_nt_beginFallback M10 i i s).bind fun r12 => some r12 else some M10) = o := fun o q => by
      refine bs (x := sN C i (uN N 35 s 0 (v (aS s + 3) + 1))) (by rw [rdN (by decide), wrN (by decide), e35]) (bs (x := sN C i (uN (uN N 35 s 0 (v (aS s + 3) + 1)) 36 s 0 (v (aS s + 4) + 1))) (by rw [rdN (by decide), wrN (by decide), uN_f (by decide), e36]) ?_)
      rw [rdN (by decide), uN_s]
      exact q
    by_cases c3 : v (aS s + 4) + 1 = 3
    · rw [if_pos c3] at pre ⊢
      refine ⟨_, pre _ (bs (c_bf h2 hs (by omega)) rfl), RN_bf h2 hs (by omega), ?_, ?_, ?_⟩
      · unfold bfV
        split
        · exact (lo _ _ _ _ (fun j => by
            by_cases q : j < 418 ∨ 516 ≤ j
            · exact Or.inl q
            · exact Or.inr (by rw [up_n (by omega)]; exact (b2 j).resolve_left q)) (by rw [up_n (by omega)]; exact b0)).1
        · exact b2
      · unfold bfV
        split
        · rw [lgV_lo (by decide) (by decide), up_n (by omega)]
          exact b0
        · exact b0
      · unfold bfV
        split
        · exact Ka_log (ka.up (f := 37) (s' := s) (r' := 0) (d3 37 (by simp)) (by decide))
        · exact ka
    · rw [if_neg c3] at pre ⊢
      exact ⟨_, pre _ rfl, RN_m h2 (by omega), b2, b0, ka⟩
  · rw [if_neg c, if_neg c]
    have h2 : RN (uN (uN N 34 s 0 (v (aS s + 2) + 1)) 36 s 0 0) (upd (upd v (aS s + 2) (v (aS s + 2) + 1)) (aS s + 4) 0) sc cnt w := RN_s (f := 36) (x := 0) (RN_s (f := 34) (x := v (aS s + 2) + 1) h (d3 34 (by simp)) (by simp)) (d3 36 (by simp)) (by simp)
    have ka : Ka v (upd (upd v (aS s + 2) (v (aS s + 2) + 1)) (aS s + 4) 0) := ((Ka.rf v).up (f := 34) (s' := s) (r' := 0) (d3 34 (by simp)) (by decide)).up (f := 36) (s' := s) (r' := 0) (d3 36 (by simp)) (by decide)
    have b2 : ∀ j, (j < 418 ∨ 516 ≤ j) ∨ upd (upd v (aS s + 2) (v (aS s + 2) + 1)) (aS s + 4) 0 j = v j := fun j => by
      by_cases q : j < 418 ∨ 516 ≤ j
      · exact Or.inl q
      · exact Or.inr (by rw [up_n (by omega), up_n (by omega)])
    have b0 : upd (upd v (aS s + 2) (v (aS s + 2) + 1)) (aS s + 4) 0 0 = v 0 := by rw [up_n (by omega), up_n (by omega)]
    refine ⟨_, bs (x := sN C i (uN N 34 s 0 (v (aS s + 2) + 1))) (by rw [rdN (by decide), wrN (by decide), e34]) (bs (x := sN C i (uN (uN N 34 s 0 (v (aS s + 2) + 1)) 36 s 0 0)) (by rw [wrN (by decide)]) (bs (c_ef h2 hs (by omega)) rfl)), RN_ef h2 hs (by omega), ?_, ?_, ?_⟩
    · unfold efV
      split
      · exact (lo _ _ _ _ (fun j => by
          by_cases q : j < 418 ∨ 516 ≤ j
          · exact Or.inl q
          · exact Or.inr (by rw [up_n (by omega)]; exact (b2 j).resolve_left q)) (by rw [up_n (by omega)]; exact b0)).1
      · exact b2
    · unfold efV
      split
      · rw [lgV_lo (by decide) (by decide), up_n (by omega)]
        exact b0
      · exact b0
    · unfold efV
      split
      · exact Ka_log (ka.up (f := 37) (s' := s) (r' := 0) (d3 37 (by simp)) (by decide))
      · exact ka
end L56
