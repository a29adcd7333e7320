/-! queues -/
theorem RN_q {N N' : Nt} {v v' : Vt} {s sc cnt w : Nat} (h : RN N v sc cnt w) (hs : s < 4) (hN : ∀ f a b, ¬ (f = 31 ∧ a = s ∧ b = 0) → ¬ (f = 43 ∧ a = s) → N'.1 f a b = N.1 f a b) (hN2 : N'.2 = N.2) (hv : ∀ k, (k < aS s + 6 ∨ aS s + 15 ≤ k) → v' k = v k) (h31 : N'.1 31 s 0 = v' (aS s + 6)) (hl : wi 0 (v' (aS s + 6)) 8) (hq : ∀ k : Nat, k < 8 → (k : Int) < (v' (aS s + 6)).toInt → N'.1 43 s k = v' (aS s + 7 + k) ∧ wi 1 (v' (aS s + 7 + k)) 4000) : RN N' v' sc cnt w := by
  have hlt := h.lt
  have hS : aS s = 290 + 32 * s := rfl
  have lo : ∀ k, k < 296 → v' k = v k := fun k hk => hv k (by omega)
  have hi : ∀ k, 410 ≤ k → v' k = v k := fun k hk => hv k (by omega)
  have hNf : ∀ f a b, f ≠ 31 → f ≠ 43 → N'.1 f a b = N.1 f a b := fun f a b h1 h2 => hN f a b (fun q => h1 q.1) (fun q => h2 q.1)
  have hsv : ∀ s' j, s' < 4 → j < 32 → (s' ≠ s ∨ j < 6 ∨ 15 ≤ j) → v' (aS s' + j) = v (aS s' + j) := fun s' j h1 h2 h3 => hv _ (by show 290 + 32 * s' + j < 290 + 32 * s + 6 ∨ 290 + 32 * s + 15 ≤ 290 + 32 * s' + j; omega)
  refine ⟨⟨?_, ?_, ?_, ?_, ?_, ?_, ?_, ?_, ?_, ?_, ?_⟩, ?_⟩
  · intro f a b h1 h2
    by_cases e : f = 31 ∧ a = s
    · obtain ⟨rfl, rfl⟩ := e
      have e0 : b = 0 := by simp [dm] at h2; omega
      subst e0
      exact h31
    · have h43 : f ≠ 43 := fun q => by subst q; cases h1
      rw [hN f a b (fun q => e ⟨q.1, q.2.1⟩) (fun q => h43 q.1)]
      have hne : ad f a b < aS s + 6 ∨ aS s + 15 ≤ ad f a b := by
        by_cases z : ad f a b < aS s + 6 ∨ aS s + 15 ≤ ad f a b
        · exact z
        · exfalso
          by_cases z6 : ad f a b = aS s + 6
          · obtain ⟨q1, q2, -⟩ := ad_inj (f' := 31) (s' := s) (r' := 0) h2 (dS (by simp) hs) z6
            exact e ⟨q1, q2⟩
          · obtain ⟨q1, -, -⟩ := ad_inj (f' := 43) (s' := s) (r' := ad f a b - (aS s + 7)) h2 (d43 hs (by omega)) (by show ad f a b = aS s + 7 + (ad f a b - (aS s + 7)); omega)
            exact h43 q1
      rw [hv _ hne]
      exact h.E f a b h1 h2
  · intro s' r' h1 h2
    have hP := aP_lt h1 h2
    rw [hNf _ _ _ (by decide) (by decide), hNf _ _ _ (by decide) (by decide), hNf _ _ _ (by decide) (by decide), lo _ (by omega), lo _ (by omega), lo _ (by omega), lo _ (by omega)]
    exact h.L s' r' h1 h2
  · intro s' h1
    have q := h.T s' h1
    have e22 : ∀ k, k < 3 → v' (aS s' + 22 + k) = v (aS s' + 22 + k) := fun k hk => by
      have := hsv s' (22 + k) h1 (by omega) (by omega)
      rw [← Nat.add_assoc] at this
      exact this
    rw [hNf _ _ _ (by decide) (by decide), hN2, hsv s' 17 h1 (by omega) (by omega), hsv s' 16 h1 (by omega) (by omega)]
    refine ⟨fun z => ?_, fun z => ?_⟩
    · obtain ⟨a1, a2, a3⟩ := q.1 z
      exact ⟨a1, fun k hk => by rw [hNf _ _ _ (by decide) (by decide), e22 k hk]; exact a2 k hk, a3⟩
    · obtain ⟨a1, a2⟩ := q.2 z
      exact ⟨a1, fun k hk => by rw [hNf _ _ _ (by decide) (by decide)]; exact a2 k hk⟩
  · intro s' k h1 h2 h3
    by_cases e : s' = s
    · subst e
      exact (hq k h2 h3).1
    · have e7 : v' (aS s' + 7 + k) = v (aS s' + 7 + k) := by
        have := hsv s' (7 + k) h1 (by omega) (Or.inl e)
        rw [← Nat.add_assoc] at this
        exact this
      rw [hsv s' 6 h1 (by omega) (Or.inl e)] at h3
      rw [hN _ _ _ (by omega) (fun q => e q.2), e7]
      exact h.Q s' k h1 h2 h3
  · intro c h1 h2
    have hO : aO c = 420 + 16 * c := rfl
    rw [hi _ (by omega)] at h2
    rw [hNf _ _ _ (by decide) (by decide), hi _ (by omega), hi _ (by omega), hi _ (by omega)]
    exact h.K c h1 h2
  · intro r hr
    rw [hNf _ _ _ (by decide) (by decide), h.M r hr]
    show nI (airN (tN (v (10 + r))) (tN (v (18 + r))) 1200) = nI (airN (tN (v' (10 + r))) (tN (v' (18 + r))) 1200)
    rw [lo _ (by omega), lo _ (by omega)]
  · refine ⟨h.iR.1, by rw [lo _ (by omega)]; exact h.iR.2.1, fun r hr => ?_⟩
    rw [lo _ (by omega), lo _ (by omega)]
    exact h.iR.2.2 r hr
  · unfold IS
    rw [lo 2 (by omega), lo 3 (by omega), lo 4 (by omega), lo 5 (by omega), lo 6 (by omega), lo 0 (by omega), lo 7 (by omega), lo 8 (by omega)]
    exact h.iS
  · intro s' r' h1 h2
    have hP := aP_lt h1 h2
    rw [lo _ (by omega), lo _ (by omega), lo _ (by omega), lo _ (by omega), lo _ (by omega)]
    exact h.iL s' r' h1 h2
  · intro s' h1
    obtain ⟨a1, a2, a3, a4⟩ := h.iT s' h1
    by_cases e : s' = s
    · subst e
      rw [hsv s' 5 h1 (by omega) (by omega), hsv s' 15 h1 (by omega) (by omega)]
      exact ⟨a1, hl, a3, fun k h2 h3 => (hq k h2 h3).2⟩
    · rw [hsv s' 5 h1 (by omega) (by omega), hsv s' 6 h1 (by omega) (Or.inl e), hsv s' 15 h1 (by omega) (by omega)]
      refine ⟨a1, a2, a3, fun k h2 h3 => ?_⟩
      have e7 : v' (aS s' + 7 + k) = v (aS s' + 7 + k) := by
        have := hsv s' (7 + k) h1 (by omega) (Or.inl e)
        rw [← Nat.add_assoc] at this
        exact this
      rw [e7]
      exact a4 k h2 h3
  · intro c h1
    have hO : aO c = 420 + 16 * c := rfl
    obtain ⟨a1, a2⟩ := h.iC c h1
    rw [hi _ (by omega), hi _ (by omega), hi _ (by omega), hi _ (by omega)]
    refine ⟨a1, fun z => ?_⟩
    obtain ⟨b1, b2, b3, b4, b5⟩ := a2 z
    refine ⟨b1, b2, b3, b4, fun k hk => ?_⟩
    rw [hi _ (by omega), hi _ (by omega)]
    exact b5 k hk
  · intro t ht
    obtain ⟨a1, a2⟩ := h.2 t ht
    have e18 : ∀ k, k < 4 → v' (aS t + 18 + k) = v (aS t + 18 + k) := fun k hk => by
      have := hsv t (18 + k) (by omega) (by omega) (by omega)
      rw [← Nat.add_assoc] at this
      exact this
    refine ⟨fun k hk => by rw [hNf _ _ _ (by decide) (by decide), e18 k hk]; exact a1 k hk, fun z k hk => ?_⟩
    rw [e18 k hk]
    refine a2 ?_ k hk
    obtain ⟨r, z1, z2⟩ := z
    have hP := aP_lt (show t < 4 by omega) (show r < 8 by omega)
    refine ⟨r, z1, ?_⟩
    unfold al at z2 ⊢
    rw [lo _ (by omega)] at z2
    exact z2
/-- the reference's queue behind n moves -/
def shV (v : Vt) (s : Nat) : Nat → Vt
  | 0 => v
  | n + 1 => upd (shV v s n) (aS s + 7 + n) (v (aS s + 7 + n + 1))
theorem shV_o {v : Vt} {s k : Nat} : ∀ n, (k < aS s + 7 ∨ aS s + 7 + n ≤ k) → shV v s n k = v k
  | 0, _ => rfl
  | n + 1, h => by
    show upd (shV v s n) (aS s + 7 + n) (v (aS s + 7 + n + 1)) k = v k
    rw [up_n (by omega)]
    exact shV_o n (by omega)
theorem shV_i {v : Vt} {s k : Nat} : ∀ n, k < n → shV v s n (aS s + 7 + k) = v (aS s + 7 + k + 1)
  | 0, h => absurd h (by omega)
  | n + 1, h => by
    show upd (shV v s n) (aS s + 7 + n) (v (aS s + 7 + n + 1)) (aS s + 7 + k) = _
    by_cases e : k = n
    · subst e
      rw [up_s]
    · rw [up_n (by omega)]
      exact shV_i n (by omega)
section L60
variable {C M : Me} {i : Nat} {N : Nt} {v : Vt} {sc cnt w s c z : Nat}
theorem s_take {x : Int32} (h : RN N v sc cnt w) (hs : s < sc) (hr : 0 < (v (aS s + 6)).toInt) : ∃ z N1 v1, (1 ≤ z ∧ z ≤ 4000) ∧ f_st_takeFrame (sN C i N) i s = some (nI z, sN C i N1) ∧ v (aS s + 7) = nI z ∧ lp FU (b_m_dispatch_154 (nI (290 + 32 * s)) x) (0, sV M (upd v (290 + 32 * s + 6) (v (290 + 32 * s + 6) - 1))) = some (sV M v1) ∧ RN N1 v1 sc cnt w ∧ (∀ k, (k < aS s + 6 ∨ aS s + 15 ≤ k) → v1 k = v k) := by
  have hl := h.lt
  have hs4 : s < 4 := by omega
  have hS : aS s = 290 + 32 * s := rfl
  obtain ⟨-, a2, -, a4⟩ := h.iT s hs4
  obtain ⟨l, hl6, hl1, hl8⟩ : ∃ l, v (aS s + 6) = nI (l + 1) ∧ l < 8 ∧ (v (aS s + 6)).toInt = (l : Int) + 1 := by
    have e := tN_int a2.1
    refine ⟨tN (v (aS s + 6)) - 1, ?_, by omega, by omega⟩
    rw [show tN (v (aS s + 6)) - 1 + 1 = tN (v (aS s + 6)) by omega]
    exact nn_eq a2.1
  have q0 := a4 0 (by omega) (by omega)
  rw [Nat.add_zero] at q0
  have e0 := tN_int (x := v (aS s + 7)) (by omega)
  have ez : v (aS s + 7) = nI (tN (v (aS s + 7))) := nn_eq (by omega)
  have eN0 : N.1 43 s 0 = v (aS s + 7) := h.Q s 0 hs4 (by omega) (by omega)
  have e31 : N.1 31 s 0 = nI (l + 1) := (h.E 31 s 0 rfl (dS (by simp) hs4)).trans hl6
  have ed : nI (l + 1) - (1 : Int32) = nI l := nI_sb (b := 1) (by omega)
  have em : imax 0 (nI l) = nI l := by
    rw [imax_e]
    exact if_pos (by rw [le_int, z_0, nI_i (by omega)]; omega)
  have vb : ∀ k, shV (upd v (aS s + 6) (nI l)) s l k = if aS s + 7 ≤ k ∧ k < aS s + 7 + l then v (k + 1) else if k = aS s + 6 then nI l else v k := fun k => by
    by_cases c1 : aS s + 7 ≤ k ∧ k < aS s + 7 + l
    · rw [if_pos c1]
      have := shV_i (v := upd v (aS s + 6) (nI l)) (s := s) (k := k - (aS s + 7)) l (by omega)
      rw [show aS s + 7 + (k - (aS s + 7)) = k by omega] at this
      rw [this, up_n (by omega)]
    · rw [if_neg c1, shV_o l (by omega)]
      by_cases c2 : k = aS s + 6
      · rw [if_pos c2, c2, up_s]
      · rw [if_neg c2, up_n c2]
  refine ⟨tN (v (aS s + 7)), uN (uC N 43 s (fun k => N.1 43 s k) 1 0 7) 31 s 0 (nI l), shV (upd v (aS s + 6) (nI l)) s l, ⟨by omega, by omega⟩, ?_, ez, ?_, ?_, fun k hk => ?_⟩
  · unfold f_st_takeFrame
    have eg : (fun k => (sN C i N).1 43 i s k) = fun k => N.1 43 s k := funext fun k => rdN (by decide)
    have e31c : (sN C i (uC N 43 s (fun k => N.1 43 s k) 1 0 7)).1 31 i s 0 = nI (l + 1) := by
      rw [rdN (by decide)]
      exact e31
    rw [eg]
    refine bs (x := sN C i (uC N 43 s (fun k => N.1 43 s k) 1 0 7)) (by rw [wrC (by decide)]) ?_
    rw [e31c, ed, em]
    refine bs (x := sN C i (uN (uC N 43 s (fun k => N.1 43 s k) 1 0 7) 31 s 0 (nI l))) (by rw [wrN (by decide)]) ?_
    rw [t_0, rdN (by decide), eN0, ← ez]
  · rw [show v (290 + 32 * s + 6) = nI (l + 1) from hl6, ed]
    refine lp_n (fun k => (nI k, sV M (shV (upd v (aS s + 6) (nI l)) s k))) l (lt_FU (by omega)) (fun k hk => ?_) ?_
    · have e6 : shV (upd v (aS s + 6) (nI l)) s k (290 + 32 * s + 6) = nI l := by rw [shV_o k (by omega)]; exact up_s
      have e7 : shV (upd v (aS s + 6) (nI l)) s k (290 + 32 * s + 7 + k + 1) = upd v (aS s + 6) (nI l) (aS s + 7 + k + 1) := shV_o k (by omega)
      unfold b_m_dispatch_154
      refine ip (gx (k := 290 + 32 * s + 6) (by simp only [IXr]) (by omega) (by omega)) ?_
      show (if (sV M (shV (upd v (aS s + 6) (nI l)) s k)).1 100 0 0 (tN (nI (290 + 32 * s) + (6 : Int32))) ≤ nI k then _ else _) = _
      rw [rx (k := 290 + 32 * s + 6) (by simp only [IXr]) (by omega), e6]
      refine im (nle hk (by omega)) (ip (gx (k := 290 + 32 * s + 7 + k + 1) (by simp only [IXr, l_add]) (by omega) (by omega)) (ip (gx (k := 290 + 32 * s + 7 + k) (by simp only [IXr, l_add]) (by omega) (by omega)) ?_))
      show (some (wI (sV M (shV (upd v (aS s + 6) (nI l)) s k)) 100 0 0 (tN ((nI (290 + 32 * s) + (7 : Int32)) + nI k)) ((sV M (shV (upd v (aS s + 6) (nI l)) s k)).1 100 0 0 (tN (((nI (290 + 32 * s) + (7 : Int32)) + nI k) + (1 : Int32)))))).bind _ = _
      rw [rx (k := 290 + 32 * s + 7 + k + 1) (by simp only [IXr, l_add]) (by omega), e7]
      refine bs (wx (k := 290 + 32 * s + 7 + k) (by simp only [IXr, l_add]) (by omega)) ?_
      simp only [↓ob, IXr]
      rfl
    · have e6 : shV (upd v (aS s + 6) (nI l)) s l (290 + 32 * s + 6) = nI l := by rw [shV_o l (by omega)]; exact up_s
      unfold b_m_dispatch_154
      refine ip (gx (k := 290 + 32 * s + 6) (by simp only [IXr]) (by omega) (by omega)) ?_
      show (if (sV M (shV (upd v (aS s + 6) (nI l)) s l)).1 100 0 0 (tN (nI (290 + 32 * s) + (6 : Int32))) ≤ nI l then _ else _) = _
      rw [rx (k := 290 + 32 * s + 6) (by simp only [IXr]) (by omega), e6]
      exact ip (nle_s (by omega)) rfl
  · have e6 : shV (upd v (aS s + 6) (nI l)) s l (aS s + 6) = nI l := by rw [shV_o l (by omega)]; exact up_s
    have e43 : ∀ k, k < 7 → (uN (uC N 43 s (fun k => N.1 43 s k) 1 0 7) 31 s 0 (nI l)).1 43 s k = N.1 43 s (k + 1) := fun k hk => by
      rw [uN_f (by decide)]
      show (if 43 = 43 ∧ s = s then va_cpy (fun k => N.1 43 s k) (N.1 43 s) 1 0 7 k else N.1 43 s k) = _
      rw [if_pos ⟨rfl, rfl⟩]
      unfold va_cpy
      rw [if_pos ⟨by omega, by omega⟩, show 1 + (k - 0) = k + 1 by omega]
    refine RN_q h hs4 (fun f a b h1 h2 => ?_) rfl (fun k hk => ?_) (by rw [uN_s, e6]) (by rw [e6]; exact wi_n (by omega) ⟨by omega, by omega⟩) (fun k hk hk2 => ?_)
    · rw [uN_n h1]
      show (if f = 43 ∧ a = s then va_cpy (fun k => N.1 43 s k) (N.1 43 s) 1 0 7 b else N.1 f a b) = _
      rw [if_neg h2]
    · rw [vb, if_neg (by omega), if_neg (by omega)]
    · rw [e6, nI_i (by omega)] at hk2
      rw [e43 k (by omega), vb, if_pos ⟨by omega, by omega⟩]
      have q1 := h.Q s (k + 1) hs4 (by omega) (by omega)
      have q2 := a4 (k + 1) (by omega) (by omega)
      rw [← Nat.add_assoc] at q1 q2
      exact ⟨q1, q2⟩
  · rw [vb, if_neg (by omega), if_neg (by omega)]
/-- a frame out of the queues: both sides, behind the act -/
theorem s_disp (h : RN N v sc cnt w) (ha : anR v sc cnt) (hf : frC v = some c) : ∃ N' v', ((f_nt_chooseByDeficit (sN C i N) i).bind fun r6 => (r6.1).elim (some ((-9 : Int32), r6.2)) (fun p7 => (f_st_takeFrame r6.2 p7.1 p7.2).bind fun r8 => (f_nt_openChain r8.2 i p7.1 p7.2 r8.1).bind fun r9 => some (r9.1, r9.2))) = some (nI c, sN C i N') ∧ ((lp FU b_m_dispatch_28 (0, sV M v)).bind fun e33 => (f_m_side (e33.1 100 0 0 (tN 7))).bind fun r34 => if gin (r34 + (7 : Int32)) 600 then if gin (r34 + (6 : Int32)) 600 then if gin (r34 + (6 : Int32)) 600 then (some (wI e33 100 0 0 (tN (r34 + (6 : Int32))) ((e33.1 100 0 0 (tN (r34 + (6 : Int32)))) - (1 : Int32)))).bind fun M38 => (lp FU (b_m_dispatch_154 r34 (e33.1 100 0 0 (tN (r34 + (7 : Int32))))) (0, M38)).bind fun e46 => (f_m_lays e46 (e46.1 100 0 0 (tN 7)) (e33.1 100 0 0 (tN (r34 + (7 : Int32))))).bind fun r47 => some (r47.1, r47.2) else none else none else none) = some (nI c, sV M v') ∧ RN N' v' sc cnt w := by
  have hl := h.lt
  obtain ⟨ss, hss, hrd⟩ := ha
  obtain ⟨-, -, -, -, -, -, -, h7a, h7b, -⟩ := h.iS
  have e7 := tN_int h7a
  have hnd : ndD (v (aS ss + 15)).toInt ≤ 251 := by
    have := (h.iT ss (by omega)).2.2.1
    unfold ndD
    split <;> omega
  have hds : dsT (tN (v 7)) ss sc ≤ 3 := by
    unfold dsT
    split <;> omega
  obtain ⟨s, N1, v1, hs, r1, p1, p2, h1, h17, f1⟩ := s_choose (C := C) (M := M) (i := i) (ss := ss) 1007 0 N v FU (tN (v 7)) h (nn_eq h7a) (by omega) hss hrd (by omega) (lt_FU (by omega)) (by omega)
  have hS : aS s = 290 + 32 * s := rfl
  obtain ⟨z, N2, v2, hz, t1, t2, t3, h2, f2⟩ := s_take (C := C) (M := M) (i := i) (x := v1 (290 + 32 * s + 7)) h1 hs r1.1
  have ha2 : hA v2 s cnt := hA_c (by omega) hl.2 (fun r hr => f2 _ (by have := aP_lt (show s < 4 by omega) hr; omega)) r1.2
  have hf2 : frC v2 = some c := by
    have e : ∀ d k, k + d ≤ 6 → fc v2 d k = fc v d k := by
      intro d
      induction d with
      | zero => intro k _; rfl
      | succ d ih =>
        intro k hk
        have ek : v2 (aO k) = v (aO k) := by
          have hO : aO k = 420 + 16 * k := rfl
          rw [f2 _ (by omega), f1 _ (by omega) (fun s' hs' => by show 420 + 16 * k ≠ 290 + 32 * s' + 15; omega)]
        by_cases q : v (aO k) = 0
        · rw [fc_t q, fc_t (ek.trans q)]
        · rw [fc_f q, fc_f (fun y => q (ek.symm.trans y))]
          exact ih (k + 1) (by omega)
    have : frC v2 = frC v := e 6 0 (by omega)
    rw [this, hf]
  obtain ⟨N3, v3, l1, l2, l3, -⟩ := s_lays (C := C) (M := M) (i := i) h2 hs ha2 hf2 hz
  refine ⟨N3, v3, ?_, ?_, l3⟩
  · refine bs (x := (some (i, s), sN C i N1)) ?_ ?_
    · unfold f_nt_chooseByDeficit
      exact bs p1 rfl
    · show ((some (i, s)).elim _ _) = _
      rw [oe]
      exact bs t1 (bs l1 rfl)
  · refine bs p2 ?_
    rw [t_7, rdV, h17]
    refine bs (sd s) (ip (gx (k := 290 + 32 * s + 7) (by simp only [IXr]) (by omega) (by omega)) (ip (gx (k := 290 + 32 * s + 6) (by simp only [IXr]) (by omega) (by omega)) (ip (gx (k := 290 + 32 * s + 6) (by simp only [IXr]) (by omega) (by omega)) ?_)))
    rw [rx (x := nI (290 + 32 * s) + (7 : Int32)) (k := 290 + 32 * s + 7) (by simp only [IXr]) (by omega), rx (x := nI (290 + 32 * s) + (6 : Int32)) (k := 290 + 32 * s + 6) (by simp only [IXr]) (by omega)]
    refine bs (wx (k := 290 + 32 * s + 6) (by simp only [IXr]) (by omega)) (bs t3 ?_)
    rw [rdV, f2 7 (by omega), h17, show v1 (290 + 32 * s + 7) = nI z from t2]
    exact bs l2 rfl
/-- a frame into a queue -/
theorem s_enq (h : RN N v sc cnt w) (hs : s < sc) (hz : 1 ≤ z ∧ z ≤ 4000) {l : Nat} (hl6 : v (aS s + 6) = nI l) (hl8 : l < 8) : ∃ N', f_st_appendFrame (sN C i N) i s (nI z) = some (nI (l + 1), sN C i N') ∧ RN N' (upd (upd v (aS s + 7 + l) (nI z)) (aS s + 6) (nI (l + 1))) sc cnt w := by
  have hlt := h.lt
  have hs4 : s < 4 := by omega
  have hS : aS s = 290 + 32 * s := rfl
  obtain ⟨-, -, -, a4⟩ := h.iT s hs4
  have e31 : (sN C i N).1 31 i s 0 = nI l := by rw [rdN (by decide)]; exact (h.E 31 s 0 rfl (dS (by simp) hs4)).trans hl6
  have e31b : (sN C i (uN N 43 s l (nI z))).1 31 i s 0 = nI l := by rw [rdN (by decide), uN_f (by decide)]; exact (h.E 31 s 0 rfl (dS (by simp) hs4)).trans hl6
  refine ⟨uN (uN N 43 s l (nI z)) 31 s 0 (nI (l + 1)), ?_, ?_⟩
  · unfold f_st_appendFrame
    rw [e31]
    refine im (nI_pos (show l < 2 ^ 31 by omega)) (ip (show nI l < (8 : Int32) from (nI_lt' (b := 8) (by omega) (by omega)).mpr hl8) (ip (gin_nI (by omega) (by omega)) (bs (x := sN C i (uN N 43 s l (nI z))) (by rw [tN_nI (by omega), wrN (by decide)]) ?_)))
    rw [e31b, nI_1]
    refine bs (x := sN C i (uN (uN N 43 s l (nI z)) 31 s 0 (nI (l + 1)))) (by rw [wrN (by decide)]) ?_
    rw [rdN (by decide), uN_s]
  · refine RN_q h hs4 (fun f a b h1 h2 => ?_) rfl (fun k hk => ?_) (by rw [uN_s, up_s]) (by rw [up_s]; exact wi_n (by omega) ⟨by omega, by omega⟩) (fun k hk hk2 => ?_)
    · rw [uN_n h1, uN_n (fun q => h2 ⟨q.1, q.2.1⟩)]
    · rw [up_n (by omega), up_n (by omega)]
    · rw [up_s, nI_i (by omega)] at hk2
      rw [uN_f (by decide), up_n (by omega)]
      by_cases e : k = l
      · subst e
        rw [uN_s, up_s]
        exact ⟨rfl, wi_n (by omega) ⟨by omega, by omega⟩⟩
      · rw [uN_n (by omega), up_n (by omega)]
        have hlt2 : (k : Int) < (v (aS s + 6)).toInt := by rw [hl6, nI_i (by omega)]; omega
        exact ⟨h.Q s k hs4 hk hlt2, a4 k hk hlt2⟩
end L60
