/-! a rate is added -/
section L64
variable {C M : Me} {i : Nat} {N : Nt} {v : Vt} {sc cnt w s r : Nat}
theorem bgs_up {a : Nat} {x : Int32} (ha : 286 ≤ a) (hr : r < 8) : ∀ d k, k + d ≤ 4 → bgs (upd v a x) r k d = upd (bgs v r k d) a x
  | 0, _, _ => rfl
  | d + 1, k, hk => by
    have hP := aP_lt (show k < 4 by omega) hr
    show bgV (bgs (upd v a x) r (k + 1) d) k r = upd (bgV (bgs v r (k + 1) d) k r) a x
    rw [bgs_up ha hr d (k + 1) (by omega)]
    unfold bgV
    rw [up_c (a := a) (b := aP k r) (by omega), up_c (a := a) (b := aP k r + 1) (by omega), up_c (a := a) (b := aP k r + 7) (by omega)]
theorem bg_bg {a k : Nat} (h : a ≠ k) (hr : r < 8) : bgV (bgV v a r) k r = bgV (bgV v k r) a r := by
  have h1 : aP a r = 30 + 8 * (8 * a + r) := rfl
  have h2 : aP k r = 30 + 8 * (8 * k + r) := rfl
  unfold bgV
  rw [up_c (a := aP a r + 7) (b := aP k r) (by omega), up_c (a := aP a r + 1) (b := aP k r) (by omega), up_c (a := aP a r) (b := aP k r) (by omega), up_c (a := aP a r + 7) (b := aP k r + 1) (by omega), up_c (a := aP a r + 1) (b := aP k r + 1) (by omega), up_c (a := aP a r) (b := aP k r + 1) (by omega), up_c (a := aP a r + 7) (b := aP k r + 7) (by omega), up_c (a := aP a r + 1) (b := aP k r + 7) (by omega), up_c (a := aP a r) (b := aP k r + 7) (by omega)]
theorem bgs_bg {a : Nat} (hr : r < 8) : ∀ d k, a < k → bgs (bgV v a r) r k d = bgV (bgs v r k d) a r
  | 0, _, _ => rfl
  | d + 1, k, hk => by
    show bgV (bgs (bgV v a r) r (k + 1) d) k r = bgV (bgV (bgs v r (k + 1) d) k r) a r
    rw [bgs_bg hr d (k + 1) (by omega), bg_bg (by omega) hr]
theorem RE_bgs (hr : r < 8) (h : RE N v) : ∀ d k, k + d ≤ 4 → RE N (bgs v r k d)
  | 0, _, _ => h
  | d + 1, k, hk => RE_bg (RE_bgs hr h d (k + 1) (by omega)) (by omega) hr
theorem IL_bgs (hr : r < 8) (h : IL v w) : ∀ d k, k + d ≤ 4 → IL (bgs v r k d) w
  | 0, _, _ => h
  | d + 1, k, hk => IL_bg (IL_bgs hr h d (k + 1) (by omega)) hr
theorem RLb_bgs {B : Nat → Nat → Prop} (hr : r < 8) (h : RLb N v B) (hB : ∀ s, ¬ B s r) : ∀ d k, k + d ≤ 4 → RLb N (bgs v r k d) (fun a b => B a b ∨ (k ≤ a ∧ a < k + d ∧ b = r))
  | 0, k, _ => fun a b h1 h2 => by
    obtain ⟨q1, q2⟩ := h a b h1 h2
    exact ⟨fun z => q1 (z.resolve_right (by omega)), fun z => q2 (fun y => z (Or.inl y))⟩
  | d + 1, k, hk => fun a b h1 h2 => by
    have ih := RLb_bgs hr h hB d (k + 1) (by omega)
    have q := RLb_bg (s := k) ih (by omega) hr (fun z => z.elim (hB k) (fun y => by omega)) a b h1 h2
    refine ⟨fun z => q.1 ?_, fun z => q.2 (fun y => z ?_)⟩
    · rcases z with z | z
      · exact Or.inl (Or.inl z)
      · by_cases e : a = k
        · exact Or.inr ⟨e, z.2.2⟩
        · exact Or.inl (Or.inr ⟨by omega, by omega, z.2.2⟩)
    · rcases y with (y | y) | y
      · exact Or.inl y
      · exact Or.inr ⟨by omega, by omega, y.2.2⟩
      · exact Or.inr ⟨by omega, by omega, y.2⟩
theorem fR_Al {v' : Vt} (h : Al v v' s) (h8 : cnt ≤ 8) : fR v' s cnt = upd (upd (upd (upd v' (aS s + 18) (oI (bS v s none 0 cnt))) (aS s + 18 + 1) (oI (sS v s cnt))) (aS s + 18 + 2) (oI (zS v s cnt))) (aS s + 18 + 3) (oI (wS v s cnt)) := by
  unfold fR
  rw [l_bS h none 0 cnt h8, l_sS h h8, l_zS h h8, l_wS h cnt h8]
theorem bgs_fR {k d : Nat} (hk : k + 1 + d ≤ 4) (hr : r < 8) (h8 : cnt ≤ 8) : bgs (fR (bgV v k r) k cnt) r (k + 1) d = fR (bgV (bgs v r (k + 1) d) k r) k cnt := by
  have hS : aS k = 290 + 32 * k := rfl
  have hA : Al (bgV v k r) (bgV (bgs v r (k + 1) d) k r) k := by
    rw [← bgs_bg hr d (k + 1) (by omega)]
    exact ⟨fun a ha => bgs_o hr d (k + 1) (by omega) (Or.inl ha), fun b j hb hj => bgs_p hj hb hr d (k + 1) (by omega)⟩
  rw [fR_Al hA h8, ← bgs_bg hr d (k + 1) (by omega)]
  unfold fR
  rw [bgs_up (a := aS k + 18 + 3) (by omega) hr d (k + 1) (by omega), bgs_up (a := aS k + 18 + 2) (by omega) hr d (k + 1) (by omega), bgs_up (a := aS k + 18 + 1) (by omega) hr d (k + 1) (by omega), bgs_up (a := aS k + 18) (by omega) hr d (k + 1) (by omega)]
theorem ag_fR : Ag v (fR v s cnt) := ag_up (ag_up (ag_up (ag_up (ag_rf v) (by show 290 ≤ 290 + 32 * s + 18; omega)) (by show 290 ≤ 290 + 32 * s + 18 + 1; omega)) (by show 290 ≤ 290 + 32 * s + 18 + 2; omega)) (by show 290 ≤ 290 + 32 * s + 18 + 3; omega)
/-- the roles of all stations once the pairs have begun -/
theorem s_rloop {N1 : Nt} {v1 : Vt} (hr : r < 8) (h : RB N1 (bgs v1 r 0 sc) sc (r + 1) w) (hL : IL v1 w) : ∃ N' v', lp FU (b_rc_addRate_67 (nI r)) (0, sN C 0 N1) = some (sN C 0 N') ∧ lp FU (b_m_addRate_81 (nI r)) (0, sV M v1) = some (sV M v') ∧ RN N' v' sc (r + 1) w := by
  have h4 : sc ≤ 4 := h.2.2.2.2.2.2.2.1.1
  have key := lpT (C := C) (M := M) (i := 0) (bC := b_rc_addRate_67 (nI r)) (bM := b_m_addRate_81 (nI r)) (fun k N' v' => RB N' (bgs v' r k (sc - k)) sc (r + 1) w ∧ IL v' w ∧ ∀ t, t < k → RO N' (bgs v' r k (sc - k)) t (r + 1)) sc (by omega) (fun k N v hk hR => ?_) (fun N v hR => ?_) (N := N1) (v := v1) ⟨h, hL, fun t ht => absurd ht (by omega)⟩
  · obtain ⟨N', v', a1, a2, a3, a4, a5⟩ := key
    rw [Nat.sub_self] at a3 a5
    exact ⟨N', v', a1, a2, a3, a5⟩
  · obtain ⟨h, hL, hO⟩ := hR
    obtain ⟨d, hd⟩ : ∃ d, sc - k = d + 1 := ⟨sc - k - 1, by omega⟩
    have hd2 : sc - (k + 1) = d := by omega
    rw [hd] at h hO
    obtain ⟨b1, b2, b3, b4, b5, b6, b7, b8, b9, b10, b11⟩ := id h
    have lo : ∀ j, j < 30 → bgs v r k (d + 1) j = v j := fun j hj => bgs_o hr (d + 1) k (by omega) (Or.inl hj)
    have hIR : IR (bgV v k r) (r + 1) := by
      refine ⟨b7.1, ?_, fun j hj => ?_⟩
      · rw [bg_hi (by omega) hr (by omega), ← lo 1 (by omega)]; exact b7.2.1
      · rw [bg_hi (by omega) hr (by omega), bg_hi (by omega) hr (by omega), ← lo (10 + j) (by omega), ← lo (18 + j) (by omega)]; exact b7.2.2 j hj
    have hIL := IL_bg (s := k) hL hr
    have mf := m_fill (M := M) hIL hIR (show k < 4 by omega)
    have cf := c_fill (C := C) (i := 0) b1 (b2.lk (show k < sc by omega) h4 b7.1) b6 b9 b7 (show k < 4 by omega)
    have e2 : (sV M v).1 100 0 0 (tN 2) = nI sc := by rw [t_2, rdV, ← lo 2 (by omega)]; exact b8.2.1
    have e0 : (sN C 0 N).1 0 0 0 0 = nI sc := by rw [rdN (by decide), b1 0 0 0 rfl rfl]; exact b8.2.1
    have eW := bgs_fR (v := v) (r := r) (cnt := r + 1) (k := k) (d := d) (by omega) hr b7.1
    refine ⟨gR N (bgs v r k (d + 1)) k (r + 1), fR (bgV v k r) k (r + 1), ?_, ?_, ?_, ag_IL ag_fR hIL, fun t ht => ?_⟩
    · unfold b_rc_addRate_67
      rw [e0]
      refine im (nle hk (by omega)) (ip (gin_nI (by omega) (by omega)) ?_)
      rw [tN_nI (by omega)]
      refine bs cf ?_
      simp only [↓ob, IXr]
    · unfold b_m_addRate_81
      rw [e2]
      refine im (nle hk (by omega)) (bs (m_bg (by omega) hr) (bs mf ?_))
      simp only [↓ob, IXr]
    · rw [hd2, eW]
      exact RB_fill h (by omega)
    · rw [hd2, eW]
      by_cases e : t = k
      · subst e
        exact RO_fill (by omega) b7.1
      · exact RO_fill' (by omega) (by omega) e b7.1 (hO t (by omega))
  · obtain ⟨h, hL, hO⟩ := hR
    obtain ⟨b1, b2, b3, b4, b5, b6, b7, b8, b9, b10, b11⟩ := id h
    rw [Nat.sub_self] at b8 b1
    have e2 : (sV M v).1 100 0 0 (tN 2) = nI sc := by rw [t_2, rdV]; exact b8.2.1
    have e0 : (sN C 0 N).1 0 0 0 0 = nI sc := by rw [rdN (by decide), b1 0 0 0 rfl rfl]; exact b8.2.1
    unfold b_rc_addRate_67 b_m_addRate_81
    rw [e0, e2]
    exact ⟨ip (nle_s (by omega)) rfl, ip (nle_s (by omega)) rfl⟩
theorem IC_m {cnt' : Nat} (h : IC v sc cnt) (hc : cnt ≤ cnt') {sc' : Nat} (hs : sc ≤ sc') : IC v sc' cnt' := by
  intro c hc2
  obtain ⟨a1, a2⟩ := h c hc2
  refine ⟨a1, fun z => ?_⟩
  obtain ⟨b1, b2, b3, b4, b5⟩ := a2 z
  refine ⟨b1, by omega, b3, b4, fun k hk => ?_⟩
  obtain ⟨d1, d2, d3⟩ := b5 k hk
  exact ⟨d1, by omega, d3⟩
/-- a rate is added, behind the act -/
theorem s_addRate {m p : Nat} (h : RN N v sc cnt w) (hm : m ≤ 2) (hp : 10 ≤ p ∧ p ≤ 10000) (hc : cnt < 8) : ∃ N1 N' v', f_tb_append (sN C 0 N) 0 (nI m) (nI p) = some (nI cnt, sN C 0 N1) ∧ lp FU (b_rc_addRate_67 (nI cnt)) (0, sN C 0 N1) = some (sN C 0 N') ∧ lp FU (b_m_addRate_81 (nI cnt)) (0, sV M (upd (upd (upd v (10 + cnt) (nI m)) (18 + cnt) (nI p)) 1 (nI (cnt + 1)))) = some (sV M v') ∧ RN N' v' sc (cnt + 1) w := by
  have hl := h.lt
  have hb := airN_b (m := m) (p := p) (z := 1200) hp.1 (by omega)
  have e10 : (sN C 0 N).1 10 0 0 0 = nI cnt := c_cnt h
  obtain ⟨v1, hv1⟩ : ∃ v1, v1 = upd (upd (upd v (10 + cnt) (nI m)) (18 + cnt) (nI p)) 1 (nI (cnt + 1)) := ⟨_, rfl⟩
  obtain ⟨N1, hN1⟩ : ∃ N1, N1 = uN (uN (uN (uN N 10 0 0 (nI (cnt + 1))) 11 0 cnt (nI m)) 12 0 cnt (nI p)) 13 0 cnt (nI (airN m p 1200)) := ⟨_, rfl⟩
  have lo : ∀ j, j ≠ 1 → j ≠ 10 + cnt → j ≠ 18 + cnt → v1 j = v j := fun j h1 h2 h3 => by rw [hv1, up_n h1, up_n h3, up_n h2]
  have l1 : v1 1 = nI (cnt + 1) := by rw [hv1, up_s]
  have lm : v1 (10 + cnt) = nI m := by rw [hv1, up_n (by omega), up_n (by omega), up_s]
  have lp' : v1 (18 + cnt) = nI p := by rw [hv1, up_n (by omega), up_s]
  have nf : ∀ f a b, f ≠ 10 → f ≠ 11 → f ≠ 12 → f ≠ 13 → N1.1 f a b = N.1 f a b := fun f a b h1 h2 h3 h4 => by rw [hN1, uN_f h4, uN_f h3, uN_f h2, uN_f h1]
  have hE : RE N1 v1 := by
    have q := ((h.E.set (f := 11) (s := 0) (r := cnt) (x := nI m) (d11 hc)).set (f := 12) (s := 0) (r := cnt) (x := nI p) (d12 hc)).set (f := 10) (s := 0) (r := 0) (x := nI (cnt + 1)) rfl
    have q2 := RE.setn (f := 13) (s := 0) (r := cnt) (x := nI (airN m p 1200)) q (Or.inr rfl)
    rw [hN1, hv1, uN_c (f := 10) (f' := 11) (by decide), uN_c (f := 10) (f' := 12) (by decide)]
    exact q2
  have hY : RY N1 (bgs v1 cnt 0 sc) sc (cnt + 1) w := by
    obtain ⟨y1, y2, y3, y4, y5, y6⟩ := RB.y h.1
    have y : RY N v sc (cnt + 1) w := ⟨y1, y2, y3, y4, y5, IC_m y6 (by omega) (Nat.le_refl _)⟩
    refine RY_n (RY_lo y (fun k hk => ?_)) (fun f a b hf => nf f a b (by omega) (by omega) (by omega) (by omega)) (by rw [hN1]; rfl)
    rw [bgs_o hc sc 0 (by omega) (by omega)]
    exact lo k (by omega) (by omega) (by omega)
  have hIR : IR v1 (cnt + 1) := by
    refine ⟨by omega, l1, fun j hj => ?_⟩
    by_cases e : j = cnt
    · subst e
      rw [lm, lp']
      exact ⟨wi_n (by omega) ⟨by omega, by omega⟩, wi_n (by omega) ⟨by omega, by omega⟩⟩
    · rw [lo _ (by omega) (by omega) (by omega), lo _ (by omega) (by omega) (by omega)]
      exact h.iR.2.2 j (by omega)
  have hIL : IL v1 w := fun a b h1 h2 => by
    have := aP_lt h1 h2
    have hP : aP a b = 30 + 8 * (8 * a + b) := rfl
    rw [lo _ (by omega) (by omega) (by omega), lo _ (by omega) (by omega) (by omega), lo _ (by omega) (by omega) (by omega), lo _ (by omega) (by omega) (by omega), lo _ (by omega) (by omega) (by omega)]
    exact h.iL a b h1 h2
  have hLb : RLb N1 v1 (fun a b => a < sc ∧ b < cnt) := fun a b h1 h2 => by
    have := aP_lt h1 h2
    have hP : aP a b = 30 + 8 * (8 * a + b) := rfl
    rw [nf _ _ _ (by decide) (by decide) (by decide) (by decide), nf _ _ _ (by decide) (by decide) (by decide) (by decide), nf _ _ _ (by decide) (by decide) (by decide) (by decide), lo _ (by omega) (by omega) (by omega), lo _ (by omega) (by omega) (by omega), lo _ (by omega) (by omega) (by omega), lo _ (by omega) (by omega) (by omega)]
    exact h.L a b h1 h2
  have hL : RL N1 (bgs v1 cnt 0 sc) sc (cnt + 1) := fun a b h1 h2 => by
    obtain ⟨q1, q2⟩ := RLb_bgs hc hLb (fun s z => by omega) sc 0 (by omega) a b h1 h2
    refine ⟨fun z => q1 ?_, fun z => q2 (fun y => z ?_)⟩
    · by_cases e : b = cnt
      · exact Or.inr ⟨by omega, by omega, e⟩
      · exact Or.inl ⟨z.1, by omega⟩
    · rcases y with y | y
      · exact ⟨y.1, by omega⟩
      · exact ⟨by omega, by omega⟩
  have hM : RM N1 (bgs v1 cnt 0 sc) (cnt + 1) := fun r hr => by
    show N1.1 13 0 r = nI (airN (tN (bgs v1 cnt 0 sc (10 + r))) (tN (bgs v1 cnt 0 sc (18 + r))) 1200)
    rw [bgs_o hc sc 0 (by omega) (by omega), bgs_o hc sc 0 (by omega) (by omega)]
    by_cases e : r = cnt
    · subst e
      rw [lm, lp', hN1, uN_s, tN_nI (by omega), tN_nI (by omega)]
    · rw [lo _ (by omega) (by omega) (by omega), lo _ (by omega) (by omega) (by omega), hN1, uN_n (by omega), uN_f (by decide), uN_f (by decide), uN_f (by decide)]
      exact h.M r (by omega)
  have hIRb : IR (bgs v1 cnt 0 sc) (cnt + 1) := by
    refine ⟨by omega, by rw [bgs_o hc sc 0 (by omega) (by omega)]; exact l1, fun j hj => ?_⟩
    rw [bgs_o hc sc 0 (by omega) (by omega), bgs_o hc sc 0 (by omega) (by omega)]
    exact hIR.2.2 j hj
  obtain ⟨N', v', a1, a2, a3⟩ := s_rloop (C := C) (M := M) (r := cnt) hc ⟨RE_bgs hc hE sc 0 (by omega), hL, hY.1, hY.2.1, hY.2.2.1, hM, hIRb, hY.2.2.2.1, IL_bgs hc hIL sc 0 (by omega), hY.2.2.2.2.1, hY.2.2.2.2.2⟩ hIL
  refine ⟨N1, N', v', ?_, a1, by rw [← hv1]; exact a2, a3⟩
  unfold f_tb_append
  rw [e10]
  refine im (nI_pos (show cnt < 2 ^ 31 by omega)) (ip (show nI cnt < (8 : Int32) from (nI_lt' (b := 8) (by omega) (by omega)).mpr hc) (bs (x := sN C 0 (uN N 10 0 0 (nI (cnt + 1)))) (by rw [nI_1, wrN (by decide)]) (ip (gin_nI (by omega) (by omega)) ?_)))
  rw [tN_nI (by omega)]
  refine bs (x := sN C 0 (uN (uN N 10 0 0 (nI (cnt + 1))) 11 0 cnt (nI m))) (by rw [wrN (by decide)]) (ip (gin_nI (by omega) (by omega)) (bs (x := sN C 0 (uN (uN (uN N 10 0 0 (nI (cnt + 1))) 11 0 cnt (nI m)) 12 0 cnt (nI p))) (by rw [wrN (by decide)]) ?_))
  have ca := c_air (C := sN C 0 (uN (uN (uN N 10 0 0 (nI (cnt + 1))) 11 0 cnt (nI m)) 12 0 cnt (nI p))) (i := 0) (cnt := cnt + 1) (r := cnt) (m := m) (p := p) (z := 1200) (by rw [rdN (by decide), uN_f (by decide), uN_f (by decide), uN_s]) (by omega) (by omega) (by rw [rdN (by decide), uN_f (by decide), uN_s]) hm (by rw [rdN (by decide), uN_s]) hp.1 hp.2 (by omega)
  refine bs ca (ip (gin_nI (by omega) (by omega)) (bs (x := sN C 0 N1) (by rw [hN1, wrN (by decide)]) rfl))
end L64
