/-! a station is added; a rate is allowed; settings -/
section L65
variable {C M : Me} {i : Nat} {N : Nt} {v : Vt} {sc cnt w s r : Nat} {x : Int32}
/-- the pairs of station s begun for the first d rates -/
def bgt (v : Vt) (s : Nat) : Nat → Vt
  | 0 => v
  | d + 1 => bgV (bgt v s d) s d
theorem bgt_o {j : Nat} (hs : s < 4) : ∀ d, d ≤ 8 → (j < 30 ∨ 286 ≤ j) → bgt v s d j = v j
  | 0, _, _ => rfl
  | d + 1, hd, hj => by
    show bgV (bgt v s d) s d j = v j
    rw [bg_hi hs (by omega) hj]
    exact bgt_o hs d (by omega) hj
theorem RE_bgt (hs : s < 4) (h : RE N v) : ∀ d, d ≤ 8 → RE N (bgt v s d)
  | 0, _ => h
  | d + 1, hd => RE_bg (RE_bgt hs h d (by omega)) hs (by omega)
theorem IL_bgt (h : IL v w) : ∀ d, d ≤ 8 → IL (bgt v s d) w
  | 0, _ => h
  | d + 1, hd => IL_bg (IL_bgt h d (by omega)) (by omega)
theorem RLb_bgt {B : Nat → Nat → Prop} (hs : s < 4) (h : RLb N v B) (hB : ∀ r, ¬ B s r) : ∀ d, d ≤ 8 → RLb N (bgt v s d) (fun a b => B a b ∨ (a = s ∧ b < d))
  | 0, _ => fun a b h1 h2 => by
    obtain ⟨q1, q2⟩ := h a b h1 h2
    exact ⟨fun z => q1 (z.resolve_right (by omega)), fun z => q2 (fun y => z (Or.inl y))⟩
  | d + 1, hd => fun a b h1 h2 => by
    have ih := RLb_bgt hs h hB d (by omega)
    have q := RLb_bg (r := d) ih hs (by omega) (fun z => z.elim (hB d) (fun y => by omega)) a b h1 h2
    refine ⟨fun z => q.1 ?_, fun z => q.2 (fun y => z ?_)⟩
    · rcases z with z | z
      · exact Or.inl (Or.inl z)
      · by_cases e : b = d
        · exact Or.inr ⟨z.1, e⟩
        · exact Or.inl (Or.inr ⟨z.1, by omega⟩)
    · rcases y with (y | y) | y
      · exact Or.inl y
      · exact Or.inr ⟨y.1, by omega⟩
      · exact Or.inr ⟨y.1, by omega⟩
theorem m_bgt (hs : s < 4) (hc : cnt ≤ 8) (h1 : v 1 = nI cnt) : lp FU (b_m_addStation_36 (nI s)) (0, sV M v) = some (sV M (bgt v s cnt)) := by
  refine lp_n (fun k => (nI k, sV M (bgt v s k))) cnt (lt_FU (by omega)) (fun k hk => ?_) ?_
  · have e1 : (sV M (bgt v s k)).1 100 0 0 (tN 1) = nI cnt := by rw [t_1, rdV, bgt_o hs k (by omega) (by omega)]; exact h1
    unfold b_m_addStation_36
    show (if (sV M (bgt v s k)).1 100 0 0 (tN 1) ≤ nI k then _ else _) = _
    rw [e1]
    refine im (nle hk (by omega)) (bs (m_bg hs (by omega)) ?_)
    simp only [↓ob, IXr]
    rfl
  · have e1 : (sV M (bgt v s cnt)).1 100 0 0 (tN 1) = nI cnt := by rw [t_1, rdV, bgt_o hs cnt (by omega) (by omega)]; exact h1
    unfold b_m_addStation_36
    show (if (sV M (bgt v s cnt)).1 100 0 0 (tN 1) ≤ nI cnt then _ else _) = _
    rw [e1]
    exact ip (nle_s (by omega)) rfl
theorem m_ref3 (hs : s < 4) : lp FU (b_m_addStation_94 (nI s)) (0, sV M v) = some (sV M (rfV v s (-9) (-9) (-9))) := by
  have st : ∀ k (W : Vt), k < 3 → b_m_addStation_94 (nI s) (nI k, sV M W) = some (.inl (nI (k + 1), sV M (upd W (aS s + 22 + k) (-9)))) := fun k W hk => by
    unfold b_m_addStation_94
    refine im (show ¬ (3 : Int32) ≤ nI k from nle (n := 3) (by omega) (by omega)) (bs (sd s) (ip (gx (k := 290 + 32 * s + 22 + k) (by simp only [IXr, l_add]) (by omega) (by omega)) (bs (wx (k := 290 + 32 * s + 22 + k) (by simp only [IXr, l_add]) (by omega)) ?_)))
    simp only [↓ob, IXr]
  have en : ∀ W : Vt, b_m_addStation_94 (nI s) (nI 3, sV M W) = some (.inr (sV M W)) := fun W => by
    unfold b_m_addStation_94
    exact ip (show (3 : Int32) ≤ nI 3 from by decide) rfl
  show lp (4996 + 1 + 1 + 1 + 1) (b_m_addStation_94 (nI s)) (nI 0, sV M v) = _
  rw [lp_inl (st 0 v (by omega)), lp_inl (st 1 _ (by omega)), lp_inl (st 2 _ (by omega)), lp_inr (en _)]
  rfl
/-- a station is added, behind the act -/
theorem s_addSta (h : RN N v sc cnt w) (hc : sc < 4) : ∃ N' v', f_st_fillRoles (sN C 0 (uL (uN N 0 0 0 (nI (sc + 1))) 39 sc 0 (enL v))) 0 sc 0 = some (sN C 0 N') ∧ f_m_fillRoles (sV M (rfV (upd (upd (bgt (upd v 2 (nI (sc + 1))) sc cnt) (aS sc + 17) (nI (7 * sc + 1))) (aS sc + 16) (enV v)) sc (-9) (-9) (-9))) (nI sc) = some (sV M v') ∧ RN N' v' (sc + 1) cnt w := by
  have hl := h.lt
  have hS : aS sc = 290 + 32 * sc := rfl
  obtain ⟨v1, hv1⟩ : ∃ v1, v1 = rfV (upd (upd (bgt (upd v 2 (nI (sc + 1))) sc cnt) (aS sc + 17) (nI (7 * sc + 1))) (aS sc + 16) (enV v)) sc (-9) (-9) (-9) := ⟨_, rfl⟩
  obtain ⟨N1, hN1⟩ : ∃ N1, N1 = uL (uN N 0 0 0 (nI (sc + 1))) 39 sc 0 (enL v) := ⟨_, rfl⟩
  rw [← hv1, ← hN1]
  have nf : ∀ f a b, f ≠ 0 → N1.1 f a b = N.1 f a b := fun f a b h1 => by rw [hN1]; exact uN_f h1
  -- what the array holds
  have lo : ∀ j, j ≠ 2 → (j < 30 ∨ 286 ≤ j) → j ≠ aS sc + 17 → j ≠ aS sc + 16 → (j < aS sc + 22 ∨ aS sc + 25 ≤ j) → v1 j = v j := fun j h1 h2 h3 h4 h5 => by
    rw [hv1, rfV_o h5, up_n h4, up_n h3, bgt_o (by omega) cnt hl.2 h2, up_n h1]
  have lpr : ∀ j, 30 ≤ j → j < 286 → v1 j = bgt (upd v 2 (nI (sc + 1))) sc cnt j := fun j h1 h2 => by
    rw [hv1, rfV_o (by omega), up_n (by omega), up_n (by omega)]
  have l2 : v1 2 = nI (sc + 1) := by rw [hv1, rfV_o (by omega), up_n (by omega), up_n (by omega), bgt_o (by omega) cnt hl.2 (by omega), up_s]
  have l17 : v1 (aS sc + 17) = nI (7 * sc + 1) := by rw [hv1, rfV_o (by omega), up_n (by omega), up_s]
  have l16 : v1 (aS sc + 16) = enV v := by rw [hv1, rfV_o (by omega), up_s]
  have l22 : ∀ k, k < 3 → v1 (aS sc + 22 + k) = -9 := fun k hk => by
    rw [hv1]
    unfold rfV
    rcases (show k = 0 ∨ k = 1 ∨ k = 2 by omega) with rfl | rfl | rfl
    · rw [up_n (by omega), up_n (by omega), Nat.add_zero, up_s]
    · rw [up_n (by omega), up_s]
    · rw [up_s]
  have hE0 : RE (uN N 0 0 0 (nI (sc + 1))) (upd v 2 (nI (sc + 1))) := h.E.set (f := 0) (s := 0) (r := 0) rfl
  have hE1 : RE N1 (bgt (upd v 2 (nI (sc + 1))) sc cnt) := by rw [hN1]; exact RE_bgt hc hE0 cnt hl.2
  have hE : RE N1 v1 := by
    have q := ((((hE1.setv (f := 40) (s := sc) (r := 0) (x := nI (7 * sc + 1)) (dS (by simp) hc) rfl).setv (f := 39) (s := sc) (r := 0) (x := enV v) (dS (by simp) hc) rfl).setv (f := 42) (s := sc) (r := 0) (x := -9) (d42 hc (by omega)) rfl).setv (f := 42) (s := sc) (r := 1) (x := -9) (d42 hc (by omega)) rfl).setv (f := 42) (s := sc) (r := 2) (x := -9) (d42 hc (by omega)) rfl
    rw [hv1]
    exact q
  have hLb : RLb (uN N 0 0 0 (nI (sc + 1))) (upd v 2 (nI (sc + 1))) (fun a b => a < sc ∧ b < cnt) := fun a b h1 h2 => by
    have := aP_lt h1 h2
    have hP : aP a b = 30 + 8 * (8 * a + b) := rfl
    rw [uN_f (by decide), uN_f (by decide), uN_f (by decide), up_n (by omega), up_n (by omega), up_n (by omega), up_n (by omega)]
    exact h.L a b h1 h2
  have hL : RL N1 v1 (sc + 1) cnt := fun a b h1 h2 => by
    have := aP_lt h1 h2
    have hP : aP a b = 30 + 8 * (8 * a + b) := rfl
    obtain ⟨q1, q2⟩ := RLb_bgt hc hLb (fun r z => by omega) cnt hl.2 a b h1 h2
    rw [lpr _ (by omega) (by omega), lpr _ (by omega) (by omega), lpr _ (by omega) (by omega), lpr _ (by omega) (by omega), hN1]
    refine ⟨fun z => q1 ?_, fun z => q2 (fun y => z ?_)⟩
    · by_cases e : a = sc
      · exact Or.inr ⟨e, z.2⟩
      · exact Or.inl ⟨by omega, z.2⟩
    · rcases y with y | y
      · exact ⟨by omega, y.2⟩
      · exact ⟨by omega, y.2⟩
  have hT : RT N1 v1 (sc + 1) := fun a ha => by
    have hSa : aS a = 290 + 32 * a := rfl
    obtain ⟨q1, q2⟩ := h.T a ha
    by_cases e : a = sc
    · subst e
      obtain ⟨t1, t2⟩ := q2 (Nat.le_refl _)
      refine ⟨fun _ => ⟨?_, fun k hk => ?_, ?_⟩, fun z => absurd z (by omega)⟩
      · rw [nf _ _ _ (by decide), l17, t1]
      · rw [nf _ _ _ (by decide), l22 k hk, t2 k hk]
      · rw [l16, hN1, show (uL (uN N 0 0 0 (nI (a + 1))) 39 a 0 (enL v)).2 39 a 0 = enL v from if_pos ⟨rfl, rfl, rfl⟩]
        exact rel_en h.iS
    · refine ⟨fun z => ?_, fun z => ?_⟩
      · obtain ⟨t1, t2, t3⟩ := q1 (by omega)
        refine ⟨?_, fun k hk => ?_, ?_⟩
        · rw [nf _ _ _ (by decide), lo _ (by omega) (by omega) (by omega) (by omega) (by omega)]
          exact t1
        · rw [nf _ _ _ (by decide), lo _ (by omega) (by omega) (by omega) (by omega) (by omega)]
          exact t2 k hk
        · rw [lo _ (by omega) (by omega) (by omega) (by omega) (by omega), hN1, show (uL (uN N 0 0 0 (nI (sc + 1))) 39 sc 0 (enL v)).2 39 a 0 = N.2 39 a 0 from if_neg (fun y => e y.2.1)]
          exact t3
      · obtain ⟨t1, t2⟩ := q2 (by omega)
        exact ⟨by rw [nf _ _ _ (by decide)]; exact t1, fun k hk => by rw [nf _ _ _ (by decide)]; exact t2 k hk⟩
  have hi : ∀ j, 418 ≤ j → v1 j = v j := fun j hj => lo j (by omega) (by omega) (by omega) (by omega) (by omega)
  have hsv : ∀ a j, a < 4 → j < 16 → v1 (aS a + j) = v (aS a + j) := fun a j h1 h2 => lo _ (by show 290 + 32 * a + j ≠ 2; omega) (by show _ ∨ 286 ≤ 290 + 32 * a + j; omega) (by show 290 + 32 * a + j ≠ 290 + 32 * sc + 17; omega) (by show 290 + 32 * a + j ≠ 290 + 32 * sc + 16; omega) (by show 290 + 32 * a + j < 290 + 32 * sc + 22 ∨ 290 + 32 * sc + 25 ≤ 290 + 32 * a + j; omega)
  have hs7 : ∀ a k, a < 4 → k < 8 → v1 (aS a + 7 + k) = v (aS a + 7 + k) := fun a k h1 h2 => by
    have := hsv a (7 + k) h1 (by omega)
    rw [← Nat.add_assoc] at this
    exact this
  have hQ : RQ N1 v1 := fun a k h1 h2 h3 => by
    rw [hsv a 6 h1 (by omega)] at h3
    rw [nf _ _ _ (by decide), hs7 a k h1 h2]
    exact h.Q a k h1 h2 h3
  have hK : RK N1 v1 := fun c h1 h2 => by
    have hO : aO c = 420 + 16 * c := rfl
    rw [hi _ (by omega)] at h2
    rw [nf _ _ _ (by decide), hi _ (by omega), hi _ (by omega), hi _ (by omega)]
    exact h.K c h1 h2
  have l30 : ∀ j, j < 30 → j ≠ 2 → v1 j = v j := fun j h1 h2 => lo j h2 (by omega) (by omega) (by omega) (by omega)
  have hM : RM N1 v1 cnt := fun r hr => by
    rw [nf _ _ _ (by decide), h.M r hr]
    show nI (airN (tN (v (10 + r))) (tN (v (18 + r))) 1200) = nI (airN (tN (v1 (10 + r))) (tN (v1 (18 + r))) 1200)
    rw [l30 _ (by omega) (by omega), l30 _ (by omega) (by omega)]
  have hR : IR v1 cnt := by
    refine ⟨hl.2, by rw [l30 _ (by omega) (by omega)]; exact h.iR.2.1, fun r hr => ?_⟩
    rw [l30 _ (by omega) (by omega), l30 _ (by omega) (by omega)]
    exact h.iR.2.2 r hr
  have hSS : IS v1 (sc + 1) w := by
    obtain ⟨a1, a2, a3, a4, a5, a6, a7, a8, a9, a10⟩ := h.iS
    unfold IS
    rw [l2, l30 3 (by omega) (by omega), l30 4 (by omega) (by omega), l30 5 (by omega) (by omega), l30 6 (by omega) (by omega), l30 0 (by omega) (by omega), l30 7 (by omega) (by omega), l30 8 (by omega) (by omega)]
    exact ⟨by omega, rfl, a3, a4, a5, a6, a7, a8, by omega, a10⟩
  have hIL0 : IL (upd v 2 (nI (sc + 1))) w := fun a b h1 h2 => by
    have := aP_lt h1 h2
    have hP : aP a b = 30 + 8 * (8 * a + b) := rfl
    rw [up_n (by omega), up_n (by omega), up_n (by omega), up_n (by omega), up_n (by omega)]
    exact h.iL a b h1 h2
  have hIL : IL v1 w := fun a b h1 h2 => by
    have := aP_lt h1 h2
    have hP : aP a b = 30 + 8 * (8 * a + b) := rfl
    rw [lpr _ (by omega) (by omega), lpr _ (by omega) (by omega), lpr _ (by omega) (by omega), lpr _ (by omega) (by omega), lpr _ (by omega) (by omega)]
    exact IL_bgt hIL0 cnt hl.2 a b h1 h2
  have hIT : IT v1 := fun a ha => by
    obtain ⟨a1, a2, a3, a4⟩ := h.iT a ha
    rw [hsv a 5 ha (by omega), hsv a 6 ha (by omega), hsv a 15 ha (by omega)]
    exact ⟨a1, a2, a3, fun k hk q => by rw [hs7 a k ha hk]; exact a4 k hk q⟩
  have hIC : IC v1 (sc + 1) cnt := fun c hc2 => by
    have hO : aO c = 420 + 16 * c := rfl
    obtain ⟨a1, a2⟩ := IC_m h.iC (Nat.le_refl cnt) (Nat.le_succ sc) c hc2
    rw [hi _ (by omega), hi _ (by omega), hi _ (by omega), hi _ (by omega)]
    refine ⟨a1, fun z => ?_⟩
    obtain ⟨b1, b2, b3, b4, b5⟩ := a2 z
    refine ⟨b1, b2, b3, b4, fun k hk => ?_⟩
    rw [hi _ (by omega), hi _ (by omega)]
    exact b5 k hk
  have hB : RB N1 v1 (sc + 1) cnt w := ⟨hE, hL, hT, hQ, hK, hM, hR, hSS, hIL, hIT, hIC⟩
  refine ⟨gR N1 v1 sc cnt, fR v1 sc cnt, c_fill hE (hL.lk (Nat.lt_succ_self sc) (by omega) hl.2) hM hIL hR hc, m_fill hIL hR hc, RN_fill hB hc (fun t ht hne => ?_)⟩
  have hSt : aS t = 290 + 32 * t := rfl
  obtain ⟨a1, a2⟩ := h.2 t (by omega)
  refine ⟨fun k hk => ?_, fun z k hk => ?_⟩
  · rw [nf _ _ _ (by decide), lo _ (by omega) (by omega) (by omega) (by omega) (by omega)]
    exact a1 k hk
  · rw [lo _ (by omega) (by omega) (by omega) (by omega) (by omega)]
    refine a2 ?_ k hk
    obtain ⟨r, z1, z2⟩ := z
    have hP := aP_lt (show t < 4 by omega) (show r < 8 by omega)
    have hP2 : aP t r = 30 + 8 * (8 * t + r) := rfl
    refine ⟨r, z1, ?_⟩
    have hne2 : ∀ d, d ≤ 8 → bgt (upd v 2 (nI (sc + 1))) sc d (aP t r) = v (aP t r) := by
      intro d
      induction d with
      | zero => intro _; exact up_n (by omega)
      | succ d ih =>
        intro hd
        have hPd : aP sc d = 30 + 8 * (8 * sc + d) := rfl
        show bgV (bgt (upd v 2 (nI (sc + 1))) sc d) sc d (aP t r) = _
        rw [bg_o (by omega)]
        exact ih (by omega)
    unfold al at z2 ⊢
    rw [lpr _ (by omega) (by omega), hne2 cnt hl.2] at z2
    exact z2
/-- a rate is allowed or barred -/
theorem RB_20 (h : RN N v sc cnt w) (hs : s < sc) (hr : r < cnt) (hx : x = 0 ∨ x = 1) : RB (uN N 20 s r x) (upd v (ad 20 s r) x) sc cnt w ∧ ∀ t, t < sc → t ≠ s → RO (uN N 20 s r x) (upd v (ad 20 s r) x) t cnt := by
  have hl := h.lt
  have hd : dm 20 s r = true := dP (by simp) (by omega) (by omega)
  have hne : ∀ f' s' r', (f' = 20 ∨ f' = 21 ∨ f' = 22 ∨ f' = 23 ∨ f' = 24 ∨ f' = 25 ∨ f' = 26 ∨ f' = 27) → s' < 4 → r' < 8 → ¬ (f' = 20 ∧ s' = s ∧ r' = r) → ad f' s' r' ≠ ad 20 s r := fun f' s' r' a1 a2 a3 a4 e => a4 (by obtain ⟨q1, q2, q3⟩ := ad_inj (dP a1 a2 a3) hd e; exact ⟨q1, q2, q3⟩)
  refine ⟨⟨h.E.set hd, ?_, RT_s h.T hd (by omega), RQ_s h.Q hd (by omega), RK_s h.K hd (by omega), RM_s h.M hl.2 hd (by omega), IR_v h.iR hd (by omega), IS_v h.iS hd (by omega), ?_, IT_v h.iT hd (by omega), IC_v h.iC hd (by omega)⟩, fun t ht hts => ?_⟩
  · intro s' r' h1 h2
    obtain ⟨b1, b2⟩ := h.L s' r' h1 h2
    have n21 : upd v (ad 20 s r) x (aP s' r' + 1) = v (aP s' r' + 1) := up_n (hne 21 s' r' (by simp) h1 h2 (by omega))
    have n22 : upd v (ad 20 s r) x (aP s' r' + 6) = v (aP s' r' + 6) := up_n (hne 22 s' r' (by simp) h1 h2 (by omega))
    have n27 : upd v (ad 20 s r) x (aP s' r' + 7) = v (aP s' r' + 7) := up_n (hne 27 s' r' (by simp) h1 h2 (by omega))
    rw [n21, n22, n27, uN_f (f' := 27) (by decide), uN_f (f' := 21) (by decide)]
    by_cases e : s' = s ∧ r' = r
    · obtain ⟨rfl, rfl⟩ := e
      rw [uN_s, show upd v (ad 20 s' r') x (aP s' r') = x from up_s]
      exact ⟨fun q => ⟨rfl, (b1 q).2⟩, fun q => absurd ⟨hs, hr⟩ q⟩
    · rw [uN_n (by omega), show upd v (ad 20 s r) x (aP s' r') = v (aP s' r') from up_n (hne 20 s' r' (by simp) h1 h2 (by omega))]
      exact ⟨b1, b2⟩
  · intro s' r' h1 h2
    have b := h.iL s' r' h1 h2
    rw [show upd v (ad 20 s r) x (aP s' r' + 1) = v (aP s' r' + 1) from up_n (hne 21 s' r' (by simp) h1 h2 (by omega)), show upd v (ad 20 s r) x (aP s' r' + 2) = v (aP s' r' + 2) from up_n (hne 23 s' r' (by simp) h1 h2 (by omega)), show upd v (ad 20 s r) x (aP s' r' + 3) = v (aP s' r' + 3) from up_n (hne 24 s' r' (by simp) h1 h2 (by omega)), show upd v (ad 20 s r) x (aP s' r' + 7) = v (aP s' r' + 7) from up_n (hne 27 s' r' (by simp) h1 h2 (by omega))]
    by_cases e : s' = s ∧ r' = r
    · obtain ⟨rfl, rfl⟩ := e
      rw [show upd v (ad 20 s' r') x (aP s' r') = x from up_s]
      exact ⟨b.1, b.2.1, b.2.2.1, b.2.2.2.1, hx, b.2.2.2.2.2⟩
    · rw [show upd v (ad 20 s r) x (aP s' r') = v (aP s' r') from up_n (hne 20 s' r' (by simp) h1 h2 (by omega))]
      exact b
  · obtain ⟨a1, a2⟩ := h.2 t ht
    refine ⟨fun k hk => ?_, fun q k hk => ?_⟩
    · rw [uN_f (by decide), up_ad (k := aS t + 18 + k) hd (d41 (by omega) hk) (by decide) rfl]
      exact a1 k hk
    · rw [up_ad (k := aS t + 18 + k) hd (d41 (by omega) hk) (by decide) rfl]
      refine a2 ?_ k hk
      obtain ⟨r', q1, q2⟩ := q
      refine ⟨r', q1, ?_⟩
      unfold al at q2 ⊢
      rw [show upd v (ad 20 s r) x (aP t r') = v (aP t r') from up_n (hne 20 t r' (by simp) (by omega) (by omega) (by omega))] at q2
      exact q2
theorem RN_27 (h : RN N v sc cnt w) (hs : s < sc) (hr : r < cnt) (hx : wi 0 x 1000) : RN (uN N 27 s r x) (upd v (ad 27 s r) x) sc cnt w := by
  have hl := h.lt
  have hd : dm 27 s r = true := dP (by simp) (by omega) (by omega)
  have hne : ∀ f' s' r', (f' = 20 ∨ f' = 21 ∨ f' = 22 ∨ f' = 23 ∨ f' = 24 ∨ f' = 25 ∨ f' = 26 ∨ f' = 27) → s' < 4 → r' < 8 → ¬ (f' = 27 ∧ s' = s ∧ r' = r) → ad f' s' r' ≠ ad 27 s r := fun f' s' r' a1 a2 a3 a4 e => a4 (by obtain ⟨q1, q2, q3⟩ := ad_inj (dP a1 a2 a3) hd e; exact ⟨q1, q2, q3⟩)
  refine ⟨⟨h.E.set hd, ?_, RT_s h.T hd (by omega), RQ_s h.Q hd (by omega), RK_s h.K hd (by omega), RM_s h.M hl.2 hd (by omega), IR_v h.iR hd (by omega), IS_v h.iS hd (by omega), ?_, IT_v h.iT hd (by omega), IC_v h.iC hd (by omega)⟩, fun t ht => RO_s (by omega) hl.2 (h.2 t ht) hd (by omega)⟩
  · intro s' r' h1 h2
    obtain ⟨b1, b2⟩ := h.L s' r' h1 h2
    have n21 : upd v (ad 27 s r) x (aP s' r' + 1) = v (aP s' r' + 1) := up_n (hne 21 s' r' (by simp) h1 h2 (by omega))
    have n22 : upd v (ad 27 s r) x (aP s' r' + 6) = v (aP s' r' + 6) := up_n (hne 22 s' r' (by simp) h1 h2 (by omega))
    have n20 : upd v (ad 27 s r) x (aP s' r') = v (aP s' r') := up_n (hne 20 s' r' (by simp) h1 h2 (by omega))
    rw [n21, n22, n20, uN_f (f' := 20) (by decide), uN_f (f' := 21) (by decide)]
    by_cases e : s' = s ∧ r' = r
    · obtain ⟨rfl, rfl⟩ := e
      rw [uN_s, show upd v (ad 27 s' r') x (aP s' r' + 7) = x from up_s]
      exact ⟨fun q => ⟨(b1 q).1, rfl, (b1 q).2.2⟩, fun q => absurd ⟨hs, hr⟩ q⟩
    · rw [uN_n (by omega), show upd v (ad 27 s r) x (aP s' r' + 7) = v (aP s' r' + 7) from up_n (hne 27 s' r' (by simp) h1 h2 (by omega))]
      exact ⟨b1, b2⟩
  · intro s' r' h1 h2
    have b := h.iL s' r' h1 h2
    rw [show upd v (ad 27 s r) x (aP s' r' + 1) = v (aP s' r' + 1) from up_n (hne 21 s' r' (by simp) h1 h2 (by omega)), show upd v (ad 27 s r) x (aP s' r' + 2) = v (aP s' r' + 2) from up_n (hne 23 s' r' (by simp) h1 h2 (by omega)), show upd v (ad 27 s r) x (aP s' r' + 3) = v (aP s' r' + 3) from up_n (hne 24 s' r' (by simp) h1 h2 (by omega)), show upd v (ad 27 s r) x (aP s' r') = v (aP s' r') from up_n (hne 20 s' r' (by simp) h1 h2 (by omega))]
    by_cases e : s' = s ∧ r' = r
    · obtain ⟨rfl, rfl⟩ := e
      rw [show upd v (ad 27 s' r') x (aP s' r' + 7) = x from up_s]
      exact ⟨b.1, b.2.1, b.2.2.1, b.2.2.2.1, b.2.2.2.2.1, hx⟩
    · rw [show upd v (ad 27 s r) x (aP s' r' + 7) = v (aP s' r' + 7) from up_n (hne 27 s' r' (by simp) h1 h2 (by omega))]
      exact b
/-- a setting is set -/
theorem RN_set {f lo hi : Nat} (h : RN N v sc cnt w) (hf : (f = 2 ∧ lo = 0 ∧ hi = 50) ∨ (f = 3 ∧ lo = 1 ∧ hi = 100) ∨ (f = 4 ∧ lo = 1000 ∧ hi = 1000000) ∨ (f = 5 ∧ lo = 100 ∧ hi = 100000)) (hx : wi lo x hi) : RN (uN N f 0 0 x) (upd v (ad f 0 0) x) sc cnt w := by
  refine RN_i (f := f) h (Or.inl (by omega)) (Nat.le_refl _) ?_
  obtain ⟨a1, a2, a3, a4, a5, a6, a7, a8, a9, a10⟩ := h.iS
  rcases hf with ⟨rfl, rfl, rfl⟩ | ⟨rfl, rfl, rfl⟩ | ⟨rfl, rfl, rfl⟩ | ⟨rfl, rfl, rfl⟩
  · show IS (upd v 3 x) sc w
    unfold IS
    rw [up_n (show 2 ≠ 3 by decide), up_s, up_n (show 4 ≠ 3 by decide), up_n (show 5 ≠ 3 by decide), up_n (show 6 ≠ 3 by decide), up_n (show 0 ≠ 3 by decide), up_n (show 7 ≠ 3 by decide), up_n (show 8 ≠ 3 by decide)]
    exact ⟨a1, a2, hx, a4, a5, a6, a7, a8, a9, a10⟩
  · show IS (upd v 4 x) sc w
    unfold IS
    rw [up_n (show 2 ≠ 4 by decide), up_s, up_n (show 3 ≠ 4 by decide), up_n (show 5 ≠ 4 by decide), up_n (show 6 ≠ 4 by decide), up_n (show 0 ≠ 4 by decide), up_n (show 7 ≠ 4 by decide), up_n (show 8 ≠ 4 by decide)]
    exact ⟨a1, a2, a3, hx, a5, a6, a7, a8, a9, a10⟩
  · show IS (upd v 5 x) sc w
    unfold IS
    rw [up_n (show 2 ≠ 5 by decide), up_s, up_n (show 3 ≠ 5 by decide), up_n (show 4 ≠ 5 by decide), up_n (show 6 ≠ 5 by decide), up_n (show 0 ≠ 5 by decide), up_n (show 7 ≠ 5 by decide), up_n (show 8 ≠ 5 by decide)]
    exact ⟨a1, a2, a3, a4, hx, a6, a7, a8, a9, a10⟩
  · show IS (upd v 6 x) sc w
    unfold IS
    rw [up_n (show 2 ≠ 6 by decide), up_s, up_n (show 3 ≠ 6 by decide), up_n (show 4 ≠ 6 by decide), up_n (show 5 ≠ 6 by decide), up_n (show 0 ≠ 6 by decide), up_n (show 7 ≠ 6 by decide), up_n (show 8 ≠ 6 by decide)]
    exact ⟨a1, a2, a3, a4, a5, hx, a7, a8, a9, a10⟩
end L65
