/-! the relation without the open chains; refusals, the draw -/
theorem gx {x : Int32} {k n : Nat} (e : x = nI k) (h : k < n) (hn : n < 2147483648) : gin x n := e ▸ gin_nI h hn
theorem tx {x : Int32} {k : Nat} (e : x = nI k) (h : k < 2147483648) : tN x = k := by rw [e]; exact tN_nI h
theorem wx {M : Me} {v : Vt} {x : Int32} {k : Nat} {y : Int32} (e : x = nI k) (h : k < 2147483648) : some (wI (sV M v) 100 0 0 (tN x) y) = some (sV M (upd v k y)) := by rw [tx e h, wrV]
theorem rx {M : Me} {v : Vt} {x : Int32} {k : Nat} (e : x = nI k) (h : k < 2147483648) : (sV M v).1 100 0 0 (tN x) = v k := by rw [tx e h, rdV]
theorem sd (s : Nat) : f_m_side (nI s) = some (nI (290 + 32 * s)) := by unfold f_m_side; simp only [IXl, IXm]
theorem so (c : Nat) : f_m_open (nI c) = some (nI (420 + 16 * c)) := by unfold f_m_open; simp only [IXl, IXm]
theorem spr (s r : Nat) : f_m_pair (nI s) (nI r) = some (nI (30 + 8 * (8 * s + r))) := by unfold f_m_pair; simp only [IXl, IXm, l_add]
def RX (N : Nt) (v : Vt) (sc cnt w : Nat) : Prop := RE N v ∧ RL N v sc cnt ∧ RT N v sc ∧ RQ N v ∧ RM N v cnt ∧ IR v cnt ∧ IS v sc w ∧ IL v w ∧ IT v ∧ ∀ s, s < sc → RO N v s cnt
section L49
variable {N : Nt} {v : Vt} {sc cnt w s r f c k : Nat} {x : Int32}
theorem RN.toX (h : RN N v sc cnt w) : RX N v sc cnt w := ⟨h.E, h.L, h.T, h.Q, h.M, h.iR, h.iS, h.iL, h.iT, h.2⟩
theorem RX.E (h : RX N v sc cnt w) : RE N v := h.1
theorem RX.L (h : RX N v sc cnt w) : RL N v sc cnt := h.2.1
theorem RX.T (h : RX N v sc cnt w) : RT N v sc := h.2.2.1
theorem RX.Q (h : RX N v sc cnt w) : RQ N v := h.2.2.2.1
theorem RX.M (h : RX N v sc cnt w) : RM N v cnt := h.2.2.2.2.1
theorem RX.iR (h : RX N v sc cnt w) : IR v cnt := h.2.2.2.2.2.1
theorem RX.iS (h : RX N v sc cnt w) : IS v sc w := h.2.2.2.2.2.2.1
theorem RX.iL (h : RX N v sc cnt w) : IL v w := h.2.2.2.2.2.2.2.1
theorem RX.iT (h : RX N v sc cnt w) : IT v := h.2.2.2.2.2.2.2.2.1
theorem RX.O (h : RX N v sc cnt w) (hs : s < sc) : RO N v s cnt := h.2.2.2.2.2.2.2.2.2 s hs
theorem RX.lt (h : RX N v sc cnt w) : sc ≤ 4 ∧ cnt ≤ 8 := ⟨h.iS.1, h.iR.1⟩
theorem RX.lk (h : RX N v sc cnt w) (hs : s < sc) : LK N v s cnt := h.L.lk hs h.lt.1 h.lt.2
theorem RX.n (h : RX N v sc cnt w) (hK : RK N v) (hC : IC v sc cnt) : RN N v sc cnt w := ⟨⟨h.E, h.L, h.T, h.Q, hK, h.M, h.iR, h.iS, h.iL, h.iT, hC⟩, fun _ hs => h.O hs⟩
theorem RX_s (h : RX N v sc cnt w) (hd : dm f s r = true) (hf : f = 25 ∨ f = 26 ∨ f = 32 ∨ f = 33 ∨ f = 34 ∨ f = 35 ∨ f = 36 ∨ f = 61 ∨ f = 50 ∨ f = 51 ∨ f = 52 ∨ f = 53 ∨ f = 55 ∨ f = 56) : RX (uN N f s r x) (upd v (ad f s r) x) sc cnt w := by
  have hl := h.lt
  exact ⟨h.E.set hd, RL_s h.L hd (by omega), RT_s h.T hd (by omega), RQ_s h.Q hd (by omega), RM_s h.M hl.2 hd (by omega), IR_v h.iR hd (by omega), IS_v h.iS hd (by omega), IL_v h.iL hd (by omega), IT_v h.iT hd (by omega), fun t ht => RO_s (by omega) hl.2 (h.O ht) hd (by omega)⟩
theorem RX_n54 (h : RX N v sc cnt w) : RX (uN N 54 c 0 x) v sc cnt w := ⟨h.E.setn (Or.inl rfl), RL_n h.L (by decide), RT_n h.T (by decide), RQ_n h.Q (by decide), RM_n h.M (by decide), h.iR, h.iS, h.iL, h.iT, fun _ ht => RO_n (h.O ht) (by decide)⟩
theorem RX_v54 (h : RX N v sc cnt w) (hc : c < 6) : RX N (upd v (ad 54 c 0) x) sc cnt w := by
  have hl := h.lt
  have hd : dm 54 c 0 = true := dO (by simp) hc
  exact ⟨h.E.setv hd rfl, RL_v h.L hd (by omega), RT_v h.T hd (by omega), RQ_v h.Q hd (by omega), RM_v h.M hl.2 hd (by omega), IR_v h.iR hd (by omega), IS_v h.iS hd (by omega), IL_v h.iL hd (by omega), IT_v h.iT hd (by omega), fun t ht => RO_v (by omega) hl.2 (h.O ht) hd (by omega)⟩
theorem RX_42 (h : RX N v sc cnt w) (hs : s < sc) (hk : k < 3) : RX (uN N 42 s k x) (upd v (ad 42 s k) x) sc cnt w := by
  have hl := h.lt
  have hd : dm 42 s k = true := d42 (by omega) hk
  refine ⟨h.E.set hd, RL_s h.L hd (by omega), ?_, RQ_s h.Q hd (by omega), RM_s h.M hl.2 hd (by omega), IR_v h.iR hd (by omega), IS_v h.iS hd (by omega), IL_v h.iL hd (by omega), IT_v h.iT hd (by omega), fun t ht => RO_s (by omega) hl.2 (h.O ht) hd (by omega)⟩
  intro s' h1
  obtain ⟨a, b⟩ := h.T s' h1
  refine ⟨fun q => ?_, fun q => ?_⟩
  · obtain ⟨a1, a2, a3⟩ := a q
    refine ⟨?_, fun j hj => ?_, ?_⟩
    · rw [uN_f (by decide), up_ad (k := aS s' + 17) hd (dS (f := 40) (by simp) h1) (by decide) rfl]
      exact a1
    · by_cases e : s' = s ∧ j = k
      · obtain ⟨rfl, rfl⟩ := e
        rw [uN_s]
        exact (up_s (v := v) (k := ad 42 s' j) (x := x)).symm
      · rw [uN_n (fun q => e q.2), show upd v (ad 42 s k) x (aS s' + 22 + j) = v (aS s' + 22 + j) from up_n (fun q => e (ad_inj (d42 h1 hj) hd q).2)]
        exact a2 j hj
    · rw [up_ad (k := aS s' + 16) hd (dS (f := 39) (by simp) h1) (by decide) rfl]
      exact a3
  · obtain ⟨a1, a2⟩ := b q
    exact ⟨by rw [uN_f (by decide)]; exact a1, fun j hj => by rw [uN_n (by omega)]; exact a2 j hj⟩
theorem RX_40 (h : RX N v sc cnt w) (hs : s < sc) : RX (uN N 40 s 0 x) (upd v (ad 40 s 0) x) sc cnt w := by
  have hl := h.lt
  have hd : dm 40 s 0 = true := dS (by simp) (by omega)
  refine ⟨h.E.set hd, RL_s h.L hd (by omega), ?_, RQ_s h.Q hd (by omega), RM_s h.M hl.2 hd (by omega), IR_v h.iR hd (by omega), IS_v h.iS hd (by omega), IL_v h.iL hd (by omega), IT_v h.iT hd (by omega), fun t ht => RO_s (by omega) hl.2 (h.O ht) hd (by omega)⟩
  intro s' h1
  obtain ⟨a, b⟩ := h.T s' h1
  refine ⟨fun q => ?_, fun q => ?_⟩
  · obtain ⟨a1, a2, a3⟩ := a q
    refine ⟨?_, fun j hj => ?_, ?_⟩
    · by_cases e : s' = s
      · subst e
        rw [uN_s]
        exact (up_s (v := v) (k := ad 40 s' 0) (x := x)).symm
      · rw [uN_n (fun q => e q.2.1), show upd v (ad 40 s 0) x (aS s' + 17) = v (aS s' + 17) from up_n (fun q => e (ad_inj (dS (f := 40) (by simp) h1) hd q).2.1)]
        exact a1
    · rw [uN_f (by decide), up_ad (k := aS s' + 22 + j) hd (d42 h1 hj) (by decide) rfl]
      exact a2 j hj
    · rw [up_ad (k := aS s' + 16) hd (dS (f := 39) (by simp) h1) (by decide) rfl]
      exact a3
  · obtain ⟨a1, a2⟩ := b q
    exact ⟨by rw [uN_n (by omega)]; exact a1, fun j hj => by rw [uN_f (by decide)]; exact a2 j hj⟩
def rfN (N : Nt) (s : Nat) (a b d : Int32) : Nt := uN (uN (uN N 42 s 0 a) 42 s 1 b) 42 s 2 d
def rfV (v : Vt) (s : Nat) (a b d : Int32) : Vt := upd (upd (upd v (aS s + 22) a) (aS s + 22 + 1) b) (aS s + 22 + 2) d
theorem RX_rf {a b d : Int32} (h : RX N v sc cnt w) (hs : s < sc) : RX (rfN N s a b d) (rfV v s a b d) sc cnt w := RX_42 (RX_42 (RX_42 h hs (k := 0) (by omega)) hs (k := 1) (by omega)) hs (k := 2) (by omega)
theorem c_rf {C : Me} {i : Nat} {a b d : Int32} : f_st_noteRefusal (sN C i N) i s a b d = some (sN C i (rfN N s a b d)) := by
  unfold f_st_noteRefusal rfN
  simp only [↓ob, IXt]
  rw [wrN (by decide), wrN (by decide), wrN (by decide)]
theorem m_rf {M : Me} {a b d : Int32} (hs : s < 4) : f_m_refuse (sV M v) (nI s) a b d = some (sV M (rfV v s a b d)) := by
  unfold f_m_refuse
  refine bs (sd s) (ip (gx (k := 290 + 32 * s + 22) (by simp only [IXr]) (by omega) (by omega)) (bs (wx (k := 290 + 32 * s + 22) (by simp only [IXr]) (by omega)) ?_))
  refine bs (sd s) (ip (gx (k := 290 + 32 * s + 22 + 1) (by simp only [IXr]) (by omega) (by omega)) (bs (wx (k := 290 + 32 * s + 22 + 1) (by simp only [IXr]) (by omega)) ?_))
  refine bs (sd s) (ip (gx (k := 290 + 32 * s + 22 + 2) (by simp only [IXr]) (by omega) (by omega)) (bs (wx (k := 290 + 32 * s + 22 + 2) (by simp only [IXr]) (by omega)) ?_))
  rfl
theorem m_role {M : Me} (hs : s < 4) (hk : k < 4) : f_m_roleOf (sV M v) (nI s) (nI k) = some (v (aS s + 18 + k)) := by
  unfold f_m_roleOf
  refine bs (sd s) (ip (gx (k := 290 + 32 * s + 18 + k) (by simp only [IXr, l_add]) (by omega) (by omega)) ?_)
  rw [rx (k := 290 + 32 * s + 18 + k) (by simp only [IXr, l_add]) (by omega)]
/-- which of the first three roles a rate has -/
def rcI (v : Vt) (s r : Nat) : Int32 := if v (aS s + 18 + 0) = nI r then 21 else if v (aS s + 18 + 1) = nI r then 22 else if v (aS s + 18 + 2) = nI r then 23 else -9
theorem c_rc {C : Me} {i : Nat} (hO : ∀ k, k < 4 → N.1 41 s k = v (aS s + 18 + k)) : f_nt_roleCause (sN C i N) i s (nI r) = some (rcI v s r) := by
  have st : ∀ k, k < 3 → b_nt_roleCause_2 (sN C i N) i s (nI r) (nI k) = if v (aS s + 18 + k) = nI r then some (.inr (.inr ((21 : Int32) + nI k))) else some (.inl (nI (k + 1))) := by
    intro k hk
    unfold b_nt_roleCause_2
    rw [if_neg (show ¬ (2 : Int32) < nI k from fun q => by rw [lt_int, z_2, nI_i (by omega)] at q; omega), if_pos (gin_nI (by omega) (by omega)), tN_nI (by omega), rdN (by decide), hO k (by omega)]
    simp only [↓ob, IXr]
  have en : b_nt_roleCause_2 (sN C i N) i s (nI r) (nI 3) = some (.inr (.inl ())) := by
    unfold b_nt_roleCause_2
    rw [if_pos (show (2 : Int32) < nI 3 from by decide)]
  unfold f_nt_roleCause rcI
  by_cases c0 : v (aS s + 18 + 0) = nI r
  · rw [if_pos c0]
    refine bs (lp_n (fun k => nI k) 0 (lt_FU (by omega)) (fun k hk => by omega) (by rw [st 0 (by omega), if_pos c0])) rfl
  · rw [if_neg c0]
    have s0 : b_nt_roleCause_2 (sN C i N) i s (nI r) (nI 0) = some (.inl (nI (0 + 1))) := by rw [st 0 (by omega), if_neg c0]
    by_cases c1 : v (aS s + 18 + 1) = nI r
    · rw [if_pos c1]
      refine bs (lp_n (fun k => nI k) 1 (lt_FU (by omega)) (fun k hk => by obtain rfl : k = 0 := by omega
                                                                           exact s0) (by rw [st 1 (by omega), if_pos c1])) rfl
    · rw [if_neg c1]
      have s1 : b_nt_roleCause_2 (sN C i N) i s (nI r) (nI 1) = some (.inl (nI (1 + 1))) := by rw [st 1 (by omega), if_neg c1]
      by_cases c2 : v (aS s + 18 + 2) = nI r
      · rw [if_pos c2]
        refine bs (lp_n (fun k => nI k) 2 (lt_FU (by omega)) (fun k hk => by rcases (show k = 0 ∨ k = 1 by omega) with rfl | rfl
                                                                             · exact s0
                                                                             · exact s1) (by rw [st 2 (by omega), if_pos c2])) rfl
      · rw [if_neg c2]
        have s2 : b_nt_roleCause_2 (sN C i N) i s (nI r) (nI 2) = some (.inl (nI (2 + 1))) := by rw [st 2 (by omega), if_neg c2]
        refine bs (lp_n (fun k => nI k) 3 (lt_FU (by omega)) (fun k hk => by rcases (show k = 0 ∨ k = 1 ∨ k = 2 by omega) with rfl | rfl | rfl
                                                                             · exact s0
                                                                             · exact s1
                                                                             · exact s2) en) rfl
theorem rl_ok (h : RO N v s cnt) (ha : hA v s cnt) (hk : k < 4) : ∃ q, q < cnt ∧ v (aS s + 18 + k) = nI q := by
  obtain ⟨a1, a2⟩ := h.2 ha k hk
  have e := tN_int a1
  exact ⟨tN (v (aS s + 18 + k)), by omega, nn_eq a1⟩
theorem s_cause {C M : Me} {i : Nat} (h : RX N v sc cnt w) (hs : s < sc) (hr : r < cnt) : ∃ x y, f_m_causeOf (sV M v) (nI s) (nI r) = some x ∧ f_nt_causeAgainst (sN C i N) i i s (nI r) = some y ∧ ((x = 0 ∧ y = -9) ∨ (x = y ∧ (x = 11 ∨ x = 12 ∨ x = 13 ∨ x = 14) ∧ (x = 12 → rcI v s r ≠ -9))) := by
  have hl := h.lt
  have hs4 : s < 4 := by omega
  have hO := (h.O hs).1
  have hk := h.lk hs r hr
  have hal := (h.iL s r hs4 (by omega)).2.2.2.2.1
  have g8 : gin (nI r) 8 := gin_nI (by omega) (by omega)
  have e20 : (sN C i N).1 20 i s (tN (nI r)) = v (aP s r) := by rw [rdN (by decide), tN_nI (by omega)]; exact hk.1
  unfold f_m_causeOf f_nt_causeAgainst
  have ma := m_al (M := M) (v := v) hs4 (show r < 8 by omega)
  have ch := c_hasv (C := C) (i := i) h.E h.iR hr
  have crc := c_rc (C := C) (i := i) (r := r) hO
  by_cases a : v (aP s r) = 1
  · rw [if_pos a] at ma
    have cpre : ∀ o : Option Int32, (if rcI v s r = -9 then if (sN C i N).1 21 i s (tN (nI r)) < 62259 then (f_tb_nominalOf (sN C i N) i (nI r)).bind fun r9 => (f_tb_nominalOf (sN C i N) i ((sN C i N).1 41 i s (tN 2))).bind fun r10 => if r9 ≤ r10 then some (-9) else if (sN C i N).1 23 i s (tN (nI r)) ≤ 0 then some (-9) else some 14 else some 13 else some 12) = o → f_nt_causeAgainst (sN C i N) i i s (nI r) = o := fun o q => by
      unfold f_nt_causeAgainst
      refine bs ch (im (by decide) (ip g8 (im ?_ (ip g8 (bs crc q)))))
      rw [e20, a]
      decide
    have m0 := m_role (M := M) (v := v) hs4 (show 0 < 4 by decide)
    have m1 := m_role (M := M) (v := v) hs4 (show 1 < 4 by decide)
    have m2 := m_role (M := M) (v := v) hs4 (show 2 < 4 by decide)
    have is12 : rcI v s r ≠ -9 → ∀ xx, xx = some (12 : Int32) → ∃ x y, xx = some x ∧ f_nt_causeAgainst (sN C i N) i i s (nI r) = some y ∧ ((x = 0 ∧ y = -9) ∨ (x = y ∧ (x = 11 ∨ x = 12 ∨ x = 13 ∨ x = 14) ∧ (x = 12 → rcI v s r ≠ -9))) := fun q xx hx => by
      refine ⟨12, 12, hx, cpre _ ?_, Or.inr ⟨rfl, by decide, fun _ => q⟩⟩
      rw [if_neg q]
    by_cases c0 : v (aS s + 18 + 0) = nI r
    · exact is12 (by unfold rcI; rw [if_pos c0]; decide) _ (bs ma (im (by decide) (bs m0 (ip c0.symm rfl))))
    · by_cases c1 : v (aS s + 18 + 1) = nI r
      · exact is12 (by unfold rcI; rw [if_neg c0, if_pos c1]; decide) _ (bs ma (im (by decide) (bs m0 (im (fun q => c0 q.symm) (bs m1 (ip c1.symm rfl))))))
      · by_cases c2 : v (aS s + 18 + 2) = nI r
        · exact is12 (by unfold rcI; rw [if_neg c0, if_neg c1, if_pos c2]; decide) _ (bs ma (im (by decide) (bs m0 (im (fun q => c0 q.symm) (bs m1 (im (fun q => c1 q.symm) (bs m2 (ip c2.symm rfl))))))))
        · have rc9 : rcI v s r = -9 := by unfold rcI; rw [if_neg c0, if_neg c1, if_neg c2]
          rw [if_pos rc9] at cpre
          obtain ⟨q2, hq2, eq2⟩ := rl_ok (h.O hs) ⟨r, hr, a⟩ (show 2 < 4 by decide)
          have mk := m_kn (M := M) h.iL hs4 (show r < 8 by omega)
          have kb := (h.iL.k hs4 (show r < 8 by omega)).1
          have h2' := esC_9 (h.iL s r hs4 (by omega)).2.2.2.1.1
          have e21 : (sN C i N).1 21 i s (tN (nI r)) = esC (v (aP s r + 1)) := by rw [rdN (by decide), tN_nI (by omega)]; exact hk.2.2
          have lt21 : esC (v (aP s r + 1)) < 62259 ↔ kN v s r < 62259 := by
            by_cases z : v (aP s r + 1) < 0
            · rw [h2'.1.mpr z, kN_neg z]
              exact ⟨fun _ => by decide, fun _ => by decide⟩
            · rw [h2'.2 z, kN_pos z]
              exact nI_lt' (b := 62259) (by omega) (by omega)
          rw [e21] at cpre
          have mpre : ∀ o : Option Int32, (if nI (kN v s r) < 62259 then (f_m_nominal (sV M v) (nI r)).bind fun r11 => (f_m_roleOf (sV M v) (nI s) 2).bind fun r12 => (f_m_nominal (sV M v) r12).bind fun r13 => if r11 ≤ r13 then some 0 else (f_m_pair (nI s) (nI r)).bind fun r15 => if gin (r15 + (2 : Int32)) 600 then if ((sV M v).1 100 0 0 (tN (r15 + (2 : Int32)))) ≤ 0 then some 0 else some 14 else none else some 13) = o → ((f_m_allows (sV M v) (nI s) (nI r)).bind fun r1 => if r1 = 0 then some 11 else (f_m_roleOf (sV M v) (nI s) 0).bind fun r3 => if nI r = r3 then some 12 else (f_m_roleOf (sV M v) (nI s) 1).bind fun r5 => if nI r = r5 then some 12 else (f_m_roleOf (sV M v) (nI s) 2).bind fun r7 => if nI r = r7 then some 12 else (f_m_known (sV M v) (nI s) (nI r)).bind fun r9 => if r9 < 62259 then (f_m_nominal (sV M v) (nI r)).bind fun r11 => (f_m_roleOf (sV M v) (nI s) 2).bind fun r12 => (f_m_nominal (sV M v) r12).bind fun r13 => if r11 ≤ r13 then some 0 else (f_m_pair (nI s) (nI r)).bind fun r15 => if gin (r15 + (2 : Int32)) 600 then if ((sV M v).1 100 0 0 (tN (r15 + (2 : Int32)))) ≤ 0 then some 0 else some 14 else none else some 13) = o := fun o q => bs ma (im (by decide) (bs m0 (im (fun q => c0 q.symm) (bs m1 (im (fun q => c1 q.symm) (bs m2 (im (fun q => c2 q.symm) (bs mk q))))))))
          by_cases c3 : kN v s r < 62259
          · rw [if_pos (lt21.mpr c3)] at cpre
            rw [if_pos (show nI (kN v s r) < 62259 from (nI_lt' (b := 62259) (by omega) (by omega)).mpr c3)] at mpre
            have n1 := m_nom (M := M) h.iR hr
            have n2 := m_nom (M := M) h.iR hq2
            have d1 := c_nom (C := C) (i := i) h.E h.iR h.M hr
            have d2 := c_nom (C := C) (i := i) h.E h.iR h.M hq2
            have e41 : (sN C i N).1 41 i s (tN 2) = nI q2 := by rw [t_2, rdN (by decide), hO 2 (by omega)]; exact eq2
            have e23 : (sN C i N).1 23 i s (tN (nI r)) = v (aP s r + 2) := by rw [rdN (by decide), tN_nI (by omega)]; exact h.E 23 s r rfl (dP (by simp) hs4 (by omega))
            have e2 : v (aS s + 18 + 2) = nI q2 := eq2
            rw [e2] at m2
            rw [e41] at cpre
            by_cases c4 : nI (aN v r 1200) ≤ nI (aN v q2 1200)
            · exact ⟨0, -9, mpre _ (bs n1 (bs m2 (bs n2 (ip c4 rfl)))), cpre _ (bs d1 (bs d2 (ip c4 rfl))), Or.inl ⟨rfl, rfl⟩⟩
            · have mm : ∀ o : Option Int32, (if v (aP s r + 2) ≤ 0 then some 0 else some 14) = o → _ = o := fun o q => mpre o (bs n1 (bs m2 (bs n2 (im c4 (bs (spr s r) (ip (gx (k := 30 + 8 * (8 * s + r) + 2) (by simp only [IXr]) (by omega) (by omega)) (by
                rw [rx (k := 30 + 8 * (8 * s + r) + 2) (by simp only [IXr]) (by omega)]
                exact q)))))))
              rw [e23] at cpre
              by_cases c5 : v (aP s r + 2) ≤ 0
              · exact ⟨0, -9, mm _ (ip c5 rfl), cpre _ (bs d1 (bs d2 (im c4 (ip c5 rfl)))), Or.inl ⟨rfl, rfl⟩⟩
              · exact ⟨14, 14, mm _ (im c5 rfl), cpre _ (bs d1 (bs d2 (im c4 (im c5 rfl)))), Or.inr ⟨rfl, by decide, fun q => absurd q (by decide)⟩⟩
          · rw [if_neg (fun q => c3 (lt21.mp q))] at cpre
            rw [if_neg (show ¬ nI (kN v s r) < 62259 from fun q => c3 ((nI_lt' (b := 62259) (by omega) (by omega)).mp q))] at mpre
            exact ⟨13, 13, mpre _ rfl, cpre _ rfl, Or.inr ⟨rfl, by decide, fun q => absurd q (by decide)⟩⟩
  · rw [if_neg a] at ma
    refine ⟨11, 11, bs ma (ip rfl rfl), bs ch (im (by decide) (ip g8 (ip ?_ rfl))), Or.inr ⟨rfl, by decide, fun q => absurd q (by decide)⟩⟩
    rw [e20]
    exact hal.resolve_right a
def dw (d : Int32) : Nat := d.toBitVec.toNat / 65536
theorem ush16 (d : Int32) : (d.toUInt32 >>> ((16 : Int32).toUInt32 &&& Int32.toUInt32 31)).toInt32 = nI (dw d) ∧ dw d < 65536 := by
  have e := pk_ushr d 16 16 (by decide)
  have hb : d.toBitVec.toNat < 2 ^ 32 := d.toBitVec.isLt
  have h2 : dw d < 65536 := by unfold dw; omega
  refine ⟨?_, h2⟩
  apply Int32.toBitVec_inj.mp
  apply BitVec.eq_of_toNat_eq
  rw [e]
  show d.toBitVec.toNat / 2 ^ 16 = dw d % 2 ^ 32
  rw [Nat.mod_eq_of_lt (by omega)]
  rfl
end L49
