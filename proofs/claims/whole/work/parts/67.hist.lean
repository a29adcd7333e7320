/-! a whole network is copied; the relation of the two memories; the act -/
section L67
variable {C M : Me} {i i0 i1 : Nat} {N N' : Nt} {v v' : Vt} {sc cnt w s r : Nat}
theorem nt_bits (h : RN N v sc cnt w) : (∀ s r, s < 4 → r < 8 → N.1 20 s r = 0 ∨ N.1 20 s r = 1) ∧ (∀ s, s < 4 → N.1 37 s 0 = 0 ∨ N.1 37 s 0 = 1) ∧ (∀ c, c < 6 → N.1 50 c 0 = 0 ∨ N.1 50 c 0 = 1) := by
  refine ⟨fun s r h1 h2 => ?_, fun s h1 => ?_, fun c h1 => ?_⟩
  · obtain ⟨q1, q2⟩ := h.L s r h1 h2
    by_cases z : s < sc ∧ r < cnt
    · rw [(q1 z).1]
      exact (h.iL s r h1 h2).2.2.2.2.1
    · exact Or.inr (q2 z).1
  · rw [h.E 37 s 0 rfl (dS (by simp) h1)]
    exact (h.iT s h1).1
  · rw [h.E 50 c 0 rfl (dO (by simp) h1)]
    exact (h.iC c h1).1
def PS (k a b d : Nat) : Prop := (20 ≤ a ∧ a ≤ 27 ∧ b < k ∧ d < 8) ∨ (a = 41 ∧ b < k ∧ d < 4) ∨ (a = 42 ∧ b < k ∧ d < 3) ∨ (a = 43 ∧ b < k ∧ d < 8) ∨ (31 ≤ a ∧ a ≤ 38 ∧ b < k ∧ d = 0) ∨ (a = 40 ∧ b < k ∧ d = 0)
def PC (k a b d : Nat) : Prop := (50 ≤ a ∧ a ≤ 54 ∧ b < k ∧ d = 0) ∨ (55 ≤ a ∧ a ≤ 56 ∧ b < k ∧ d < 4)
def PT (a b d : Nat) : Prop := (a = 10 ∧ b = 0 ∧ d = 0) ∨ (11 ≤ a ∧ a ≤ 13 ∧ b = 0 ∧ d < 8)
def PL (a b d : Nat) : Prop := (a = 60 ∧ b = 0 ∧ d = 0) ∨ (a = 61 ∧ b < 4 ∧ d < 20)
theorem dm_cov {f a b : Nat} (h : dm f a b = true) (h39 : f ≠ 39) : (f ≤ 6 ∧ a = 0 ∧ b = 0) ∨ PT f a b ∨ PS 4 f a b ∨ PC 6 f a b ∨ PL f a b := by
  unfold PS PC PT PL
  unfold dm at h
  split at h <;> simp at h <;> omega
theorem PS_s {k a b d : Nat} (q : PS (k + 1) a b d) : PS k a b d ∨ (20 ≤ a ∧ a ≤ 27 ∧ b = k ∧ d < 8) ∨ (a = 41 ∧ b = k ∧ d < 4) ∨ (a = 42 ∧ b = k ∧ d < 3) ∨ (a = 43 ∧ b = k ∧ d < 8) ∨ (31 ≤ a ∧ a ≤ 38 ∧ b = k ∧ d = 0) ∨ (a = 40 ∧ b = k ∧ d = 0) := by
  unfold PS at q ⊢
  by_cases e : b = k
  · right
    rcases q with q | q | q | q | q | q
    · exact Or.inl ⟨q.1, q.2.1, e, q.2.2.2⟩
    · exact Or.inr (Or.inl ⟨q.1, e, q.2.2⟩)
    · exact Or.inr (Or.inr (Or.inl ⟨q.1, e, q.2.2⟩))
    · exact Or.inr (Or.inr (Or.inr (Or.inl ⟨q.1, e, q.2.2⟩)))
    · exact Or.inr (Or.inr (Or.inr (Or.inr (Or.inl ⟨q.1, q.2.1, e, q.2.2.2⟩))))
    · exact Or.inr (Or.inr (Or.inr (Or.inr (Or.inr ⟨q.1, e, q.2.2⟩))))
  · left
    rcases q with q | q | q | q | q | q
    · exact Or.inl ⟨q.1, q.2.1, by omega, q.2.2.2⟩
    · exact Or.inr (Or.inl ⟨q.1, by omega, q.2.2⟩)
    · exact Or.inr (Or.inr (Or.inl ⟨q.1, by omega, q.2.2⟩))
    · exact Or.inr (Or.inr (Or.inr (Or.inl ⟨q.1, by omega, q.2.2⟩)))
    · exact Or.inr (Or.inr (Or.inr (Or.inr (Or.inl ⟨q.1, q.2.1, by omega, q.2.2.2⟩))))
    · exact Or.inr (Or.inr (Or.inr (Or.inr (Or.inr ⟨q.1, by omega, q.2.2⟩))))
theorem PC_s {k a b d : Nat} (q : PC (k + 1) a b d) : PC k a b d ∨ (50 ≤ a ∧ a ≤ 54 ∧ b = k ∧ d = 0) ∨ (55 ≤ a ∧ a ≤ 56 ∧ b = k ∧ d < 4) := by
  unfold PC at q ⊢
  omega
theorem s_become (hi : i1 ≠ i0) (h : RN (nN C i1) v sc cnt w) : ∃ N', f_nt_become C i0 i1 = some (sN C i0 N') ∧ RN N' v sc cnt w := by
  obtain ⟨k20, k37, k50⟩ := nt_bits h
  obtain ⟨N1, t1, c1⟩ := cp_tb (C := C) (i0 := i0) (i1 := i1) (N := nN C i0) (P := fun _ _ _ => False) (Q := fun _ => False) hi ⟨fun _ _ _ q => q.elim, fun _ q => q.elim⟩
  have keyS := lpI (b := b_nt_become_13 i0 i1) (fun k x => ∃ N', x = (nI k, sN C i0 N') ∧ Cp (nN C i1) N' (fun a b d => PT a b d ∨ PS k a b d) (fun a => a < k)) (fun t => ∃ N', t = sN C i0 N' ∧ Cp (nN C i1) N' (fun a b d => PT a b d ∨ PS 4 a b d) (fun a => a < 4)) 4 (by omega) (fun k x hk hP => ?_) (fun x hP => ?_) (x := (0, sN C i0 N1)) ⟨N1, rfl, Cp_w c1 (fun a b d q => Or.inr (q.resolve_right (by unfold PS; omega))) (fun a q => absurd q (by omega))⟩
  · obtain ⟨t2, u2, N2, rfl, c2⟩ := keyS
    have keyC := lpI (b := b_nt_become_41 i0 i1) (fun k x => ∃ N', x = (nI k, sN C i0 N') ∧ Cp (nN C i1) N' (fun a b d => (PT a b d ∨ PS 4 a b d) ∨ PC k a b d) (fun a => a < 4)) (fun t => ∃ N', t = sN C i0 N' ∧ Cp (nN C i1) N' (fun a b d => (PT a b d ∨ PS 4 a b d) ∨ PC 6 a b d) (fun a => a < 4)) 6 (by omega) (fun k x hk hP => ?_) (fun x hP => ?_) (x := (0, sN C i0 N2)) ⟨N2, rfl, Cp_w c2 (fun a b d q => q.resolve_right (by unfold PC; omega)) (fun a q => q)⟩
    · obtain ⟨t3, u3, N3, rfl, c3⟩ := keyC
      obtain ⟨N4, u4, c4⟩ := cp_lo hi c3
      have c := Cp_u (f := 6) (s := 0) (r := 0) (Cp_u (f := 5) (s := 0) (r := 0) (Cp_u (f := 4) (s := 0) (r := 0) (Cp_u (f := 3) (s := 0) (r := 0) (Cp_u (f := 2) (s := 0) (r := 0) (Cp_u (f := 1) (s := 0) (r := 0) (Cp_u (f := 0) (s := 0) (r := 0) c4))))))
      refine ⟨_, ?_, RN_xn h (fun f a b q => c.1 f a b ?_) (fun a ha => c.2 a ha)⟩
      · unfold f_nt_become
        have e : f_tb_become C i0 i1 = some (sN C i0 N1) := by rw [sN_e] at t1; exact t1
        exact bs e (bs u2 (bs u3 (bs u4 (bs (st_u hi (by decide) _) (bs (st_u hi (by decide) _) (bs (st_u hi (by decide) _) (bs (st_u hi (by decide) _) (bs (st_u hi (by decide) _) (bs (st_u hi (by decide) _) (bs (st_u hi (by decide) _) rfl))))))))))
      · rcases q with q | q
        · rcases dm_cov q.1 q.2 with z | z | z | z | z
          · rcases (show f = 0 ∨ f = 1 ∨ f = 2 ∨ f = 3 ∨ f = 4 ∨ f = 5 ∨ f = 6 by omega) with e | e | e | e | e | e | e <;> simp [e, z.2.1, z.2.2]
          · simp [z]
          · simp [z]
          · simp [z]
          · unfold PL at z
            simp [z]
        · have z : PT f a b := Or.inr ⟨by omega, by omega, q.2.1, q.2.2⟩
          simp [z]
    · obtain ⟨N3, rfl, c3⟩ := hP
      obtain ⟨N4, u4, c4⟩ := cp_ch (s := k) hi c3 (k50 k hk)
      refine ⟨(nI (k + 1), sN C i0 N4), ?_, N4, rfl, Cp_w c4 (fun a b d q => ?_) (fun a q => q)⟩
      · unfold b_nt_become_41
        refine im (show ¬ (6 : Int32) ≤ nI k from nle (n := 6) (by omega) (by omega)) (ip (gin_nI (by omega) (by omega)) (ip (gin_nI (by omega) (by omega)) ?_))
        rw [tN_nI (by omega)]
        refine bs u4 ?_
        simp only [↓ob, IXr]
      · rcases q with q | q
        · exact Or.inl (Or.inl q)
        · rcases PC_s q with z | z
          · exact Or.inl (Or.inr z)
          · exact Or.inr z
    · obtain ⟨N3, rfl, c3⟩ := hP
      refine ⟨_, ?_, N3, rfl, c3⟩
      unfold b_nt_become_41
      exact ip (show (6 : Int32) ≤ nI 6 from by decide) rfl
  · obtain ⟨N2, rfl, c2⟩ := hP
    obtain ⟨N3, u3, c3⟩ := cp_st (s := k) hi c2 (fun r hr => k20 k r hk hr) (k37 k hk)
    refine ⟨(nI (k + 1), sN C i0 N3), ?_, N3, rfl, Cp_w c3 (fun a b d q => ?_) (fun a q => by omega)⟩
    · unfold b_nt_become_13
      refine im (show ¬ (4 : Int32) ≤ nI k from nle (n := 4) (by omega) (by omega)) (ip (gin_nI (by omega) (by omega)) (ip (gin_nI (by omega) (by omega)) ?_))
      rw [tN_nI (by omega)]
      refine bs u3 ?_
      simp only [↓ob, IXr]
    · rcases q with q | q
      · exact Or.inl (Or.inl q)
      · rcases PS_s q with z | z
        · exact Or.inl (Or.inr z)
        · exact Or.inr z
  · obtain ⟨N2, rfl, c2⟩ := hP
    refine ⟨_, ?_, N2, rfl, c2⟩
    unfold b_nt_become_13
    exact ip (show (4 : Int32) ≤ nI 4 from by decide) rfl
/-! the two memories -/
def HV (M : Me) (k : Nat) : Vt := fun j => M.1 103 0 0 (600 * k + j)
def SW (M : Me) (k : Nat) : Vt := fun j => M.1 101 0 0 (600 * k + j)
def Rs (C M : Me) (w : Nat) : Prop := ∀ k, k < 2 → C.1 91 0 0 k = M.1 102 0 0 k ∧ (C.1 91 0 0 k = 0 ∨ (C.1 91 0 0 k = 1 ∧ ∃ sc cnt, RN (nN C (2 + k)) (SW M k) sc cnt w))
def Rh (C M : Me) (w : Nat) : Prop := ∃ o n, o < 5 ∧ n ≤ 5 ∧ C.1 70 0 0 0 = nI o ∧ C.1 71 0 0 0 = nI n ∧ M.1 105 0 0 0 = nI n ∧ ∀ k, k < n → ∃ sc cnt, RN (nN C (4 + (o + k) % 5)) (HV M k) sc cnt w
def Rl (C M : Me) (w : Nat) : Prop := (∃ sc cnt, RN (nN C 0) (mV M) sc cnt w) ∧ Rs C M w ∧ Rh C M w
/-- another memory with the same network -/
theorem RN_nn {C C' : Me} {j : Nat} (h : RN (nN C j) v sc cnt w) (h1 : ∀ f a b, f < 70 → C'.1 f j a b = C.1 f j a b) (h2 : ∀ a b, C'.2 39 j a b = C.2 39 j a b) : RN (nN C' j) v sc cnt w :=
  RN_xn h (fun f a b q => h1 f a b (by rcases q with q | q; exact Nat.lt_trans (dm_b q.1).1 (by decide); omega)) (fun a _ => h2 a 0)
theorem RN_ns (h : RN N v sc cnt w) : RN (nN (sN C i N) i) v sc cnt w :=
  RN_xn h (fun f a b q => rdN (by rcases q with q | q; exact Nat.lt_trans (dm_b q.1).1 (by decide); omega)) (fun a _ => rdN2 (by decide))
theorem Rs_x {C' M' : Me} {w' : Nat} (h : Rs C M w) (hw : w ≤ w') (h1 : ∀ k, C'.1 91 0 0 k = C.1 91 0 0 k) (h2 : ∀ j, 2 ≤ j → j < 4 → (∀ f a b, f < 70 → C'.1 f j a b = C.1 f j a b) ∧ ∀ a b, C'.2 39 j a b = C.2 39 j a b) (h3 : ∀ k, M'.1 102 0 0 k = M.1 102 0 0 k) (h4 : ∀ k, M'.1 101 0 0 k = M.1 101 0 0 k) : Rs C' M' w' := by
  intro k hk
  obtain ⟨a1, a2⟩ := h k hk
  rw [h1, h3]
  refine ⟨a1, a2.elim Or.inl (fun z => Or.inr ⟨z.1, ?_⟩)⟩
  obtain ⟨sc, cnt, q⟩ := z.2
  obtain ⟨e1, e2⟩ := h2 (2 + k) (by omega) (by omega)
  have eS : SW M' k = SW M k := funext fun j => h4 _
  rw [eS]
  exact ⟨sc, cnt, RN_m (RN_nn q e1 e2) hw⟩
theorem Rh_x {C' M' : Me} {w' : Nat} (h : Rh C M w) (hw : w ≤ w') (h1 : C'.1 70 0 0 0 = C.1 70 0 0 0) (h1b : C'.1 71 0 0 0 = C.1 71 0 0 0) (h2 : ∀ j, 4 ≤ j → (∀ f a b, f < 70 → C'.1 f j a b = C.1 f j a b) ∧ ∀ a b, C'.2 39 j a b = C.2 39 j a b) (h3 : M'.1 105 0 0 0 = M.1 105 0 0 0) (h4 : ∀ k, M'.1 103 0 0 k = M.1 103 0 0 k) : Rh C' M' w' := by
  obtain ⟨o, n, a1, a2, a3, a4, a5, a6⟩ := h
  refine ⟨o, n, a1, a2, h1.trans a3, h1b.trans a4, h3.trans a5, fun k hk => ?_⟩
  obtain ⟨sc, cnt, q⟩ := a6 k hk
  obtain ⟨e1, e2⟩ := h2 (4 + (o + k) % 5) (by omega)
  have eH : HV M' k = HV M k := funext fun j => h4 _
  rw [eH]
  exact ⟨sc, cnt, RN_m (RN_nn q e1 e2) hw⟩
/-- the network now is another one, and so is the array -/
theorem Rl_n {w' : Nat} (hs : Rs C M w) (hh : Rh C M w) (hw : w ≤ w') (h : RN N v sc cnt w') : Rl (sN C 0 N) (sV M v) w' :=
  ⟨⟨sc, cnt, by rw [mV_s]; exact RN_ns h⟩, Rs_x hs hw (fun _ => rdN' (by decide)) (fun j h1 _ => ⟨fun f a b _ => rdNj (by omega), fun a b => rdN2j (by omega)⟩) (fun _ => rdV' M v 102 _ (by decide)) (fun _ => rdV' M v 101 _ (by decide)),
    Rh_x hh hw (rdN' (by decide)) (rdN' (by decide)) (fun j h1 => ⟨fun f a b _ => rdNj (by omega), fun a b => rdN2j (by omega)⟩) (rdV' M v 105 _ (by decide)) (fun _ => rdV' M v 103 _ (by decide))⟩
/-! the reference's rows -/
def sA (M : Me) (f : Nat) (u : Vt) : Me := (fun f' i s r => if f' = f ∧ i = 0 ∧ s = 0 then u r else M.1 f' i s r, M.2)
theorem sA_r {f k : Nat} {u : Vt} : (sA M f u).1 f 0 0 k = u k := if_pos ⟨rfl, rfl, rfl⟩
theorem sA_o {f f' a b k : Nat} {u : Vt} (h : f' ≠ f) : (sA M f u).1 f' a b k = M.1 f' a b k := if_neg (fun q => h q.1)
theorem sA_w {f k : Nat} {u : Vt} {x : Int32} : wI (sA M f u) f 0 0 k x = sA M f (upd u k x) := by
  refine Prod.ext (funext fun f' => funext fun i => funext fun s => funext fun r => ?_) rfl
  show (if f' = f ∧ i = 0 ∧ s = 0 ∧ r = k then x else if f' = f ∧ i = 0 ∧ s = 0 then u r else M.1 f' i s r) = if f' = f ∧ i = 0 ∧ s = 0 then (if r = k then x else u r) else M.1 f' i s r
  by_cases h : f' = f ∧ i = 0 ∧ s = 0
  · obtain ⟨rfl, rfl, rfl⟩ := h
    by_cases hr : r = k <;> simp [hr]
  · rw [if_neg (fun q => h ⟨q.1, q.2.1, q.2.2.1⟩), if_neg h, if_neg h]
theorem sA_e {f : Nat} : sA M f (fun r => M.1 f 0 0 r) = M := by
  refine Prod.ext (funext fun f' => funext fun i => funext fun s => funext fun r => ?_) rfl
  show (if f' = f ∧ i = 0 ∧ s = 0 then M.1 f 0 0 r else M.1 f' i s r) = M.1 f' i s r
  by_cases h : f' = f ∧ i = 0 ∧ s = 0
  · rw [if_pos h, h.1, h.2.1, h.2.2]
  · rw [if_neg h]
theorem w_o {f f' a b k j x0 y0 : Nat} {x : Int32} (h : f' ≠ f) : (wI M f x0 y0 k x).1 f' a b j = M.1 f' a b j := if_neg (fun q => h q.1)
theorem w_s {f a b k : Nat} {x : Int32} : (wI M f a b k x).1 f a b k = x := if_pos ⟨rfl, rfl, rfl, rfl⟩
/-- a stretch of a row is laid over with another's -/
def cv (u g : Vt) (d k : Nat) : Vt := fun j => if d ≤ j ∧ j < d + k then g (j - d) else u j
theorem cv_0 {u g : Vt} {d : Nat} : cv u g d 0 = u := funext fun j => if_neg (by omega)
theorem cv_s {u g : Vt} {d k : Nat} : upd (cv u g d k) (d + k) (g k) = cv u g d (k + 1) := by
  funext j
  by_cases e : j = d + k
  · subst e
    rw [up_s]
    show _ = if d ≤ d + k ∧ d + k < d + (k + 1) then g (d + k - d) else u (d + k)
    rw [if_pos ⟨by omega, by omega⟩, show d + k - d = k by omega]
  · rw [up_n e]
    show (if d ≤ j ∧ j < d + k then g (j - d) else u j) = if d ≤ j ∧ j < d + (k + 1) then g (j - d) else u j
    by_cases c : d ≤ j ∧ j < d + k
    · rw [if_pos c, if_pos ⟨by omega, by omega⟩]
    · rw [if_neg c, if_neg (by omega)]
theorem m_act51 {n : Nat} (hn : n < 5) (h5 : M.1 105 0 0 0 = nI n) : lp FU b_m_act_51 (0, M) = some (sA M 103 (cv (fun r => M.1 103 0 0 r) (mV M) (600 * n) 600)) := by
  have e0 : ((0 : Int32), M) = (nI 0, sA M 103 (cv (fun r => M.1 103 0 0 r) (mV M) (600 * n) 0)) := by rw [cv_0, sA_e]; rfl
  rw [e0]
  refine lp_n (fun k => (nI k, sA M 103 (cv (fun r => M.1 103 0 0 r) (mV M) (600 * n) k))) 600 (lt_FU (by omega)) (fun k hk => ?_) ?_
  · have e5 : (sA M 103 (cv (fun r => M.1 103 0 0 r) (mV M) (600 * n) k)).1 105 0 0 0 = nI n := by rw [sA_o (by decide)]; exact h5
    have ea : (600 : Int32) * nI n + nI k = nI (600 * n + k) := by simp only [IXm, l_add]
    have e100 : (sA M 103 (cv (fun r => M.1 103 0 0 r) (mV M) (600 * n) k)).1 100 0 0 (tN (nI k)) = mV M k := by rw [sA_o (by decide), tN_nI (by omega)]; rfl
    unfold b_m_act_51
    refine im (show ¬ (600 : Int32) ≤ nI k from nle (n := 600) (by omega) (by omega)) (ip (gin_nI (by omega) (by omega)) ?_)
    show (if gin ((600 : Int32) * (sA M 103 (cv (fun r => M.1 103 0 0 r) (mV M) (600 * n) k)).1 105 0 0 0 + nI k) 3000 then (some (wI (sA M 103 (cv (fun r => M.1 103 0 0 r) (mV M) (600 * n) k)) 103 0 0 (tN ((600 : Int32) * (sA M 103 (cv (fun r => M.1 103 0 0 r) (mV M) (600 * n) k)).1 105 0 0 0 + nI k)) ((sA M 103 (cv (fun r => M.1 103 0 0 r) (mV M) (600 * n) k)).1 100 0 0 (tN (nI k))))).bind _ else none) = _
    rw [e5, ea, e100, if_pos (gin_nI (by omega) (by omega)), tN_nI (by omega), sA_w, cv_s]
    simp only [↓ob, IXr]
  · unfold b_m_act_51
    exact ip (show (600 : Int32) ≤ nI 600 from by decide) rfl
def cu (u : Vt) (k : Nat) : Vt := fun j => if j < k then u (j + 600) else u j
theorem m_act10 : lp FU b_m_act_10 (0, M) = some (sA M 103 (cu (fun r => M.1 103 0 0 r) 2400)) := by
  have e0 : ((0 : Int32), M) = (nI 0, sA M 103 (cu (fun r => M.1 103 0 0 r) 0)) := by
    rw [show cu (fun r => M.1 103 0 0 r) 0 = (fun r => M.1 103 0 0 r) from funext fun j => if_neg (by omega), sA_e]
    rfl
  rw [e0]
  refine lp_n (fun k => (nI k, sA M 103 (cu (fun r => M.1 103 0 0 r) k))) 2400 (lt_FU (by omega)) (fun k hk => ?_) ?_
  · have ea : nI k + (600 : Int32) = nI (k + 600) := by simp only [IXr]
    have er : (sA M 103 (cu (fun r => M.1 103 0 0 r) k)).1 103 0 0 (k + 600) = M.1 103 0 0 (k + 600) := by
      rw [sA_r]
      exact if_neg (by omega)
    have eu : upd (cu (fun r => M.1 103 0 0 r) k) k (M.1 103 0 0 (k + 600)) = cu (fun r => M.1 103 0 0 r) (k + 1) := by
      funext j
      by_cases e : j = k
      · subst e
        rw [up_s]
        exact (if_pos (show j < j + 1 by omega)).symm
      · rw [up_n e]
        show (if j < k then M.1 103 0 0 (j + 600) else M.1 103 0 0 j) = if j < k + 1 then M.1 103 0 0 (j + 600) else M.1 103 0 0 j
        by_cases c : j < k
        · rw [if_pos c, if_pos (by omega)]
        · rw [if_neg c, if_neg (by omega)]
    unfold b_m_act_10
    refine im (show ¬ (2400 : Int32) ≤ nI k from nle (n := 2400) (by omega) (by omega)) ?_
    show (if gin (nI k + (600 : Int32)) 3000 then if gin (nI k) 3000 then (some (wI (sA M 103 (cu (fun r => M.1 103 0 0 r) k)) 103 0 0 (tN (nI k)) ((sA M 103 (cu (fun r => M.1 103 0 0 r) k)).1 103 0 0 (tN (nI k + (600 : Int32)))))).bind _ else none else none) = _
    rw [ea, if_pos (gin_nI (k := k + 600) (n := 3000) (by omega) (by omega)), if_pos (gin_nI (k := k) (n := 3000) (by omega) (by omega)), tN_nI (n := k) (by omega), tN_nI (n := k + 600) (by omega), er, sA_w, eu]
    simp only [↓ob, IXr]
  · unfold b_m_act_10
    exact ip (show (2400 : Int32) ≤ nI 2400 from by decide) rfl
/-- the act: both sides keep the state -/
theorem t_act (hs : Rs C M w) (hh : Rh C M w) (h : RN (nN C 0) (mV M) sc cnt w) : ∃ C' M', f_hi_keep C 0 = some (sN C' 0 (nN C 0)) ∧ f_m_act M = some (sV M' (mV M)) ∧ Rs C' M' w ∧ Rh C' M' w := by
  obtain ⟨o, n, a1, a2, a3, a4, a5, a6⟩ := hh
  have hp : (o + n) % 5 < 5 := Nat.mod_lt _ (by decide)
  have ef : fmval (C.1 70 0 0 0 + C.1 71 0 0 0) 5 = nI ((o + n) % 5) := by
    rw [a3, a4, l_add]
    exact fm_nI (b := 5) (by omega) (by decide) (by decide)
  obtain ⟨N', b1, b2⟩ := s_become (C := C) (i0 := 4 + (o + n) % 5) (i1 := 0) (by omega) h
  obtain ⟨C1, hC1⟩ : ∃ C1, C1 = sN C (4 + (o + n) % 5) N' := ⟨_, rfl⟩
  have c1hi : ∀ f a b d, ¬ f < 70 → C1.1 f a b d = C.1 f a b d := fun f a b d hf => by rw [hC1]; exact rdN' hf
  have c1j : ∀ j, j ≠ 4 + (o + n) % 5 → (∀ f a b, C1.1 f j a b = C.1 f j a b) ∧ ∀ f a b, C1.2 f j a b = C.2 f j a b := fun j hj => by
    rw [hC1]
    exact ⟨fun f a b => rdNj hj, fun f a b => rdN2j hj⟩
  have hk0 : ∀ C2 : Me, (∀ f a b, f < 70 → C2.1 f 0 a b = C1.1 f 0 a b) → C2.2 = C1.2 → sN C2 0 (nN C 0) = C2 := fun C2 e1 e2 => by
    refine Prod.ext (funext fun f => funext fun j => funext fun s => funext fun r => ?_) (funext fun f => funext fun j => funext fun s => funext fun r => ?_)
    · show (if j = 0 ∧ f < 70 then C.1 f 0 s r else C2.1 f j s r) = C2.1 f j s r
      by_cases q : j = 0 ∧ f < 70
      · rw [if_pos q, q.1, e1 f s r q.2, (c1j 0 (by omega)).1]
      · rw [if_neg q]
    · show (if j = 0 ∧ f < 70 then C.2 f 0 s r else C2.2 f j s r) = C2.2 f j s r
      by_cases q : j = 0 ∧ f < 70
      · rw [if_pos q, q.1, e2, (c1j 0 (by omega)).2]
      · rw [if_neg q]
  have new : RN (nN C1 (4 + (o + n) % 5)) (mV M) sc cnt w := by rw [hC1]; exact RN_ns b2
  have vk : ∀ M2 : Me, (∀ k, M2.1 100 0 0 k = M.1 100 0 0 k) → sV M2 (mV M) = M2 := fun M2 e => by
    have : mV M2 = mV M := funext fun k => e k
    rw [← this, sV_e]
  by_cases hn : n = 5
  · subst hn
    have e5 : (o + 5) % 5 = o := by omega
    rw [e5] at ef b1 hC1 c1j new
    refine ⟨wI C1 70 0 0 0 (nI ((o + 1) % 5)), wI (sA (wI (sA M 103 (cu (fun r => M.1 103 0 0 r) 2400)) 105 0 0 0 (nI 4)) 103 (cv (fun r => cu (fun r => M.1 103 0 0 r) 2400 r) (mV M) (600 * 4) 600)) 105 0 0 0 (nI 5), ?_, ?_, ?_, ?_⟩
    · rw [hk0 _ (fun f a b hf => w_o (by omega)) rfl]
      unfold f_hi_keep
      rw [ef]
      refine ip (gin_nI (by omega) (by omega)) ?_
      rw [tN_nI (by omega)]
      refine bs b1 ?_
      rw [← hC1]
      refine ip (by rw [c1hi _ _ _ _ (by decide), a4]; decide) ?_
      rw [c1hi 70 _ _ _ (by decide), a3, nI_1, show fmval (nI (o + 1)) 5 = nI ((o + 1) % 5) from fm_nI (b := 5) (by omega) (by decide) (by decide)]
      rfl
    · rw [vk _ (fun k => by rw [w_o (by decide), sA_o (by decide), w_o (by decide), sA_o (by decide)])]
      unfold f_m_act
      refine ip (by rw [a5]; rfl) (bs m_act10 ?_)
      have q5 : (sA M 103 (cu (fun r => M.1 103 0 0 r) 2400)).1 105 0 0 0 - (1 : Int32) = nI 4 := by rw [sA_o (by decide), a5]; exact nI_sb (b := 1) (by omega)
      rw [q5]
      refine bs rfl ?_
      have l51 := m_act51 (M := wI (sA M 103 (cu (fun r => M.1 103 0 0 r) 2400)) 105 0 0 0 (nI 4)) (n := 4) (by omega) w_s
      have eg : (fun r => (wI (sA M 103 (cu (fun r => M.1 103 0 0 r) 2400)) 105 0 0 0 (nI 4)).1 103 0 0 r) = fun r => cu (fun r => M.1 103 0 0 r) 2400 r := funext fun r => by rw [w_o (by decide), sA_r]
      have em : mV (wI (sA M 103 (cu (fun r => M.1 103 0 0 r) 2400)) 105 0 0 0 (nI 4)) = mV M := funext fun r => by show (wI _ 105 0 0 0 (nI 4)).1 100 0 0 r = _; rw [w_o (by decide), sA_o (by decide)]; rfl
      rw [eg, em] at l51
      refine bs l51 ?_
      have q6 : (sA (wI (sA M 103 (cu (fun r => M.1 103 0 0 r) 2400)) 105 0 0 0 (nI 4)) 103 (cv (fun r => cu (fun r => M.1 103 0 0 r) 2400 r) (mV M) (600 * 4) 600)).1 105 0 0 0 + (1 : Int32) = nI 5 := by rw [sA_o (by decide), w_s]; rfl
      rw [q6]
      rfl
    · exact Rs_x hs (Nat.le_refl _) (fun k => by rw [w_o (by decide)]; exact c1hi _ _ _ _ (by decide)) (fun j h1 h2 => ⟨fun f a b hf => by rw [w_o (by omega)]; exact (c1j j (by omega)).1 f a b, fun a b => (c1j j (by omega)).2 39 a b⟩) (fun k => by rw [w_o (by decide), sA_o (by decide), w_o (by decide), sA_o (by decide)]) (fun k => by rw [w_o (by decide), sA_o (by decide), w_o (by decide), sA_o (by decide)])
    · refine ⟨(o + 1) % 5, 5, by omega, by omega, w_s, by rw [w_o (by decide), c1hi _ _ _ _ (by decide)]; exact a4, w_s, fun k hk => ?_⟩
      by_cases e : k = 4
      · subst e
        have ej : ((o + 1) % 5 + 4) % 5 = o := by omega
        rw [ej]
        refine ⟨sc, cnt, RN_xv (v := mV M) (RN_nn new (fun f a b hf => w_o (by omega)) (fun a b => rfl)) (fun j hj => ?_)⟩
        show (wI _ 105 0 0 0 (nI 5)).1 103 0 0 (600 * 4 + j) = mV M j
        rw [w_o (by decide), sA_r]
        show (if 600 * 4 ≤ 600 * 4 + j ∧ 600 * 4 + j < 600 * 4 + 600 then mV M (600 * 4 + j - 600 * 4) else _) = _
        rw [if_pos ⟨by omega, by omega⟩, show 600 * 4 + j - 600 * 4 = j by omega]
      · have ej : ((o + 1) % 5 + k) % 5 = (o + (k + 1)) % 5 := by omega
        rw [ej]
        obtain ⟨sc', cnt', q⟩ := a6 (k + 1) (by omega)
        refine ⟨sc', cnt', RN_xv (v := HV M (k + 1)) (RN_nn q (fun f a b hf => by rw [w_o (by omega)]; exact (c1j _ (by omega)).1 f a b) (fun a b => (c1j _ (by omega)).2 39 a b)) (fun j hj => ?_)⟩
        show (wI _ 105 0 0 0 (nI 5)).1 103 0 0 (600 * k + j) = M.1 103 0 0 (600 * (k + 1) + j)
        rw [w_o (by decide), sA_r]
        show (if 600 * 4 ≤ 600 * k + j ∧ 600 * k + j < 600 * 4 + 600 then _ else (if 600 * k + j < 2400 then M.1 103 0 0 (600 * k + j + 600) else _)) = _
        rw [if_neg (by omega), if_pos (by omega), show 600 * k + j + 600 = 600 * (k + 1) + j by omega]
  · refine ⟨wI C1 71 0 0 0 (nI (n + 1)), wI (sA M 103 (cv (fun r => M.1 103 0 0 r) (mV M) (600 * n) 600)) 105 0 0 0 (nI (n + 1)), ?_, ?_, ?_, ?_⟩
    · rw [hk0 _ (fun f a b hf => w_o (by omega)) rfl]
      unfold f_hi_keep
      rw [ef]
      refine ip (gin_nI (by omega) (by omega)) ?_
      rw [tN_nI (by omega)]
      refine bs b1 ?_
      rw [← hC1]
      refine im (fun z => by rw [c1hi _ _ _ _ (by decide), a4, show (5 : Int32) = nI 5 from rfl, nI_le' (by omega) (by omega)] at z; omega) ?_
      rw [c1hi 71 _ _ _ (by decide), a4, nI_1]
      rfl
    · rw [vk _ (fun k => by rw [w_o (by decide), sA_o (by decide)])]
      unfold f_m_act
      refine im (fun z => by rw [a5, show (5 : Int32) = nI 5 from rfl, nI_j (by omega) (by omega)] at z; exact hn z) (bs (m_act51 (by omega) a5) ?_)
      rw [sA_o (by decide), a5, nI_1]
      rfl
    · exact Rs_x hs (Nat.le_refl _) (fun k => by rw [w_o (by decide)]; exact c1hi _ _ _ _ (by decide)) (fun j h1 h2 => ⟨fun f a b hf => by rw [w_o (by omega)]; exact (c1j j (by omega)).1 f a b, fun a b => (c1j j (by omega)).2 39 a b⟩) (fun k => by rw [w_o (by decide), sA_o (by decide)]) (fun k => by rw [w_o (by decide), sA_o (by decide)])
    · refine ⟨o, n + 1, a1, by omega, by rw [w_o (by decide), c1hi _ _ _ _ (by decide)]; exact a3, w_s, w_s, fun k hk => ?_⟩
      by_cases e : k = n
      · subst e
        refine ⟨sc, cnt, RN_xv (v := mV M) (RN_nn new (fun f a b hf => w_o (by omega)) (fun a b => rfl)) (fun j hj => ?_)⟩
        show (wI _ 105 0 0 0 _).1 103 0 0 (600 * k + j) = mV M j
        rw [w_o (by decide), sA_r]
        show (if 600 * k ≤ 600 * k + j ∧ 600 * k + j < 600 * k + 600 then mV M (600 * k + j - 600 * k) else _) = _
        rw [if_pos ⟨by omega, by omega⟩, show 600 * k + j - 600 * k = j by omega]
      · obtain ⟨sc', cnt', q⟩ := a6 k (by omega)
        have hne : 4 + (o + k) % 5 ≠ 4 + (o + n) % 5 := by omega
        refine ⟨sc', cnt', RN_xv (v := HV M k) (RN_nn q (fun f a b hf => by rw [w_o (by omega)]; exact (c1j _ hne).1 f a b) (fun a b => (c1j _ hne).2 39 a b)) (fun j hj => ?_)⟩
        show (wI _ 105 0 0 0 _).1 103 0 0 (600 * k + j) = M.1 103 0 0 (600 * k + j)
        rw [w_o (by decide), sA_r]
        exact if_neg (by omega)
end L67
