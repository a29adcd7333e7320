/-! the best chain: the class's search -/
section L74
variable {C M X : Me} {N : Nt} {v : Vt} {sc cnt w s z q : Nat} {R : Nat → Nat}
def PV (v : Vt) (s z : Nat) (e : Nat → Nat) : Nat → Int64 × Int64
  | 0 => (65536, 0)
  | k + 1 => wkR v s z (e k) (PV v s z e k)
theorem PV_c {e e' : Nat → Nat} : ∀ d, (∀ k, k < d → e' k = e k) → PV v s z e' d = PV v s z e d
  | 0, _ => rfl
  | d + 1, h => by
    show wkR v s z (e' d) (PV v s z e' d) = wkR v s z (e d) (PV v s z e d)
    rw [PV_c d (fun k hk => h k (by omega)), h d (by omega)]
def PF (v : Vt) (s z : Nat) (X : Me) (e : Nat → Nat) (d : Nat) : Prop := (∀ k, k ≤ d → X.2 85 0 0 k = (PV v s z e k).1 ∧ X.2 86 0 0 k = (PV v s z e k).2) ∧ ∀ k, k < d → X.1 87 0 0 k = nI (e k)
def CR (X : Me) (x : Int32 × Int64 × Int64) : Prop := (x.1 = -9 ∧ X.2 89 0 0 0 = -1 ∧ X.2 90 0 0 0 = 1) ∨ (∃ c, c < 4096 ∧ x.1 = nI c ∧ X.2 89 0 0 0 = x.2.1 ∧ X.2 90 0 0 0 = x.2.2 ∧ ∀ k, k < 4 → X.1 88 0 0 k = nI (c / 8 ^ (3 - k) % 8))
def St (C : Me) (v : Vt) (s cnt z : Nat) (R : Nat → Nat) (q : Nat) (X : Me) (e : Nat → Nat) (d n : Nat) : Prop := Bg C X ∧ X.1 80 0 0 0 = nI q ∧ Tq v s z X R q ∧ PF v s z X e d ∧ CR X (FB v s cnt z n)
theorem l_o {f i a b f' a' b' : Nat} {x : Int64} (h : ¬ (f' = f ∧ a' = a ∧ b' = b)) : (wL X f i a b x).2 f' i a' b' = X.2 f' i a' b' := if_neg (fun q => h ⟨q.1, q.2.2.1, q.2.2.2⟩)
theorem l_s {f i a b : Nat} {x : Int64} : (wL X f i a b x).2 f i a b = x := if_pos ⟨rfl, rfl, rfl, rfl⟩
theorem St_pl {e e' : Nat → Nat} {d n p : Nat} (h : St C v s cnt z R q X e d n) (hd : d < 4) (hp : p < q) (hq : q ≤ 8) (he : ∀ k, k < d → e' k = e k) (hd' : e' d = R p) : ∃ X', f_se_place X (nI d) (nI p) = some X' ∧ St C v s cnt z R q X' e' (d + 1) n := by
  obtain ⟨g, e80, hT, ⟨h1, h2⟩, hC⟩ := h
  obtain ⟨t1, t2, t3, t4⟩ := hT p hp
  have tb := trN_b v (R p) z
  obtain ⟨a1, a2⟩ := h1 d (Nat.le_refl _)
  have lo : lp FU (b_se_place_18 X (nI d) (nI p)) (X.2 85 0 0 (tN (nI d)), X.2 86 0 0 (tN (nI d)), 0) = some (PV v s z e' (d + 1)) := by
    rw [tN_nI (by omega), a1, a2]
    have ep : PV v s z e' (d + 1) = wkR v s z (R p) (PV v s z e d) := by
      show wkR v s z (e' d) (PV v s z e' d) = _
      rw [hd', PV_c d he]
    rw [ep]
    refine lp_n (fun j => ((wkN v s z (R p) (PV v s z e d) j).1, (wkN v s z (R p) (PV v s z e d) j).2, nI j)) (trN v (R p) z) (lt_FU (by omega)) (fun j hj => ?_) ?_
    · unfold b_se_place_18
      refine ip (gin_nI (by omega) (by omega)) (im ?_ (ip (gin_nI (by omega) (by omega)) (ip (gin_nI (by omega) (by omega)) ?_)))
      · show ¬ X.1 83 0 0 (tN (nI p)) ≤ nI j
        rw [tN_nI (by omega), t3]
        exact nle hj (by omega)
      · rw [tN_nI (by omega), tN_nI (by omega), t4 j (by omega), t2]
        refine bs rfl (ip (gin_nI (by omega) (by omega)) (bs rfl ?_))
        simp only [↓ob, IXr]
        rfl
    · unfold b_se_place_18
      refine ip (gin_nI (by omega) (by omega)) (ip ?_ rfl)
      show X.1 83 0 0 (tN (nI p)) ≤ nI _
      rw [tN_nI (by omega), t3]
      exact nle_s (by omega)
  refine ⟨wI (wL (wL X 85 0 0 (d + 1) (PV v s z e' (d + 1)).1) 86 0 0 (d + 1) (PV v s z e' (d + 1)).2) 87 0 0 d (nI (R p)), ?_, Bg_w (Bg_l (Bg_l g (by decide) (by decide)) (by decide) (by decide)) (by decide) (by decide), (w_o (by decide)).trans e80, fun p' hp' => ?_, ⟨fun k hk => ?_, fun k hk => ?_⟩, ?_⟩
  · unfold f_se_place
    refine ip (gin_nI (by omega) (by omega)) (ip (gin_nI (by omega) (by omega)) (bs lo ?_))
    rw [IXr.2.1, tN_nI (show d + 1 < 2147483648 by omega), tN_nI (show p < 2147483648 by omega), tN_nI (show d < 2147483648 by omega)]
    refine ip (gin_nI (by omega) (by omega)) (bs rfl (ip (gin_nI (by omega) (by omega)) (bs rfl (ip (gin_nI (by omega) (by omega)) (ip (gin_nI (by omega) (by omega)) (bs rfl ?_))))))
    show some (wI (wL (wL X 85 0 0 (d + 1) _) 86 0 0 (d + 1) _) 87 0 0 d (X.1 81 0 0 p)) = _
    rw [t1]
  · obtain ⟨u1, u2, u3, u4⟩ := hT p' hp'
    exact ⟨(w_o (by decide)).trans u1, (w_o (by decide)).trans u2, (w_o (by decide)).trans u3, fun j hj => (w_o (by decide)).trans (u4 j hj)⟩
  · show (wL (wL X 85 0 0 (d + 1) (PV v s z e' (d + 1)).1) 86 0 0 (d + 1) (PV v s z e' (d + 1)).2).2 85 0 0 k = _ ∧ (wL (wL X 85 0 0 (d + 1) (PV v s z e' (d + 1)).1) 86 0 0 (d + 1) (PV v s z e' (d + 1)).2).2 86 0 0 k = _
    by_cases c : k = d + 1
    · rw [c]
      exact ⟨(l_o (by omega)).trans l_s, l_s⟩
    · have e1 := PV_c (v := v) (s := s) (z := z) k (fun j hj => he j (by omega))
      obtain ⟨b1, b2⟩ := h1 k (by omega)
      rw [e1]
      exact ⟨(l_o (by omega)).trans ((l_o (by omega)).trans b1), (l_o (by omega)).trans ((l_o (by omega)).trans b2)⟩
  · show (wI (wL (wL X 85 0 0 (d + 1) (PV v s z e' (d + 1)).1) 86 0 0 (d + 1) (PV v s z e' (d + 1)).2) 87 0 0 d (nI (R p))).1 87 0 0 k = _
    by_cases c : k = d
    · rw [c, hd']; exact w_s
    · rw [he k (by omega)]
      exact (w_k c).trans (h2 k (by omega))
  · have o1 : (wL (wL X 85 0 0 (d + 1) (PV v s z e' (d + 1)).1) 86 0 0 (d + 1) (PV v s z e' (d + 1)).2).2 89 0 0 0 = X.2 89 0 0 0 := (l_o (by omega)).trans (l_o (by omega))
    have o2 : (wL (wL X 85 0 0 (d + 1) (PV v s z e' (d + 1)).1) 86 0 0 (d + 1) (PV v s z e' (d + 1)).2).2 90 0 0 0 = X.2 90 0 0 0 := (l_o (by omega)).trans (l_o (by omega))
    rcases hC with ⟨c1, c2, c3⟩ | ⟨c, c1, c2, c3, c4, c5⟩
    · exact Or.inl ⟨c1, o1.trans c2, o2.trans c3⟩
    · exact Or.inr ⟨c, c1, c2, o1.trans c3, o2.trans c4, fun k hk => (w_o (by decide)).trans (c5 k hk)⟩
theorem St_dn {e e' : Nat → Nat} {d n : Nat} (h : St C v s cnt z R q X e (d + 1) n) (he : ∀ k, k < d → e' k = e k) : St C v s cnt z R q X e' d n := by
  obtain ⟨g, e80, hT, ⟨h1, h2⟩, hC⟩ := h
  refine ⟨g, e80, hT, ⟨fun k hk => ?_, fun k hk => ?_⟩, hC⟩
  · rw [PV_c (e := e) k (fun j hj => he j (by omega))]
    exact h1 k (by omega)
  · rw [he k hk]
    exact h2 k (by omega)
theorem St_n {e : Nat → Nat} {d n m : Nat} (h : St C v s cnt z R q X e d n) (he : FB v s cnt z m = FB v s cnt z n) : St C v s cnt z R q X e d m := by
  obtain ⟨g, e80, hT, hP, hC⟩ := h
  exact ⟨g, e80, hT, hP, by rw [he]; exact hC⟩
/-- what a walk's pair is after n tries -/
def WF (p : Int64 × Int64) (n : Nat) : Prop := ∃ a b, p = (lN a, lN b) ∧ a ≤ 65536 ∧ b ≤ n * 40000000000 ∧ (1 ≤ b ∨ (a = 65536 ∧ n = 0))
theorem WF_1 {p : Int64 × Int64} {n r j : Nat} (h : IR v cnt) (hL : IL v w) (hs : s < 4) (h8 : cnt ≤ 8) (hr : r < cnt) (hz : z ≤ 4000) (P : WF p n) : WF (wk1 v s z r j p) (n + 1) := by
  obtain ⟨a, b, rfl, h1, h2, h3⟩ := P
  have tb := ttN_b (j := j) h hr (show z ≤ 65535 by omega)
  have kb : kN v s r ≤ 65536 := by
    have q1 := (hL s r hs (by omega)).2.2.2.1
    by_cases c : v (aP s r + 1) < 0
    · rw [kN_neg c]; omega
    · rw [lt_int, z_0] at c
      have q2 := tN_int (show 0 ≤ (v (aP s r + 1)).toInt by omega)
      have q3 : ((kN v s r : Nat) : Int) = (v (aP s r + 1)).toInt := q2
      omega
  have m1 : a * (65536 - kN v s r) ≤ 65536 * 65536 := Nat.mul_le_mul h1 (by omega)
  have m2 : a * ttN v r z j ≤ 65536 * 604603 := Nat.mul_le_mul h1 tb.2
  refine ⟨a * (65536 - kN v s r) / 65536, b + a * ttN v r z j, ?_, Nat.div_le_of_le_mul m1, by omega, Or.inl ?_⟩
  · show ((lN a * ((65536 : Int32) - nI (kN v s r)).toInt64) / (65536 : Int64), lN b + (lN a * (nI (ttN v r z j)).toInt64)) = _
    rw [show (65536 : Int32) = nI 65536 from rfl, nI_sb kb, nI_l (show 65536 - kN v s r < 2 ^ 31 by omega), nI_l (show ttN v r z j < 2 ^ 31 by omega), lN_mul, lN_mul, lN_add, show (65536 : Int64) = lN 65536 from rfl, pk_lDiv (by omega) (by omega) (by omega)]
  · rcases h3 with h3 | ⟨rfl, -⟩
    · omega
    · have : 65536 * 80 ≤ 65536 * ttN v r z j := Nat.mul_le_mul_left _ tb.1
      omega
theorem WF_n {p : Int64 × Int64} {n r : Nat} (h : IR v cnt) (hL : IL v w) (hs : s < 4) (h8 : cnt ≤ 8) (hr : r < cnt) (hz : z ≤ 4000) (P : WF p n) : ∀ j, WF (wkN v s z r p j) (n + j)
  | 0 => P
  | j + 1 => WF_1 h hL hs h8 hr hz (WF_n h hL hs h8 hr hz P j)
theorem WF_e {e : Nat → Nat} (h : IR v cnt) (hL : IL v w) (hs : s < 4) (h8 : cnt ≤ 8) (hz : z ≤ 4000) : ∀ d, (∀ k, k < d → e k < cnt) → ∃ n, n ≤ 7 * d ∧ d ≤ n ∧ WF (PV v s z e d) n
  | 0, _ => ⟨0, by omega, by omega, 65536, 0, rfl, by omega, by omega, Or.inr ⟨rfl, rfl⟩⟩
  | d + 1, he => by
    obtain ⟨n, n1, n2, n3⟩ := WF_e (e := e) h hL hs h8 hz d (fun k hk => he k (by omega))
    have tb := trN_b v (e d) z
    exact ⟨n + trN v (e d) z, by omega, by omega, WF_n h hL hs h8 (he d (by omega)) hz n3 _⟩
theorem first {a b : Nat} (ha : a ≤ 65536) (hb : 1 ≤ b) (hb2 : b < 2 ^ 62) : ¬ lg_cmp (((65536 : Int64) - lN a) * 1) ((-1) * lN b) ≤ 0 := by
  rw [cmp_le0, Int64.mul_one, show (65536 : Int64) = lN 65536 from rfl, lN_sub ha, Int64.le_iff_toInt_le, pk_lT (by omega), Int64.toInt_mul, pk_lT (show b < 2 ^ 63 by omega), show (-1 : Int64).toInt = -1 from rfl, Int.bmod_eq_of_le (by omega) (by omega)]
  omega
end L74
