/-! laying a chain: both sides -/
def eO (c : Nat) (V : Vt) (k : Nat) (x y : Int32) : Vt := upd (upd V (aO c + 5 + k) x) (aO c + 9 + k) y
def lw (c : Nat) (V : Vt) (q t : Nat → Nat) : Nat → Vt
  | 0 => V
  | k + 1 => eO c (lw c V q t k) k (nI (q k)) (nI (t k))
def nw (N : Nt) (c : Nat) (q t : Nat → Nat) : Nat → Nt
  | 0 => uN (uN (uN (uN N 55 c 0 (nI (q 0))) 55 c 1 (nI (q 1))) 55 c 2 (nI (q 2))) 55 c 3 (nI (q 3))
  | k + 1 => uN (nw N c q t k) 56 c k (nI (t k))
section L51
variable {N : Nt} {v V : Vt} {sc cnt w s r f c k z : Nat} {x y : Int32} {q t : Nat → Nat}
theorem lw_0 : lw c V q t 0 = V := rfl
theorem lw_s : lw c V q t (k + 1) = eO c (lw c V q t k) k (nI (q k)) (nI (t k)) := rfl
theorem lw_o {j : Nat} (hj : j < aO c + 5 ∨ aO c + 13 ≤ j) : ∀ k, k ≤ 4 → lw c V q t k j = V j
  | 0, _ => rfl
  | k + 1, hk => by
    rw [lw_s]
    unfold eO
    rw [up_n (by omega), up_n (by omega)]
    exact lw_o hj k (by omega)
theorem lw_E {j : Nat} : ∀ k, k ≤ 4 → j < k → lw c V q t k (aO c + 5 + j) = nI (q j) ∧ lw c V q t k (aO c + 9 + j) = nI (t j)
  | 0, _, h => absurd h (by omega)
  | k + 1, hk, h => by
    rw [lw_s]
    unfold eO
    by_cases e : j = k
    · subst e
      rw [up_n (show aO c + 5 + j ≠ aO c + 9 + j by omega), up_s, up_s]
      exact ⟨rfl, rfl⟩
    · obtain ⟨a1, a2⟩ := lw_E (j := j) k (by omega) (by omega)
      rw [up_n (show aO c + 5 + j ≠ aO c + 9 + k by omega), up_n (show aO c + 5 + j ≠ aO c + 5 + k by omega), up_n (show aO c + 9 + j ≠ aO c + 9 + k by omega), up_n (show aO c + 9 + j ≠ aO c + 5 + k by omega)]
      exact ⟨a1, a2⟩
theorem lw_up {a : Nat} (ha : a < aO c + 5) : ∀ k, k ≤ 4 → upd (lw c V q t k) a x = lw c (upd V a x) q t k
  | 0, _ => rfl
  | k + 1, hk => by
    rw [lw_s, lw_s, ← lw_up ha k (by omega)]
    unfold eO
    rw [up_c (a := aO c + 9 + k) (b := a) (by omega), up_c (a := aO c + 5 + k) (b := a) (by omega)]
theorem lw4 : lw c V q t 4 = upd (upd (upd (upd (upd (upd (upd (upd V (aO c + 5 + 0) (nI (q 0))) (aO c + 5 + 1) (nI (q 1))) (aO c + 5 + 2) (nI (q 2))) (aO c + 5 + 3) (nI (q 3))) (aO c + 9 + 0) (nI (t 0))) (aO c + 9 + 1) (nI (t 1))) (aO c + 9 + 2) (nI (t 2))) (aO c + 9 + 3) (nI (t 3)) := by
  rw [lw_s, lw_s, lw_s, lw_s, lw_0]
  unfold eO
  rw [up_c (a := aO c + 9 + 0) (b := aO c + 5 + 1) (by omega), up_c (a := aO c + 9 + 1) (b := aO c + 5 + 2) (by omega), up_c (a := aO c + 9 + 0) (b := aO c + 5 + 2) (by omega), up_c (a := aO c + 9 + 2) (b := aO c + 5 + 3) (by omega), up_c (a := aO c + 9 + 1) (b := aO c + 5 + 3) (by omega), up_c (a := aO c + 9 + 0) (b := aO c + 5 + 3) (by omega)]
theorem RX_cw (h : RX N V sc cnt w) (hc : c < 6) : RX (nw N c q t 4) (lw c V q t 4) sc cnt w := by
  rw [lw4]
  have h0 := RX_s (x := nI (q 0)) h (d55 hc (show 0 < 4 by decide)) (by simp)
  have h1 := RX_s (x := nI (q 1)) h0 (d55 hc (show 1 < 4 by decide)) (by simp)
  have h2 := RX_s (x := nI (q 2)) h1 (d55 hc (show 2 < 4 by decide)) (by simp)
  have h3 := RX_s (x := nI (q 3)) h2 (d55 hc (show 3 < 4 by decide)) (by simp)
  have h4 := RX_s (x := nI (t 0)) h3 (d56 hc (show 0 < 4 by decide)) (by simp)
  have h5 := RX_s (x := nI (t 1)) h4 (d56 hc (show 1 < 4 by decide)) (by simp)
  have h6 := RX_s (x := nI (t 2)) h5 (d56 hc (show 2 < 4 by decide)) (by simp)
  exact RX_s (x := nI (t 3)) h6 (d56 hc (show 3 < 4 by decide)) (by simp)
theorem nw_o {f' a b : Nat} (hf : f' ≠ 55 ∧ f' ≠ 56) : ∀ k, (nw N c q t k).1 f' a b = N.1 f' a b
  | 0 => by
    show (uN (uN (uN (uN N 55 c 0 (nI (q 0))) 55 c 1 (nI (q 1))) 55 c 2 (nI (q 2))) 55 c 3 (nI (q 3))).1 f' a b = _
    rw [uN_f hf.1, uN_f hf.1, uN_f hf.1, uN_f hf.1]
  | k + 1 => by
    show (uN (nw N c q t k) 56 c k (nI (t k))).1 f' a b = _
    rw [uN_f hf.2]
    exact nw_o hf k
theorem nw_E {j : Nat} (hj : j < 4) : ∀ k, (nw N c q t k).1 55 c j = nI (q j)
  | 0 => by
    show (uN (uN (uN (uN N 55 c 0 (nI (q 0))) 55 c 1 (nI (q 1))) 55 c 2 (nI (q 2))) 55 c 3 (nI (q 3))).1 55 c j = _
    rcases (show j = 0 ∨ j = 1 ∨ j = 2 ∨ j = 3 by omega) with rfl | rfl | rfl | rfl
    · rw [uN_n (by omega), uN_n (by omega), uN_n (by omega), uN_s]
    · rw [uN_n (by omega), uN_n (by omega), uN_s]
    · rw [uN_n (by omega), uN_s]
    · rw [uN_s]
  | k + 1 => by
    show (uN (nw N c q t k) 56 c k (nI (t k))).1 55 c j = _
    rw [uN_f (by decide)]
    exact nw_E hj k
/-- the array that holds what a network holds -/
def vN' (N : Nt) : Vt := fun k => N.1 (da k).1 (da k).2.1 (da k).2.2
theorem RE_vN : RE N (vN' N) := by
  intro f s r h1 h2
  unfold vN'
  rw [(da_ad h2).1]
theorem trN_c {v' : Vt} (ha : ∀ y, aN v' r y = aN v r y) (h6 : v' 6 = v 6) : trN v' r z = trN v r z := by
  have hs : ∀ n, smN v' r z n = smN v r z n := by
    intro n
    induction n with
    | zero => rfl
    | succ n ih =>
      show smN v' r z n + (aN v' r z + boN n) = smN v r z n + (aN v r z + boN n)
      rw [ih, ha]
  have ht : ∀ k u, trA (tN (v 6)) v' r z k u = trA (tN (v 6)) v r z k u := by
    intro k
    induction k with
    | zero => intro u; rfl
    | succ k ih =>
      intro u
      show (if smN v' r z (u + 1) ≤ tN (v 6) then trA (tN (v 6)) v' r z k (u + 1) else u) = (if smN v r z (u + 1) ≤ tN (v 6) then trA (tN (v 6)) v r z k (u + 1) else u)
      rw [hs, ih]
  show trA (tN (v' 6)) v' r z 6 1 = trA (tN (v 6)) v r z 6 1
  rw [h6]
  exact ht 6 1
theorem da_lo : ∀ k, k < 26 → (k ≠ 8 ∧ k ≠ 9 → (da k).1 < 13) := by decide +kernel
theorem vN_lo {N' : Nt} (hE : RE N v) (hag : ∀ f, f < 13 → ∀ a b, N'.1 f a b = N.1 f a b) {k f a b : Nat} (hd : dm f a b = true) (hu : uf f = true) (hf : f < 13) (hk : ad f a b = k) : vN' N' k = v k := by
  subst hk
  unfold vN'
  rw [(da_ad hd).1, hag f hf]
  exact hE f a b hu hd
theorem c_tr2 {C : Me} {i : Nat} {N' : Nt} (hE : RE N v) (hR : IR v cnt) (hb : wi 100 (v 6) 100000) (hag : ∀ f, f < 13 → ∀ a b, N'.1 f a b = N.1 f a b) (hr : r < cnt) (hz : z ≤ 65535) : f_tb_triesWithin (sN C i N') i (nI r) (nI z) (v 6) = some (nI (trN v r z)) := by
  have h8 := hR.1
  have l1 : vN' N' 1 = v 1 := vN_lo hE hag (f := 10) (a := 0) (b := 0) rfl rfl (by decide) rfl
  have l6 : vN' N' 6 = v 6 := vN_lo hE hag (f := 5) (a := 0) (b := 0) rfl rfl (by decide) rfl
  have l10 : ∀ j, j < 8 → vN' N' (10 + j) = v (10 + j) := fun j hj => vN_lo hE hag (f := 11) (a := 0) (b := j) (d11 hj) rfl (by decide) rfl
  have l18 : ∀ j, j < 8 → vN' N' (18 + j) = v (18 + j) := fun j hj => vN_lo hE hag (f := 12) (a := 0) (b := j) (d12 hj) rfl (by decide) rfl
  have hR' : IR (vN' N') cnt := by
    refine ⟨h8, by rw [l1]; exact hR.2.1, fun j hj => ?_⟩
    rw [l10 j (by omega), l18 j (by omega)]
    exact hR.2.2 j hj
  have e := c_tr (C := C) (i := i) (RE_vN (N := N')) hR' hr hz (by rw [l6]; exact hb)
  rw [l6] at e
  rw [e, trN_c (v := v) (fun y => ?_) l6]
  show airN (tN (vN' N' (10 + r))) (tN (vN' N' (18 + r))) y = airN (tN (v (10 + r))) (tN (v (18 + r))) y
  rw [l10 r (by omega), l18 r (by omega)]
theorem m_entry {M : Me} (hc : c < 6) (hk : k < 4) : f_m_entry (sV M v) (nI c) (nI k) x y = some (sV M (eO c v k x y)) := by
  unfold f_m_entry
  refine bs (so c) (ip (gx (k := 420 + 16 * c + 5 + k) (by simp only [IXr, l_add]) (by omega) (by omega)) (bs (wx (k := 420 + 16 * c + 5 + k) (by simp only [IXr, l_add]) (by omega)) ?_))
  refine bs (so c) (ip (gx (k := 420 + 16 * c + 9 + k) (by simp only [IXr, l_add]) (by omega) (by omega)) (bs (wx (k := 420 + 16 * c + 9 + k) (by simp only [IXr, l_add]) (by omega)) ?_))
  rfl
/-- an entry of a rate with its own number of tries -/
theorem m_full {M : Me} {v0 : Vt} (hR : IR v0 cnt) (hb : wi 100 (v0 6) 100000) (hag : ∀ j, j < 30 → v j = v0 j) (hz2 : v (aO c + 2) = nI z) (hz : z ≤ 65535) (hr : r < cnt) (hc : c < 6) (hk : k < 4) : f_m_fullEntry (sV M v) (nI c) (nI k) (nI r) = some (sV M (eO c v k (nI r) (nI (trN v0 r z)))) := by
  have h8 := hR.1
  have hR' : IR v cnt := by
    refine ⟨h8, by rw [hag 1 (by omega)]; exact hR.2.1, fun j hj => ?_⟩
    rw [hag _ (by omega), hag _ (by omega)]
    exact hR.2.2 j hj
  have e := m_tr (M := M) hR' hr hz (by rw [hag 6 (by omega)]; exact hb)
  rw [trN_c (v := v0) (fun y => ?_) (hag 6 (by omega))] at e
  · unfold f_m_fullEntry
    refine bs (so c) (ip (gx (k := 420 + 16 * c + 2) (by simp only [IXr]) (by omega) (by omega)) ?_)
    rw [rx (k := 420 + 16 * c + 2) (by simp only [IXr]) (by omega), show v (420 + 16 * c + 2) = nI z from hz2]
    exact bs e (bs (m_entry hc hk) rfl)
  · show airN (tN (v (10 + r))) (tN (v (18 + r))) y = airN (tN (v0 (10 + r))) (tN (v0 (18 + r))) y
    rw [hag _ (by omega), hag _ (by omega)]
theorem c_setR {C : Me} {i : Nat} : f_ch_setRates (sN C i N) i c (nI (q 0)) (nI (q 1)) (nI (q 2)) (nI (q 3)) = some (sN C i (nw N c q t 0)) := by
  unfold f_ch_setRates
  simp only [↓ob, IXt]
  rw [wrN (by decide), wrN (by decide), wrN (by decide), wrN (by decide)]
  rfl
/-- the numbers of tries of the class's chain -/
theorem c_loop {C : Me} {i : Nat} {y3 : Int32} {N0 : Nt} (hE : RE N0 v) (hR : IR v cnt) (hb : wi 100 (v 6) 100000) (hag : ∀ f, f < 13 → ∀ a b, N.1 f a b = N0.1 f a b) (hz : z ≤ 65535) (ht : ∀ k, k < 4 → (nI k = N.1 54 c 0 ∧ t k = 1) ∨ (nI k ≠ N.1 54 c 0 ∧ q k < cnt ∧ t k = trN v (q k) z)) : lp FU (b_nt_openChain_94 i (nI z) y3 i c) (0, sN C i (nw N c q t 0)) = some (sN C i (nw N c q t 4)) := by
  refine lp_n (fun k => (nI k, sN C i (nw N c q t k))) 4 (lt_FU (by omega)) (fun k hk => ?_) ?_
  · have e54 : (sN C i (nw N c q t k)).1 54 i c 0 = N.1 54 c 0 := by rw [rdN (by decide), nw_o (by decide)]
    have e55 : (sN C i (nw N c q t k)).1 55 i c (tN (nI k)) = nI (q k) := by rw [rdN (by decide), tN_nI (by omega), nw_E hk]
    have e5 : (sN C i (nw N c q t k)).1 5 i 0 0 = v 6 := by rw [rdN (by decide), nw_o (by decide), hag 5 (by decide)]; exact hE 5 0 0 rfl rfl
    have g4 : gin (nI k) 4 := gin_nI (by omega) (by omega)
    have wr : ∀ x : Int32, x = nI (t k) → some (wI (sN C i (nw N c q t k)) 56 i c (tN (nI k)) x) = some (sN C i (nw N c q t (k + 1))) := fun x hx => by
      rw [hx, tN_nI (by omega), wrN (by decide)]
      rfl
    unfold b_nt_openChain_94
    refine im (show ¬ (4 : Int32) ≤ nI k from nle (n := 4) (by omega) (by omega)) ?_
    show (if nI k = (sN C i (nw N c q t k)).1 54 i c 0 then _ else _) = _
    rw [e54]
    rcases ht k hk with ⟨h1, h2⟩ | ⟨h1, h2, h3⟩
    · refine ip h1 (ip g4 (bs (wr 1 (by rw [h2]; rfl)) ?_))
      simp only [↓ob, IXr]
    · refine im h1 (ip g4 ?_)
      rw [e55, e5]
      refine bs (c_tr2 hE hR hb (fun f hf a b => by rw [nw_o (by omega)]; exact hag f hf a b) h2 hz) (ip g4 (bs (wr _ (by rw [h3])) ?_))
      simp only [↓ob, IXr]
  · unfold b_nt_openChain_94
    exact ip (show (4 : Int32) ≤ nI 4 from by decide) rfl
/-- a chain is laid: the relation as a whole -/
theorem RN_lay {N0 : Nt} {v0 : Vt} {kd : Nat} (h0 : RN N0 v0 sc cnt w) (h : RX N v sc cnt w) (hc : c < 6) (hs : s < sc) (hz : 1 ≤ z ∧ z ≤ 4000) (hkd : kd ≤ 2) (f1 : ∀ c', c' < 6 → c' ≠ c → (∀ j, j < 16 → v (aO c' + j) = v0 (aO c' + j)) ∧ N.1 54 c' 0 = N0.1 54 c' 0)
    (g0 : v (aO c) = 1) (g1 : v (aO c + 1) = nI s) (g2 : v (aO c + 2) = nI z) (g3 : v (aO c + 3) = nI kd) (g4 : kd = 1 → (N.1 54 c 0 = 0 ∧ v (aO c + 4) = v (aO c + 5)) ∨ (N.1 54 c 0 = 1 ∧ v (aO c + 4) = v (aO c + 6))) (g5 : ∀ k, k < 4 → v (aO c + 5 + k) = nI (q k) ∧ q k < cnt ∧ v (aO c + 9 + k) = nI (t k) ∧ 1 ≤ t k ∧ t k ≤ 7) : RN N v sc cnt w := by
  have hl := h.lt
  refine h.n (fun c' hc' hk => ?_) (fun c' hc' => ?_)
  · by_cases e : c' = c
    · subst e
      refine g4 ?_
      rw [g3, show (1 : Int32) = nI 1 from rfl, nI_j (by omega) (by omega)] at hk
      exact hk
    · obtain ⟨a1, a2⟩ := f1 c' hc' e
      rw [a1 3 (by omega)] at hk
      rw [a1 4 (by omega), a1 5 (by omega), a1 6 (by omega), a2]
      exact h0.K c' hc' hk
  · by_cases e : c' = c
    · subst e
      refine ⟨Or.inr g0, fun _ => ?_⟩
      rw [g1, g2, g3]
      refine ⟨by rw [nI_i (by omega)]; omega, by rw [nI_i (by omega)]; omega, wi_n (by omega) ⟨by omega, by omega⟩, wi_n (by omega) ⟨by omega, by omega⟩, fun k hk => ?_⟩
      obtain ⟨b1, b2, b3, b4, b5⟩ := g5 k hk
      rw [b1, b3]
      exact ⟨by rw [nI_i (by omega)]; omega, by rw [nI_i (by omega)]; omega, wi_n (by omega) ⟨by omega, by omega⟩⟩
    · obtain ⟨a1, a2⟩ := f1 c' hc' e
      obtain ⟨b1, b2⟩ := h0.iC c' hc'
      have a0 := a1 0 (by omega)
      rw [Nat.add_zero] at a0
      rw [a0, a1 1 (by omega), a1 2 (by omega), a1 3 (by omega)]
      refine ⟨b1, fun z => ?_⟩
      obtain ⟨d1, d2, d3, d4, d5⟩ := b2 z
      refine ⟨d1, d2, d3, d4, fun k hk => ?_⟩
      have a5 := a1 (5 + k) (by omega)
      have a9 := a1 (9 + k) (by omega)
      rw [← Nat.add_assoc] at a5 a9
      rw [a5, a9]
      exact d5 k hk
end L51
