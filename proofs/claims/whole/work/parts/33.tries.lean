/-! the number of tries of a rate for a frame -/
def smN (v : Vt) (r z : Nat) : Nat → Nat
  | 0 => 0
  | n + 1 => smN v r z n + ttN v r z n
def trA (bud : Nat) (v : Vt) (r z : Nat) : Nat → Nat → Nat
  | 0, t => t
  | k + 1, t => if smN v r z (t + 1) ≤ bud then trA bud v r z k (t + 1) else t
def trN (v : Vt) (r z : Nat) : Nat := trA (tN (v 6)) v r z 6 1
def mxN (bud : Nat) (v : Vt) (r z : Nat) : Nat → Nat
  | 0 => 0
  | j + 1 => if smN v r z (j + 1) ≤ bud then j + 1 else mxN bud v r z j
theorem smN_b {v : Vt} {cnt r z : Nat} (h : IR v cnt) (hr : r < cnt) (hz : z ≤ 65535) : ∀ n, 80 * n ≤ smN v r z n ∧ smN v r z n ≤ 604603 * n
  | 0 => ⟨Nat.le_refl _, Nat.le_refl _⟩
  | n + 1 => by
    have h1 := smN_b h hr hz n
    have h2 := ttN_b (j := n) h hr hz
    show 80 * (n + 1) ≤ smN v r z n + ttN v r z n ∧ smN v r z n + ttN v r z n ≤ 604603 * (n + 1)
    omega
theorem smN_m {v : Vt} {cnt r z : Nat} (h : IR v cnt) (hr : r < cnt) (hz : z ≤ 65535) (n : Nat) : smN v r z n < smN v r z (n + 1) := by
  have h2 := ttN_b (j := n) h hr hz
  show smN v r z n < smN v r z n + ttN v r z n
  omega
theorem mx_tr {v : Vt} {cnt r z bud : Nat} (h : IR v cnt) (hr : r < cnt) (hz : z ≤ 65535) : (if mxN bud v r z 7 = 0 then 1 else mxN bud v r z 7) = trA bud v r z 6 1 := by
  have m1 : smN v r z 1 < smN v r z 2 := smN_m h hr hz 1
  have m2 : smN v r z 2 < smN v r z 3 := smN_m h hr hz 2
  have m3 : smN v r z 3 < smN v r z 4 := smN_m h hr hz 3
  have m4 : smN v r z 4 < smN v r z 5 := smN_m h hr hz 4
  have m5 : smN v r z 5 < smN v r z 6 := smN_m h hr hz 5
  have m6 : smN v r z 6 < smN v r z 7 := smN_m h hr hz 6
  simp only [trA, mxN, Nat.reduceAdd]
  by_cases c7 : smN v r z 7 ≤ bud
  · simp only [if_pos c7, if_pos (show smN v r z 2 ≤ bud by omega), if_pos (show smN v r z 3 ≤ bud by omega), if_pos (show smN v r z 4 ≤ bud by omega), if_pos (show smN v r z 5 ≤ bud by omega), if_pos (show smN v r z 6 ≤ bud by omega)]
    rfl
  · simp only [if_neg c7]
    by_cases c6 : smN v r z 6 ≤ bud
    · simp only [if_pos c6, if_pos (show smN v r z 2 ≤ bud by omega), if_pos (show smN v r z 3 ≤ bud by omega), if_pos (show smN v r z 4 ≤ bud by omega), if_pos (show smN v r z 5 ≤ bud by omega)]
      rfl
    · simp only [if_neg c6]
      by_cases c5 : smN v r z 5 ≤ bud
      · simp only [if_pos c5, if_pos (show smN v r z 2 ≤ bud by omega), if_pos (show smN v r z 3 ≤ bud by omega), if_pos (show smN v r z 4 ≤ bud by omega)]
        rfl
      · simp only [if_neg c5]
        by_cases c4 : smN v r z 4 ≤ bud
        · simp only [if_pos c4, if_pos (show smN v r z 2 ≤ bud by omega), if_pos (show smN v r z 3 ≤ bud by omega)]
          rfl
        · simp only [if_neg c4]
          by_cases c3 : smN v r z 3 ≤ bud
          · simp only [if_pos c3, if_pos (show smN v r z 2 ≤ bud by omega)]
            rfl
          · simp only [if_neg c3]
            by_cases c2 : smN v r z 2 ≤ bud
            · simp only [if_pos c2]
              rfl
            · simp only [if_neg c2]
              by_cases c1 : smN v r z 1 ≤ bud
              · simp only [if_pos c1]
                rfl
              · simp only [if_neg c1]
                rfl
theorem trA_b {bud : Nat} {v : Vt} {r z : Nat} : ∀ k t, t ≤ trA bud v r z k t ∧ trA bud v r z k t ≤ t + k
  | 0, t => ⟨Nat.le_refl _, Nat.le_refl _⟩
  | k + 1, t => by
    have := trA_b (bud := bud) (v := v) (r := r) (z := z) k (t + 1)
    simp only [trA]
    split <;> omega
theorem trN_b (v : Vt) (r z : Nat) : 1 ≤ trN v r z ∧ trN v r z ≤ 7 := trA_b 6 1
theorem m_tr {M : Me} {v : Vt} {cnt r z : Nat} (h : IR v cnt) (hr : r < cnt) (hz : z ≤ 65535) (hb : wi 100 (v 6) 100000) : f_m_triesFor (sV M v) (nI r) (nI z) = some (nI (trN v r z)) := by
  have hv6 : v 6 = nI (tN (v 6)) := nn_eq (by omega)
  have hbn := tN_int (x := v 6) (by omega)
  show _ = some (nI (trA (tN (v 6)) v r z 6 1))
  generalize tN (v 6) = bud at hv6 hbn ⊢
  unfold f_m_triesFor
  have key : lp FU (b_m_triesFor_8 (sV M v) (nI r) (nI z)) ((0 : Int32), (0 : Int32), (0 : Int32)) = some (nI (mxN bud v r z 7)) := by
    refine lp_n (fun j => (nI (smN v r z j), nI (mxN bud v r z j), nI j)) 7 (lt_FU (by omega)) (fun k hk => ?_) ?_
    · have hs := smN_b h hr hz (k + 1)
      unfold b_m_triesFor_8
      rw [if_neg (fun q => by rw [show (7 : Int32) = nI 7 from rfl, nI_le' (by omega) (by omega)] at q; omega), m_tt h hr hz (by omega)]
      simp only [ob, l_add, IXt, rdV, nI_1, IXr]
      rw [hv6]
      show (if nI bud < nI (smN v r z (k + 1)) then _ else _) = _
      by_cases c : smN v r z (k + 1) ≤ bud
      · rw [if_neg (fun q => by rw [nI_lt' (by omega) (by omega)] at q; omega)]
        simp only [mxN, if_pos c]
        rfl
      · rw [if_pos ((nI_lt' (by omega) (by omega)).mpr (by omega))]
        simp only [mxN, if_neg c]
        rfl
    · unfold b_m_triesFor_8
      rw [if_pos (show (7 : Int32) ≤ nI 7 from by decide)]
  rw [key, ob]
  have hm := mx_tr (bud := bud) h hr hz
  have ht := trA_b (bud := bud) (v := v) (r := r) (z := z) 6 1
  have hmb : mxN bud v r z 7 ≤ 7 := by
    by_cases c : mxN bud v r z 7 = 0
    · omega
    · rw [if_neg c] at hm
      rw [hm]
      exact ht.2
  by_cases c : mxN bud v r z 7 = 0
  · rw [if_pos c] at hm
    rw [c, if_pos (show nI 0 = 0 from rfl)]
    show some (1 : Int32) = some (nI (trA bud v r z 6 1))
    rw [← hm]
    rfl
  · rw [if_neg c] at hm
    rw [if_neg (ne0 (by omega) (by omega)), hm]
theorem c_tr {C : Me} {i : Nat} {N : Nt} {v : Vt} {cnt r z : Nat} (hE : RE N v) (h : IR v cnt) (hr : r < cnt) (hz : z ≤ 65535) (hb : wi 100 (v 6) 100000) : f_tb_triesWithin (sN C i N) i (nI r) (nI z) (v 6) = some (nI (trN v r z)) := by
  have hv6 : v 6 = nI (tN (v 6)) := nn_eq (by omega)
  have hbn := tN_int (x := v 6) (by omega)
  generalize tN (v 6) = bud at hv6 hbn
  have key : ∀ k t F, t + k = 7 → 1 ≤ t → k < F → ∃ q, lp F (b_tb_triesWithin_12 (sN C i N) i (nI r) (nI z) (nI bud)) (nI t, nI (smN v r z t)) = some q ∧ Sum.elim (fun e => some e) (fun o => some o) q = some (nI (trA bud v r z k t)) := by
    intro k
    induction k with
    | zero =>
      intro t F h1 h2 h3
      obtain ⟨F, rfl⟩ : ∃ G, F = G + 1 := ⟨F - 1, by omega⟩
      refine ⟨_, lp_inr (t := .inl (nI t)) ?_, rfl⟩
      unfold b_tb_triesWithin_12
      rw [if_pos (show (7 : Int32) ≤ nI t from (nI_le' (a := 7) (by omega) (by omega)).mpr (by omega))]
    | succ k ih =>
      intro t F h1 h2 h3
      obtain ⟨F, rfl⟩ : ∃ G, F = G + 1 := ⟨F - 1, by omega⟩
      have hs := smN_b h hr hz (t + 1)
      have hb1 : b_tb_triesWithin_12 (sN C i N) i (nI r) (nI z) (nI bud) (nI t, nI (smN v r z t)) = if smN v r z (t + 1) ≤ bud then some (.inl (nI (t + 1), nI (smN v r z (t + 1)))) else some (.inr (.inr (nI t))) := by
        unfold b_tb_triesWithin_12
        rw [if_neg (fun q => by rw [show (7 : Int32) = nI 7 from rfl, nI_le' (by omega) (by omega)] at q; omega), c_tt hE h hr hz (by omega)]
        simp only [ob, l_add, nI_1]
        show (if nI (smN v r z (t + 1)) ≤ nI bud then _ else _) = _
        by_cases c : smN v r z (t + 1) ≤ bud
        · rw [if_pos c, if_pos ((nI_le' (by omega) (by omega)).mpr c)]
          rfl
        · rw [if_neg c, if_neg (fun q => c ((nI_le' (by omega) (by omega)).mp q))]
      by_cases c : smN v r z (t + 1) ≤ bud
      · rw [if_pos c] at hb1
        obtain ⟨q, q1, q2⟩ := ih (t + 1) F (by omega) (by omega) (by omega)
        refine ⟨q, by rw [lp_inl hb1]; exact q1, ?_⟩
        simp only [trA, if_pos c]
        exact q2
      · rw [if_neg c] at hb1
        refine ⟨_, lp_inr hb1, ?_⟩
        simp only [trA, if_neg c]
        rfl
  unfold f_tb_triesWithin
  rw [show (0 : Int32) = nI 0 from rfl, c_tt hE h hr hz (by omega), ob, hv6]
  obtain ⟨q, q1, q2⟩ := key 6 1 FU (by omega) (by omega) (lt_FU (by omega))
  have e1 : smN v r z 1 = ttN v r z 0 := Nat.zero_add _
  rw [e1] at q1
  rw [show ((1 : Int32), nI (ttN v r z 0)) = (nI 1, nI (ttN v r z 0)) from rfl, q1, ob]
  show _ = some (nI (trA (tN (v 6)) v r z 6 1))
  rw [hv6, tN_nI (by omega)]
  exact q2
