/-! air times, backoffs, numbers of tries: both sides -/
theorem nI_i {n : Nat} (h : n < 2147483648) : (nI n).toInt = (n : Int) := nI_toInt h
theorem nI_j {a b : Nat} (ha : a < 2147483648) (hb : b < 2147483648) : nI a = nI b ↔ a = b := nI_eq ha hb
theorem nI_le' {a b : Nat} (ha : a < 2147483648) (hb : b < 2147483648) : nI a ≤ nI b ↔ a ≤ b := nI_leI ha hb
theorem nI_lt' {a b : Nat} (ha : a < 2147483648) (hb : b < 2147483648) : nI a < nI b ↔ a < b := nI_ltI ha hb
theorem nI_dv {a d : Nat} (ha : a < 2147483648) (h0 : 0 < d) (hd : d < 2147483648) : nI a / nI d = nI (a / d) := pk_div ha h0 hd
theorem nI_sb {a b : Nat} (h : b ≤ a) : nI a - nI b = nI (a - b) := pk_sub h
theorem ne0 {n : Nat} (h : 0 < n) (h2 : n < 2147483648) : ¬ nI n = 0 := nI_ne0 h h2
theorem m_up {a b : Nat} (hb : 0 < b) (ha : a + b < 2147483648) : f_m_up (nI a) (nI b) = some (nI ((a + b - 1) / b)) := by
  unfold f_m_up
  rw [if_pos (ne0 hb (by omega)), nI_add, show (1 : Int32) = nI 1 from rfl, nI_sb (by omega), nI_dv (by omega) hb (by omega)]
theorem c_dv {a b : Nat} (hb : 0 < b) (ha : a + b < 2147483648) : f_tb_dividedUp (nI a) (nI b) = some (nI ((a + b - 1) / b)) := by
  unfold f_tb_dividedUp
  rw [if_pos (show (1 : Int32) ≤ nI b from (nI_le' (a := 1) (by omega) (by omega)).mpr hb), if_pos (ne0 hb (by omega)), nI_add, show (1 : Int32) = nI 1 from rfl, nI_sb (by omega), nI_dv (by omega) hb (by omega)]
theorem airN_b {m p z : Nat} (hp : 10 ≤ p) (hz : z ≤ 65535) : 80 ≤ airN m p z ∧ airN m p z ≤ 600000 := by
  have h1 : (80 * z + p - 1) / p ≤ 524281 := by
    apply Nat.div_le_of_le_mul
    have : 524281 * 10 ≤ 524281 * p := Nat.mul_le_mul_left _ hp
    have : p * 524281 = 524281 * p := Nat.mul_comm _ _
    have h3 : 524280 * 10 + p ≤ 524280 * p + p := Nat.add_le_add_right (Nat.mul_le_mul_left _ hp) p
    omega
  have h2 : (220 + 80 * z + 4 * p - 1) / (4 * p) ≤ 131077 := by
    apply Nat.div_le_of_le_mul
    have h3 : 131076 * 10 ≤ 131076 * p := Nat.mul_le_mul_left _ hp
    have : 4 * p * 131077 = 4 * (131076 * p) + 4 * p := by rw [Nat.mul_assoc, Nat.mul_comm p]; omega
    omega
  unfold airN
  generalize (80 * z + p - 1) / p = x at h1 ⊢
  generalize (220 + 80 * z + 4 * p - 1) / (4 * p) = y at h2 ⊢
  split
  · omega
  · split <;> omega
theorem airN_0 (p z : Nat) : airN 0 p z = 252 + (80 * z + p - 1) / p := rfl
theorem airN_1 (p z : Nat) : airN 1 p z = 80 + 4 * ((220 + 80 * z + 4 * p - 1) / (4 * p)) := rfl
theorem airN_2 (p z : Nat) : airN 2 p z = 100 + (18 * ((220 + 80 * z + 4 * p - 1) / (4 * p)) + 5 - 1) / 5 := rfl
theorem m_air {M : Me} {v : Vt} {r m p z : Nat} (hr : r < 8) (hm : v (10 + r) = nI m) (hm2 : m ≤ 2) (hp : v (18 + r) = nI p) (hp1 : 10 ≤ p) (hp2 : p ≤ 10000) (hz : z ≤ 65535) : f_m_air (sV M v) (nI r) (nI z) = some (nI (airN m p z)) := by
  have hb := airN_b (m := 2) hp1 hz
  have hn : 220 + 80 * z + 4 * p < 6000000 := by omega
  unfold f_m_air
  simp (disch := omega) only [IXl, IXm, gin_if, tN_nI, rdV, hm, hp]
  rw [m_up (a := 80 * z) (b := p) (by omega) (by omega), m_up (a := 220 + 80 * z) (b := 4 * p) (by omega) (by omega)]
  simp only [ob]
  rw [airN_2] at hb
  rcases (show m = 0 ∨ m = 1 ∨ m = 2 by omega) with rfl | rfl | rfl
  · rw [airN_0, if_pos (show nI 0 = 0 from rfl)]
    simp only [IXl]
  · rw [airN_1, if_neg (show ¬ nI 1 = 0 by decide), if_pos (show nI 1 = 1 from rfl)]
    simp only [IXl, IXm]
  · rw [airN_2, if_neg (show ¬ nI 2 = 0 by decide), if_neg (show ¬ nI 2 = 1 by decide)]
    simp only [IXm]
    rw [show (5 : Int32) = nI 5 from rfl, m_up (by omega) (by omega)]
    simp only [ob, IXl]
theorem c_has {C : Me} {i cnt r : Nat} (hc : C.1 10 i 0 0 = nI cnt) (hr : r < cnt) (h8 : cnt ≤ 8) : f_tb_has C i (nI r) = some 1 := by
  unfold f_tb_has
  rw [if_neg (nI_pos (show r < 2 ^ 31 by omega)), hc, if_neg (fun q => by rw [nI_le' (by omega) (by omega)] at q; omega), if_neg (fun q => by rw [show (8 : Int32) = nI 8 from rfl, nI_le' (by omega) (by omega)] at q; omega)]
theorem c_air {C : Me} {i cnt r m p z : Nat} (hc : C.1 10 i 0 0 = nI cnt) (hr : r < cnt) (h8 : cnt ≤ 8) (hm : C.1 11 i 0 r = nI m) (hm2 : m ≤ 2) (hp : C.1 12 i 0 r = nI p) (hp1 : 10 ≤ p) (hp2 : p ≤ 10000) (hz : z ≤ 65535) : f_tb_timeInAir C i (nI r) (nI z) = some (nI (airN m p z)) := by
  have hb := airN_b (m := 2) hp1 hz
  unfold f_tb_timeInAir
  rw [c_has hc hr h8]
  simp (disch := omega) only [ob, IXl, IXm, gin_if, tN_nI, hm, hp]
  rw [if_neg (show ¬ (1 : Int32) = 0 by decide)]
  have e : imax 1 (nI p) = nI p := if_pos ((nI_lt' (a := 1) (by omega) (by omega)).mpr (by omega))
  rw [e]
  simp (disch := omega) only [IXl, IXm]
  rw [c_dv (a := 80 * z) (b := p) (by omega) (by omega), c_dv (a := 220 + 80 * z) (b := 4 * p) (by omega) (by omega)]
  simp only [ob]
  rw [airN_2] at hb
  rcases (show m = 0 ∨ m = 1 ∨ m = 2 by omega) with rfl | rfl | rfl
  · rw [airN_0, if_pos (show nI 0 = 0 from rfl)]
    simp only [IXl]
  · rw [airN_1, if_neg (show ¬ nI 1 = 0 by decide), if_pos (show nI 1 = 1 from rfl)]
    simp only [IXl, IXm]
  · rw [airN_2, if_neg (show ¬ nI 2 = 0 by decide), if_neg (show ¬ nI 2 = 1 by decide)]
    simp only [IXm]
    rw [show (5 : Int32) = nI 5 from rfl, c_dv (by omega) (by omega)]
    simp only [ob, IXl]
def boN (j : Nat) : Nat := match j with
  | 0 => 67 | 1 => 139 | 2 => 283 | 3 => 571 | 4 => 1147 | 5 => 2299 | _ => 4603
theorem boN_b (j : Nat) : boN j ≤ 4603 := by unfold boN; split <;> omega
theorem m_bo {j : Nat} (h : j < 7) : f_m_backoff (nI j) = some (nI (boN j)) := by
  rcases (show j = 0 ∨ j = 1 ∨ j = 2 ∨ j = 3 ∨ j = 4 ∨ j = 5 ∨ j = 6 by omega) with rfl | rfl | rfl | rfl | rfl | rfl | rfl <;> decide +kernel
theorem c_bo {j : Nat} (h : j < 7) : ((9 : Int32) * (imin 1023 (((16 : Int32) <<< (nI j &&& 31)) - (1 : Int32)))) / (2 : Int32) = nI (boN j) := by
  rcases (show j = 0 ∨ j = 1 ∨ j = 2 ∨ j = 3 ∨ j = 4 ∨ j = 5 ∨ j = 6 by omega) with rfl | rfl | rfl | rfl | rfl | rfl | rfl <;> decide +kernel
def ttN (v : Vt) (r z j : Nat) : Nat := aN v r z + boN j
theorem IR.m {v : Vt} {cnt : Nat} (h : IR v cnt) {r : Nat} (hr : r < cnt) : v (10 + r) = nI (md v r) ∧ md v r ≤ 2 ∧ v (18 + r) = nI (sp v r) ∧ 10 ≤ sp v r ∧ sp v r ≤ 10000 := by
  obtain ⟨⟨a1, a2⟩, b1, b2⟩ := h.2.2 r hr
  have e1 := tN_int (x := v (10 + r)) (by omega)
  have e2 := tN_int (x := v (18 + r)) (by omega)
  refine ⟨nn_eq (by omega), ?_, nn_eq (by omega), ?_, ?_⟩
  · show tN (v (10 + r)) ≤ 2
    omega
  · show 10 ≤ tN (v (18 + r))
    omega
  · show tN (v (18 + r)) ≤ 10000
    omega
theorem m_airv {M : Me} {v : Vt} {cnt r z : Nat} (h : IR v cnt) (hr : r < cnt) (hz : z ≤ 65535) : f_m_air (sV M v) (nI r) (nI z) = some (nI (aN v r z)) := by
  obtain ⟨e1, e2, e3, e4, e5⟩ := h.m hr
  have := h.1
  exact m_air (by omega) e1 e2 e3 e4 e5 hz
theorem m_nom {M : Me} {v : Vt} {cnt r : Nat} (h : IR v cnt) (hr : r < cnt) : f_m_nominal (sV M v) (nI r) = some (nI (aN v r 1200)) := by
  unfold f_m_nominal
  rw [show (1200 : Int32) = nI 1200 from rfl, m_airv h hr (by omega)]
  rfl
theorem m_tt {M : Me} {v : Vt} {cnt r z j : Nat} (h : IR v cnt) (hr : r < cnt) (hz : z ≤ 65535) (hj : j < 7) : f_m_timeOf (sV M v) (nI r) (nI z) (nI j) = some (nI (ttN v r z j)) := by
  unfold f_m_timeOf
  rw [m_airv h hr hz, m_bo hj]
  simp only [ob, l_add]
  rfl
theorem ttN_b {v : Vt} {cnt r z j : Nat} (h : IR v cnt) (hr : r < cnt) (hz : z ≤ 65535) : 80 ≤ ttN v r z j ∧ ttN v r z j ≤ 604603 := by
  have := boN_b j
  have := airN_b (m := md v r) (h.m hr).2.2.2.1 hz
  show 80 ≤ airN (md v r) (sp v r) z + boN j ∧ airN (md v r) (sp v r) z + boN j ≤ 604603
  omega
/-- the class's table of rates holds the rates -/
theorem c_airv {C : Me} {i : Nat} {N : Nt} {v : Vt} {cnt r z : Nat} (hE : RE N v) (h : IR v cnt) (hr : r < cnt) (hz : z ≤ 65535) : f_tb_timeInAir (sN C i N) i (nI r) (nI z) = some (nI (aN v r z)) := by
  obtain ⟨e1, e2, e3, e4, e5⟩ := h.m hr
  have h8 := h.1
  refine c_air (cnt := cnt) (by rw [rdN (by decide), hE 10 0 0 rfl rfl]; exact h.2.1) hr h8 ?_ e2 ?_ e4 e5 hz
  · rw [rdN (by decide), hE 11 0 r rfl (by simp [dm]; omega)]; exact e1
  · rw [rdN (by decide), hE 12 0 r rfl (by simp [dm]; omega)]; exact e3
theorem c_hasv {C : Me} {i : Nat} {N : Nt} {v : Vt} {cnt r : Nat} (hE : RE N v) (h : IR v cnt) (hr : r < cnt) : f_tb_has (sN C i N) i (nI r) = some 1 :=
  c_has (by rw [rdN (by decide), hE 10 0 0 rfl rfl]; exact h.2.1) hr h.1
theorem c_tt {C : Me} {i : Nat} {N : Nt} {v : Vt} {cnt r z j : Nat} (hE : RE N v) (h : IR v cnt) (hr : r < cnt) (hz : z ≤ 65535) (hj : j < 7) : f_tb_timeOfTry (sN C i N) i (nI r) (nI z) (nI j) = some (nI (ttN v r z j)) := by
  unfold f_tb_timeOfTry
  rw [c_airv hE h hr hz, ob, c_bo hj, l_add]
  rfl
theorem c_nom {C : Me} {i : Nat} {N : Nt} {v : Vt} {cnt r : Nat} (hE : RE N v) (h : IR v cnt) (hM : RM N v cnt) (hr : r < cnt) : f_tb_nominalOf (sN C i N) i (nI r) = some (nI (aN v r 1200)) := by
  unfold f_tb_nominalOf
  have := h.1
  rw [c_hasv hE h hr, ob, if_neg (show ¬ (1 : Int32) = 0 by decide), gin_if (by omega) (by omega), tN_nI (by omega), rdN (by decide), hM r hr]
