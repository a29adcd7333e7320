/-! the log -/
theorem wi_n {lo hi : Int} {n : Nat} (hn : n < 2147483648) (h : lo ≤ (n : Int) ∧ (n : Int) ≤ hi) : wi lo (nI n) hi := by
  show lo ≤ (nI n).toInt ∧ (nI n).toInt ≤ hi
  rw [nI_i hn]
  exact h
theorem IL_m {v : Vt} {w w' : Nat} (h : IL v w) (hw : w ≤ w') : IL v w' := fun s r hs hr => by
  obtain ⟨a1, a2⟩ := h s r hs hr
  exact ⟨⟨a1.1, by omega⟩, a2⟩
theorem IS_m {v : Vt} {sc w w' : Nat} (h : IS v sc w) (hw : w ≤ w') : IS v sc w' := by
  obtain ⟨a1, a2, a3, a4, a5, a6, a7, a8, a9, a10⟩ := h
  exact ⟨a1, a2, a3, a4, a5, a6, a7, a8, a9, ⟨a10.1, by omega⟩⟩
theorem RB_m {N : Nt} {v : Vt} {sc cnt w w' : Nat} (h : RB N v sc cnt w) (hw : w ≤ w') : RB N v sc cnt w' := by
  obtain ⟨h1, h2, h3, h4, h5, h6, h7, h8, h9, h10, h11⟩ := h
  exact ⟨h1, h2, h3, h4, h5, h6, h7, IS_m h8 hw, IL_m h9 hw, h10, h11⟩
theorem RN_m {N : Nt} {v : Vt} {sc cnt w w' : Nat} (h : RN N v sc cnt w) (hw : w ≤ w') : RN N v sc cnt w' := ⟨RB_m h.1 hw, h.2⟩
/-- a number of the whole network is set -/
theorem RB_i {N : Nt} {v : Vt} {sc cnt w w' f : Nat} {x : Int32} (h : RB N v sc cnt w) (hf : (1 ≤ f ∧ f ≤ 6) ∨ f = 60) (hw : w ≤ w') (hI : IS (upd v (ad f 0 0) x) sc w') : RB (uN N f 0 0 x) (upd v (ad f 0 0) x) sc cnt w' := by
  have hd : dm f 0 0 = true := by
    rcases (show f = 1 ∨ f = 2 ∨ f = 3 ∨ f = 4 ∨ f = 5 ∨ f = 6 ∨ f = 60 by omega) with rfl | rfl | rfl | rfl | rfl | rfl | rfl <;> rfl
  obtain ⟨h1, h2, h3, h4, h5, h6, h7, h8, h9, h10, h11⟩ := h
  exact ⟨h1.set hd, RL_s h2 hd (by omega), RT_s h3 hd (by omega), RQ_s h4 hd (by omega), RK_s h5 hd (by omega), RM_s h6 h7.1 hd (by omega), IR_v h7 hd (by omega), hI, IL_m (IL_v h9 hd (by omega)) hw, IT_v h10 hd (by omega), IC_v h11 hd (by omega)⟩
theorem RN_i {N : Nt} {v : Vt} {sc cnt w w' f : Nat} {x : Int32} (h : RN N v sc cnt w) (hf : (1 ≤ f ∧ f ≤ 6) ∨ f = 60) (hw : w ≤ w') (hI : IS (upd v (ad f 0 0) x) sc w') : RN (uN N f 0 0 x) (upd v (ad f 0 0) x) sc cnt w' := by
  have hd : dm f 0 0 = true := by
    rcases (show f = 1 ∨ f = 2 ∨ f = 3 ∨ f = 4 ∨ f = 5 ∨ f = 6 ∨ f = 60 by omega) with rfl | rfl | rfl | rfl | rfl | rfl | rfl <;> rfl
  have h4 := h.1.2.2.2.2.2.2.2.1.1
  have h8 := h.1.2.2.2.2.2.2.1.1
  exact ⟨RB_i h.1 hf hw hI, fun t ht => RO_s (by omega) h8 (h.2 t ht) hd (by omega)⟩
theorem xor_nn {a b : Nat} (ha : a < 2147483648) (hb : b < 2147483648) : 0 ≤ (nI a ^^^ nI b) := by
  have e : nI a ^^^ nI b = nI (a ^^^ b) := by
    apply Int32.toBitVec_inj.mp
    rw [Int32.toBitVec_xor]
    show BitVec.ofNat 32 a ^^^ BitVec.ofNat 32 b = BitVec.ofNat 32 (a ^^^ b)
    apply BitVec.eq_of_toNat_eq
    have h3 : a ^^^ b < 2 ^ 31 := Nat.xor_lt_two_pow (show a < 2 ^ 31 from ha) (show b < 2 ^ 31 from hb)
    rw [BitVec.toNat_xor, BitVec.toNat_ofNat, BitVec.toNat_ofNat, BitVec.toNat_ofNat, Nat.mod_eq_of_lt (by omega), Nat.mod_eq_of_lt (by omega), Nat.mod_eq_of_lt (by omega)]
  rw [e]
  exact nI_pos' (Nat.xor_lt_two_pow (show a < 2 ^ 31 from ha) (show b < 2 ^ 31 from hb))
theorem fm_nI {a b : Nat} (ha : a < 2147483648) (h0 : 0 < b) (hb : b < 2147483648) : fmval (nI a) (nI b) = nI (a % b) := by
  unfold fmval
  rw [if_pos (xor_nn ha hb)]
  exact pk_rem ha h0 hb
/-- the array behind a note -/
def lgV (v : Vt) (k s r : Int32) : Vt := upd (upd (upd (upd (upd v (516 + 4 * (tN (v 8) % 20)) k) (516 + 4 * (tN (v 8) % 20) + 1) s) (516 + 4 * (tN (v 8) % 20) + 2) r) (516 + 4 * (tN (v 8) % 20) + 3) (v 0)) 8 (v 8 + 1)
def lgN (N : Nt) (p : Nat) (k s r t : Int32) (x : Int32) : Nt := uN (uN (uN (uN (uN N 61 0 p k) 61 1 p s) 61 2 p r) 61 3 p t) 60 0 0 x
theorem m_log {M : Me} {v : Vt} {k s r : Int32} (h : 0 ≤ (v 8).toInt) : f_m_log (sV M v) k s r = some (sV M (lgV v k s r)) := by
  have h8 : v 8 = nI (tN (v 8)) := nn_eq h
  have hb := Int32.toInt_lt (v 8)
  have hb2 := tN_int h
  have hp : tN (v 8) % 20 < 20 := Nat.mod_lt _ (by decide)
  unfold f_m_log
  have e : (516 : Int32) + ((4 : Int32) * (v 8 - v 8 / 20 * 20)) = nI (516 + 4 * (tN (v 8) % 20)) := by
    have q : v 8 - v 8 / 20 * 20 = nI (tN (v 8) % 20) := by
      conv => lhs; rw [h8]
      exact pk_rem (by omega) (by decide) (by decide)
    rw [q]
    simp only [IXl, IXm]
  unfold lgV
  generalize hP : tN (v 8) % 20 = P at hp e
  refine bs (x := nI (516 + 4 * P)) (by rw [t_8, rdV, e]) ?_
  simp (disch := omega) only [↓ob, ↓reduceIte, IXr, gin_t, tN_nI, wrV, rdV, IXt]
  rw [up_n (show 0 ≠ 516 + 4 * P + 2 by omega), up_n (show 0 ≠ 516 + 4 * P + 1 by omega), up_n (show 0 ≠ 516 + 4 * P by omega), up_n (show 8 ≠ 516 + 4 * P + 3 by omega), up_n (show 8 ≠ 516 + 4 * P + 2 by omega), up_n (show 8 ≠ 516 + 4 * P + 1 by omega), up_n (show 8 ≠ 516 + 4 * P by omega)]
theorem c_note {C : Me} {i : Nat} {N : Nt} {k s r t : Int32} {n : Nat} (h : N.1 60 0 0 = nI n) (hn : n < 1073741824) : f_lo_note (sN C i N) i k s r t = some (sN C i (lgN N (n % 20) k s r t (nI (n + 1)))) := by
  have hp : n % 20 < 20 := Nat.mod_lt _ (by decide)
  unfold f_lo_note lgN
  generalize hP : n % 20 = P at hp
  refine bs (x := nI P) (by rw [rdN (by decide), h, show (20 : Int32) = nI 20 from rfl, fm_nI (by omega) (by decide) (by decide), hP]) ?_
  simp (disch := omega) only [↓ob, ↓reduceIte, gin_t, tN_nI, wrN, rdN, IXt]
  rw [uN_f (by decide), uN_f (by decide), uN_f (by decide), uN_f (by decide), h, nI_1]
theorem RN_log {N : Nt} {v : Vt} {sc cnt w : Nat} {k s r : Int32} (h : RN N v sc cnt w) (hw : w < 1073741824) : RN (lgN N (tN (v 8) % 20) k s r (v 0) (v 8 + 1)) (lgV v k s r) sc cnt (w + 1) := by
  have hp : tN (v 8) % 20 < 20 := Nat.mod_lt _ (by decide)
  unfold lgN lgV
  generalize tN (v 8) % 20 = P at hp
  have h1 := RN_s (x := k) h (d61 (f := 0) (by decide) hp) (by omega)
  have h2 := RN_s (x := s) h1 (d61 (f := 1) (by decide) hp) (by omega)
  have h3 := RN_s (x := r) h2 (d61 (f := 2) (by decide) hp) (by omega)
  have h4 := RN_s (x := v 0) h3 (d61 (f := 3) (by decide) hp) (by omega)
  refine RN_i (f := 60) (x := v 8 + 1) h4 (Or.inr rfl) (Nat.le_succ w) ?_
  obtain ⟨a1, a2, a3, a4, a5, a6, a7, a8, a9, a10⟩ := h4.1.2.2.2.2.2.2.2.1
  have g := h.1.2.2.2.2.2.2.2.1.2.2.2.2.2.2.2.2.2
  show IS (upd _ 8 (v 8 + 1)) sc (w + 1)
  refine ⟨a1, by rw [up_n (by decide)]; exact a2, by rw [up_n (by decide)]; exact a3, by rw [up_n (by decide)]; exact a4, by rw [up_n (by decide)]; exact a5, by rw [up_n (by decide)]; exact a6, by rw [up_n (by decide)]; exact a7, by rw [up_n (by decide)]; exact a8, by rw [up_n (by decide)]; exact a9, ?_⟩
  rw [up_s]
  have e : v 8 = nI (tN (v 8)) := nn_eq g.1
  have e2 := tN_int g.1
  rw [e, nI_1]
  exact wi_n (by omega) ⟨by omega, by omega⟩
/-- both sides of a note -/
theorem c_log {C : Me} {i : Nat} {N : Nt} {v : Vt} {sc cnt w : Nat} {k s r : Int32} (h : RN N v sc cnt w) (hw : w < 1073741824) : f_lo_note (sN C i N) i k s r (v 0) = some (sN C i (lgN N (tN (v 8) % 20) k s r (v 0) (v 8 + 1))) := by
  have g := h.1.2.2.2.2.2.2.2.1.2.2.2.2.2.2.2.2.2
  have e : v 8 = nI (tN (v 8)) := nn_eq g.1
  have e2 := tN_int g.1
  have q := c_note (C := C) (i := i) (N := N) (k := k) (s := s) (r := r) (t := v 0) (n := tN (v 8)) (by rw [h.1.1 60 0 0 rfl rfl]; exact e) (by omega)
  rw [q]
  rw [show v 8 + 1 = nI (tN (v 8) + 1) by conv => lhs; rw [e, nI_1]]
