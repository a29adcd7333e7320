/-! longs of naturals (rows wb_ out of the kit's BITS to paste) -/
theorem wb_tb (n : Nat) : (lN n).toBitVec = BitVec.ofNat 64 n := rfl
theorem wb_inj {a b : Int64} (h : a.toBitVec = b.toBitVec) : a = b := Int64.toBitVec_inj.mp h
theorem wb_c : ∀ k, k < 64 → ((nI k).toInt64 &&& 63) = lN k := by decide +kernel
theorem wb_sm : ∀ k, k < 64 → (BitVec.ofNat 64 k).smod 64 = BitVec.ofNat 64 k := by decide +kernel
theorem wb_shl (n : Nat) {k : Nat} (hk : k < 64) : lN n <<< ((nI k).toInt64 &&& 63) = lN (n * 2 ^ k) := by
  rw [wb_c k hk]
  apply wb_inj
  rw [Int64.toBitVec_shiftLeft, wb_tb, wb_tb, wb_tb, wb_sm k hk]
  apply BitVec.eq_of_toNat_eq
  rw [BitVec.shiftLeft_eq', BitVec.toNat_shiftLeft, BitVec.toNat_ofNat, BitVec.toNat_ofNat, BitVec.toNat_ofNat, Nat.mod_eq_of_lt (show k < 2 ^ 64 by omega), Nat.shiftLeft_eq, Nat.mul_mod, Nat.mod_mod, ← Nat.mul_mod]
theorem l_int {n : Nat} (h : n < 9223372036854775808) : (lN n).toInt = (n : Int) := lg_ofNat_toInt h
theorem lN_le' {a b : Nat} (ha : a < 9223372036854775808) (hb : b < 9223372036854775808) : lN a ≤ lN b ↔ a ≤ b := by
  rw [Int64.le_iff_toInt_le, l_int ha, l_int hb]; omega
theorem lN_lt' {a b : Nat} (ha : a < 9223372036854775808) (hb : b < 9223372036854775808) : lN a < lN b ↔ a < b := by
  rw [Int64.lt_iff_toInt_lt, l_int ha, l_int hb]; omega
theorem cmp_le0 (x y : Int64) : lg_cmp x y ≤ 0 ↔ x ≤ y := by
  unfold lg_cmp
  by_cases h : x > y
  · rw [if_pos h]
    constructor
    · intro q; exact absurd q (by decide)
    · intro q
      rw [gt_iff_lt, Int64.lt_iff_toInt_lt] at h
      rw [Int64.le_iff_toInt_le] at q
      omega
  · rw [if_neg h]
    rw [gt_iff_lt, Int64.lt_iff_toInt_lt] at h
    have hx : x ≤ y := by rw [Int64.le_iff_toInt_le]; omega
    constructor
    · intro _; exact hx
    · intro _
      by_cases e : x = y
      · rw [if_pos e]; decide
      · rw [if_neg e]; decide
/-! values -/
def kN (v : Vt) (s r : Nat) : Nat := tN (v (aP s r + 1))
def vN (v : Vt) (s r : Nat) : Nat := if 6554 ≤ kN v s r then (if kN v s r ≤ 58982 then kN v s r * 9600 / aN v r 1200 else 58982 * 9600 / aN v r 1200) else 0
def oI (o : Option Nat) : Int32 := match o with
  | none => -9
  | some r => nI r
theorem oI_n : oI none = -9 := rfl
theorem oI_s (r : Nat) : oI (some r) = nI r := rfl
theorem ne9 {r : Nat} (h : r < 2147483648) : ¬ nI r = (-9 : Int32) := fun e => by
  have q := congrArg Int32.toInt e
  rw [nI_i h] at q
  have : ((-9 : Int32)).toInt = -9 := by decide
  omega
theorem oI_eq {r : Nat} {o : Option Nat} (h : r < 2147483648) (ho : ∀ b, o = some b → b < 2147483648) : nI r = oI o ↔ some r = o := by
  cases o with
  | none => exact ⟨fun q => absurd q (ne9 h), fun q => by cases q⟩
  | some b =>
    rw [oI_s, nI_j h (ho b rfl)]
    exact ⟨fun q => by rw [q], fun q => by cases q; rfl⟩
theorem IL.k {v : Vt} {w : Nat} (h : IL v w) {s r : Nat} (hs : s < 4) (hr : r < 8) : kN v s r ≤ 65536 ∧ (if 0 ≤ v (aP s r + 1) then v (aP s r + 1) else 0) = nI (kN v s r) := by
  have h1 := (h s r hs hr).2.2.2.1
  by_cases c : 0 ≤ (v (aP s r + 1)).toInt
  · have e := tN_int c
    refine ⟨?_, ?_⟩
    · show tN (v (aP s r + 1)) ≤ 65536
      omega
    · rw [if_pos (le_int.mpr (by rw [show ((0 : Int32)).toInt = 0 from rfl]; exact c))]
      exact nn_eq c
  · have e0 : kN v s r = 0 := by
      show ((v (aP s r + 1)).toInt).toNat = 0
      omega
    refine ⟨by omega, ?_⟩
    rw [if_neg (fun q => c (by have := le_int.mp q; rw [show ((0 : Int32)).toInt = 0 from rfl] at this; exact this)), e0]
    rfl
theorem vN_b {v : Vt} {w cnt s r : Nat} (hL : IL v w) (hR : IR v cnt) (hs : s < 4) (hr : r < cnt) : vN v s r ≤ 7077888 := by
  have h8 := hR.1
  have ha := airN_b (m := md v r) (p := sp v r) (z := 1200) (hR.m hr).2.2.2.1 (by omega)
  have hk := (hL.k hs (show r < 8 by omega)).1
  have ha' : 80 ≤ aN v r 1200 := ha.1
  unfold vN
  generalize aN v r 1200 = a at ha'
  have hb : ∀ x, x ≤ 566227200 → x / a ≤ 7077888 := fun x hx => Nat.div_le_of_le_mul (Nat.le_trans hx (Nat.le_trans (show 566227200 ≤ 80 * 7077888 from by decide) (Nat.mul_le_mul_right _ ha')))
  split
  · split
    · exact hb _ (by omega)
    · exact hb _ (by decide)
  · omega
theorem m_al {M : Me} {v : Vt} {s r : Nat} (hs : s < 4) (hr : r < 8) : f_m_allows (sV M v) (nI s) (nI r) = some (if v (aP s r) = 1 then 1 else 0) := by
  unfold f_m_allows f_m_pair
  simp (disch := omega) only [ob, IXl, IXm, IXr, l_add, gin_if, tN_nI, rdV, Nat.add_zero]
  show (if v (aP s r) = 1 then some 1 else some 0) = _
  split <;> rfl
theorem m_kn {M : Me} {v : Vt} {s r w : Nat} (hL : IL v w) (hs : s < 4) (hr : r < 8) : f_m_known (sV M v) (nI s) (nI r) = some (nI (kN v s r)) := by
  unfold f_m_known f_m_pair
  simp (disch := omega) only [ob, IXl, IXm, IXr, l_add, gin_if, tN_nI, rdV]
  have h := (hL.k hs hr).2
  show (if 0 ≤ v (aP s r + 1) then some (v (aP s r + 1)) else some 0) = _
  rw [← h]
  split <;> rfl
theorem m_vl {M : Me} {v : Vt} {s r w cnt : Nat} (hL : IL v w) (hR : IR v cnt) (hs : s < 4) (hr : r < cnt) : f_m_valueOf (sV M v) (nI s) (nI r) = some (nI (vN v s r)) := by
  have h8 := hR.1
  have hk := (hL.k hs (show r < 8 by omega)).1
  have ha := airN_b (m := md v r) (p := sp v r) (z := 1200) (hR.m hr).2.2.2.1 (by omega)
  have ha' : 80 ≤ aN v r 1200 ∧ aN v r 1200 ≤ 600000 := ha
  unfold f_m_valueOf
  rw [m_kn hL hs (by omega), ob, m_nom hR hr]
  unfold vN
  by_cases c : 6554 ≤ kN v s r
  · rw [if_pos (show (6554 : Int32) ≤ nI (kN v s r) from (nI_le' (a := 6554) (by omega) (by omega)).mpr c), if_pos c]
    by_cases c2 : kN v s r ≤ 58982
    · rw [if_pos (show nI (kN v s r) ≤ 58982 from (nI_le' (b := 58982) (by omega) (by omega)).mpr c2), if_pos c2, ob, if_pos (ne0 (by omega) (by omega)), show (9600 : Int32) = nI 9600 from rfl, l_mul, nI_dv (by omega) (by omega) (by omega)]
    · rw [if_neg (show ¬ nI (kN v s r) ≤ 58982 from fun q => c2 ((nI_le' (b := 58982) (by omega) (by omega)).mp q)), if_neg c2, ob, if_pos (ne0 (by omega) (by omega)), show (58982 : Int32) * (9600 : Int32) = nI (58982 * 9600) from rfl, nI_dv (by omega) (by omega) (by omega)]
  · rw [if_neg (show ¬ (6554 : Int32) ≤ nI (kN v s r) from fun q => c ((nI_le' (a := 6554) (by omega) (by omega)).mp q)), if_neg c]
    rfl
/-- a is better than b -/
def btr (v : Vt) (s a b : Nat) : Prop := vN v s b < vN v s a ∨ (vN v s a = vN v s b ∧ kN v s b < kN v s a)
theorem m_btr {M : Me} {v : Vt} {s a b w cnt : Nat} (hL : IL v w) (hR : IR v cnt) (hs : s < 4) (ha : a < cnt) (hb : b < cnt) : ∃ x, f_m_betters (sV M v) (nI s) (nI a) (nI b) = some x ∧ (x = 0 ↔ ¬ btr v s a b) := by
  have h8 := hR.1
  have h1 := vN_b hL hR hs ha
  have h2 := vN_b hL hR hs hb
  have k1 := (hL.k hs (show a < 8 by omega)).1
  have k2 := (hL.k hs (show b < 8 by omega)).1
  unfold f_m_betters
  rw [m_vl hL hR hs ha, m_vl hL hR hs hb, m_kn hL hs (by omega), m_kn hL hs (by omega)]
  simp only [ob]
  unfold btr
  by_cases c : vN v s b < vN v s a
  · rw [if_pos ((nI_lt' (by omega) (by omega)).mpr c)]
    exact ⟨1, rfl, fun q => absurd q (by decide), fun q => absurd (Or.inl c) q⟩
  · rw [if_neg (fun q => c ((nI_lt' (by omega) (by omega)).mp q))]
    by_cases e : vN v s a = vN v s b
    · rw [if_pos (by rw [e])]
      by_cases c2 : kN v s a ≤ kN v s b
      · rw [if_pos ((nI_le' (by omega) (by omega)).mpr c2)]
        exact ⟨0, rfl, fun _ q => by omega, fun _ => rfl⟩
      · rw [if_neg (fun q => c2 ((nI_le' (by omega) (by omega)).mp q))]
        exact ⟨1, rfl, fun q => absurd q (by decide), fun q => absurd (Or.inr ⟨e, by omega⟩) q⟩
    · rw [if_neg (fun q => e ((nI_j (by omega) (by omega)).mp q))]
      exact ⟨0, rfl, fun _ q => by omega, fun _ => rfl⟩
noncomputable def pk (p : Prop) (k : Nat) (o : Option Nat) : Option Nat := @ite _ p (Classical.propDecidable p) (some k) o
theorem pk_t {p : Prop} {k : Nat} {o : Option Nat} (h : p) : pk p k o = some k := if_pos h
theorem pk_f {p : Prop} {k : Nat} {o : Option Nat} (h : ¬ p) : pk p k o = o := if_neg h
theorem pk_b {p : Prop} {k n : Nat} {o : Option Nat} (hk : k < n) (ho : ∀ b, o = some b → b < n) : ∀ b, pk p k o = some b → b < n := by
  intro b hb
  by_cases h : p
  · rw [pk_t h] at hb
    cases hb
    exact hk
  · rw [pk_f h] at hb
    exact ho b hb
/-- the best of the first k rates, but for one, with an estimate of least or more -/
noncomputable def bS (v : Vt) (s : Nat) (but : Option Nat) (least : Nat) : Nat → Option Nat
  | 0 => none
  | k + 1 => pk (al v s k ∧ some k ≠ but ∧ least ≤ kN v s k ∧ ∀ b, bS v s but least k = some b → btr v s k b) k (bS v s but least k)
noncomputable def uS (v : Vt) (s : Nat) : Nat → Option Nat
  | 0 => none
  | k + 1 => pk (al v s k ∧ ∀ b, uS v s k = some b → (kN v s b < kN v s k ∨ (kN v s k = kN v s b ∧ vN v s b < vN v s k))) k (uS v s k)
noncomputable def wS (v : Vt) (s : Nat) : Nat → Option Nat
  | 0 => none
  | k + 1 => pk (al v s k ∧ ∀ b, wS v s k = some b → aN v b 1200 < aN v k 1200) k (wS v s k)
theorem bS_b {v : Vt} {s : Nat} {but : Option Nat} {least : Nat} : ∀ k b, bS v s but least k = some b → b < k
  | 0, b, h => by cases h
  | k + 1, b, h => pk_b (by omega) (fun b h => by have := bS_b k b h; omega) b h
theorem uS_b {v : Vt} {s : Nat} : ∀ k b, uS v s k = some b → b < k
  | 0, b, h => by cases h
  | k + 1, b, h => pk_b (by omega) (fun b h => by have := uS_b k b h; omega) b h
theorem wS_b {v : Vt} {s : Nat} : ∀ k b, wS v s k = some b → b < k
  | 0, b, h => by cases h
  | k + 1, b, h => pk_b (by omega) (fun b h => by have := wS_b k b h; omega) b h
theorem oI_ne {o : Option Nat} {n : Nat} (hn : n < 2147483648) (ho : ∀ b, o = some b → b < n) : (oI o = -9 ↔ o = none) := by
  cases o with
  | none => exact ⟨fun _ => rfl, fun _ => rfl⟩
  | some b => exact ⟨fun q => absurd q (ne9 (by have := ho b rfl; omega)), fun q => by cases q⟩
theorem m_best {M : Me} {v : Vt} {s w cnt least : Nat} {but : Option Nat} (hL : IL v w) (hR : IR v cnt) (hs : s < 4) (hbut : ∀ b, but = some b → b < 8) (hl : least ≤ 65536) : f_m_bestBut (sV M v) (nI s) (oI but) (nI least) = some (oI (bS v s but least cnt)) := by
  have h8 := hR.1
  unfold f_m_bestBut
  have key : lp FU (b_m_bestBut_7 (sV M v) (nI s) (oI but) (nI least)) ((-9 : Int32), (0 : Int32)) = some (oI (bS v s but least cnt)) := by
    refine lp_n (fun k => (oI (bS v s but least k), nI k)) cnt (lt_FU (by omega)) (fun k hk => ?_) ?_
    · have hkn := (hL.k hs (show k < 8 by omega)).1
      have hbb := bS_b (v := v) (s := s) (but := but) (least := least) k
      unfold b_m_bestBut_7
      rw [m_al hs (by omega), m_kn hL hs (by omega)]
      simp (disch := omega) only [ob, IXt, IXr, rdV, hR.2.1]
      rw [if_neg (fun q => by rw [nI_le' (by omega) (by omega)] at q; omega)]
      by_cases c1 : v (aP s k) = 1
      · rw [if_pos c1, if_neg (by decide)]
        by_cases c2 : some k = but
        · rw [if_pos ((oI_eq (by omega) (fun b hb => by have := hbut b hb; omega)).mpr c2)]
          simp only [bS, pk_f (show ¬ (al v s k ∧ some k ≠ but ∧ least ≤ kN v s k ∧ ∀ b, bS v s but least k = some b → btr v s k b) from fun q => q.2.1 c2)]
        · rw [if_neg (fun q => c2 ((oI_eq (by omega) (fun b hb => by have := hbut b hb; omega)).mp q))]
          by_cases c3 : least ≤ kN v s k
          · rw [if_neg (fun q => by rw [nI_lt' (by omega) (by omega)] at q; omega)]
            cases hb : bS v s but least k with
            | none =>
              rw [if_pos (show oI none = -9 from rfl)]
              simp only [bS, pk_t (show (al v s k ∧ some k ≠ but ∧ least ≤ kN v s k ∧ ∀ b, bS v s but least k = some b → btr v s k b) from ⟨c1, c2, c3, fun b q => by rw [hb] at q; cases q⟩)]
              rfl
            | some b =>
              have hbk := hbb b hb
              rw [if_neg (show ¬ oI (some b) = -9 from ne9 (by omega))]
              obtain ⟨x, hx, hx2⟩ := m_btr (M := M) (a := k) (b := b) hL hR hs hk (by omega)
              rw [oI_s, hx]
              simp only [ob]
              by_cases c4 : x = 0
              · rw [if_pos c4]
                have e : bS v s but least (k + 1) = some b := (pk_f (show ¬ (al v s k ∧ some k ≠ but ∧ least ≤ kN v s k ∧ ∀ b, bS v s but least k = some b → btr v s k b) from fun q => hx2.mp c4 (q.2.2.2 b hb))).trans hb
                show _ = some (Sum.inl (oI (bS v s but least (k + 1)), nI (k + 1)))
                rw [e]
                rfl
              · rw [if_neg c4]
                have hbt : btr v s k b := Classical.byContradiction fun q => c4 (hx2.mpr q)
                simp only [bS, pk_t (show (al v s k ∧ some k ≠ but ∧ least ≤ kN v s k ∧ ∀ b, bS v s but least k = some b → btr v s k b) from ⟨c1, c2, c3, fun b' q => by rw [hb] at q; cases q; exact hbt⟩)]
                rfl
          · rw [if_pos ((nI_lt' (by omega) (by omega)).mpr (by omega))]
            simp only [bS, pk_f (show ¬ (al v s k ∧ some k ≠ but ∧ least ≤ kN v s k ∧ ∀ b, bS v s but least k = some b → btr v s k b) from fun q => c3 q.2.2.1)]
      · rw [if_neg c1, if_pos rfl]
        simp only [bS, pk_f (show ¬ (al v s k ∧ some k ≠ but ∧ least ≤ kN v s k ∧ ∀ b, bS v s but least k = some b → btr v s k b) from fun q => c1 q.1)]
    · unfold b_m_bestBut_7
      simp only [IXt, rdV, hR.2.1]
      rw [if_pos ((nI_le' (by omega) (by omega)).mpr (Nat.le_refl _))]
  rw [key]
  rfl
