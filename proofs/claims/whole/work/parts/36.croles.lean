/-! the class's roles -/
/-- the links of station s, as far as there are rates -/
def LK (N : Nt) (v : Vt) (s cnt : Nat) : Prop := ∀ r, r < cnt → N.1 20 s r = v (aP s r) ∧ N.1 27 s r = v (aP s r + 7) ∧ N.1 21 s r = esC (v (aP s r + 1))
theorem RL.lk {N : Nt} {v : Vt} {sc cnt s : Nat} (h : RL N v sc cnt) (hs : s < sc) (h4 : sc ≤ 4) (h8 : cnt ≤ 8) : LK N v s cnt := fun r hr => by
  obtain ⟨a1, a2, a3, -⟩ := (h s r (by omega) (by omega)).1 ⟨hs, hr⟩
  exact ⟨a1, a2, a3⟩
theorem esC_9 {x : Int32} (h : -1 ≤ x.toInt) : (esC x = -9 ↔ x < 0) ∧ (¬ x < 0 → esC x = x) := by
  unfold esC
  by_cases c : x < 0
  · rw [if_pos c]
    exact ⟨⟨fun _ => c, fun _ => rfl⟩, fun q => absurd c q⟩
  · rw [if_neg c]
    refine ⟨⟨fun q => ?_, fun q => absurd q c⟩, fun _ => rfl⟩
    rw [q] at h
    exact absurd h (by decide)
theorem lt0 {x : Int32} : x < 0 ↔ x.toInt < 0 := by rw [lt_int]; rfl
theorem kN_neg {v : Vt} {s r : Nat} (h : v (aP s r + 1) < 0) : kN v s r = 0 := by
  rw [lt0] at h
  show ((v (aP s r + 1)).toInt).toNat = 0
  omega
theorem kN_pos {v : Vt} {s r : Nat} (h : ¬ v (aP s r + 1) < 0) : v (aP s r + 1) = nI (kN v s r) := by
  rw [lt0] at h
  exact nn_eq (by omega)
theorem c_eoz {C : Me} {i : Nat} {N : Nt} {v : Vt} {s r cnt w : Nat} (hK : LK N v s cnt) (hL : IL v w) (hs : s < 4) (hr : r < cnt) (h8 : cnt ≤ 8) : f_lk_estimateOrZero (sN C i N) i s r = some (nI (kN v s r)) := by
  have he := (hK r hr).2.2
  have h1 := (hL s r hs (by omega)).2.2.2.1
  have h2 := esC_9 h1.1
  unfold f_lk_estimateOrZero
  rw [rdN (by decide), he]
  by_cases c : v (aP s r + 1) < 0
  · rw [if_pos (h2.1.mpr c), kN_neg c]
    rfl
  · rw [if_neg (fun q => c (h2.1.mp q)), h2.2 c, kN_pos c]
theorem c_vl {C : Me} {i : Nat} {N : Nt} {v : Vt} {s r cnt w : Nat} (hK : LK N v s cnt) (hL : IL v w) (hR : IR v cnt) (hs : s < 4) (hr : r < cnt) : f_lk_value (sN C i N) i s r (nI (aN v r 1200)) = some (nI (vN v s r)) := by
  have h8 := hR.1
  have he := (hK r hr).2.2
  have h1 := (hL s r hs (by omega)).2.2.2.1
  have h2 := esC_9 h1.1
  have hk := (hL.k hs (show r < 8 by omega)).1
  have ha := airN_b (m := md v r) (p := sp v r) (z := 1200) (hR.m hr).2.2.2.1 (by omega)
  have ha' : 80 ≤ aN v r 1200 ∧ aN v r 1200 ≤ 600000 := ha
  unfold f_lk_value
  rw [rdN (by decide), he]
  by_cases c : v (aP s r + 1) < 0
  · rw [h2.1.mpr c, if_pos (by decide)]
    unfold vN
    rw [kN_neg c, if_neg (by decide)]
    rfl
  · rw [h2.2 c, kN_pos c]
    unfold vN
    by_cases c1 : 6554 ≤ kN v s r
    · rw [if_neg (show ¬ nI (kN v s r) < 6554 from fun q => by rw [show (6554 : Int32) = nI 6554 from rfl, nI_lt' (by omega) (by omega)] at q; omega), if_pos (show (1 : Int32) ≤ nI (aN v r 1200) from (nI_le' (a := 1) (by omega) (by omega)).mpr (by omega)), if_pos c1]
      by_cases c2 : kN v s r ≤ 58982
      · rw [if_pos (show nI (kN v s r) ≤ 58982 from (nI_le' (b := 58982) (by omega) (by omega)).mpr c2), if_pos c2, if_pos (ne0 (by omega) (by omega)), show (9600 : Int32) = nI 9600 from rfl, l_mul, nI_dv (by omega) (by omega) (by omega)]
      · rw [if_neg (show ¬ nI (kN v s r) ≤ 58982 from fun q => c2 ((nI_le' (b := 58982) (by omega) (by omega)).mp q)), if_neg c2, if_pos (ne0 (by omega) (by omega)), show (58982 : Int32) * (9600 : Int32) = nI (58982 * 9600) from rfl, nI_dv (by omega) (by omega) (by omega)]
    · rw [if_pos (show nI (kN v s r) < 6554 from (nI_lt' (b := 6554) (by omega) (by omega)).mpr (by omega)), if_neg c1]
      rfl
def rkN (a b : Nat) : Nat := a * 4294967296 + b
def rk0 (v : Vt) (s : Nat) (o : Option Nat) : Nat := match o with
  | none => 0
  | some b => rkN (vN v s b) (kN v s b)
def rk1 (v : Vt) (s : Nat) (o : Option Nat) : Nat := match o with
  | none => 0
  | some b => rkN (kN v s b) (vN v s b)
theorem shl32 {a b : Nat} (ha : a < 2147483648) (hb : b < 2147483648) : (((nI a).toInt64 <<< ((32 : Int32).toInt64 &&& 63)) + (nI b).toInt64) = lN (rkN a b) := by
  rw [nI_l (show a < 2 ^ 31 by omega), nI_l (show b < 2 ^ 31 by omega), show (32 : Int32) = nI 32 from rfl, wb_shl a (by decide), lN_add]
  rfl
/-- what the loop of highest sees of a rate -/
theorem c_high {C : Me} {i : Nat} {N : Nt} {v : Vt} {s cnt w least : Nat} {but : Option Nat} {flag : Int32} (S : Nat → Option Nat) (rk : Option Nat → Nat) (hE : RE N v) (hK : LK N v s cnt) (hM : RM N v cnt) (hL : IL v w) (hR : IR v cnt) (hs : s < 4) (hbut : ∀ b, but = some b → b < 8) (hl : least ≤ 65536) (h0 : S 0 = none)
    (hrn : rk none = 0) (hrk : ∀ r, r < cnt → rk (some r) = if flag = 0 then rkN (vN v s r) (kN v s r) else rkN (kN v s r) (vN v s r)) (hSb : ∀ k b, S k = some b → b < k)
    (hS : ∀ k, k < cnt → S (k + 1) = pk (al v s k ∧ some k ≠ but ∧ least ≤ kN v s k ∧ ∀ b, S k = some b → rk (some b) < rk (some k)) k (S k)) : f_st_highest (sN C i N) i s i (nI least) (oI but) flag = some (oI (S cnt)) := by
  have h8 := hR.1
  unfold f_st_highest
  have hc : (sN C i N).1 10 i 0 0 = nI cnt := by rw [rdN (by decide), hE 10 0 0 rfl rfl]; exact hR.2.1
  have key : lp FU (b_st_highest_10 (sN C i N) i s i (nI least) (oI but) flag) ((-9 : Int32), (0 : Int64), (0 : Int32)) = some (oI (S cnt)) := by
    have z : ((-9 : Int32), (0 : Int64), (0 : Int32)) = (oI (S 0), lN (rk (S 0)), nI 0) := by rw [h0, hrn]; rfl
    rw [z]
    refine lp_n (fun k => (oI (S k), lN (rk (S k)), nI k)) cnt (lt_FU (by omega)) (fun k hk => ?_) ?_
    · have hkn := (hL.k hs (show k < 8 by omega)).1
      have hvn := vN_b hL hR hs hk
      have ha := (hL s k hs (by omega)).2.2.2.2.1
      unfold b_st_highest_10
      show (if (sN C i N).1 10 i 0 0 ≤ nI k then _ else _) = some (Sum.inl (oI (S (k + 1)), lN (rk (S (k + 1))), nI (k + 1)))
      rw [hc, if_neg (fun q => by rw [nI_le' (by omega) (by omega)] at q; omega), if_pos (gin_nI (by omega) (by omega)), tN_nI (by omega), c_eoz hK hL hs hk h8]
      rw [ob, rdN (by decide), (hK k hk).1]
      simp only [↓ob, IXr]
      have stay : ¬ (al v s k ∧ some k ≠ but ∧ least ≤ kN v s k ∧ ∀ b, S k = some b → rk (some b) < rk (some k)) → some (Sum.inl (oI (S k), lN (rk (S k)), nI (k + 1))) = (some (Sum.inl (oI (S (k + 1)), lN (rk (S (k + 1))), nI (k + 1))) : Option ((Int32 × Int64 × Int32) ⊕ Int32)) := fun q => by rw [hS k hk, pk_f q]
      have take : (al v s k ∧ some k ≠ but ∧ least ≤ kN v s k ∧ ∀ b, S k = some b → rk (some b) < rk (some k)) → some (Sum.inl (nI k, lN (rk (some k)), nI (k + 1))) = (some (Sum.inl (oI (S (k + 1)), lN (rk (S (k + 1))), nI (k + 1))) : Option ((Int32 × Int64 × Int32) ⊕ Int32)) := fun q => by rw [hS k hk, pk_t q]; rfl
      by_cases c1 : v (aP s k) = 0
      · rw [if_pos c1]
        exact stay (fun q => by have : v (aP s k) = 1 := q.1; rw [c1] at this; exact absurd this (by decide))
      · rw [if_neg c1]
        have c1' : al v s k := ha.resolve_left c1
        by_cases c2 : some k = but
        · rw [if_pos ((oI_eq (by omega) (fun b hb => by have := hbut b hb; omega)).mpr c2)]
          exact stay (fun q => q.2.1 c2)
        · rw [if_neg (fun q => c2 ((oI_eq (by omega) (fun b hb => by have := hbut b hb; omega)).mp q))]
          by_cases c3 : least ≤ kN v s k
          · rw [if_pos ((nI_le' (by omega) (by omega)).mpr c3), if_pos (gin_nI (by omega) (by omega)), rdN (by decide), hM k hk, c_vl hK hL hR hs hk]
            simp only [↓ob]
            have fin : ∀ x : Int64, x = lN (rk (some k)) → (if oI (S k) = -9 then some (Sum.inl (nI k, x, nI (k + 1))) else if lg_cmp x (lN (rk (S k))) ≤ 0 then some (Sum.inl (oI (S k), lN (rk (S k)), nI (k + 1))) else some (Sum.inl (nI k, x, nI (k + 1)))) = (some (Sum.inl (oI (S (k + 1)), lN (rk (S (k + 1))), nI (k + 1))) : Option ((Int32 × Int64 × Int32) ⊕ Int32)) := by
              intro x hx
              subst hx
              cases hb : S k with
              | none =>
                rw [if_pos oI_n]
                exact take ⟨c1', c2, c3, fun b q => by rw [hb] at q; cases q⟩
              | some b =>
                have hbk := hSb k b hb
                have hkb := (hL.k hs (show b < 8 by omega)).1
                have hvb := vN_b hL hR hs (show b < cnt by omega)
                have r1 : rk (some b) < 9223372036854775808 := by rw [hrk b (by omega)]; unfold rkN; split <;> omega
                have r2 : rk (some k) < 9223372036854775808 := by rw [hrk k hk]; unfold rkN; split <;> omega
                rw [if_neg (show ¬ oI (some b) = -9 from ne9 (by omega))]
                by_cases c4 : rk (some k) ≤ rk (some b)
                · rw [if_pos ((cmp_le0 _ _).mpr ((lN_le' r2 r1).mpr c4)), ← hb]
                  exact stay (fun q => by have := q.2.2.2 b hb; omega)
                · rw [if_neg (fun q => c4 ((lN_le' r2 r1).mp ((cmp_le0 _ _).mp q)))]
                  exact take ⟨c1', c2, c3, fun b' q => by rw [hb] at q; cases q; omega⟩
            have hr := hrk k hk
            by_cases c5 : flag = 0
            · rw [if_pos c5] at hr
              rw [if_pos c5]
              exact fin _ (by rw [hr]; exact shl32 (by omega) (by omega))
            · rw [if_neg c5] at hr
              rw [if_neg c5]
              exact fin _ (by rw [hr]; exact shl32 (by omega) (by omega))
          · rw [if_neg (fun q => c3 ((nI_le' (by omega) (by omega)).mp q))]
            exact stay (fun q => c3 q.2.2.1)
    · unfold b_st_highest_10
      show (if (sN C i N).1 10 i 0 0 ≤ nI cnt then _ else _) = _
      rw [hc, if_pos ((nI_le' (by omega) (by omega)).mpr (Nat.le_refl _))]
  rw [key]
  rfl
theorem c_hi0 {C : Me} {i : Nat} {N : Nt} {v : Vt} {s cnt w least : Nat} {but : Option Nat} (hE : RE N v) (hK : LK N v s cnt) (hM : RM N v cnt) (hL : IL v w) (hR : IR v cnt) (hs : s < 4) (hbut : ∀ b, but = some b → b < 8) (hl : least ≤ 65536) : f_st_highest (sN C i N) i s i (nI least) (oI but) 0 = some (oI (bS v s but least cnt)) := by
  have h8 := hR.1
  refine c_high (bS v s but least) (rk0 v s) hE hK hM hL hR hs hbut hl rfl rfl (fun r _ => by rw [if_pos rfl]; rfl) bS_b (fun k hk => pk_c ?_ rfl)
  have hkk := (hL.k hs (show k < 8 by omega)).1
  constructor
  · rintro ⟨a1, a2, a3, a4⟩
    refine ⟨a1, a2, a3, fun b q => ?_⟩
    have hbk := bS_b _ _ q
    have hkb := (hL.k hs (show b < 8 by omega)).1
    have := a4 b q
    unfold btr at this
    show rkN _ _ < rkN _ _
    unfold rkN
    omega
  · rintro ⟨a1, a2, a3, a4⟩
    refine ⟨a1, a2, a3, fun b q => ?_⟩
    have hbk := bS_b _ _ q
    have hkb := (hL.k hs (show b < 8 by omega)).1
    have h := a4 b q
    replace h : rkN _ _ < rkN _ _ := h
    unfold rkN at h
    unfold btr
    omega
theorem c_hi1 {C : Me} {i : Nat} {N : Nt} {v : Vt} {s cnt w : Nat} (hE : RE N v) (hK : LK N v s cnt) (hM : RM N v cnt) (hL : IL v w) (hR : IR v cnt) (hs : s < 4) : f_st_highest (sN C i N) i s i 0 (-9) 1 = some (oI (uS v s cnt)) := by
  have h8 := hR.1
  refine c_high (but := none) (least := 0) (uS v s) (rk1 v s) hE hK hM hL hR hs (fun b h => by cases h) (by omega) rfl rfl (fun r _ => by rw [if_neg (by decide)]; rfl) uS_b (fun k hk => pk_c ?_ rfl)
  have hvk := vN_b hL hR hs hk
  constructor
  · rintro ⟨a1, a4⟩
    refine ⟨a1, by simp, Nat.zero_le _, fun b q => ?_⟩
    have hbk := uS_b _ _ q
    have hvb := vN_b hL hR hs (show b < cnt by omega)
    have := a4 b q
    show rkN _ _ < rkN _ _
    unfold rkN
    omega
  · rintro ⟨a1, -, -, a4⟩
    refine ⟨a1, fun b q => ?_⟩
    have hbk := uS_b _ _ q
    have hvb := vN_b hL hR hs (show b < cnt by omega)
    have h := a4 b q
    replace h : rkN _ _ < rkN _ _ := h
    unfold rkN at h
    omega
theorem c_slow {C : Me} {i : Nat} {N : Nt} {v : Vt} {s cnt w : Nat} (hE : RE N v) (hK : LK N v s cnt) (hM : RM N v cnt) (hL : IL v w) (hR : IR v cnt) (hs : s < 4) : f_st_slowestAllowed (sN C i N) i s i = some (oI (wS v s cnt)) := by
  have h8 := hR.1
  have hc : (sN C i N).1 10 i 0 0 = nI cnt := by rw [rdN (by decide), hE 10 0 0 rfl rfl]; exact hR.2.1
  have hab : ∀ r, r < cnt → 80 ≤ aN v r 1200 ∧ aN v r 1200 ≤ 600000 := fun r hr => airN_b (m := md v r) (p := sp v r) (z := 1200) (hR.m hr).2.2.2.1 (by omega)
  unfold f_st_slowestAllowed
  let A : Option Nat → Nat := fun o => match o with
    | none => 0
    | some b => aN v b 1200
  have key : lp FU (b_st_slowestAllowed_8 (sN C i N) i s i) ((-9 : Int32), (0 : Int32), (0 : Int32)) = some (oI (wS v s cnt)) := by
    refine lp_n (fun k => (oI (wS v s k), nI (A (wS v s k)), nI k)) cnt (lt_FU (by omega)) (fun k hk => ?_) ?_
    · have ha := (hL s k hs (by omega)).2.2.2.2.1
      have hak := hab k hk
      unfold b_st_slowestAllowed_8
      show (if (sN C i N).1 10 i 0 0 ≤ nI k then _ else _) = some (Sum.inl (oI (wS v s (k + 1)), nI (A (wS v s (k + 1))), nI (k + 1)))
      rw [hc, if_neg (fun q => by rw [nI_le' (by omega) (by omega)] at q; omega), if_pos (gin_nI (by omega) (by omega)), tN_nI (by omega), rdN (by decide), (hK k hk).1, rdN (by decide), hM k hk]
      simp only [↓ob, IXr]
      rw [if_pos (gin_nI (by omega) (by omega)), if_pos (gin_nI (by omega) (by omega))]
      by_cases c1 : v (aP s k) = 0
      · have e : wS v s (k + 1) = wS v s k := pk_f (fun q => by have : v (aP s k) = 1 := q.1; rw [c1] at this; exact absurd this (by decide))
        rw [if_pos c1, e]
      · rw [if_neg c1]
        have c1' : al v s k := ha.resolve_left c1
        cases hb : wS v s k with
        | none =>
          have e : wS v s (k + 1) = some k := pk_t ⟨c1', fun b q => by rw [hb] at q; cases q⟩
          rw [if_neg (show ¬ nI (aN v k 1200) ≤ nI (A none) from fun q => by have := (nI_le' (by omega) (b := 0) (by omega)).mp q; omega), e]
          rfl
        | some b =>
          have hbk := wS_b _ _ hb
          have hbb := hab b (by omega)
          show (if nI (aN v k 1200) ≤ nI (aN v b 1200) then _ else _) = _
          by_cases c4 : aN v k 1200 ≤ aN v b 1200
          · have e : wS v s (k + 1) = some b := (pk_f (show ¬ (al v s k ∧ ∀ b, wS v s k = some b → aN v b 1200 < aN v k 1200) from fun q => by have := q.2 b hb; omega)).trans hb
            rw [if_pos ((nI_le' (by omega) (by omega)).mpr c4), e]
          · have e : wS v s (k + 1) = some k := pk_t ⟨c1', fun b' q => by rw [hb] at q; cases q; omega⟩
            rw [if_neg (fun q => c4 ((nI_le' (by omega) (by omega)).mp q)), e]
            rfl
    · unfold b_st_slowestAllowed_8
      show (if (sN C i N).1 10 i 0 0 ≤ nI cnt then _ else _) = _
      rw [hc, if_pos ((nI_le' (by omega) (by omega)).mpr (Nat.le_refl _))]
  rw [key]
  rfl
/-- the network behind fillRoles -/
noncomputable def gR (N : Nt) (v : Vt) (s cnt : Nat) : Nt := uN (uN (uN (uN N 41 s 0 (oI (bS v s none 0 cnt))) 41 s 1 (oI (sS v s cnt))) 41 s 2 (oI (zS v s cnt))) 41 s 3 (oI (wS v s cnt))
theorem c_fill {C : Me} {i : Nat} {N : Nt} {v : Vt} {s cnt w : Nat} (hE : RE N v) (hK : LK N v s cnt) (hM : RM N v cnt) (hL : IL v w) (hR : IR v cnt) (hs : s < 4) : f_st_fillRoles (sN C i N) i s i = some (sN C i (gR N v s cnt)) := by
  have h8 := hR.1
  unfold f_st_fillRoles
  have hi : ∀ (N' : Nt), (∀ f a b, f ≠ 41 → N'.1 f a b = N.1 f a b) → RE N' v ∧ LK N' v s cnt ∧ RM N' v cnt := by
    intro N' h
    refine ⟨fun f a b h1 h2 => ?_, fun r hr => ?_, fun r hr => ?_⟩
    · rw [h f a b (fun q => by subst q; cases h1)]
      exact hE f a b h1 h2
    · rw [h _ _ _ (by decide), h _ _ _ (by decide), h _ _ _ (by decide)]
      exact hK r hr
    · rw [h _ _ _ (by decide)]
      exact hM r hr
  have h0 : ∀ (N' : Nt) (h : ∀ f a b, f ≠ 41 → N'.1 f a b = N.1 f a b) (but : Option Nat), (∀ b, but = some b → b < 8) → f_st_highest (sN C i N') i s i 0 (oI but) 0 = some (oI (bS v s but 0 cnt)) := fun N' h but hbut => c_hi0 (least := 0) (hi N' h).1 (hi N' h).2.1 (hi N' h).2.2 hL hR hs hbut (by omega)
  have h1 : ∀ (N' : Nt) (h : ∀ f a b, f ≠ 41 → N'.1 f a b = N.1 f a b), f_st_highest (sN C i N') i s i 62259 (-9) 0 = some (oI (bS v s none 62259 cnt)) := fun N' h => c_hi0 (least := 62259) (but := none) (hi N' h).1 (hi N' h).2.1 (hi N' h).2.2 hL hR hs (fun b q => by cases q) (by omega)
  have h2 : ∀ (N' : Nt) (h : ∀ f a b, f ≠ 41 → N'.1 f a b = N.1 f a b), f_st_highest (sN C i N') i s i 0 (-9) 1 = some (oI (uS v s cnt)) := fun N' h => c_hi1 (hi N' h).1 (hi N' h).2.1 (hi N' h).2.2 hL hR hs
  have h3 : ∀ (N' : Nt) (h : ∀ f a b, f ≠ 41 → N'.1 f a b = N.1 f a b), f_st_slowestAllowed (sN C i N') i s i = some (oI (wS v s cnt)) := fun N' h => c_slow (hi N' h).1 (hi N' h).2.1 (hi N' h).2.2 hL hR hs
  have u1 : ∀ (N' : Nt) (h : ∀ f a b, f ≠ 41 → N'.1 f a b = N.1 f a b) (k : Nat) (x : Int32), ∀ f a b, f ≠ 41 → (uN N' 41 s k x).1 f a b = N.1 f a b := fun N' h k x f a b q => by rw [uN_f q]; exact h f a b q
  have w0 : ∀ f a b, f ≠ 41 → N.1 f a b = N.1 f a b := fun _ _ _ _ => rfl
  refine bs (h0 N w0 none (fun b q => by cases q)) ?_
  refine bs (x := sN C i (uN N 41 s 0 (oI (bS v s none 0 cnt)))) (by rw [wrN (by decide)]; rfl) ?_
  have w1 := u1 N w0 0 (oI (bS v s none 0 cnt))
  rw [rdN (by decide), show tN 0 = 0 from rfl, uN_s]
  refine bs (h0 _ w1 (bS v s none 0 cnt) (fun b q => by have := bS_b _ _ q; omega)) ?_
  have tail : ∀ x : Option Nat, sS v s cnt = x → ((some (wI (sN C i (uN N 41 s 0 (oI (bS v s none 0 cnt)))) 41 i s (tN 1) (oI x))).bind fun M5 => (f_st_highest M5 i s i 62259 (-9) 0).bind fun r6 => if r6 = (-9) then (f_st_highest M5 i s i 0 (-9) 1).bind fun r11 => (some (wI M5 41 i s (tN 2) r11)).bind fun M12 => (f_st_slowestAllowed M12 i s i).bind fun r13 => (some (wI M12 41 i s (tN 3) r13)).bind fun M14 => some M14 else (some (wI M5 41 i s (tN 2) r6)).bind fun M8 => (f_st_slowestAllowed M8 i s i).bind fun r9 => (some (wI M8 41 i s (tN 3) r9)).bind fun M10 => some M10) = some (sN C i (gR N v s cnt)) := by
    intro x hx
    refine bs (x := sN C i (uN (uN N 41 s 0 (oI (bS v s none 0 cnt))) 41 s 1 (oI x))) (by rw [wrN (by decide)]; rfl) ?_
    have w2 := u1 _ w1 1 (oI x)
    refine bs (h1 _ w2) ?_
    unfold gR zS
    rw [hx]
    cases e : bS v s none 62259 cnt with
    | none =>
      refine ip oI_n ?_
      refine bs (h2 _ w2) ?_
      refine bs (x := sN C i (uN (uN (uN N 41 s 0 (oI (bS v s none 0 cnt))) 41 s 1 (oI x)) 41 s 2 (oI (uS v s cnt)))) (by rw [wrN (by decide)]; rfl) ?_
      refine bs (h3 _ (u1 _ w2 2 (oI (uS v s cnt)))) ?_
      rw [ob, wrN (by decide)]
      rfl
    | some r =>
      have := bS_b _ _ e
      refine im (show ¬ oI (some r) = -9 from ne9 (by omega)) ?_
      refine bs (x := sN C i (uN (uN (uN N 41 s 0 (oI (bS v s none 0 cnt))) 41 s 1 (oI x)) 41 s 2 (oI (some r)))) (by rw [wrN (by decide)]; rfl) ?_
      refine bs (h3 _ (u1 _ w2 2 (oI (some r)))) ?_
      rw [ob, wrN (by decide)]
      rfl
  cases e : bS v s (bS v s none 0 cnt) 0 cnt with
  | none =>
    refine ip oI_n ?_
    exact tail (bS v s none 0 cnt) (by unfold sS; rw [e])
  | some r =>
    have := bS_b _ _ e
    refine im (show ¬ oI (some r) = -9 from ne9 (by omega)) ?_
    exact tail (some r) (by unfold sS; rw [e])
