/-! more questions: most used, the best by the channel, rates of a mode -/
def nT (v : Vt) (s r : Nat) : Int := (v (aP s r + 4)).toInt
noncomputable def uM (v : Vt) (s : Nat) : Nat → Option Nat
  | 0 => none
  | k + 1 => pk (0 < nT v s k ∧ ∀ b, uM v s k = some b → nT v s b < nT v s k) k (uM v s k)
theorem uM_b {v : Vt} {s : Nat} : ∀ k b, uM v s k = some b → b < k ∧ 0 < nT v s b
  | 0, b, h => by cases h
  | k + 1, b, h => by
    by_cases c : 0 < nT v s k ∧ ∀ b, uM v s k = some b → nT v s b < nT v s k
    · have e : uM v s (k + 1) = some k := pk_t c
      rw [e] at h
      cases h
      exact ⟨by omega, c.1⟩
    · have e : uM v s (k + 1) = uM v s k := pk_f c
      rw [e] at h
      have := uM_b k b h
      exact ⟨by omega, this.2⟩
def qN (v : Vt) (s r : Nat) : Nat := tN (v (aP s r + 7))
noncomputable def oO (v : Vt) (s z : Nat) : Nat → Option Nat
  | 0 => none
  | k + 1 => pk (al v s k ∧ 0 < qN v s k ∧ ∀ b, oO v s z k = some b → qN v s b * aN v k z < qN v s k * aN v b z) k (oO v s z k)
theorem oO_b {v : Vt} {s z : Nat} : ∀ k b, oO v s z k = some b → b < k
  | 0, b, h => by cases h
  | k + 1, b, h => pk_b (by omega) (fun b h => by have := oO_b k b h; omega) b h
section L61
variable {C M : Me} {N : Nt} {v : Vt} {sc cnt w s : Nat}
theorem q_mostUsed (h : RN N v sc cnt w) (x : Int32) : ∃ y, f_rc_mostUsed (sN C 0 N) x = some y ∧ f_m_mostUsed (sV M v) x = some y := by
  have hl := h.lt
  unfold f_rc_mostUsed f_m_mostUsed
  rcases sta_c (C := C) (M := M) (i := 0) h x with ⟨s, hs, rfl, a1, a2⟩ | ⟨a1, a2⟩
  · refine ⟨oI (uM v s cnt), bs a1 ?_, bs a2 (im (by decide) ?_)⟩
    · rw [oe]
      refine bs (x := oI (uM v s cnt)) ?_ rfl
      unfold f_st_mostTried
      refine bs (x := oI (uM v s cnt)) ?_ rfl
      let A : Option Nat → Int32 := fun o => match o with
        | none => 0
        | some b => v (aP s b + 4)
      refine lp_n (fun k => (oI (uM v s k), A (uM v s k), nI k)) cnt (lt_FU (by omega)) (fun k hk => ?_) ?_
      · have e25 : (sN C 0 N).1 25 0 s k = v (aP s k + 4) := by rw [rdN (by decide)]; exact h.E 25 s k rfl (dP (by simp) (by omega) (by omega))
        have b : ∀ o, (if v (aP s k + 4) ≤ A (uM v s k) then (some (Sum.inl (oI (uM v s k), A (uM v s k), nI (k + 1))) : Option ((Int32 × Int32 × Int32) ⊕ Int32)) else some (.inl (nI k, v (aP s k + 4), nI (k + 1)))) = o → b_st_mostTried_8 (sN C 0 N) 0 s 0 (oI (uM v s k), A (uM v s k), nI k) = o := fun o q => by
          unfold b_st_mostTried_8
          rw [c_cnt h]
          refine im (nle hk (by omega)) (ip (gin_nI (by omega) (by omega)) ?_)
          show (if (sN C 0 N).1 25 0 s (tN (nI k)) ≤ A (uM v s k) then _ else if gin (nI k) 8 then (some (nI k + 1)).bind fun x6 => some (Sum.inl (nI k, (sN C 0 N).1 25 0 s (tN (nI k)), x6)) else none) = _
          rw [tN_nI (by omega), e25, if_pos (gin_nI (k := k) (n := 8) (by omega) (by omega))]
          simp only [↓ob, IXr]
          exact q
        show _ = some (Sum.inl (oI (uM v s (k + 1)), A (uM v s (k + 1)), nI (k + 1)))
        have hA : v (aP s k + 4) ≤ A (uM v s k) ↔ ¬ (0 < nT v s k ∧ ∀ b, uM v s k = some b → nT v s b < nT v s k) := by
          rw [le_int]
          cases eb : uM v s k with
          | none =>
            show nT v s k ≤ ((0 : Int32)).toInt ↔ _
            rw [z_0]
            constructor
            · intro q1 q2
              omega
            · intro q1
              by_cases z : nT v s k ≤ 0
              · exact z
              · exact absurd ⟨by omega, fun b q => by cases q⟩ q1
          | some b =>
            have hb := uM_b k b eb
            show nT v s k ≤ nT v s b ↔ _
            constructor
            · intro q1 q2
              have := q2.2 b rfl
              omega
            · intro q1
              by_cases z : nT v s k ≤ nT v s b
              · exact z
              · exact absurd ⟨by omega, fun b' q => by cases q; omega⟩ q1
        by_cases c : 0 < nT v s k ∧ ∀ b, uM v s k = some b → nT v s b < nT v s k
        · have e : uM v s (k + 1) = some k := pk_t c
          rw [e]
          exact b _ (im (fun q => hA.mp q c) rfl)
        · have e : uM v s (k + 1) = uM v s k := pk_f c
          rw [e]
          exact b _ (ip (hA.mpr c) rfl)
      · unfold b_st_mostTried_8
        rw [c_cnt h]
        exact ip (nle_s (by omega)) rfl
    · refine bs (x := oI (uM v s cnt)) ?_ rfl
      refine lp_n (fun k => (oI (uM v s k), nI k)) cnt (lt_FU (by omega)) (fun k hk => ?_) ?_
      · have hP := aP_lt (show s < 4 by omega) (show k < 8 by omega)
        have hP2 : aP s k = 30 + 8 * (8 * s + k) := rfl
        show _ = some (Sum.inl (oI (uM v s (k + 1)), nI (k + 1)))
        unfold b_m_mostUsed_15
        rw [t_1, rdV, h.iR.2.1]
        refine im (nle hk (by omega)) (bs (spr s k) (ip (gx (k := 30 + 8 * (8 * s + k) + 4) (by simp only [IXr]) (by omega) (by omega)) ?_))
        rw [rx (x := nI (30 + 8 * (8 * s + k)) + (4 : Int32)) (k := 30 + 8 * (8 * s + k) + 4) (by simp only [IXr]) (by omega)]
        by_cases c1 : v (30 + 8 * (8 * s + k) + 4) ≤ 0
        · have c1' : nT v s k ≤ 0 := by rw [le_int, z_0] at c1; exact c1
          have e : uM v s (k + 1) = uM v s k := pk_f (fun q => by omega)
          rw [e]
          refine ip c1 ?_
          simp only [↓ob, IXr]
        · have c1' : 0 < nT v s k := by
            rw [le_int, z_0] at c1
            exact Int.not_le.mp c1
          refine im c1 ?_
          cases eb : uM v s k with
          | none =>
            have e : uM v s (k + 1) = some k := pk_t ⟨c1', fun b q => by rw [eb] at q; cases q⟩
            rw [e]
            refine ip rfl ?_
            simp only [↓ob, IXr]
            rfl
          | some b =>
            have hb := uM_b k b eb
            have hPb := aP_lt (show s < 4 by omega) (show b < 8 by omega)
            have hPb2 : aP s b = 30 + 8 * (8 * s + b) := rfl
            refine im (show ¬ oI (some b) = -9 from ne9 (by omega)) ?_
            refine bs (spr s b) (ip (gx (k := 30 + 8 * (8 * s + b) + 4) (by simp only [IXr]) (by omega) (by omega)) ?_)
            rw [rx (x := nI (30 + 8 * (8 * s + b)) + (4 : Int32)) (k := 30 + 8 * (8 * s + b) + 4) (by simp only [IXr]) (by omega)]
            by_cases c2 : nT v s k ≤ nT v s b
            · have e : uM v s (k + 1) = some b := (pk_f (show ¬ (0 < nT v s k ∧ ∀ b, uM v s k = some b → nT v s b < nT v s k) from fun q => by have := q.2 b eb; omega)).trans eb
              rw [e]
              refine ip (le_int.mpr c2) ?_
              simp only [↓ob, IXr]
            · have e : uM v s (k + 1) = some k := pk_t ⟨c1', fun b' q => by rw [eb] at q; cases q; omega⟩
              rw [e]
              refine im (fun q => c2 (le_int.mp q)) ?_
              simp only [↓ob, IXr]
              rfl
      · unfold b_m_mostUsed_15
        rw [t_1, rdV, h.iR.2.1]
        exact ip (nle_s (by omega)) rfl
  · exact ⟨-1, bs a1 rfl, bs a2 (ip rfl rfl)⟩
theorem lmul {a b : Nat} (ha : a < 2147483648) (hb : b < 2147483648) : (nI a).toInt64 * (nI b).toInt64 = lN (a * b) := by
  rw [nI_l (show a < 2 ^ 31 by omega), nI_l (show b < 2 ^ 31 by omega), lN_mul]
theorem q_oracle (h : RN N v sc cnt w) (x y : Int32) : ∃ o, f_rc_oracle (sN C 0 N) x y = some o ∧ f_m_oracle (sV M v) x y = some o := by
  have hl := h.lt
  unfold f_rc_oracle f_m_oracle
  rcases sta_c (C := C) (M := M) (i := 0) h x with ⟨s, hs, rfl, a1, a2⟩ | ⟨a1, a2⟩
  · rcases frame_c y with ⟨z, hz, hz2, rfl, b1, b2⟩ | ⟨b1, b2⟩
    · have hab : ∀ r, r < cnt → 80 ≤ aN v r z ∧ aN v r z ≤ 600000 := fun r hr => airN_b (m := md v r) (p := sp v r) (z := z) (h.iR.m hr).2.2.2.1 (by omega)
      have hq : ∀ r, r < cnt → v (aP s r + 7) = nI (qN v s r) ∧ qN v s r ≤ 1000 := fun r hr => by
        have q := (h.iL s r (by omega) (by omega)).2.2.2.2.2
        have e : ((qN v s r : Nat) : Int) = _ := tN_int q.1
        exact ⟨nn_eq q.1, by omega⟩
      have pb : ∀ a b, a ≤ 1000 → b ≤ 600000 → a * b ≤ 600000000 := fun a b h1 h2 => Nat.le_trans (Nat.mul_le_mul h1 h2) (by decide)
      refine ⟨oI (oO v s z cnt), bs a1 ?_, bs a2 (im (by decide) (bs b2 (im (by decide) ?_)))⟩
      · rw [oe]
        refine bs b1 (im (by decide) (bs (x := oI (oO v s z cnt)) ?_ rfl))
        unfold f_st_bestByChannel
        refine bs (x := oI (oO v s z cnt)) ?_ rfl
        let A : Option Nat → Nat := fun o => match o with
          | none => 0
          | some b => qN v s b
        let B : Option Nat → Nat := fun o => match o with
          | none => 1
          | some b => aN v b z
        refine lp_n (fun k => (oI (oO v s z k), lN (A (oO v s z k)), lN (B (oO v s z k)), nI k)) cnt (lt_FU (by omega)) (fun k hk => ?_) ?_
        · have e27 : (sN C 0 N).1 27 0 s (tN (nI k)) = nI (qN v s k) := by rw [rdN (by decide), tN_nI (by omega), (h.lk hs k hk).2.1]; exact (hq k hk).1
          have e20 : (sN C 0 N).1 20 0 s (tN (nI k)) = v (aP s k) := by rw [rdN (by decide), tN_nI (by omega)]; exact (h.lk hs k hk).1
          have hak := hab k hk
          have hqk := (hq k hk).2
          have hal := (h.iL s k (by omega) (by omega)).2.2.2.2.1
          have b : ∀ o, (if v (aP s k) = 0 then (some (Sum.inl (oI (oO v s z k), lN (A (oO v s z k)), lN (B (oO v s z k)), nI (k + 1))) : Option ((Int32 × Int64 × Int64 × Int32) ⊕ Int32)) else if lg_cmp (lN (qN v s k * B (oO v s z k))) (lN (A (oO v s z k) * aN v k z)) ≤ 0 then some (Sum.inl (oI (oO v s z k), lN (A (oO v s z k)), lN (B (oO v s z k)), nI (k + 1))) else some (.inl (nI k, lN (qN v s k), lN (aN v k z), nI (k + 1)))) = o → b_st_bestByChannel_12 (sN C 0 N) 0 s 0 (nI z) (oI (oO v s z k), lN (A (oO v s z k)), lN (B (oO v s z k)), nI k) = o := fun o q => by
            unfold b_st_bestByChannel_12
            rw [c_cnt h]
            refine im (nle hk (by omega)) (bs (c_airv h.E h.iR hk (by omega)) (bs (x := lN (aN v k z)) (by rw [nI_l (show aN v k z < 2 ^ 31 by omega)]) (ip (gin_nI (by omega) (by omega)) (bs (x := lN (qN v s k)) ?_ (ip (gin_nI (by omega) (by omega)) ?_)))))
            · show some ((sN C 0 N).1 27 0 s (tN (nI k))).toInt64 = _
              rw [e27, nI_l (show qN v s k < 2 ^ 31 by omega)]
            · show (if (sN C 0 N).1 20 0 s (tN (nI k)) = 0 then _ else if lg_cmp (lN (qN v s k) * lN (B (oO v s z k))) (lN (A (oO v s z k)) * lN (aN v k z)) ≤ 0 then _ else _) = _
              rw [e20, lN_mul, lN_mul]
              simp only [↓ob, IXr]
              exact q
          show _ = some (Sum.inl (oI (oO v s z (k + 1)), lN (A (oO v s z (k + 1))), lN (B (oO v s z (k + 1))), nI (k + 1)))
          by_cases c0 : v (aP s k) = 0
          · have e : oO v s z (k + 1) = oO v s z k := pk_f (fun q => by have : v (aP s k) = 1 := q.1; rw [c0] at this; exact absurd this (by decide))
            rw [e]
            exact b _ (ip c0 rfl)
          · have c0' : al v s k := hal.resolve_left c0
            have hA : lg_cmp (lN (qN v s k * B (oO v s z k))) (lN (A (oO v s z k) * aN v k z)) ≤ 0 ↔ ¬ (al v s k ∧ 0 < qN v s k ∧ ∀ b, oO v s z k = some b → qN v s b * aN v k z < qN v s k * aN v b z) := by
              rw [cmp_le0]
              cases eb : oO v s z k with
              | none =>
                show lN (qN v s k * 1) ≤ lN (0 * aN v k z) ↔ _
                rw [Nat.mul_one, Nat.zero_mul, lN_le' (by omega) (by omega)]
                constructor
                · intro q1 q2
                  omega
                · intro q1
                  by_cases y : qN v s k ≤ 0
                  · exact y
                  · exact absurd ⟨c0', by omega, fun b q => by cases q⟩ q1
              | some b =>
                have hbk := oO_b k b eb
                have hqb := (hq b (by omega)).2
                have hab2 := hab b (by omega)
                have p1 := pb (qN v s k) (aN v b z) hqk hab2.2
                have p2 := pb (qN v s b) (aN v k z) hqb hak.2
                show lN (qN v s k * aN v b z) ≤ lN (qN v s b * aN v k z) ↔ _
                rw [lN_le' (by omega) (by omega)]
                constructor
                · intro q1 q2
                  have := q2.2.2 b rfl
                  omega
                · intro q1
                  by_cases y : qN v s k * aN v b z ≤ qN v s b * aN v k z
                  · exact y
                  · refine absurd ⟨c0', ?_, fun b' q => by cases q; omega⟩ q1
                    by_cases y2 : 0 < qN v s k
                    · exact y2
                    · rw [show qN v s k = 0 by omega, Nat.zero_mul] at y
                      omega
            by_cases c : al v s k ∧ 0 < qN v s k ∧ ∀ b, oO v s z k = some b → qN v s b * aN v k z < qN v s k * aN v b z
            · have e : oO v s z (k + 1) = some k := pk_t c
              rw [e]
              exact b _ (im c0 (im (fun q => hA.mp q c) rfl))
            · have e : oO v s z (k + 1) = oO v s z k := pk_f c
              rw [e]
              exact b _ (im c0 (ip (hA.mpr c) rfl))
        · unfold b_st_bestByChannel_12
          rw [c_cnt h]
          exact ip (nle_s (by omega)) rfl
      · refine bs (x := oI (oO v s z cnt)) ?_ rfl
        refine lp_n (fun k => (oI (oO v s z k), nI k)) cnt (lt_FU (by omega)) (fun k hk => ?_) ?_
        · have hP := aP_lt (show s < 4 by omega) (show k < 8 by omega)
          have hP2 : aP s k = 30 + 8 * (8 * s + k) := rfl
          have hak := hab k hk
          obtain ⟨hq1, hq2⟩ := hq k hk
          have ma := m_al (M := M) (v := v) (show s < 4 by omega) (show k < 8 by omega)
          show _ = some (Sum.inl (oI (oO v s z (k + 1)), nI (k + 1)))
          unfold b_m_oracle_27
          rw [t_1, rdV, h.iR.2.1]
          refine im (nle hk (by omega)) (bs (spr s k) (ip (gx (k := 30 + 8 * (8 * s + k) + 7) (by simp only [IXr]) (by omega) (by omega)) ?_))
          rw [rx (x := nI (30 + 8 * (8 * s + k)) + (7 : Int32)) (k := 30 + 8 * (8 * s + k) + 7) (by simp only [IXr]) (by omega), show v (30 + 8 * (8 * s + k) + 7) = nI (qN v s k) from hq1]
          by_cases c0 : v (aP s k) = 1
          · rw [if_pos c0] at ma
            refine bs ma (im (by decide) ?_)
            by_cases c1 : qN v s k = 0
            · have e : oO v s z (k + 1) = oO v s z k := pk_f (fun q => by omega)
              rw [e]
              refine ip (by rw [c1]; decide) ?_
              simp only [↓ob, IXr]
            · refine im (fun q => by rw [le_int, z_0, nI_i (by omega)] at q; omega) ?_
              cases eb : oO v s z k with
              | none =>
                have e : oO v s z (k + 1) = some k := pk_t ⟨c0, by omega, fun b q => by rw [eb] at q; cases q⟩
                rw [e]
                refine ip rfl ?_
                simp only [↓ob, IXr]
                rfl
              | some b =>
                have hbk := oO_b k b eb
                have hPb := aP_lt (show s < 4 by omega) (show b < 8 by omega)
                have hPb2 : aP s b = 30 + 8 * (8 * s + b) := rfl
                obtain ⟨hb1, hb2⟩ := hq b (by omega)
                have hab2 := hab b (by omega)
                have p1 := pb (qN v s k) (aN v b z) hq2 hab2.2
                have p2 := pb (qN v s b) (aN v k z) hb2 hak.2
                refine im (show ¬ oI (some b) = -9 from ne9 (by omega)) (bs (m_airv h.iR (show b < cnt by omega) (show z ≤ 65535 by omega)) (bs (spr s b) (ip (gx (k := 30 + 8 * (8 * s + b) + 7) (by simp only [IXr]) (by omega) (by omega)) (bs (m_airv h.iR hk (show z ≤ 65535 by omega)) ?_))))
                rw [rx (x := nI (30 + 8 * (8 * s + b)) + (7 : Int32)) (k := 30 + 8 * (8 * s + b) + 7) (by simp only [IXr]) (by omega), show v (30 + 8 * (8 * s + b) + 7) = nI (qN v s b) from hb1, lmul (by omega) (by omega), lmul (by omega) (by omega)]
                by_cases c2 : qN v s k * aN v b z ≤ qN v s b * aN v k z
                · have e : oO v s z (k + 1) = some b := (pk_f (show ¬ (al v s k ∧ 0 < qN v s k ∧ ∀ b, oO v s z k = some b → qN v s b * aN v k z < qN v s k * aN v b z) from fun q => by have := q.2.2 b eb; omega)).trans eb
                  rw [e]
                  refine ip ((cmp_le0 _ _).mpr ((lN_le' (by omega) (by omega)).mpr c2)) ?_
                  simp only [↓ob, IXr]
                · have e : oO v s z (k + 1) = some k := pk_t ⟨c0, by omega, fun b' q => by rw [eb] at q; cases q; omega⟩
                  rw [e]
                  refine im (fun q => c2 ((lN_le' (by omega) (by omega)).mp ((cmp_le0 _ _).mp q))) ?_
                  simp only [↓ob, IXr]
                  rfl
          · rw [if_neg c0] at ma
            have e : oO v s z (k + 1) = oO v s z k := pk_f (fun q => c0 q.1)
            rw [e]
            refine bs ma (ip rfl ?_)
            simp only [↓ob, IXr]
        · unfold b_m_oracle_27
          rw [t_1, rdV, h.iR.2.1]
          exact ip (nle_s (by omega)) rfl
    · exact ⟨-1, bs a1 (bs b1 (ip rfl rfl)), bs a2 (im (by decide) (bs b2 (ip rfl rfl)))⟩
  · exact ⟨-1, bs a1 rfl, bs a2 (ip rfl rfl)⟩
end L61
