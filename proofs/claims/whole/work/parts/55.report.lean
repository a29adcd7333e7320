/-! the end of a chain -/
theorem lpI {σ ρ : Type} {b : σ → Option (σ ⊕ ρ)} (P : Nat → σ → Prop) (Z : ρ → Prop) (n : Nat) (hn : n < 5000) (hs : ∀ k x, k < n → P k x → ∃ x', b x = some (.inl x') ∧ P (k + 1) x') (he : ∀ x, P n x → ∃ t, b x = some (.inr t) ∧ Z t) {x : σ} (h0 : P 0 x) : ∃ t, lp FU b x = some t ∧ Z t := by
  have key : ∀ d k F x, k + d = n → d < F → P k x → ∃ t, lp F b x = some t ∧ Z t := by
    intro d
    induction d with
    | zero =>
      intro k F x h1 h2 h3
      obtain ⟨F, rfl⟩ : ∃ G, F = G + 1 := ⟨F - 1, by omega⟩
      obtain rfl : k = n := by omega
      obtain ⟨t, a1, a2⟩ := he x h3
      exact ⟨t, lp_inr a1, a2⟩
    | succ d ih =>
      intro k F x h1 h2 h3
      obtain ⟨F, rfl⟩ : ∃ G, F = G + 1 := ⟨F - 1, by omega⟩
      obtain ⟨x', a1, a2⟩ := hs k x (by omega) h3
      obtain ⟨t, b1, b2⟩ := ih (k + 1) F x' (by omega) (by omega) a2
      exact ⟨t, by rw [lp_inl a1]; exact b1, b2⟩
  exact key n 0 FU x (by omega) (lt_FU hn) h0
section L55
variable {N : Nt} {v : Vt} {sc cnt w c s T g : Nat} {ok : Int32}
theorem c_cntT {C : Me} {i : Nat} (h : RN N v sc cnt w) (oc : OC v sc cnt c) (hs : s < sc) (hT : T ≤ off v c 4) (hg : (ok = 0 ∧ g = 0) ∨ (ok = 1 ∧ g = 1)) (hw : w + 28 < 2147483648) : ∃ N', f_nt_countTries (sN C i N) i i s i c (nI T) ok = some (sN C i N') ∧ RN N' (VF v c s T g T) sc cnt (w + T) := by
  have hl := h.lt
  have hb := off_b oc
  obtain ⟨hc, o1, o2, o3, o4, o5, hk'⟩ := id oc
  unfold f_nt_countTries
  have key := lpI (b := b_nt_countTries_6 i i s i c ok) (fun k x => ∃ N', x = (nI (T - min T (off v c k)), nI k, sN C i N') ∧ RN N' (VF v c s T g (min T (off v c k))) sc cnt (w + min T (off v c k))) (fun t => ∃ N', t = sN C i N' ∧ RN N' (VF v c s T g T) sc cnt (w + T)) 4 (by omega) (fun k x hk hP => ?_) (fun x hP => ?_) (x := (nI T, 0, sN C i N)) ⟨N, by rw [show off v c 0 = 0 from rfl, Nat.min_zero]; rfl, by rw [show off v c 0 = 0 from rfl, Nat.min_zero]; exact h⟩
  · obtain ⟨t, t1, N', t2, t3⟩ := key
    subst t2
    exact ⟨N', bs t1 rfl, t3⟩
  · obtain ⟨Nk, rfl, hk2⟩ := hP
    obtain ⟨b1, b2, b3, b4⟩ := hk' k hk
    have hO : aO c = 420 + 16 * c := rfl
    have hoff : off v c (k + 1) = off v c k + trC v c k := rfl
    have vo : ∀ j, 286 ≤ j → VF v c s T g (min T (off v c k)) j = v j := fun j hj => VF_o (by omega) oc hl.2 (Or.inr hj) _ (by omega)
    have e9 : (sN C i Nk).1 56 i c k = nI (trC v c k) := by
      rw [rdN (by decide), hk2.E 56 c k rfl (d56 hc (by omega))]
      show VF v c s T g (min T (off v c k)) (aO c + 9 + k) = _
      rw [vo _ (by omega)]
      exact b3
    have e5 : (sN C i Nk).1 55 i c k = nI (raC v c k) := by
      rw [rdN (by decide), hk2.E 55 c k rfl (d55 hc (by omega))]
      show VF v c s T g (min T (off v c k)) (aO c + 5 + k) = _
      rw [vo _ (by omega)]
      exact b1
    have ch := c_hasv (C := C) (i := i) hk2.E hk2.iR b2
    have pre : b_nt_countTries_6 i i s i c ok (nI (T - min T (off v c k)), nI k, sN C i Nk) = if nI (min (T - min T (off v c k)) (trC v c k)) ≤ 0 then some (.inl (nI (T - min T (off v c (k + 1))), nI (k + 1), sN C i Nk)) else if ok = 0 then (f_lk_count (sN C i Nk) i s (raC v c k) (nI (min (T - min T (off v c k)) (trC v c k))) 0).bind fun r => some (.inl (nI (T - min T (off v c (k + 1))), nI (k + 1), r)) else if nI (T - min T (off v c (k + 1))) = 0 then (f_lk_count (sN C i Nk) i s (raC v c k) (nI (min (T - min T (off v c k)) (trC v c k))) 1).bind fun r => some (.inl (nI (T - min T (off v c (k + 1))), nI (k + 1), r)) else (f_lk_count (sN C i Nk) i s (raC v c k) (nI (min (T - min T (off v c k)) (trC v c k))) 0).bind fun r => some (.inl (nI (T - min T (off v c (k + 1))), nI (k + 1), r)) := by
      unfold b_nt_countTries_6
      refine im (show ¬ (4 : Int32) ≤ nI k from nle (n := 4) (by omega) (by omega)) (ip (gin_nI (by omega) (by omega)) ?_)
      refine bs (x := nI (min (T - min T (off v c k)) (trC v c k))) ?_ (ip (gin_nI (by omega) (by omega)) (bs (x := nI (T - min T (off v c (k + 1)))) ?_ ?_))
      · show some (imin (nI (T - min T (off v c k))) ((sN C i Nk).1 56 i c (tN (nI k)))) = _
        rw [tN_nI (by omega), e9, imin_n (by omega) (by omega)]
      · show some (nI (T - min T (off v c k)) - nI (min (T - min T (off v c k)) (trC v c k))) = _
        rw [nI_sb (by omega), show T - min T (off v c k) - min (T - min T (off v c k)) (trC v c k) = T - min T (off v c (k + 1)) by omega]
      · show (if nI (min (T - min T (off v c k)) (trC v c k)) ≤ 0 then _ else (f_tb_has (sN C i Nk) i ((sN C i Nk).1 55 i c (tN (nI k)))).bind _) = _
        rw [tN_nI (by omega), e5, ch]
        simp only [↓ob, IXr]
        rw [if_neg (show ¬ (1 : Int32) = 0 by decide), if_pos (gin_nI (by omega) (by omega)), tN_nI (by omega)]
    have stepI : ∀ gg, gg = (if min T (off v c (k + 1)) = T then g else 0) → 1 ≤ min (T - min T (off v c k)) (trC v c k) → RN (incN Nk s (raC v c k) (min (T - min T (off v c k)) (trC v c k)) gg) (VF v c s T g (min T (off v c (k + 1)))) sc cnt (w + min T (off v c (k + 1))) := fun gg hgg hm => by
      have hg1 : gg ≤ 1 := by
        rw [hgg]
        split
        · rcases hg with ⟨-, q⟩ | ⟨-, q⟩ <;> omega
        · omega
      have seg := VF_seg (v := v) (c := c) (s := s) (T := T) (g := g) (a := min T (off v c k)) (r := raC v c k) (min (T - min T (off v c k)) (trC v c k)) hm (by omega) (fun j hj => by
        have e : min T (off v c k) = off v c k := by omega
        rw [e, (en_eq oc hk (show j < trC v c k by omega)).1])
      rw [show min T (off v c k) + min (T - min T (off v c k)) (trC v c k) = min T (off v c (k + 1)) by omega, ← hgg] at seg
      rw [seg]
      have := RN_inc (m := min (T - min T (off v c k)) (trC v c k)) (g := gg) hk2 (show s < 4 by omega) (show raC v c k < 8 by omega) (by omega) (by omega)
      rw [show w + min T (off v c k) + min (T - min T (off v c k)) (trC v c k) = w + min T (off v c (k + 1)) by omega] at this
      exact this
    by_cases c1 : min (T - min T (off v c k)) (trC v c k) = 0
    · refine ⟨_, ?_, Nk, rfl, ?_⟩
      · rw [pre, c1]
        exact if_pos (show nI 0 ≤ 0 from by decide)
      · rw [show min T (off v c (k + 1)) = min T (off v c k) by omega]
        exact hk2
    · have c1' : ¬ nI (min (T - min T (off v c k)) (trC v c k)) ≤ 0 := fun q => by rw [show (0 : Int32) = nI 0 from rfl, nI_le' (by omega) (by omega)] at q; omega
      rw [if_neg c1'] at pre
      rcases hg with ⟨rfl, rfl⟩ | ⟨rfl, rfl⟩
      · rw [if_pos rfl] at pre
        exact ⟨_, pre.trans (bs c_count0 rfl), _, rfl, stepI 0 (by split <;> rfl) (by omega)⟩
      · rw [if_neg (by decide)] at pre
        by_cases c2 : min T (off v c (k + 1)) = T
        · rw [if_pos (show nI (T - min T (off v c (k + 1))) = 0 by rw [c2, Nat.sub_self]; rfl)] at pre
          exact ⟨_, pre.trans (bs c_count1 rfl), _, rfl, stepI 1 (by rw [if_pos c2]) (by omega)⟩
        · rw [if_neg (ne0 (by omega) (by omega))] at pre
          exact ⟨_, pre.trans (bs c_count0 rfl), _, rfl, stepI 0 (by rw [if_neg c2]) (by omega)⟩
  · obtain ⟨Nk, rfl, hk2⟩ := hP
    rw [show min T (off v c 4) = T by omega] at hk2
    refine ⟨_, ?_, Nk, rfl, hk2⟩
    unfold b_nt_countTries_6
    exact ip (show (4 : Int32) ≤ nI 4 from by decide) rfl
/-- one try in the reference's counts -/
theorem inc4 {M : Me} {W : Vt} {r n gg : Nat} {gi : Int32} (hs : s < 4) (hr : r < 8) (hgi : gi = nI gg) : (if gin (nI (30 + 8 * (8 * s + r)) + (2 : Int32)) 600 then if gin (nI (30 + 8 * (8 * s + r)) + (2 : Int32)) 600 then (some (wI (sV M W) 100 0 0 (tN (nI (30 + 8 * (8 * s + r)) + (2 : Int32))) (((sV M W).1 100 0 0 (tN (nI (30 + 8 * (8 * s + r)) + (2 : Int32)))) + (1 : Int32)))).bind fun M10 => if gin (nI (30 + 8 * (8 * s + r)) + (4 : Int32)) 600 then if gin (nI (30 + 8 * (8 * s + r)) + (4 : Int32)) 600 then (some (wI M10 100 0 0 (tN (nI (30 + 8 * (8 * s + r)) + (4 : Int32))) ((M10.1 100 0 0 (tN (nI (30 + 8 * (8 * s + r)) + (4 : Int32)))) + (1 : Int32)))).bind fun M13 => if gin (nI (30 + 8 * (8 * s + r)) + (3 : Int32)) 600 then if gin (nI (30 + 8 * (8 * s + r)) + (3 : Int32)) 600 then (some (wI M13 100 0 0 (tN (nI (30 + 8 * (8 * s + r)) + (3 : Int32))) ((M13.1 100 0 0 (tN (nI (30 + 8 * (8 * s + r)) + (3 : Int32)))) + gi))).bind fun M16 => if gin (nI (30 + 8 * (8 * s + r)) + (5 : Int32)) 600 then if gin (nI (30 + 8 * (8 * s + r)) + (5 : Int32)) 600 then (some (wI M16 100 0 0 (tN (nI (30 + 8 * (8 * s + r)) + (5 : Int32))) ((M16.1 100 0 0 (tN (nI (30 + 8 * (8 * s + r)) + (5 : Int32)))) + gi))).bind fun M19 => (some (nI n + 1)).bind fun x20 => (some (Sum.inl (x20, M19)) : Option ((Int32 × Me) ⊕ Me)) else none else none else none else none else none else none else none else none) = some (.inl (nI (n + 1), sV M (incV W s r 1 gg))) := by
  subst hgi
  have hP := aP_lt hs hr
  have hP2 : aP s r = 30 + 8 * (8 * s + r) := rfl
  refine ip (gx (k := 30 + 8 * (8 * s + r) + 2) (by simp only [IXr]) (by omega) (by omega)) (ip (gx (k := 30 + 8 * (8 * s + r) + 2) (by simp only [IXr]) (by omega) (by omega)) ?_)
  rw [rx (k := 30 + 8 * (8 * s + r) + 2) (by simp only [IXr]) (by omega)]
  refine bs (wx (k := 30 + 8 * (8 * s + r) + 2) (by simp only [IXr]) (by omega)) (ip (gx (k := 30 + 8 * (8 * s + r) + 4) (by simp only [IXr]) (by omega) (by omega)) (ip (gx (k := 30 + 8 * (8 * s + r) + 4) (by simp only [IXr]) (by omega) (by omega)) ?_))
  rw [rx (k := 30 + 8 * (8 * s + r) + 4) (by simp only [IXr]) (by omega), up_n (by omega)]
  refine bs (wx (k := 30 + 8 * (8 * s + r) + 4) (by simp only [IXr]) (by omega)) (ip (gx (k := 30 + 8 * (8 * s + r) + 3) (by simp only [IXr]) (by omega) (by omega)) (ip (gx (k := 30 + 8 * (8 * s + r) + 3) (by simp only [IXr]) (by omega) (by omega)) ?_))
  rw [rx (k := 30 + 8 * (8 * s + r) + 3) (by simp only [IXr]) (by omega), up_n (by omega), up_n (by omega)]
  refine bs (wx (k := 30 + 8 * (8 * s + r) + 3) (by simp only [IXr]) (by omega)) (ip (gx (k := 30 + 8 * (8 * s + r) + 5) (by simp only [IXr]) (by omega) (by omega)) (ip (gx (k := 30 + 8 * (8 * s + r) + 5) (by simp only [IXr]) (by omega) (by omega)) ?_))
  rw [rx (k := 30 + 8 * (8 * s + r) + 5) (by simp only [IXr]) (by omega), up_n (by omega), up_n (by omega), up_n (by omega)]
  refine bs (wx (k := 30 + 8 * (8 * s + r) + 5) (by simp only [IXr]) (by omega)) ?_
  simp only [↓ob, IXr]
  rw [up_c (a := 30 + 8 * (8 * s + r) + 4) (b := 30 + 8 * (8 * s + r) + 3) (by omega)]
  show some (Sum.inl (nI (n + 1), sV M (upd (upd (upd (upd W (aP s r + 2) (W (aP s r + 2) + nI 1)) (aP s r + 3) (W (aP s r + 3) + nI gg)) (aP s r + 4) (W (aP s r + 4) + nI 1)) (aP s r + 5) (W (aP s r + 5) + nI gg)))) = _
  rw [incV_u]
theorem m_cntT {M : Me} {tm : Int32} (oc : OC v sc cnt c) (h8 : cnt ≤ 8) (hs : s < 4) (hT1 : 1 ≤ T) (hT : T ≤ off v c 4) (hg : (ok = 0 ∧ g = 0) ∨ (ok = 1 ∧ g = 1)) : lp FU (b_m_reports_24 (nI c) (nI T) ok (nI s) tm) (0, sV M v) = some (sV M (VF v c s T g T)) := by
  have hb := off_b oc
  refine lp_n (fun n => (nI n, sV M (VF v c s T g n))) T (lt_FU (by omega)) (fun n hn => ?_) ?_
  · have ha : ∀ k, aO c < k → VF v c s T g n k = v k := fun k hk => VF_o hs oc h8 (Or.inr (by have : aO c = 420 + 16 * c := rfl; omega)) n (by omega)
    have hnb : n < off v c 4 := by omega
    have eb := en_b oc hnb
    have hr := (oc.2.2.2.2.2.2 _ eb.1).2.1
    have rt := m_rt (M := M) (OC_c ha oc) (n := n) (by rw [off_c ha]; exact hnb)
    rw [ra_c ha, en_c ha] at rt
    have hv : VF v c s T g (n + 1) = incV (VF v c s T g n) s (raC v c (enF v c n)) 1 (if n + 1 = T then g else 0) := rfl
    show b_m_reports_24 (nI c) (nI T) ok (nI s) tm (nI n, sV M (VF v c s T g n)) = some (Sum.inl (nI (n + 1), sV M (VF v c s T g (n + 1))))
    rw [hv]
    generalize VF v c s T g n = W at rt ⊢
    unfold b_m_reports_24
    refine im (nle hn (by omega)) (bs rt (bs (spr s _) ?_))
    rcases hg with ⟨rfl, rfl⟩ | ⟨rfl, rfl⟩
    · refine ip rfl ?_
      exact inc4 hs (by omega) (by split <;> rfl)
    · refine im (by decide) ?_
      have e1 : nI T - (1 : Int32) = nI (T - 1) := nI_sb (b := 1) (by omega)
      rw [e1]
      by_cases c1 : n + 1 = T
      · refine ip ((nI_j (by omega) (by omega)).mpr (by omega)) ?_
        exact inc4 hs (by omega) (by rw [if_pos c1]; rfl)
      · refine im (fun q => by rw [nI_j (by omega) (by omega)] at q; omega) ?_
        exact inc4 hs (by omega) (by rw [if_neg c1]; rfl)
  · unfold b_m_reports_24
    exact ip (nle_s (by omega)) rfl
theorem VF_up (oc : OC v sc cnt c) (h8 : cnt ≤ 8) (hs : s < 4) {x : Int32} : ∀ n, n ≤ off v c 4 → VF (upd v (aO c) x) c s T g n = upd (VF v c s T g n) (aO c) x
  | 0, _ => rfl
  | n + 1, hn => by
    have hO : aO c = 420 + 16 * c := rfl
    have eb := en_b oc (show n < off v c 4 by omega)
    have hr := (oc.2.2.2.2.2.2 _ eb.1).2.1
    have hP := aP_lt hs (show raC v c (enF v c n) < 8 by omega)
    have ha : ∀ k, aO c < k → upd v (aO c) x k = v k := fun k hk => up_n (by omega)
    show incV (VF (upd v (aO c) x) c s T g n) s (raC (upd v (aO c) x) c (enF (upd v (aO c) x) c n)) 1 (if n + 1 = T then g else 0) = upd (incV (VF v c s T g n) s (raC v c (enF v c n)) 1 (if n + 1 = T then g else 0)) (aO c) x
    rw [VF_up oc h8 hs n (by omega), ra_c ha, en_c ha]
    funext k
    by_cases e : k = aO c
    · rw [e, up_s, incV_o hs (by omega) (by omega), up_s]
    · rw [up_n e]
      unfold incV
      rw [up_n e]
end L55
