/-! an open chain: its tries one by one -/
theorem lp_adv {σ τ : Type} {b : σ → Option (σ ⊕ τ)} (S : Nat → σ) : ∀ (d k F : Nat), (∀ j, k ≤ j → j < k + d → b (S j) = some (.inl (S (j + 1)))) → lp (F + d) b (S k) = lp F b (S (k + d))
  | 0, k, F, _ => rfl
  | d + 1, k, F, h => by
    rw [show F + (d + 1) = (F + d) + 1 by omega, lp_inl (h k (Nat.le_refl k) (by omega)), lp_adv S d (k + 1) F (fun j h1 h2 => h j (by omega) (by omega)), show k + 1 + d = k + (d + 1) by omega]
def trC (v : Vt) (c k : Nat) : Nat := tN (v (aO c + 9 + k))
def raC (v : Vt) (c k : Nat) : Nat := tN (v (aO c + 5 + k))
def zC (v : Vt) (c : Nat) : Nat := tN (v (aO c + 2))
def sC (v : Vt) (c : Nat) : Nat := tN (v (aO c + 1))
def off (v : Vt) (c : Nat) : Nat → Nat
  | 0 => 0
  | k + 1 => off v c k + trC v c k
def enF (v : Vt) (c n : Nat) : Nat := if n < off v c 1 then 0 else if n < off v c 2 then 1 else if n < off v c 3 then 2 else 3
def OC (v : Vt) (sc cnt c : Nat) : Prop := c < 6 ∧ v (aO c + 1) = nI (sC v c) ∧ sC v c < sc ∧ v (aO c + 2) = nI (zC v c) ∧ 1 ≤ zC v c ∧ zC v c ≤ 4000 ∧ ∀ k, k < 4 → v (aO c + 5 + k) = nI (raC v c k) ∧ raC v c k < cnt ∧ v (aO c + 9 + k) = nI (trC v c k) ∧ 1 ≤ trC v c k ∧ trC v c k ≤ 7
theorem IC.oc {v : Vt} {sc cnt c : Nat} (h : IC v sc cnt) (hc : c < 6) (ho : v (aO c) = 1) : OC v sc cnt c := by
  obtain ⟨a1, a2, ⟨a3, a4⟩, -, a6⟩ := (h c hc).2 ho
  have e1 : ((sC v c : Nat) : Int) = _ := tN_int a1
  have e2 : ((zC v c : Nat) : Int) = _ := tN_int (x := v (aO c + 2)) (by omega)
  refine ⟨hc, nn_eq a1, by omega, nn_eq (by omega), by omega, by omega, fun k hk => ?_⟩
  obtain ⟨b1, b2, b3, b4⟩ := a6 k hk
  have e3 : ((raC v c k : Nat) : Int) = _ := tN_int b1
  have e4 : ((trC v c k : Nat) : Int) = _ := tN_int (x := v (aO c + 9 + k)) (by omega)
  exact ⟨nn_eq b1, by omega, nn_eq (by omega), by omega, by omega⟩
theorem en_b {v : Vt} {sc cnt c n : Nat} (h : OC v sc cnt c) (hn : n < off v c 4) : enF v c n < 4 ∧ (∀ k, k ≤ enF v c n → off v c k ≤ n) ∧ n < off v c (enF v c n + 1) ∧ n < 28 := by
  obtain ⟨-, -, -, -, -, -, hk⟩ := h
  have k0 := hk 0 (by omega)
  have k1 := hk 1 (by omega)
  have k2 := hk 2 (by omega)
  have k3 := hk 3 (by omega)
  have o1 : off v c 1 = trC v c 0 := Nat.zero_add _
  have o2 : off v c 2 = off v c 1 + trC v c 1 := rfl
  have o3 : off v c 3 = off v c 2 + trC v c 2 := rfl
  have o4 : off v c 4 = off v c 3 + trC v c 3 := rfl
  have o0 : off v c 0 = 0 := rfl
  unfold enF
  by_cases c1 : n < off v c 1
  · rw [if_pos c1]
    exact ⟨by omega, fun k q => by rw [show k = 0 by omega]; omega, c1, by omega⟩
  · rw [if_neg c1]
    by_cases c2 : n < off v c 2
    · rw [if_pos c2]
      exact ⟨by omega, fun k q => by rcases (show k = 0 ∨ k = 1 by omega) with rfl | rfl <;> omega, c2, by omega⟩
    · rw [if_neg c2]
      by_cases c3 : n < off v c 3
      · rw [if_pos c3]
        exact ⟨by omega, fun k q => by rcases (show k = 0 ∨ k = 1 ∨ k = 2 by omega) with rfl | rfl | rfl <;> omega, c3, by omega⟩
      · rw [if_neg c3]
        exact ⟨by omega, fun k q => by rcases (show k = 0 ∨ k = 1 ∨ k = 2 ∨ k = 3 by omega) with rfl | rfl | rfl | rfl <;> omega, hn, by omega⟩
theorem off_m {v : Vt} {c : Nat} : ∀ d k, off v c k ≤ off v c (k + d)
  | 0, k => Nat.le_refl _
  | d + 1, k => Nat.le_trans (off_m d k) (Nat.le_add_right _ _)
theorem off_b {v : Vt} {sc cnt c : Nat} (h : OC v sc cnt c) : 4 ≤ off v c 4 ∧ off v c 4 ≤ 28 ∧ ∀ k, k < 4 → off v c (k + 1) ≤ off v c 4 := by
  obtain ⟨-, -, -, -, -, -, hk⟩ := h
  have k0 := hk 0 (by omega)
  have k1 := hk 1 (by omega)
  have k2 := hk 2 (by omega)
  have k3 := hk 3 (by omega)
  have o4 : off v c 4 = 0 + trC v c 0 + trC v c 1 + trC v c 2 + trC v c 3 := rfl
  refine ⟨by omega, by omega, fun k hk => ?_⟩
  have := off_m (v := v) (c := c) (3 - k) (k + 1)
  rw [show k + 1 + (3 - k) = 4 by omega] at this
  exact this
theorem en_eq {v : Vt} {sc cnt c k j : Nat} (h : OC v sc cnt c) (hk : k < 4) (hj : j < trC v c k) : enF v c (off v c k + j) = k ∧ off v c k + j < off v c 4 := by
  have hb := (off_b h).2.2 k hk
  have e : off v c (k + 1) = off v c k + trC v c k := rfl
  have hn : off v c k + j < off v c 4 := by omega
  obtain ⟨a1, a2, a3, -⟩ := en_b h hn
  refine ⟨?_, hn⟩
  rcases Nat.lt_trichotomy (enF v c (off v c k + j)) k with q | q | q
  · have := off_m (v := v) (c := c) (k - (enF v c (off v c k + j) + 1)) (enF v c (off v c k + j) + 1)
    rw [show enF v c (off v c k + j) + 1 + (k - (enF v c (off v c k + j) + 1)) = k by omega] at this
    omega
  · exact q
  · have := a2 (k + 1) (by omega)
    omega
section L48
variable {C M : Me} {i : Nat} {N : Nt} {v : Vt} {sc cnt w c n : Nat}
theorem OC.addr (h : OC v sc cnt c) : aO c + 15 < 600 := by have := h.1; show 420 + 16 * c + 15 < 600; omega
theorem m_en (h : OC v sc cnt c) (hn : n < off v c 4) : f_m_entryOf (sV M v) (nI c) (nI n) = some (nI (enF v c n)) := by
  obtain ⟨a1, a2, a3, a4⟩ := en_b h hn
  have hc := h.1
  obtain ⟨-, -, -, -, -, -, hk⟩ := h
  have step : ∀ k, k < 3 → b_m_entryOf_5 (sV M v) (nI c) (nI k, nI (n - off v c k)) = if n - off v c k < trC v c k then some (.inr (nI k)) else some (.inl (nI (k + 1), nI (n - off v c k - trC v c k))) := by
    intro k h3
    have e := (hk k (by omega)).2.2.1
    have b := (hk k (by omega)).2.2.2
    have e' : v (420 + 16 * c + 9 + k) = nI (trC v c k) := e
    unfold b_m_entryOf_5 f_m_open
    rw [if_neg (show ¬ (3 : Int32) ≤ nI k from nle (n := 3) (by omega) (by omega))]
    simp (disch := omega) only [↓ob, ↓reduceIte, IXl, IXm, IXr, l_add, gin_t, tN_nI, rdV, e']
    by_cases z : n - off v c k < trC v c k
    · rw [if_pos z, if_pos ((nI_lt' (by omega) (by omega)).mpr z)]
    · rw [if_neg z, if_neg (fun q => z ((nI_lt' (by omega) (by omega)).mp q)), nI_sb (by omega)]
  unfold f_m_entryOf
  refine bs (x := nI (enF v c n)) ?_ rfl
  refine lp_n (fun k => (nI k, nI (n - off v c k))) (enF v c n) (lt_FU (by omega)) (fun k hk2 => ?_) ?_
  · have := a2 (k + 1) (by omega)
    have e : off v c (k + 1) = off v c k + trC v c k := rfl
    rw [step k (by omega), if_neg (by omega), e, Nat.sub_sub]
  · by_cases z : enF v c n = 3
    · show b_m_entryOf_5 (sV M v) (nI c) (nI (enF v c n), nI (n - off v c (enF v c n))) = _
      rw [z]
      unfold b_m_entryOf_5
      rw [if_pos (show (3 : Int32) ≤ nI 3 from by decide)]
    · have e : off v c (enF v c n + 1) = off v c (enF v c n) + trC v c (enF v c n) := rfl
      have := a2 (enF v c n) (Nat.le_refl _)
      rw [step (enF v c n) (by omega), if_pos (by omega)]
theorem m_try (h : OC v sc cnt c) (hn : n < off v c 4) : f_m_tryOf (sV M v) (nI c) (nI n) = some (nI (n - off v c (enF v c n))) := by
  have he := m_en (M := M) h hn
  obtain ⟨a1, a2, a3, a4⟩ := en_b h hn
  have hc := h.1
  obtain ⟨-, -, -, -, -, -, hk⟩ := h
  unfold f_m_tryOf
  refine bs (x := nI (n - off v c (enF v c n))) ?_ rfl
  refine lp_n (fun k => (nI (n - off v c k), nI k)) (enF v c n) (lt_FU (by omega)) (fun k hk2 => ?_) ?_
  · have := a2 (k + 1) (by omega)
    have e : off v c (k + 1) = off v c k + trC v c k := rfl
    have e9 : v (420 + 16 * c + 9 + k) = nI (trC v c k) := (hk k (by omega)).2.2.1
    unfold b_m_tryOf_5 f_m_open
    refine bs he (im (nle hk2 (by omega)) ?_)
    simp (disch := omega) only [↓ob, ↓reduceIte, IXl, IXm, IXr, l_add, gin_t, tN_nI, rdV, e9]
    rw [nI_sb (by omega), e, Nat.sub_sub]
  · unfold b_m_tryOf_5
    exact bs he (ip (nle_s (by omega)) rfl)
theorem m_rt (h : OC v sc cnt c) (hn : n < off v c 4) : f_m_rateOfTry (sV M v) (nI c) (nI n) = some (nI (raC v c (enF v c n))) := by
  have he := m_en (M := M) h hn
  obtain ⟨a1, a2, a3, a4⟩ := en_b h hn
  have hc := h.1
  have e5 : v (420 + 16 * c + 5 + enF v c n) = nI (raC v c (enF v c n)) := (h.2.2.2.2.2.2 _ a1).1
  unfold f_m_rateOfTry f_m_open
  refine bs rfl (bs he ?_)
  simp (disch := omega) only [↓ob, ↓reduceIte, IXl, IXm, IXr, l_add, gin_t, tN_nI, rdV, e5]
def ttF (v : Vt) (c n : Nat) : Nat := ttN v (raC v c (enF v c n)) (zC v c) (n - off v c (enF v c n))
theorem m_ttF (hR : IR v cnt) (h : OC v sc cnt c) (hn : n < off v c 4) : f_m_timeOfTry (sV M v) (nI c) (nI n) = some (nI (ttF v c n)) := by
  obtain ⟨a1, a2, a3, a4⟩ := en_b h hn
  have hc := h.1
  have ek := h.2.2.2.2.2.2 _ a1
  have e2 : v (420 + 16 * c + 2) = nI (zC v c) := h.2.2.2.1
  have hz := h.2.2.2.2.2.1
  have e : off v c (enF v c n + 1) = off v c (enF v c n) + trC v c (enF v c n) := rfl
  have := a2 (enF v c n) (Nat.le_refl _)
  unfold f_m_timeOfTry f_m_open
  refine bs (m_rt h hn) ?_
  simp (disch := omega) only [↓ob, ↓reduceIte, IXl, IXm, IXr, l_add, gin_t, tN_nI, rdV, e2]
  refine bs (m_try h hn) (bs (m_tt hR ek.2.1 (by omega) (by omega)) rfl)
theorem m_all (h : OC v sc cnt c) : f_m_triesOfAll (sV M v) (nI c) = some (nI (off v c 4)) := by
  have hb := off_b h
  have hc := h.1
  obtain ⟨-, -, -, -, -, -, hk⟩ := h
  unfold f_m_triesOfAll
  refine bs (x := nI (off v c 4)) ?_ rfl
  refine lp_n (fun k => (nI (off v c k), nI k)) 4 (lt_FU (by omega)) (fun k hk2 => ?_) ?_
  · have e9 : v (420 + 16 * c + 9 + k) = nI (trC v c k) := (hk k (by omega)).2.2.1
    unfold b_m_triesOfAll_4 f_m_open
    rw [if_neg (show ¬ (4 : Int32) ≤ nI k from nle (n := 4) (by omega) (by omega))]
    simp (disch := omega) only [↓ob, ↓reduceIte, IXl, IXm, IXr, l_add, gin_t, tN_nI, rdV, e9]
    rfl
  · unfold b_m_triesOfAll_4
    rw [if_pos (show (4 : Int32) ≤ nI 4 from by decide)]
theorem c_all (hE : RE N v) (h : OC v sc cnt c) : f_ch_allTries (sN C i N) i c = some (nI (off v c 4)) := by
  have hb := off_b h
  have hc := h.1
  obtain ⟨-, -, -, -, -, -, hk⟩ := h
  unfold f_ch_allTries
  refine bs (x := nI (off v c 4)) ?_ rfl
  refine lp_n (fun k => (nI (off v c k), nI k)) 4 (lt_FU (by omega)) (fun k hk2 => ?_) ?_
  · have e9 : (sN C i N).1 56 i c k = nI (trC v c k) := by rw [rdN (by decide), hE 56 c k rfl (d56 hc (by omega))]; exact (hk k (by omega)).2.2.1
    unfold b_ch_allTries_4
    rw [if_neg (show ¬ (4 : Int32) ≤ nI k from nle (n := 4) (by omega) (by omega)), if_pos (gin_nI (by omega) (by omega))]
    simp (disch := omega) only [↓ob, IXr, l_add, tN_nI, e9]
    rfl
  · unfold b_ch_allTries_4
    rw [if_pos (show (4 : Int32) ≤ nI 4 from by decide)]
theorem c_rt' (hE : RE N v) (h : OC v sc cnt c) (hn : n < off v c 4) : f_ch_rateOfTry (sN C i N) i c (nI n) = some (nI (raC v c (enF v c n))) := by
  obtain ⟨a1, a2, a3, a4⟩ := en_b h hn
  have hc := h.1
  obtain ⟨-, -, -, -, -, -, hk⟩ := h
  have step : ∀ k, k < 4 → b_ch_rateOfTry_4 (sN C i N) i c (nI (n - off v c k), nI k) = if trC v c k ≤ n - off v c k then some (.inl (nI (n - off v c k - trC v c k), nI (k + 1))) else some (.inr (.inr (nI (raC v c k)))) := by
    intro k h4
    obtain ⟨b1, b2, b3, b4⟩ := hk k h4
    have e9 : (sN C i N).1 56 i c k = nI (trC v c k) := by rw [rdN (by decide), hE 56 c k rfl (d56 hc (by omega))]; exact b3
    have e5 : (sN C i N).1 55 i c k = nI (raC v c k) := by rw [rdN (by decide), hE 55 c k rfl (d55 hc (by omega))]; exact b1
    unfold b_ch_rateOfTry_4
    rw [if_neg (show ¬ (4 : Int32) ≤ nI k from nle (n := 4) (by omega) (by omega)), if_pos (gin_nI (by omega) (by omega)), tN_nI (by omega), e9, e5, if_pos (gin_nI (by omega) (by omega)), if_pos (gin_nI (by omega) (by omega))]
    simp only [↓ob, IXr]
    by_cases z : trC v c k ≤ n - off v c k
    · rw [if_pos z, if_pos ((nI_le' (by omega) (by omega)).mpr z), nI_sb z]
    · rw [if_neg z, if_neg (fun q => z ((nI_le' (by omega) (by omega)).mp q))]
  unfold f_ch_rateOfTry
  have key : lp FU (b_ch_rateOfTry_4 (sN C i N) i c) (nI (n - off v c 0), nI 0) = some (.inr (nI (raC v c (enF v c n)))) := by
    refine lp_n (fun k => (nI (n - off v c k), nI k)) (enF v c n) (lt_FU (by omega)) (fun k hk2 => ?_) ?_
    · have := a2 (k + 1) (by omega)
      have e : off v c (k + 1) = off v c k + trC v c k := rfl
      rw [step k (by omega), if_pos (by omega), e, Nat.sub_sub]
    · have e : off v c (enF v c n + 1) = off v c (enF v c n) + trC v c (enF v c n) := rfl
      have := a2 (enF v c n) (Nat.le_refl _)
      rw [step _ a1, if_neg (by omega)]
  exact bs key rfl
/-! the chance that all tries fail, the expected time -/
def rcF (v : Vt) (c : Nat) : Nat → Int64
  | 0 => 65536
  | n + 1 => (rcF v c n * ((65536 : Int32) - nI (kN v (sC v c) (raC v c (enF v c n)))).toInt64) / (65536 : Int64)
def smF (v : Vt) (c : Nat) : Nat → Int64
  | 0 => 0
  | n + 1 => smF v c n + (rcF v c n * (nI (ttF v c n)).toInt64)
theorem rcF_s (v : Vt) (c n : Nat) : rcF v c (n + 1) = (rcF v c n * ((65536 : Int32) - nI (kN v (sC v c) (raC v c (enF v c n)))).toInt64) / (65536 : Int64) := rfl
theorem smF_s (v : Vt) (c n : Nat) : smF v c (n + 1) = smF v c n + (rcF v c n * (nI (ttF v c n)).toInt64) := rfl
theorem c_after (h : RN N v sc cnt w) (ho : OC v sc cnt c) {k : Nat} (hk : k < 4) (x : Int64) : f_nt_reachAfter (sN C i N) i x i c (nI k) = some ((x * ((65536 : Int32) - nI (kN v (sC v c) (raC v c k))).toInt64) / (65536 : Int64)) := by
  have hl := h.lt
  obtain ⟨hc, o1, o2, o3, o4, o5, hk'⟩ := ho
  obtain ⟨b1, b2, b3, b4⟩ := hk' k hk
  have e51 : (sN C i N).1 51 i c 0 = nI (sC v c) := by rw [rdN (by decide), h.E 51 c 0 rfl (dO (by simp) hc)]; exact o1
  have e5 : (sN C i N).1 55 i c k = nI (raC v c k) := by rw [rdN (by decide), h.E 55 c k rfl (d55 hc (by omega))]; exact b1
  unfold f_nt_reachAfter
  rw [if_pos (gin_nI (by omega) (by omega)), tN_nI (by omega), e51, e5]
  have hl1 : f_nt_linkAt (sN C i N) i (nI (sC v c)) (nI (raC v c k)) = some (some (i, sC v c, raC v c k)) := by
    unfold f_nt_linkAt
    refine bs (sta_t h o2) (bs (c_hasv h.E h.iR b2) (im (by decide) ?_))
    rw [if_pos (gin_nI (by omega) (by omega)), tN_nI (by omega)]
  exact bs hl1 (bs (c_eoz (s := sC v c) (r := raC v c k) (h.lk o2) h.iL (by omega) b2 hl.2) rfl)
theorem q_deliveryChance (h : RN N v sc cnt w) (x : Int32) : ∃ y, f_rc_deliveryChance (sN C 0 N) x = some y ∧ f_m_deliveryChance (sV M v) x = some y := by
  have hl := h.lt
  unfold f_rc_deliveryChance f_m_deliveryChance
  rcases ch_c (C := C) (M := M) (i := 0) h x with ⟨c, hc, rfl, ho, a1, a2⟩ | ⟨a1, a2⟩
  · have oc := h.iC.oc hc ho
    have ob4 := off_b oc
    obtain ⟨-, o1, o2, o3, o4, o5, hk'⟩ := id oc
    have cc : f_nt_reachOfEnd (sN C 0 N) 0 0 c = some ((rcF v c (off v c 4)).toInt32) := by
      unfold f_nt_reachOfEnd
      refine bs (x := rcF v c (off v c 4)) ?_ rfl
      refine lp_n (fun k => (rcF v c (off v c k), nI k)) 4 (lt_FU (by omega)) (fun k hk => ?_) ?_
      · obtain ⟨b1, b2, b3, b4⟩ := hk' k hk
        have e9 : (sN C 0 N).1 56 0 c k = nI (trC v c k) := by rw [rdN (by decide), h.E 56 c k rfl (d56 hc (by omega))]; exact b3
        unfold b_nt_reachOfEnd_7
        refine im (show ¬ (4 : Int32) ≤ nI k from nle (n := 4) (by omega) (by omega)) ?_
        refine bs (x := rcF v c (off v c (k + 1))) ?_ (by simp only [↓ob, IXr])
        refine lp_n (fun j => (rcF v c (off v c k + j), nI j)) (trC v c k) (lt_FU (by omega)) (fun j hj => ?_) ?_
        · unfold b_nt_reachOfEnd_16
          refine ip (gin_nI (by omega) (by omega)) ?_
          show (if (sN C 0 N).1 56 0 c (tN (nI k)) ≤ nI j then _ else _) = _
          rw [tN_nI (by omega), e9]
          refine im (nle hj (by omega)) (bs (c_after h oc hk _) ?_)
          simp only [↓ob, IXr]
          rw [← Nat.add_assoc]
          show _ = some (Sum.inl (rcF v c (off v c k + j + 1), nI (j + 1)))
          rw [rcF_s, (en_eq oc hk hj).1]
        · unfold b_nt_reachOfEnd_16
          refine ip (gin_nI (by omega) (by omega)) ?_
          show (if (sN C 0 N).1 56 0 c (tN (nI k)) ≤ nI (trC v c k) then _ else _) = _
          rw [tN_nI (by omega), e9]
          exact ip (nle_s (by omega)) rfl
      · unfold b_nt_reachOfEnd_7
        exact ip (show (4 : Int32) ≤ nI 4 from by decide) rfl
    have mm : lp FU (b_m_deliveryChance_24 (sV M v) (nI c) (nI (off v c 4))) (65536, 0) = some (rcF v c (off v c 4)) := by
      refine lp_n (fun n => (rcF v c n, nI n)) (off v c 4) (lt_FU (by omega)) (fun n hn => ?_) ?_
      · have eb := en_b oc hn
        obtain ⟨b1, b2, b3, b4⟩ := hk' _ eb.1
        have e1 : v (420 + 16 * c + 1) = nI (sC v c) := o1
        unfold b_m_deliveryChance_24 f_m_open
        refine im (nle hn (by omega)) ?_
        simp (disch := omega) only [↓ob, ↓reduceIte, IXl, IXm, IXr, l_add, gin_t, tN_nI, rdV, e1]
        refine bs (m_rt oc hn) (bs (m_kn h.iL (by omega) (by omega)) rfl)
      · unfold b_m_deliveryChance_24
        exact ip (nle_s (by omega)) rfl
    refine ⟨_, bs a1 (bs cc rfl), bs a2 (im (by decide) (bs (m_all oc) (bs mm ?_)))⟩
    rw [Int64.toInt32_sub]
    rfl
  · exact ⟨-1, bs a1 rfl, bs a2 (ip rfl rfl)⟩
theorem c_ttF (h : RN N v sc cnt w) (oc : OC v sc cnt c) {k j : Nat} (hk : k < 4) (hj : j < trC v c k) : f_tb_timeOfTry (sN C i N) i ((sN C i N).1 55 i c k) ((sN C i N).1 52 i c 0) (nI j) = some (nI (ttF v c (off v c k + j))) := by
  obtain ⟨hc, o1, o2, o3, o4, o5, hk'⟩ := id oc
  obtain ⟨b1, b2, b3, b4⟩ := hk' k hk
  have e52 : (sN C i N).1 52 i c 0 = nI (zC v c) := by rw [rdN (by decide), h.E 52 c 0 rfl (dO (by simp) hc)]; exact o3
  have e5 : (sN C i N).1 55 i c k = nI (raC v c k) := by rw [rdN (by decide), h.E 55 c k rfl (d55 hc (by omega))]; exact b1
  rw [e5, e52, c_tt h.E h.iR b2 (by omega) (by omega)]
  unfold ttF
  rw [(en_eq oc hk hj).1, Nat.add_sub_cancel_left]
theorem q_expectedTime (h : RN N v sc cnt w) (x : Int32) : ∃ y, f_rc_expectedTime (sN C 0 N) x = some y ∧ f_m_expectedTime (sV M v) x = some y := by
  have hl := h.lt
  unfold f_rc_expectedTime f_m_expectedTime
  rcases ch_c (C := C) (M := M) (i := 0) h x with ⟨c, hc, rfl, ho, a1, a2⟩ | ⟨a1, a2⟩
  · have oc := h.iC.oc hc ho
    have ob4 := off_b oc
    obtain ⟨-, o1, o2, o3, o4, o5, hk'⟩ := id oc
    have cc : f_nt_weightedTime (sN C 0 N) 0 0 c = some (smF v c (off v c 4)) := by
      unfold f_nt_weightedTime
      refine bs (x := smF v c (off v c 4)) ?_ rfl
      refine lp_n (fun k => (rcF v c (off v c k), smF v c (off v c k), nI k)) 4 (lt_FU (by omega)) (fun k hk => ?_) ?_
      · obtain ⟨b1, b2, b3, b4⟩ := hk' k hk
        have e9 : (sN C 0 N).1 56 0 c k = nI (trC v c k) := by rw [rdN (by decide), h.E 56 c k rfl (d56 hc (by omega))]; exact b3
        unfold b_nt_weightedTime_10
        refine im (show ¬ (4 : Int32) ≤ nI k from nle (n := 4) (by omega) (by omega)) ?_
        refine bs (x := (rcF v c (off v c (k + 1)), smF v c (off v c (k + 1)))) ?_ (by simp only [↓ob, IXr])
        refine lp_n (fun j => (rcF v c (off v c k + j), smF v c (off v c k + j), nI j)) (trC v c k) (lt_FU (by omega)) (fun j hj => ?_) ?_
        · unfold b_nt_weightedTime_19
          refine ip (gin_nI (by omega) (by omega)) ?_
          show (if (sN C 0 N).1 56 0 c (tN (nI k)) ≤ nI j then _ else _) = _
          rw [tN_nI (by omega), e9]
          refine im (nle hj (by omega)) (ip (gin_nI (by omega) (by omega)) (bs (c_ttF h oc hk hj) (bs rfl (bs (c_after h oc hk _) ?_))))
          simp only [↓ob, IXr]
          rw [← Nat.add_assoc]
          show _ = some (Sum.inl (rcF v c (off v c k + j + 1), smF v c (off v c k + j + 1), nI (j + 1)))
          rw [rcF_s, smF_s, (en_eq oc hk hj).1]
        · unfold b_nt_weightedTime_19
          refine ip (gin_nI (by omega) (by omega)) ?_
          show (if (sN C 0 N).1 56 0 c (tN (nI k)) ≤ nI (trC v c k) then _ else _) = _
          rw [tN_nI (by omega), e9]
          exact ip (nle_s (by omega)) rfl
      · unfold b_nt_weightedTime_10
        exact ip (show (4 : Int32) ≤ nI 4 from by decide) rfl
    have mm : lp FU (b_m_expectedTime_27 (sV M v) (nI c) (nI (off v c 4))) (65536, 0, 0) = some (smF v c (off v c 4)) := by
      refine lp_n (fun n => (rcF v c n, smF v c n, nI n)) (off v c 4) (lt_FU (by omega)) (fun n hn => ?_) ?_
      · have eb := en_b oc hn
        obtain ⟨b1, b2, b3, b4⟩ := hk' _ eb.1
        have e1 : v (420 + 16 * c + 1) = nI (sC v c) := o1
        unfold b_m_expectedTime_27 f_m_open
        refine im (nle hn (by omega)) (bs (m_ttF h.iR oc hn) ?_)
        simp (disch := omega) only [↓ob, ↓reduceIte, IXl, IXm, IXr, l_add, gin_t, tN_nI, rdV, e1]
        refine bs (m_rt oc hn) (bs (m_kn h.iL (by omega) (by omega)) rfl)
      · unfold b_m_expectedTime_27
        exact ip (nle_s (by omega)) rfl
    exact ⟨_, bs a1 (bs cc rfl), bs a2 (im (by decide) (bs (m_all oc) (bs mm rfl)))⟩
  · exact ⟨-1, bs a1 rfl, bs a2 (ip rfl rfl)⟩
end L48
