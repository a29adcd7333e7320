/-! the best chain: the reference's way -/
section L72
variable {C M : Me} {N : Nt} {v : Vt} {sc cnt w s z : Nat}
theorem dgI {c k : Nat} (hc : c < 4096) (hk : k < 4) : (nI c >>> (((3 : Int32) * nI k) &&& 31)) &&& (7 : Int32) = nI (c / 8 ^ k % 8) := by
  rcases (show k = 0 ∨ k = 1 ∨ k = 2 ∨ k = 3 by omega) with rfl | rfl | rfl | rfl
  · rw [pk_shrN (by omega) _ 0 (by decide), pk_andN (by omega) 3 (by decide)]
  · rw [pk_shrN (by omega) _ 3 (by decide), pk_andN (by omega) 3 (by decide)]
  · rw [pk_shrN (by omega) _ 6 (by decide), pk_andN (by omega) 3 (by decide)]
  · rw [pk_shrN (by omega) _ 9 (by decide), pk_andN (by omega) 3 (by decide)]
def okr (v : Vt) (s cnt r : Nat) : Bool := decide (r < cnt) && decide (v (aP s r) = 1)
def okp (v : Vt) (s cnt c : Nat) : Nat → Bool
  | 0 => true
  | k + 1 => okp v s cnt c k && okr v s cnt (c / 8 ^ k % 8)
theorem okr_t {r : Nat} (h : okr v s cnt r = true) : r < cnt ∧ v (aP s r) = 1 := by
  unfold okr at h
  rw [Bool.and_eq_true, decide_eq_true_eq, decide_eq_true_eq] at h
  exact h
theorem okr_f {r : Nat} (h : ¬ okr v s cnt r = true) : ¬ (r < cnt ∧ v (aP s r) = 1) := fun q => h (by
  unfold okr
  rw [Bool.and_eq_true, decide_eq_true_eq, decide_eq_true_eq]
  exact q)
theorem okp_s (c k : Nat) : okp v s cnt c (k + 1) = (okp v s cnt c k && okr v s cnt (c / 8 ^ k % 8)) := rfl
theorem m_seq (h : RN N v sc cnt w) (hs : s < sc) {c : Nat} (hc : c < 4096) : f_m_isSequence (sV M v) (nI s) (nI c) = some (if okp v s cnt c 4 = true then 1 else 0) := by
  have hl := h.lt
  unfold f_m_isSequence
  refine bs (x := if okp v s cnt c 4 = true then 1 else 0) ?_ (ip (by split <;> simp) rfl)
  refine lp_n (fun k => (if okp v s cnt c k = true then 1 else 0, nI k)) 4 (lt_FU (by omega)) (fun k hk => ?_) ?_
  · have hd : c / 8 ^ k % 8 < 8 := Nat.mod_lt _ (by decide)
    unfold b_m_isSequence_5
    refine im (show ¬ (4 : Int32) ≤ nI k from nle (n := 4) hk (by omega)) (bs rfl ?_)
    rw [dgI hc hk, okp_s]
    by_cases c1 : okp v s cnt c k = true
    · rw [if_pos c1, c1, Bool.true_and]
      refine im (show ¬ (1 : Int32) = 0 from by decide) ?_
      rw [t_1, rdV, h.iR.2.1]
      by_cases c2 : c / 8 ^ k % 8 < cnt
      · refine im (nle c2 (by omega)) (bs (m_al (by omega) hd) ?_)
        by_cases c3 : v (aP s (c / 8 ^ k % 8)) = 1
        · have e : okr v s cnt (c / 8 ^ k % 8) = true := by
            unfold okr
            rw [Bool.and_eq_true, decide_eq_true_eq, decide_eq_true_eq]
            exact ⟨c2, c3⟩
          rw [if_pos c3, if_pos e]
          exact im (by decide) (by simp only [↓ob, IXr])
        · have e : ¬ okr v s cnt (c / 8 ^ k % 8) = true := fun q => c3 (okr_t q).2
          rw [if_neg c3, if_neg e]
          exact ip rfl (by simp only [↓ob, IXr])
      · have e : ¬ okr v s cnt (c / 8 ^ k % 8) = true := fun q => c2 (okr_t q).1
        rw [if_neg e]
        exact ip ((nI_le' (by omega) (by omega)).mpr (by omega)) (by simp only [↓ob, IXr])
    · have e : ¬ (okp v s cnt c k && okr v s cnt (c / 8 ^ k % 8)) = true := fun q => by rw [Bool.and_eq_true] at q; exact c1 q.1
      rw [if_neg c1, if_neg e]
      exact ip rfl (by simp only [↓ob, IXr])
  · unfold b_m_isSequence_5
    exact ip (show (4 : Int32) ≤ nI 4 from by decide) rfl
def sW (M : Me) (p : Int64 × Int64) : Me := (M.1, fun f i s r => if f = 106 ∧ i = 0 ∧ s = 0 ∧ r = 0 then p.1 else if f = 107 ∧ i = 0 ∧ s = 0 ∧ r = 0 then p.2 else M.2 f i s r)
theorem sW_a {p : Int64 × Int64} : (sV (sW M p) v).2 106 0 0 0 = p.1 := by
  show (if (106 : Nat) = 106 ∧ (0 : Nat) = 0 ∧ (0 : Nat) = 0 ∧ (0 : Nat) = 0 then p.1 else if (106 : Nat) = 107 ∧ (0 : Nat) = 0 ∧ (0 : Nat) = 0 ∧ (0 : Nat) = 0 then p.2 else M.2 106 0 0 0) = p.1
  rw [if_pos ⟨rfl, rfl, rfl, rfl⟩]
theorem sW_b {p : Int64 × Int64} : (sV (sW M p) v).2 107 0 0 0 = p.2 := by
  show (if (107 : Nat) = 106 ∧ (0 : Nat) = 0 ∧ (0 : Nat) = 0 ∧ (0 : Nat) = 0 then p.1 else if (107 : Nat) = 107 ∧ (0 : Nat) = 0 ∧ (0 : Nat) = 0 ∧ (0 : Nat) = 0 then p.2 else M.2 107 0 0 0) = p.2
  rw [if_neg (fun q => absurd q.1 (by decide)), if_pos ⟨rfl, rfl, rfl, rfl⟩]
theorem sW_wa {p : Int64 × Int64} {x : Int64} : wL (sV (sW M p) v) 106 0 0 0 x = sV (sW M (x, p.2)) v := by
  refine Prod.ext rfl ?_
  funext f i s r
  show (if f = 106 ∧ i = 0 ∧ s = 0 ∧ r = 0 then x else if f = 106 ∧ i = 0 ∧ s = 0 ∧ r = 0 then p.1 else if f = 107 ∧ i = 0 ∧ s = 0 ∧ r = 0 then p.2 else M.2 f i s r) = (if f = 106 ∧ i = 0 ∧ s = 0 ∧ r = 0 then x else if f = 107 ∧ i = 0 ∧ s = 0 ∧ r = 0 then p.2 else M.2 f i s r)
  by_cases h : f = 106 ∧ i = 0 ∧ s = 0 ∧ r = 0
  · rw [if_pos h, if_pos h]
  · rw [if_neg h, if_neg h, if_neg h]
theorem sW_wb {p : Int64 × Int64} {x : Int64} : wL (sV (sW M p) v) 107 0 0 0 x = sV (sW M (p.1, x)) v := by
  refine Prod.ext rfl ?_
  funext f i s r
  show (if f = 107 ∧ i = 0 ∧ s = 0 ∧ r = 0 then x else if f = 106 ∧ i = 0 ∧ s = 0 ∧ r = 0 then p.1 else if f = 107 ∧ i = 0 ∧ s = 0 ∧ r = 0 then p.2 else M.2 f i s r) = (if f = 106 ∧ i = 0 ∧ s = 0 ∧ r = 0 then p.1 else if f = 107 ∧ i = 0 ∧ s = 0 ∧ r = 0 then x else M.2 f i s r)
  by_cases h : f = 106 ∧ i = 0 ∧ s = 0 ∧ r = 0
  · rw [if_neg (fun q => absurd (h.1.symm.trans q.1) (by decide)), if_pos h, if_pos h]
  · rw [if_neg h, if_neg h]
    by_cases h2 : f = 107 ∧ i = 0 ∧ s = 0 ∧ r = 0
    · rw [if_pos h2, if_pos h2]
    · rw [if_neg h2, if_neg h2, if_neg h2]
theorem sW_0 {x y : Int64} : wL (wL (sV M v) 106 0 0 0 x) 107 0 0 0 y = sV (sW M (x, y)) v := by
  refine Prod.ext rfl ?_
  funext f i s r
  show (if f = 107 ∧ i = 0 ∧ s = 0 ∧ r = 0 then y else if f = 106 ∧ i = 0 ∧ s = 0 ∧ r = 0 then x else M.2 f i s r) = (if f = 106 ∧ i = 0 ∧ s = 0 ∧ r = 0 then x else if f = 107 ∧ i = 0 ∧ s = 0 ∧ r = 0 then y else M.2 f i s r)
  by_cases h : f = 106 ∧ i = 0 ∧ s = 0 ∧ r = 0
  · rw [if_neg (fun q => absurd (h.1.symm.trans q.1) (by decide)), if_pos h, if_pos h]
  · rw [if_neg h, if_neg h]
def wk1 (v : Vt) (s z r n : Nat) (q : Int64 × Int64) : Int64 × Int64 := ((q.1 * ((65536 : Int32) - nI (kN v s r)).toInt64) / (65536 : Int64), q.2 + (q.1 * (nI (ttN v r z n)).toInt64))
def wkN (v : Vt) (s z r : Nat) (p : Int64 × Int64) : Nat → Int64 × Int64
  | 0 => p
  | n + 1 => wk1 v s z r n (wkN v s z r p n)
def wkR (v : Vt) (s z r : Nat) (p : Int64 × Int64) : Int64 × Int64 := wkN v s z r p (trN v r z)
def wv (v : Vt) (s z c : Nat) : Int64 × Int64 := wkR v s z (c / 8 ^ 0 % 8) (wkR v s z (c / 8 ^ 1 % 8) (wkR v s z (c / 8 ^ 2 % 8) (wkR v s z (c / 8 ^ 3 % 8) (65536, 0))))
theorem m_wk (h : RN N v sc cnt w) (hs : s < sc) (hz : z ≤ 4000) {r : Nat} (hr : r < cnt) (a b : Int32) (p : Int64 × Int64) : lp FU (b_m_walks_43 (nI s) (nI z) a b (nI r) (nI (trN v r z))) (0, sV (sW M p) v) = some (sV (sW M (wkR v s z r p)) v) := by
  have hl := h.lt
  have tb := trN_b v r z
  refine lp_n (fun j => (nI j, sV (sW M (wkN v s z r p j)) v)) (trN v r z) (lt_FU (by omega)) (fun j hj => ?_) ?_
  · unfold b_m_walks_43
    refine im (nle hj (by omega)) (bs (m_tt h.iR hr (by omega) (by omega)) ?_)
    rw [sW_a, sW_b, sW_wb]
    refine bs rfl (bs (m_kn h.iL (by omega) (by omega)) ?_)
    rw [sW_a, sW_wa]
    refine bs rfl (bs rfl ?_)
    simp only [IXr]
    rfl
  · unfold b_m_walks_43
    exact ip (nle_s (by omega)) rfl
theorem m_wst (h : RN N v sc cnt w) (hs : s < sc) (hz : z ≤ 4000) {c k : Nat} (hc : c < 4096) (hk : k < 4) (hr : c / 8 ^ k % 8 < cnt) (p : Int64 × Int64) : b_m_walks_15 (nI s) (nI z) (nI c) (nI k, sV (sW M p) v) = some (.inl (nI k + (-1), sV (sW M (wkR v s z (c / 8 ^ k % 8) p)) v)) := by
  have hi : wi 100 (v 6) 100000 := h.iS.2.2.2.2.2.1
  unfold b_m_walks_15
  refine im (fun q => by rw [lt_int, z_0, nI_i (by omega)] at q; omega) (bs rfl ?_)
  rw [dgI hc hk]
  exact bs (m_tr h.iR hr (by omega) hi) (bs (m_wk h hs hz hr _ _ p) rfl)
theorem okp_4 {c : Nat} (h : okp v s cnt c 4 = true) : ∀ k, k < 4 → okr v s cnt (c / 8 ^ k % 8) = true := by
  rw [okp_s, okp_s, okp_s, okp_s, Bool.and_eq_true, Bool.and_eq_true, Bool.and_eq_true, Bool.and_eq_true] at h
  obtain ⟨⟨⟨⟨-, a⟩, b⟩, c'⟩, d⟩ := h
  intro k hk
  rcases (show k = 0 ∨ k = 1 ∨ k = 2 ∨ k = 3 by omega) with rfl | rfl | rfl | rfl
  · exact a
  · exact b
  · exact c'
  · exact d
theorem m_walk (h : RN N v sc cnt w) (hs : s < sc) (hz : z ≤ 4000) {c : Nat} (hc : c < 4096) (ho : okp v s cnt c 4 = true) : f_m_walks (sV M v) (nI s) (nI z) (nI c) = some (sV (sW M (wv v s z c)) v) := by
  have o4 := okp_4 ho
  unfold f_m_walks
  refine bs rfl (bs rfl ?_)
  rw [sW_0]
  refine bs (x := sV (sW M (wv v s z c)) v) ?_ rfl
  show lp (4995 + 1 + 1 + 1 + 1 + 1) (b_m_walks_15 (nI s) (nI z) (nI c)) (nI 3, _) = _
  rw [lp_inl (m_wst h hs hz hc (by omega) (okr_t (o4 3 (by omega))).1 _)]
  show lp (4995 + 1 + 1 + 1 + 1) (b_m_walks_15 (nI s) (nI z) (nI c)) (nI 2, _) = _
  rw [lp_inl (m_wst h hs hz hc (by omega) (okr_t (o4 2 (by omega))).1 _)]
  show lp (4995 + 1 + 1 + 1) (b_m_walks_15 (nI s) (nI z) (nI c)) (nI 1, _) = _
  rw [lp_inl (m_wst h hs hz hc (by omega) (okr_t (o4 1 (by omega))).1 _)]
  show lp (4995 + 1 + 1) (b_m_walks_15 (nI s) (nI z) (nI c)) (nI 0, _) = _
  rw [lp_inl (m_wst h hs hz hc (by omega) (okr_t (o4 0 (by omega))).1 _)]
  refine lp_inr ?_
  unfold b_m_walks_15
  exact ip (show nI 0 + (-1) < (0 : Int32) from by decide) rfl
def fs (x : Int32 × Int64 × Int64) (n : Nat) (p : Int64 × Int64) : Int32 × Int64 × Int64 := if x.1 = -9 then (nI n, (65536 : Int64) - p.1, p.2) else if lg_cmp (((65536 : Int64) - p.1) * x.2.2) (x.2.1 * p.2) ≤ 0 then x else (nI n, (65536 : Int64) - p.1, p.2)
def FB (v : Vt) (s cnt z : Nat) : Nat → Int32 × Int64 × Int64
  | 0 => (-9, 0, 1)
  | n + 1 => if okp v s cnt n 4 = true then fs (FB v s cnt z n) n (wv v s z n) else FB v s cnt z n
def MB (v : Vt) (s cnt z : Nat) (M : Me) : Nat → Me
  | 0 => M
  | n + 1 => if okp v s cnt n 4 = true then sW (MB v s cnt z M n) (wv v s z n) else MB v s cnt z M n
theorem MB_1 (n : Nat) : (MB v s cnt z M n).1 = M.1 := by
  induction n with
  | zero => rfl
  | succ n ih =>
    show (if okp v s cnt n 4 = true then sW (MB v s cnt z M n) (wv v s z n) else MB v s cnt z M n).1 = M.1
    by_cases c : okp v s cnt n 4 = true
    · rw [if_pos c]; exact ih
    · rw [if_neg c]; exact ih
theorem m_bst (h : RN N v sc cnt w) (hs : s < sc) (hz : z ≤ 4000) (y : Int32) : lp FU (b_m_bestChain_43 (nI s) (nI z) y) ((-9), 0, 1, 0, sV M v) = some ((FB v s cnt z 4096).1, sV (MB v s cnt z M 4096) v) := by
  refine lp_n (fun k => ((FB v s cnt z k).1, (FB v s cnt z k).2.1, (FB v s cnt z k).2.2, nI k, sV (MB v s cnt z M k) v)) 4096 (lt_FU (by omega)) (fun k hk => ?_) ?_
  · have eF : FB v s cnt z (k + 1) = if okp v s cnt k 4 = true then fs (FB v s cnt z k) k (wv v s z k) else FB v s cnt z k := rfl
    have eM : MB v s cnt z M (k + 1) = if okp v s cnt k 4 = true then sW (MB v s cnt z M k) (wv v s z k) else MB v s cnt z M k := rfl
    unfold b_m_bestChain_43
    refine im (show ¬ (4096 : Int32) ≤ nI k from nle (n := 4096) hk (by omega)) (bs (m_seq h hs hk) ?_)
    rw [eF, eM]
    by_cases c : okp v s cnt k 4 = true
    · rw [if_pos c, if_pos c, if_pos c]
      refine im (by decide) (bs (m_walk h hs hz hk c) ?_)
      rw [sW_a, sW_b]
      by_cases c1 : (FB v s cnt z k).1 = -9
      · have e : fs (FB v s cnt z k) k (wv v s z k) = (nI k, (65536 : Int64) - (wv v s z k).1, (wv v s z k).2) := if_pos c1
        rw [e]
        exact ip c1 (by simp only [↓ob, IXr])
      · refine im c1 ?_
        by_cases c2 : lg_cmp (((65536 : Int64) - (wv v s z k).1) * (FB v s cnt z k).2.2) ((FB v s cnt z k).2.1 * (wv v s z k).2) ≤ 0
        · have e : fs (FB v s cnt z k) k (wv v s z k) = FB v s cnt z k := (if_neg c1).trans (if_pos c2)
          rw [e]
          exact ip c2 (by simp only [↓ob, IXr])
        · have e : fs (FB v s cnt z k) k (wv v s z k) = (nI k, (65536 : Int64) - (wv v s z k).1, (wv v s z k).2) := (if_neg c1).trans (if_neg c2)
          rw [e]
          exact im c2 (by simp only [↓ob, IXr])
    · rw [if_neg c, if_neg c, if_neg c]
      exact ip rfl (by simp only [↓ob, IXr])
  · unfold b_m_bestChain_43
    exact ip (show (4096 : Int32) ≤ nI 4096 from by decide) rfl
end L72
