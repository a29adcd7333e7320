/-! rates of a mode in the order of their speeds -/
def pre (v : Vt) (r q : Nat) : Prop := md v q = md v r ∧ (sp v q < sp v r ∨ (sp v q = sp v r ∧ q < r))
noncomputable def bf (v : Vt) (r : Nat) : Nat → Nat := cN (pre v r)
theorem cN_lt {p q : Nat → Prop} (h : ∀ k, q k → p k) {j : Nat} (h1 : p j) (h2 : ¬ q j) : ∀ n, j < n → cN q n < cN p n
  | 0, hj => absurd hj (by omega)
  | n + 1, hj => by
    have m := cN_m h n 0
    rw [Nat.zero_add] at m
    have m' : cN p 0 = 0 := rfl
    have m2 : cN q 0 = 0 := rfl
    by_cases e : j = n
    · subst e
      rw [cN_t h1, cN_f h2]
      omega
    · have ih := cN_lt h h1 h2 n (by omega)
      by_cases c : q n
      · rw [cN_t c, cN_t (h n c)]
        omega
      · rw [cN_f c]
        by_cases c2 : p n
        · rw [cN_t c2]; omega
        · rw [cN_f c2]; exact ih
theorem bf_lt {v : Vt} {r cnt : Nat} (hr : r < cnt) : bf v r cnt < cnt := by
  have := cN_lt (p := fun _ => True) (q := pre v r) (fun _ _ => trivial) (j := r) trivial (fun q => by have := q.2; omega) cnt hr
  have e := cN_b (fun _ => True) cnt
  show cN (pre v r) cnt < cnt
  omega
theorem bf_ne {v : Vt} {r r' cnt : Nat} (hr : r < cnt) (hr' : r' < cnt) (hm : md v r = md v r') (hne : r ≠ r') : bf v r cnt ≠ bf v r' cnt := by
  have key : ∀ a b, a < cnt → md v a = md v b → (sp v a < sp v b ∨ (sp v a = sp v b ∧ a < b)) → bf v a cnt < bf v b cnt := fun a b ha hab hlt =>
    cN_lt (p := pre v b) (q := pre v a) (fun k hk => ⟨hk.1.trans hab, by have := hk.2; omega⟩) (j := a) ⟨hab, hlt⟩ (fun q => by have := q.2; omega) cnt ha
  intro e
  rcases (show (sp v r < sp v r' ∨ (sp v r = sp v r' ∧ r < r')) ∨ (sp v r' < sp v r ∨ (sp v r' = sp v r ∧ r' < r)) by omega) with q | q
  · have := key r r' hr hm q
    omega
  · have := key r' r hr' hm.symm q
    omega
noncomputable def fA (v : Vt) (m j cnt : Nat) : Nat → Option Nat
  | 0 => none
  | n + 1 => pk (md v n = m ∧ bf v n cnt = j) n (fA v m j cnt n)
theorem fA_b {v : Vt} {m j cnt : Nat} : ∀ n b, fA v m j cnt n = some b → b < n ∧ md v b = m ∧ bf v b cnt = j
  | 0, b, h => by cases h
  | n + 1, b, h => by
    by_cases c : md v n = m ∧ bf v n cnt = j
    · have e : fA v m j cnt (n + 1) = some n := pk_t c
      rw [e] at h
      cases h
      exact ⟨by omega, c.1, c.2⟩
    · have e : fA v m j cnt (n + 1) = fA v m j cnt n := pk_f c
      rw [e] at h
      have := fA_b n b h
      exact ⟨by omega, this.2⟩
theorem fA_s {v : Vt} {m j cnt r : Nat} (hr : md v r = m ∧ bf v r cnt = j) : ∀ n, n ≤ cnt → r < n → fA v m j cnt n = some r
  | 0, _, h => absurd h (by omega)
  | n + 1, hn, h => by
    by_cases e : r = n
    · subst e
      exact pk_t hr
    · have e2 : fA v m j cnt (n + 1) = fA v m j cnt n := pk_f (fun q => bf_ne (v := v) (cnt := cnt) (show r < cnt by omega) (show n < cnt by omega) (hr.1.trans q.1.symm) e (hr.2.trans q.2.symm))
      rw [e2]
      exact fA_s hr n (by omega) (by omega)
theorem fA_n {v : Vt} {m j cnt : Nat} (hj : cnt ≤ j) : fA v m j cnt cnt = none := by
  cases e : fA v m j cnt cnt with
  | none => rfl
  | some b =>
    obtain ⟨q1, q2, q3⟩ := fA_b _ _ e
    have := bf_lt (v := v) q1
    omega
section L62
variable {C M : Me} {i : Nat} {N : Nt} {v : Vt} {sc cnt w s m j : Nat}
theorem m_bef (h : RN N v sc cnt w) {r : Nat} (hr : r < cnt) : f_m_before (sV M v) (nI r) = some (nI (bf v r cnt)) := by
  have hl := h.lt
  obtain ⟨a1, a2, a3, a4, a5⟩ := h.iR.m hr
  unfold f_m_before
  refine bs (x := nI (bf v r cnt)) ?_ rfl
  refine lp_n (fun k => (nI (bf v r k), nI k)) cnt (lt_FU (by omega)) (fun k hk => ?_) ?_
  · obtain ⟨b1, b2, b3, b4, b5⟩ := h.iR.m hk
    have e10 : ∀ q, q < 8 → (10 : Int32) + nI q = nI (10 + q) := fun q _ => by simp only [IXl]
    have e18 : ∀ q, q < 8 → (18 : Int32) + nI q = nI (18 + q) := fun q _ => by simp only [IXl]
    have g1 : ∀ q, q < 8 → gin ((10 : Int32) + nI q) 600 := fun q hq => gx (e10 q hq) (by omega) (by omega)
    have g2 : ∀ q, q < 8 → gin ((18 : Int32) + nI q) 600 := fun q hq => gx (e18 q hq) (by omega) (by omega)
    show _ = some (Sum.inl (nI (bf v r (k + 1)), nI (k + 1)))
    unfold b_m_before_4
    rw [t_1, rdV, h.iR.2.1]
    refine im (nle hk (by omega)) (ip (g1 k (by omega)) (ip (g1 r (by omega)) ?_))
    rw [rx (x := (10 : Int32) + nI k) (e10 k (by omega)) (by omega), rx (x := (10 : Int32) + nI r) (e10 r (by omega)) (by omega), rx (x := (18 : Int32) + nI k) (e18 k (by omega)) (by omega), rx (x := (18 : Int32) + nI r) (e18 r (by omega)) (by omega), a1, a3, b1, b3]
    by_cases c1 : md v k = md v r
    · refine ip (by rw [c1]) (ip (g2 k (by omega)) (ip (g2 r (by omega)) ?_))
      by_cases c2 : sp v k < sp v r
      · have e : bf v r (k + 1) = bf v r k + 1 := cN_t ⟨c1, Or.inl c2⟩
        refine ip ((nI_lt' (by omega) (by omega)).mpr c2) ?_
        rw [e]
        simp only [↓ob, IXr]
      · refine im (fun q => c2 ((nI_lt' (by omega) (by omega)).mp q)) (ip (g2 k (by omega)) (ip (g2 r (by omega)) ?_))
        by_cases c3 : sp v k = sp v r
        · refine ip (by rw [c3]) ?_
          by_cases c4 : r ≤ k
          · have e : bf v r (k + 1) = bf v r k := cN_f (fun q => by have := q.2; omega)
            refine ip ((nI_le' (by omega) (by omega)).mpr c4) ?_
            rw [e]
            simp only [↓ob, IXr]
            rfl
          · have e : bf v r (k + 1) = bf v r k + 1 := cN_t ⟨c1, Or.inr ⟨c3, by omega⟩⟩
            refine im (fun q => c4 ((nI_le' (by omega) (by omega)).mp q)) ?_
            rw [e]
            simp only [↓ob, IXr]
        · have e : bf v r (k + 1) = bf v r k := cN_f (fun q => by have := q.2; omega)
          refine im (fun q => c3 ((nI_j (by omega) (by omega)).mp q)) ?_
          rw [e]
          simp only [↓ob, IXr]
          rfl
    · have e : bf v r (k + 1) = bf v r k := cN_f (fun q => c1 q.1)
      refine im (fun q => c1 ((nI_j (by omega) (by omega)).mp q)) ?_
      rw [e]
      simp only [↓ob, IXr]
      rfl
  · unfold b_m_before_4
    rw [t_1, rdV, h.iR.2.1]
    exact ip (nle_s (by omega)) rfl
theorem c_plc (h : RN N v sc cnt w) {r : Nat} (hr : r < cnt) : f_tb_placeInMode (sN C i N) i (nI r) = some (nI (bf v r cnt)) := by
  have hl := h.lt
  obtain ⟨a1, a2, a3, a4, a5⟩ := h.iR.m hr
  have m11 : ∀ q, q < cnt → (sN C i N).1 11 i 0 (tN (nI q)) = nI (md v q) := fun q hq => by rw [rdN (by decide), tN_nI (by omega), h.E 11 0 q rfl (d11 (by omega))]; exact (h.iR.m hq).1
  have m12 : ∀ q, q < cnt → (sN C i N).1 12 i 0 (tN (nI q)) = nI (sp v q) := fun q hq => by rw [rdN (by decide), tN_nI (by omega), h.E 12 0 q rfl (d12 (by omega))]; exact (h.iR.m hq).2.2.1
  unfold f_tb_placeInMode
  refine bs (x := nI (bf v r cnt)) ?_ rfl
  refine lp_n (fun k => (nI (bf v r k), nI k)) cnt (lt_FU (by omega)) (fun k hk => ?_) ?_
  · obtain ⟨b1, b2, b3, b4, b5⟩ := h.iR.m hk
    have gk : gin (nI k) 8 := gin_nI (by omega) (by omega)
    have gr : gin (nI r) 8 := gin_nI (by omega) (by omega)
    show _ = some (Sum.inl (nI (bf v r (k + 1)), nI (k + 1)))
    unfold b_tb_placeInMode_4
    rw [c_cnt h]
    refine im (nle hk (by omega)) (ip gk (ip gr ?_))
    rw [m11 k hk, m11 r hr, m12 k hk, m12 r hr]
    by_cases c2 : sp v k < sp v r
    · refine ip ((nI_lt' (by omega) (by omega)).mpr c2) (ip gk (ip gr ?_))
      by_cases c1 : md v k = md v r
      · have e : bf v r (k + 1) = bf v r k + 1 := cN_t ⟨c1, Or.inl c2⟩
        refine ip (by rw [c1]) ?_
        rw [e]
        simp only [↓ob, IXr]
      · have e : bf v r (k + 1) = bf v r k := cN_f (fun q => c1 q.1)
        refine im (fun q => c1 ((nI_j (by omega) (by omega)).mp q)) ?_
        rw [e]
        simp only [↓ob, IXr]
    · refine im (fun q => c2 ((nI_lt' (by omega) (by omega)).mp q)) (ip gk (ip gr ?_))
      by_cases c3 : sp v k = sp v r
      · refine ip (by rw [c3]) ?_
        by_cases c4 : r ≤ k
        · have e : bf v r (k + 1) = bf v r k := cN_f (fun q => by have := q.2; omega)
          refine ip ((nI_le' (by omega) (by omega)).mpr c4) (ip gk (ip gr ?_))
          rw [e]
          by_cases c1 : md v k = md v r
          · refine ip (by rw [c1]) ?_
            simp only [↓ob, IXr]
          · refine im (fun q => c1 ((nI_j (by omega) (by omega)).mp q)) ?_
            simp only [↓ob, IXr]
        · refine im (fun q => c4 ((nI_le' (by omega) (by omega)).mp q)) (ip gk (ip gr ?_))
          by_cases c1 : md v k = md v r
          · have e : bf v r (k + 1) = bf v r k + 1 := cN_t ⟨c1, Or.inr ⟨c3, by omega⟩⟩
            refine ip (by rw [c1]) ?_
            rw [e]
            simp only [↓ob, IXr]
          · have e : bf v r (k + 1) = bf v r k := cN_f (fun q => c1 q.1)
            refine im (fun q => c1 ((nI_j (by omega) (by omega)).mp q)) ?_
            rw [e]
            simp only [↓ob, IXr]
      · have e : bf v r (k + 1) = bf v r k := cN_f (fun q => by have := q.2; omega)
        refine im (fun q => c3 ((nI_j (by omega) (by omega)).mp q)) (ip gk (ip gr ?_))
        rw [e]
        by_cases c1 : md v k = md v r
        · refine ip (by rw [c1]) ?_
          simp only [↓ob, IXr]
        · refine im (fun q => c1 ((nI_j (by omega) (by omega)).mp q)) ?_
          simp only [↓ob, IXr]
  · unfold b_tb_placeInMode_4
    rw [c_cnt h]
    exact ip (nle_s (by omega)) rfl
theorem m_plc (h : RN N v sc cnt w) (hm : m < 3) (hj : j < 2147483648) : f_m_atPlace (sV M v) (nI m) (nI j) = some (oI (fA v m j cnt cnt)) := by
  have hl := h.lt
  unfold f_m_atPlace
  refine bs (x := oI (fA v m j cnt cnt)) ?_ rfl
  refine lp_n (fun k => (oI (fA v m j cnt k), nI k)) cnt (lt_FU (by omega)) (fun k hk => ?_) ?_
  · obtain ⟨b1, b2, b3, b4, b5⟩ := h.iR.m hk
    have hbl := bf_lt (v := v) hk
    have e10 : (10 : Int32) + nI k = nI (10 + k) := by simp only [IXl]
    show _ = some (Sum.inl (oI (fA v m j cnt (k + 1)), nI (k + 1)))
    unfold b_m_atPlace_6
    rw [t_1, rdV, h.iR.2.1]
    refine im (nle hk (by omega)) (ip (gx e10 (by omega) (by omega)) ?_)
    rw [rx (x := (10 : Int32) + nI k) e10 (by omega), b1]
    by_cases c1 : md v k = m
    · refine ip (by rw [c1]) (bs (m_bef h hk) ?_)
      by_cases c2 : bf v k cnt = j
      · have e : fA v m j cnt (k + 1) = some k := pk_t ⟨c1, c2⟩
        refine ip (by rw [c2]) ?_
        rw [e]
        simp only [↓ob, IXr]
        rfl
      · have e : fA v m j cnt (k + 1) = fA v m j cnt k := pk_f (fun q => c2 q.2)
        refine im (fun q => c2 ((nI_j (by omega) hj).mp q)) ?_
        rw [e]
        simp only [↓ob, IXr]
    · have e : fA v m j cnt (k + 1) = fA v m j cnt k := pk_f (fun q => c1 q.1)
      refine im (fun q => c1 ((nI_j (by omega) (by omega)).mp q)) ?_
      rw [e]
      simp only [↓ob, IXr]
  · unfold b_m_atPlace_6
    rw [t_1, rdV, h.iR.2.1]
    exact ip (nle_s (by omega)) rfl
theorem c_ord (h : RN N v sc cnt w) (hm : m < 3) (hj : j < 2147483648) : f_tb_inOrderOfSpeed (sN C i N) i (nI m) (nI j) = some (oI (fA v m j cnt cnt)) := by
  have hl := h.lt
  have key : ∀ d k F, k + d = cnt → d < F → (∀ r, r < k → ¬ (md v r = m ∧ bf v r cnt = j)) → ∃ t, lp F (b_tb_inOrderOfSpeed_2 (sN C i N) i (nI m) (nI j)) (nI k) = some t ∧ Sum.elim (fun e9 => some (-9)) (fun o => some o) t = some (oI (fA v m j cnt cnt)) := by
    intro d
    induction d with
    | zero =>
      intro k F h1 h2 h3
      obtain ⟨F, rfl⟩ : ∃ G, F = G + 1 := ⟨F - 1, by omega⟩
      obtain rfl : k = cnt := by omega
      refine ⟨.inl (), lp_inr ?_, ?_⟩
      · unfold b_tb_inOrderOfSpeed_2
        rw [c_cnt h]
        exact ip (nle_s (by omega)) rfl
      · cases e : fA v m j k k with
        | none => rfl
        | some b =>
          obtain ⟨q1, q2, q3⟩ := fA_b _ _ e
          exact absurd ⟨q2, q3⟩ (h3 b q1)
    | succ d ih =>
      intro k F h1 h2 h3
      obtain ⟨F, rfl⟩ : ∃ G, F = G + 1 := ⟨F - 1, by omega⟩
      have hk : k < cnt := by omega
      obtain ⟨b1, b2, b3, b4, b5⟩ := h.iR.m hk
      have hbl := bf_lt (v := v) hk
      have m11 : (sN C i N).1 11 i 0 (tN (nI k)) = nI (md v k) := by rw [rdN (by decide), tN_nI (by omega), h.E 11 0 k rfl (d11 (by omega))]; exact b1
      have b : ∀ o, (if nI (md v k) = nI m then (f_tb_placeInMode (sN C i N) i (nI k)).bind fun r5 => if r5 = nI j then some (.inr (.inr (nI k))) else some (Sum.inl (nI (k + 1))) else some (.inl (nI (k + 1)))) = o → b_tb_inOrderOfSpeed_2 (sN C i N) i (nI m) (nI j) (nI k) = o := fun o q => by
        unfold b_tb_inOrderOfSpeed_2
        rw [c_cnt h]
        refine im (nle hk (by omega)) (ip (gin_nI (by omega) (by omega)) ?_)
        rw [m11]
        simp only [↓ob, IXr]
        exact q
      have go : b_tb_inOrderOfSpeed_2 (sN C i N) i (nI m) (nI j) (nI k) = some (.inl (nI (k + 1))) → ¬ (md v k = m ∧ bf v k cnt = j) → ∃ t, lp (F + 1) (b_tb_inOrderOfSpeed_2 (sN C i N) i (nI m) (nI j)) (nI k) = some t ∧ Sum.elim (fun e9 => some (-9)) (fun o => some o) t = some (oI (fA v m j cnt cnt)) := fun q1 q2 => by
        obtain ⟨t, t1, t2⟩ := ih (k + 1) F (by omega) (by omega) (fun r hr => by
          by_cases e : r = k
          · subst e; exact q2
          · exact h3 r (by omega))
        exact ⟨t, by rw [lp_inl q1]; exact t1, t2⟩
      by_cases c1 : md v k = m
      · by_cases c2 : bf v k cnt = j
        · refine ⟨_, lp_inr (b _ (ip (by rw [c1]) (bs (c_plc h hk) (ip (by rw [c2]) rfl)))), ?_⟩
          rw [fA_s ⟨c1, c2⟩ cnt (Nat.le_refl _) hk]
          rfl
        · exact go (b _ (ip (by rw [c1]) (bs (c_plc h hk) (im (fun q => c2 ((nI_j (by omega) hj).mp q)) rfl)))) (fun q => c2 q.2)
      · exact go (b _ (im (fun q => c1 ((nI_j (by omega) (by omega)).mp q)) rfl)) (fun q => c1 q.1)
  obtain ⟨t, t1, t2⟩ := key cnt 0 FU (by omega) (lt_FU (by omega)) (fun r hr => by omega)
  unfold f_tb_inOrderOfSpeed
  exact bs t1 t2
theorem q_rateOfMode (h : RN N v sc cnt w) (x y : Int32) : ∃ o, f_rc_rateOfMode (sN C 0 N) x y = some o ∧ f_m_rateOfMode (sV M v) x y = some o := by
  have hl := h.lt
  unfold f_rc_rateOfMode f_m_rateOfMode
  rcases mode_c x with ⟨m, hm, rfl, a1, a2⟩ | ⟨a1, a2⟩
  · by_cases c : y < 0
    · refine ⟨-1, bs a1 (im (by decide) (im (fun q => ?_) rfl)), bs a2 (im (by decide) (ip c rfl))⟩
      rw [lt0] at c
      rw [le_int, z_0] at q
      omega
    · have c' : 0 ≤ y.toInt := by rw [lt0] at c; omega
      have e := tN_int c'
      have hb := Int32.toInt_lt y
      obtain ⟨j, hj, rfl⟩ : ∃ j, j < 2147483648 ∧ y = nI j := ⟨tN y, by omega, nn_eq c'⟩
      exact ⟨_, bs a1 (im (by decide) (ip (by rw [le_int, z_0]; exact c') (bs (c_ord h hm hj) rfl))), bs a2 (im (by decide) (im c (bs (m_plc h hm hj) rfl)))⟩
  · exact ⟨-1, bs a1 (ip rfl rfl), bs a2 (ip rfl rfl)⟩
noncomputable def bM (v : Vt) (s m cnt : Nat) : Nat → Option Nat
  | 0 => none
  | k + 1 => match fA v m k cnt cnt with
    | none => bM v s m cnt k
    | some r => pk (al v s r ∧ ∀ b, bM v s m cnt k = some b → vN v s b < vN v s r) r (bM v s m cnt k)
theorem bM_n {k : Nat} (e : fA v m k cnt cnt = none) : bM v s m cnt (k + 1) = bM v s m cnt k := by
  show (match fA v m k cnt cnt with
    | none => bM v s m cnt k
    | some r => pk (al v s r ∧ ∀ b, bM v s m cnt k = some b → vN v s b < vN v s r) r (bM v s m cnt k)) = _
  rw [e]
theorem bM_s {k r : Nat} (e : fA v m k cnt cnt = some r) : bM v s m cnt (k + 1) = pk (al v s r ∧ ∀ b, bM v s m cnt k = some b → vN v s b < vN v s r) r (bM v s m cnt k) := by
  show (match fA v m k cnt cnt with
    | none => bM v s m cnt k
    | some r => pk (al v s r ∧ ∀ b, bM v s m cnt k = some b → vN v s b < vN v s r) r (bM v s m cnt k)) = _
  rw [e]
theorem bM_b : ∀ k b, bM v s m cnt k = some b → b < cnt
  | 0, b, h => by cases h
  | k + 1, b, h => by
    cases e : fA v m k cnt cnt with
    | none =>
      rw [bM_n e] at h
      exact bM_b k b h
    | some r =>
      rw [bM_s e] at h
      exact pk_b (fA_b _ _ e).1 (bM_b k) b h
theorem q_bestOfMode (h : RN N v sc cnt w) (x y : Int32) : ∃ o, f_rc_bestOfMode (sN C 0 N) x y = some o ∧ f_m_bestOfMode (sV M v) x y = some o := by
  have hl := h.lt
  unfold f_rc_bestOfMode f_m_bestOfMode
  rcases sta_c (C := C) (M := M) (i := 0) h x with ⟨s, hs, rfl, a1, a2⟩ | ⟨a1, a2⟩
  · rcases mode_c y with ⟨m, hm, rfl, b1, b2⟩ | ⟨b1, b2⟩
    · have hs4 : s < 4 := by omega
      have e8 : ∀ d, d + cnt ≤ 8 → bM v s m cnt (cnt + d) = bM v s m cnt cnt := by
        intro d
        induction d with
        | zero => intro _; rfl
        | succ d ih =>
          intro hd
          rw [show cnt + (d + 1) = (cnt + d) + 1 by omega, bM_n (fA_n (by omega))]
          exact ih (by omega)
      have e8' : bM v s m cnt 8 = bM v s m cnt cnt := by
        have := e8 (8 - cnt) (by omega)
        rw [show cnt + (8 - cnt) = 8 by omega] at this
        exact this
      refine ⟨oI (bM v s m cnt cnt), bs a1 ?_, bs a2 (im (by decide) (bs b2 (im (by decide) ?_)))⟩
      · rw [oe]
        refine bs b1 (im (by decide) (bs (x := oI (bM v s m cnt cnt)) ?_ rfl))
        unfold f_st_mostValuableOfMode
        refine bs (x := oI (bM v s m cnt cnt)) ?_ rfl
        let A : Option Nat → Nat := fun o => match o with
          | none => 0
          | some b => vN v s b
        refine lp_n (fun k => (oI (bM v s m cnt k), nI (A (bM v s m cnt k)), nI k)) cnt (lt_FU (by omega)) (fun k hk => ?_) ?_
        · show _ = some (Sum.inl (oI (bM v s m cnt (k + 1)), nI (A (bM v s m cnt (k + 1))), nI (k + 1)))
          unfold b_st_mostValuableOfMode_9
          rw [c_cnt h]
          refine im (nle hk (by omega)) (bs (c_ord h hm (show k < 2147483648 by omega)) ?_)
          cases e : fA v m k cnt cnt with
          | none =>
            have ch : f_tb_has (sN C 0 N) 0 (oI none) = some 0 := by
              unfold f_tb_has
              exact ip (by decide) rfl
            refine bs ch (ip rfl ?_)
            rw [bM_n e]
            simp only [↓ob, IXr]
          | some r =>
            obtain ⟨hr, -, -⟩ := fA_b _ _ e
            have gr : gin (oI (some r)) 8 := gin_nI (by omega) (by omega)
            have tr : tN (oI (some r)) = r := tN_nI (by omega)
            have e20 : (sN C 0 N).1 20 0 s r = v (aP s r) := by rw [rdN (by decide)]; exact (h.lk hs r hr).1
            have e13 : (sN C 0 N).1 13 0 0 r = nI (aN v r 1200) := by rw [rdN (by decide)]; exact h.M r hr
            have hal := (h.iL s r hs4 (by omega)).2.2.2.2.1
            have hvr := vN_b h.iL h.iR hs4 hr
            refine bs (c_hasv h.E h.iR hr) (im (by decide) (ip gr ?_))
            show (if (sN C 0 N).1 20 0 s (tN (oI (some r))) = 0 then _ else _) = _
            rw [tr, e20, bM_s e]
            by_cases c0 : v (aP s r) = 0
            · rw [pk_f (fun q => by have : v (aP s r) = 1 := q.1; rw [c0] at this; exact absurd this (by decide))]
              refine ip c0 ?_
              simp only [↓ob, IXr]
            · have c0' : al v s r := hal.resolve_left c0
              refine im c0 (ip gr (ip gr ?_))
              rw [e13]
              refine bs (c_vl (h.lk hs) h.iL h.iR hs4 hr) ?_
              cases eb : bM v s m cnt k with
              | none =>
                rw [pk_t ⟨c0', fun b q => by cases q⟩]
                refine ip rfl ?_
                simp only [↓ob, IXr]
                rfl
              | some b =>
                have hb := bM_b k b eb
                have hvb := vN_b h.iL h.iR hs4 hb
                refine im (show ¬ oI (some b) = -9 from ne9 (by omega)) ?_
                by_cases c2 : vN v s r ≤ vN v s b
                · rw [pk_f (fun q => by have := q.2 b rfl; omega)]
                  refine ip (show nI (vN v s r) ≤ nI (vN v s b) from (nI_le' (by omega) (by omega)).mpr c2) ?_
                  simp only [↓ob, IXr]
                · rw [pk_t ⟨c0', fun b' q => by cases q; omega⟩]
                  refine im (show ¬ nI (vN v s r) ≤ nI (vN v s b) from fun q => c2 ((nI_le' (by omega) (by omega)).mp q)) ?_
                  simp only [↓ob, IXr]
                  rfl
        · unfold b_st_mostValuableOfMode_9
          rw [c_cnt h]
          exact ip (nle_s (by omega)) rfl
      · refine bs (x := oI (bM v s m cnt 8)) ?_ (by rw [e8'])
        refine lp_n (fun k => (oI (bM v s m cnt k), nI k)) 8 (lt_FU (by omega)) (fun k hk => ?_) ?_
        · show _ = some (Sum.inl (oI (bM v s m cnt (k + 1)), nI (k + 1)))
          unfold b_m_bestOfMode_25
          refine im (show ¬ (8 : Int32) ≤ nI k from nle (n := 8) (by omega) (by omega)) (bs (m_plc h hm (show k < 2147483648 by omega)) ?_)
          cases e : fA v m k cnt cnt with
          | none =>
            refine ip rfl ?_
            rw [bM_n e]
            simp only [↓ob, IXr]
          | some r =>
            obtain ⟨hr, -, -⟩ := fA_b _ _ e
            have ma := m_al (M := M) (v := v) hs4 (show r < 8 by omega)
            have hvr := vN_b h.iL h.iR hs4 hr
            refine im (show ¬ oI (some r) = -9 from ne9 (by omega)) ?_
            rw [bM_s e]
            by_cases c0 : v (aP s r) = 1
            · rw [if_pos c0] at ma
              refine bs ma (im (by decide) ?_)
              cases eb : bM v s m cnt k with
              | none =>
                rw [pk_t ⟨c0, fun b q => by cases q⟩]
                refine ip rfl ?_
                simp only [↓ob, IXr]
              | some b =>
                have hb := bM_b k b eb
                have hvb := vN_b h.iL h.iR hs4 hb
                refine im (show ¬ oI (some b) = -9 from ne9 (by omega)) (bs (m_vl h.iL h.iR hs4 hr) (bs (m_vl h.iL h.iR hs4 hb) ?_))
                by_cases c2 : vN v s r ≤ vN v s b
                · rw [pk_f (fun q => by have := q.2 b rfl; omega)]
                  refine ip ((nI_le' (by omega) (by omega)).mpr c2) ?_
                  simp only [↓ob, IXr]
                · rw [pk_t ⟨c0, fun b' q => by cases q; omega⟩]
                  refine im (fun q => c2 ((nI_le' (by omega) (by omega)).mp q)) ?_
                  simp only [↓ob, IXr]
            · rw [if_neg c0] at ma
              rw [pk_f (fun q => c0 q.1)]
              refine bs ma (ip rfl ?_)
              simp only [↓ob, IXr]
        · unfold b_m_bestOfMode_25
          exact ip (show (8 : Int32) ≤ nI 8 from by decide) rfl
    · exact ⟨-1, bs a1 (bs b1 (ip rfl rfl)), bs a2 (im (by decide) (bs b2 (ip rfl rfl)))⟩
  · exact ⟨-1, bs a1 rfl, bs a2 (ip rfl rfl)⟩
end L62
