/-! the best chain: the class's table -/
section L73
variable {C M X : Me} {N : Nt} {v : Vt} {sc cnt w s z : Nat}
def Bg (C X : Me) : Prop := (∀ f i a b, (f < 80 ∨ 90 < f) → X.1 f i a b = C.1 f i a b) ∧ (∀ f i a b, (f < 80 ∨ 90 < f) → X.2 f i a b = C.2 f i a b)
theorem Bg_0 : Bg C C := ⟨fun _ _ _ _ _ => rfl, fun _ _ _ _ _ => rfl⟩
theorem Bg_t {Y : Me} (h : Bg C X) (h2 : Bg X Y) : Bg C Y := ⟨fun f i a b q => (h2.1 f i a b q).trans (h.1 f i a b q), fun f i a b q => (h2.2 f i a b q).trans (h.2 f i a b q)⟩
theorem Bg_w {f i a b : Nat} {x : Int32} (h : Bg C X) (h1 : 80 ≤ f) (h2 : f ≤ 90) : Bg C (wI X f i a b x) := ⟨fun f' i' a' b' q => by
  show (if f' = f ∧ i' = i ∧ a' = a ∧ b' = b then x else X.1 f' i' a' b') = _
  rw [if_neg (fun e => by omega)]
  exact h.1 _ _ _ _ q, h.2⟩
theorem Bg_l {f i a b : Nat} {x : Int64} (h : Bg C X) (h1 : 80 ≤ f) (h2 : f ≤ 90) : Bg C (wL X f i a b x) := ⟨h.1, fun f' i' a' b' q => by
  show (if f' = f ∧ i' = i ∧ a' = a ∧ b' = b then x else X.2 f' i' a' b') = _
  rw [if_neg (fun e => by omega)]
  exact h.2 _ _ _ _ q⟩
theorem Bg_c {f i a : Nat} {g : Nat → Int32} {sp dp n : Nat} (h : Bg C X) (h1 : 80 ≤ f) (h2 : f ≤ 90) : Bg C (cI X f i a g sp dp n) := ⟨fun f' i' a' b' q => by
  show (if f' = f ∧ i' = i ∧ a' = a then va_cpy g (X.1 f i a) sp dp n b' else X.1 f' i' a' b') = _
  rw [if_neg (fun e => by omega)]
  exact h.1 _ _ _ _ q, h.2⟩
theorem Bg_r (h : RN (nN C 0) v sc cnt w) (e : Bg C X) : RN (nN X 0) v sc cnt w := RN_nn h (fun f a b q => e.1 f 0 a b (Or.inl (by omega))) (fun a b => e.2 39 0 a b (Or.inl (by omega)))
theorem w_k {f a b k j : Nat} {x : Int32} (h : j ≠ k) : (wI M f a b k x).1 f a b j = M.1 f a b j := if_neg (fun q => h q.2.2.2)
theorem w_c {f f' i i' a a' b b' : Nat} {x : Int32} (h : ¬ (f' = f ∧ i' = i ∧ a' = a ∧ b' = b)) : (wI M f i a b x).1 f' i' a' b' = M.1 f' i' a' b' := if_neg h
def nx (R : Nat → Nat) (q k p : Nat) : Nat := if p < q then R p else k
def Pm (v : Vt) (s cnt : Nat) (R : Nat → Nat) (q k : Nat) : Prop := (∀ d, d < nx R q k 0 → ¬ okr v s cnt d = true) ∧ ∀ p, p < q → okr v s cnt (R p) = true ∧ R p < k ∧ R p < nx R q k (p + 1) ∧ ∀ d, R p < d → d < nx R q k (p + 1) → ¬ okr v s cnt d = true
theorem nx_t {R : Nat → Nat} {q k p : Nat} (h : p < q) : nx R q k p = R p := if_pos h
theorem nx_f {R : Nat → Nat} {q k p : Nat} (h : ¬ p < q) : nx R q k p = k := if_neg h
theorem Pm_1 {R : Nat → Nat} {q k : Nat} (h : Pm v s cnt R q k) (ho : okr v s cnt k = true) : Pm v s cnt (fun p => if p = q then k else R p) (q + 1) (k + 1) := by
  obtain ⟨h1, h2⟩ := h
  have e : ∀ p, p ≤ q → nx (fun p => if p = q then k else R p) (q + 1) (k + 1) p = nx R q k p := fun p hp => by
    rw [nx_t (by omega)]
    show (if p = q then k else R p) = _
    by_cases c : p = q
    · rw [if_pos c, nx_f (by omega)]
    · rw [if_neg c, nx_t (by omega)]
  refine ⟨fun d hd => h1 d (by rw [e 0 (by omega)] at hd; exact hd), fun p hp => ?_⟩
  show okr v s cnt (if p = q then k else R p) = true ∧ (if p = q then k else R p) < k + 1 ∧ (if p = q then k else R p) < nx (fun p => if p = q then k else R p) (q + 1) (k + 1) (p + 1) ∧ ∀ d, (if p = q then k else R p) < d → _ → _
  by_cases c : p = q
  · rw [if_pos c]
    refine ⟨ho, by omega, by rw [nx_f (by omega)]; omega, fun d hd hd2 => ?_⟩
    rw [nx_f (by omega)] at hd2
    omega
  · obtain ⟨a1, a2, a4, a3⟩ := h2 p (by omega)
    rw [if_neg c]
    refine ⟨a1, by omega, by rw [e (p + 1) (by omega)]; exact a4, fun d hd hd2 => a3 d hd ?_⟩
    rw [e (p + 1) (by omega)] at hd2
    exact hd2
theorem Pm_0 {R : Nat → Nat} {q k : Nat} (h : Pm v s cnt R q k) (ho : ¬ okr v s cnt k = true) : Pm v s cnt R q (k + 1) := by
  obtain ⟨h1, h2⟩ := h
  have e : ∀ p d, d < nx R q (k + 1) p → d < nx R q k p ∨ d = k := fun p d hd => by
    by_cases c : p < q
    · rw [nx_t c] at hd; exact Or.inl (by rw [nx_t c]; exact hd)
    · rw [nx_f c] at hd; rw [nx_f c]; omega
  refine ⟨fun d hd => ?_, fun p hp => ?_⟩
  · rcases e 0 d hd with q1 | rfl
    · exact h1 d q1
    · exact ho
  · obtain ⟨a1, a2, a4, a3⟩ := h2 p hp
    refine ⟨a1, by omega, ?_, fun d hd hd2 => ?_⟩
    · by_cases c : p + 1 < q
      · rw [nx_t c] at a4 ⊢; exact a4
      · rw [nx_f c]; omega
    rcases e (p + 1) d hd2 with q1 | rfl
    · exact a3 d hd q1
    · exact ho
def Tq (v : Vt) (s z : Nat) (X : Me) (R : Nat → Nat) (q : Nat) : Prop := ∀ p, p < q → X.1 81 0 0 p = nI (R p) ∧ X.1 82 0 0 p = (65536 : Int32) - nI (kN v s (R p)) ∧ X.1 83 0 0 p = nI (trN v (R p) z) ∧ ∀ j, j < 7 → X.1 84 0 p j = nI (ttN v (R p) z j)
theorem c_tms (h : RN (nN C 0) v sc cnt w) (hz : z ≤ 4000) {r q : Nat} (hr : r < cnt) (hq : q < 8) {Y : Me} (g : Bg C Y) (e80 : Y.1 80 0 0 0 = nI q) : ∃ Y', lp FU (b_se_prepare_94 0 0 s (nI z) 0 (nI r)) (0, Y) = some Y' ∧ Bg C Y' ∧ (∀ f a b, ¬ (f = 84 ∧ a = q) → Y'.1 f 0 a b = Y.1 f 0 a b) ∧ ∀ j, j < 7 → Y'.1 84 0 q j = nI (ttN v r z j) := by
  refine lpI (fun k x => x.1 = nI k ∧ Bg C x.2 ∧ (∀ f a b, ¬ (f = 84 ∧ a = q) → x.2.1 f 0 a b = Y.1 f 0 a b) ∧ ∀ j, j < k → x.2.1 84 0 q j = nI (ttN v r z j)) _ 7 (by omega) (fun k x hk P => ?_) (fun x P => ?_) ⟨rfl, g, fun _ _ _ _ => rfl, fun j hj => absurd hj (by omega)⟩
  · obtain ⟨x1, X⟩ := x
    obtain ⟨rfl, p1, p2, p3⟩ := P
    have hX := Bg_r h p1
    have e8 : X.1 80 0 0 0 = nI q := (p2 80 0 0 (by omega)).trans e80
    have et := c_tt (C := X) (i := 0) (z := z) (j := k) hX.E hX.iR hr (by omega) hk
    rw [sN_e] at et
    refine ⟨(nI (k + 1), wI X 84 0 q k (nI (ttN v r z k))), ?_, rfl, Bg_w p1 (by decide) (by decide), fun f a b hf => ?_, fun j hj => ?_⟩
    · unfold b_se_prepare_94
      refine im (show ¬ (7 : Int32) ≤ nI k from nle (n := 7) hk (by omega)) (ip ?_ (bs et (ip (gin_nI hk (by omega)) ?_)))
      · show gin (X.1 80 0 0 0) 8
        rw [e8]
        exact gin_nI hq (by omega)
      · show (some (wI X 84 0 (tN (X.1 80 0 0 0)) (tN (nI k)) (nI (ttN v r z k)))).bind _ = _
        rw [e8, tN_nI (by omega), tN_nI (by omega)]
        simp only [↓ob, IXr]
    · show (wI X 84 0 q k (nI (ttN v r z k))).1 f 0 a b = _
      rw [w_c (fun e => hf ⟨e.1, e.2.2.1⟩)]
      exact p2 f a b hf
    · show (wI X 84 0 q k (nI (ttN v r z k))).1 84 0 q j = _
      by_cases c : j = k
      · rw [c]; exact w_s
      · rw [w_k c]; exact p3 j (by omega)
  · obtain ⟨x1, X⟩ := x
    obtain ⟨rfl, p1, p2, p3⟩ := P
    refine ⟨X, ?_, p1, p2, p3⟩
    unfold b_se_prepare_94
    exact ip (show (7 : Int32) ≤ nI 7 from by decide) rfl
theorem c_prep (h : RN (nN C 0) v sc cnt w) (hs : s < sc) (hz : z ≤ 4000) : ∃ X, f_se_prepare C 0 0 s (nI z) = some X ∧ Bg C X ∧ ∃ R q, q ≤ 8 ∧ X.1 80 0 0 0 = nI q ∧ Pm v s cnt R q cnt ∧ Tq v s z X R q := by
  have hl := h.lt
  unfold f_se_prepare
  have key : ∃ X, lp FU (b_se_prepare_14 0 0 s (nI z) 0) (0, wI C 80 0 0 0 0) = some X ∧ Bg C X ∧ ∃ R q, q ≤ 8 ∧ X.1 80 0 0 0 = nI q ∧ Pm v s cnt R q cnt ∧ Tq v s z X R q := by
    refine lpI (fun k x => x.1 = nI k ∧ Bg C x.2 ∧ ∃ R q, q ≤ k ∧ x.2.1 80 0 0 0 = nI q ∧ Pm v s cnt R q k ∧ Tq v s z x.2 R q) _ cnt (by omega) (fun k x hk P => ?_) (fun x P => ?_) ⟨rfl, Bg_w Bg_0 (by decide) (by decide), fun _ => 0, 0, by omega, w_s, ⟨fun d hd => absurd hd (by rw [nx_f (by omega)]; omega), fun p hp => absurd hp (by omega)⟩, fun p hp => absurd hp (by omega)⟩
    · obtain ⟨x1, X⟩ := x
      obtain ⟨rfl, p1, R, q, hq, e80, hP, hT⟩ := P
      have e80' : X.1 80 0 0 0 = nI q := e80
      have hX := Bg_r h p1
      have e10 : X.1 10 0 0 0 = nI cnt := (hX.E 10 0 0 rfl rfl).trans hX.iR.2.1
      have e20 : X.1 20 0 s k = v (aP s k) := ((hX.L s k (by omega) (by omega)).1 ⟨hs, hk⟩).1
      have pre : ∀ o : Option ((Int32 × Me) ⊕ Me), (if X.1 20 0 s (tN (nI k)) = 0 then some (.inl (nI k + 1, X)) else if gin (X.1 80 0 0 0) 8 then (some (wI X 81 0 0 (tN (X.1 80 0 0 0)) (nI k))).bind fun M7 => if gin (nI k) 8 then (f_lk_estimateOrZero M7 0 s (tN (nI k))).bind fun r9 => if gin (M7.1 80 0 0 0) 8 then (some (wI M7 82 0 0 (tN (M7.1 80 0 0 0)) ((65536 : Int32) - r9))).bind fun M11 => (f_tb_triesWithin M11 0 (nI k) (nI z) (M11.1 5 0 0 0)).bind fun r12 => if gin (M11.1 80 0 0 0) 8 then (some (wI M11 83 0 0 (tN (M11.1 80 0 0 0)) r12)).bind fun M14 => (lp FU (b_se_prepare_94 0 0 s (nI z) 0 (nI k)) (0, M14)).bind fun e22 => (some (wI e22 80 0 0 0 ((e22.1 80 0 0 0) + (1 : Int32)))).bind fun M23 => some (.inl (nI k + 1, M23)) else none else none else none else none) = o → b_se_prepare_14 0 0 s (nI z) 0 (nI k, X) = o := fun o ho => by
        unfold b_se_prepare_14
        refine im (fun e => nle hk (by omega) (e10 ▸ e)) (ip (gin_nI (by omega) (by omega)) ho)
      rcases hX.iL s k (by omega) (by omega) with ⟨-, -, -, -, ho, -⟩
      rcases ho with ho | ho
      · refine ⟨(nI (k + 1), X), pre _ (ip (by rw [tN_nI (by omega), e20]; exact ho) (by rw [IXr.2.1])), rfl, p1, R, q, by omega, e80', Pm_0 hP (fun e => by have e2 := (okr_t e).2; rw [ho] at e2; exact absurd e2 (by decide)), hT⟩
      · have hk1 : okr v s cnt k = true := by
          unfold okr
          rw [Bool.and_eq_true, decide_eq_true_eq, decide_eq_true_eq]
          exact ⟨hk, ho⟩
        have ei := c_eoz (C := wI X 81 0 0 q (nI k)) (i := 0) (s := s) (r := k) ((Bg_r h (Bg_w p1 (f := 81) (i := 0) (a := 0) (b := q) (x := nI k) (by decide) (by decide))).lk hs) hX.iL (by omega) hk hl.2
        rw [sN_e] at ei
        have gY := Bg_w (f := 82) (i := 0) (a := 0) (b := q) (x := (65536 : Int32) - nI (kN v s k)) (Bg_w p1 (f := 81) (i := 0) (a := 0) (b := q) (x := nI k) (by decide) (by decide)) (by decide) (by decide)
        have hY := Bg_r h gY
        have etr := c_tr (C := wI (wI X 81 0 0 q (nI k)) 82 0 0 q ((65536 : Int32) - nI (kN v s k))) (i := 0) (z := z) hY.E hY.iR hk (by omega) hY.iS.2.2.2.2.2.1
        rw [sN_e] at etr
        have e5 : (wI (wI X 81 0 0 q (nI k)) 82 0 0 q ((65536 : Int32) - nI (kN v s k))).1 5 0 0 0 = v 6 := hY.E 5 0 0 rfl rfl
        have e81 : (wI X 81 0 0 q (nI k)).1 80 0 0 0 = nI q := (w_o (by decide)).trans e80'
        have e82 : (wI (wI X 81 0 0 q (nI k)) 82 0 0 q ((65536 : Int32) - nI (kN v s k))).1 80 0 0 0 = nI q := (w_o (by decide)).trans e81
        have e83 : (wI (wI (wI X 81 0 0 q (nI k)) 82 0 0 q ((65536 : Int32) - nI (kN v s k))) 83 0 0 q (nI (trN v k z))).1 80 0 0 0 = nI q := (w_o (by decide)).trans e82
        obtain ⟨Y, t1, t2, t3, t4⟩ := c_tms (s := s) h hz hk (show q < 8 by omega) (Bg_w (f := 83) (i := 0) (a := 0) (b := q) (x := nI (trN v k z)) gY (by decide) (by decide)) e83
        refine ⟨(nI (k + 1), wI Y 80 0 0 0 (nI (q + 1))), pre _ ?_, rfl, Bg_w t2 (by decide) (by decide), fun p => if p = q then k else R p, q + 1, by omega, w_s, Pm_1 hP hk1, fun p hp => ?_⟩
        · refine im (by rw [tN_nI (by omega), e20, ho]; decide) (ip (by rw [e80']; exact gin_nI (by omega) (by omega)) ?_)
          rw [e80', tN_nI (by omega), tN_nI (by omega)]
          refine bs rfl (ip (gin_nI (by omega) (by omega)) (bs ei (ip (by rw [e81]; exact gin_nI (by omega) (by omega)) ?_)))
          rw [e81, tN_nI (by omega)]
          refine bs rfl ?_
          rw [e5]
          refine bs etr (ip (by rw [e82]; exact gin_nI (by omega) (by omega)) ?_)
          rw [e82, tN_nI (by omega)]
          refine bs rfl (bs t1 (bs rfl ?_))
          rw [t3 80 0 0 (by omega), e83, IXr.2.1, IXr.2.1]
        · have o : ∀ f a b, f ≠ 80 → (wI Y 80 0 0 0 (nI (q + 1))).1 f 0 a b = Y.1 f 0 a b := fun f a b hf => w_c (fun e => hf e.1)
          show (wI Y 80 0 0 0 (nI (q + 1))).1 81 0 0 p = nI (if p = q then k else R p) ∧ (wI Y 80 0 0 0 (nI (q + 1))).1 82 0 0 p = (65536 : Int32) - nI (kN v s (if p = q then k else R p)) ∧ (wI Y 80 0 0 0 (nI (q + 1))).1 83 0 0 p = nI (trN v (if p = q then k else R p) z) ∧ ∀ j, j < 7 → (wI Y 80 0 0 0 (nI (q + 1))).1 84 0 p j = nI (ttN v (if p = q then k else R p) z j)
          rw [o 81 0 p (by decide), o 82 0 p (by decide), o 83 0 p (by decide), t3 81 0 p (by omega), t3 82 0 p (by omega), t3 83 0 p (by omega)]
          by_cases c : p = q
          · rw [if_pos c, c]
            refine ⟨?_, ?_, w_s, fun j hj => by rw [o 84 q j (by decide)]; exact t4 j hj⟩
            · rw [w_c (by omega), w_c (by omega)]; exact w_s
            · rw [w_c (by omega)]; exact w_s
          · rw [if_neg c]
            obtain ⟨b1, b2, b3, b4⟩ := hT p (by omega)
            refine ⟨?_, ?_, ?_, fun j hj => ?_⟩
            · rw [w_c (by omega), w_c (by omega), w_c (by omega)]; exact b1
            · rw [w_c (by omega), w_c (by omega), w_c (by omega)]; exact b2
            · rw [w_c (by omega), w_c (by omega), w_c (by omega)]; exact b3
            · rw [o 84 p j (by decide), t3 84 p j (by omega), w_c (by omega), w_c (by omega), w_c (by omega)]
              exact b4 j hj
    · obtain ⟨x1, X⟩ := x
      obtain ⟨rfl, p1, R, q, hq, e80, hP, hT⟩ := P
      have hX := Bg_r h p1
      have e10 : X.1 10 0 0 0 = nI cnt := (hX.E 10 0 0 rfl rfl).trans hX.iR.2.1
      refine ⟨X, ?_, p1, R, q, by omega, e80, hP, hT⟩
      unfold b_se_prepare_14
      exact ip (by show X.1 10 0 0 0 ≤ nI cnt; rw [e10]; exact nle_s (by omega)) rfl
  obtain ⟨X, k1, k2⟩ := key
  exact ⟨X, bs rfl (bs k1 rfl), k2⟩
end L73
