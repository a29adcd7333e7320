/-! arguments: stations, rates, chains, entries, sizes -/
theorem z_0 : ((0 : Int32)).toInt = 0 := rfl
theorem z_1 : ((1 : Int32)).toInt = 1 := rfl
theorem z_2 : ((2 : Int32)).toInt = 2 := rfl
theorem z_3 : ((3 : Int32)).toInt = 3 := rfl
theorem z_4 : ((4 : Int32)).toInt = 4 := rfl
theorem z_5 : ((5 : Int32)).toInt = 5 := rfl
theorem z_6 : ((6 : Int32)).toInt = 6 := rfl
theorem z_7 : ((7 : Int32)).toInt = 7 := rfl
theorem z_8 : ((8 : Int32)).toInt = 8 := rfl
theorem z_10 : ((10 : Int32)).toInt = 10 := rfl
theorem z_20 : ((20 : Int32)).toInt = 20 := rfl
theorem z_50 : ((50 : Int32)).toInt = 50 := rfl
theorem z_100 : ((100 : Int32)).toInt = 100 := rfl
theorem z_1000 : ((1000 : Int32)).toInt = 1000 := rfl
theorem z_4000 : ((4000 : Int32)).toInt = 4000 := rfl
theorem z_10000 : ((10000 : Int32)).toInt = 10000 := rfl
theorem z_65535 : ((65535 : Int32)).toInt = 65535 := rfl
theorem z_100000 : ((100000 : Int32)).toInt = 100000 := rfl
theorem z_1000000 : ((1000000 : Int32)).toInt = 1000000 := rfl
theorem z_1g : ((1000000000 : Int32)).toInt = 1000000000 := rfl
theorem z_max : ((2147483647 : Int32)).toInt = 2147483647 := rfl
theorem m_inT {x lo hi : Int32} (h : lo.toInt ≤ x.toInt ∧ x.toInt ≤ hi.toInt) : f_m_in x lo hi = some 1 := by
  unfold f_m_in
  rw [if_neg (fun q => by rw [lt_int] at q; omega), if_neg (fun q => by rw [lt_int] at q; omega)]
theorem m_inF {x lo hi : Int32} (h : ¬ (lo.toInt ≤ x.toInt ∧ x.toInt ≤ hi.toInt)) : f_m_in x lo hi = some 0 := by
  unfold f_m_in
  by_cases c : x < lo
  · rw [if_pos c]
  · rw [if_neg c, if_pos]
    rw [lt_int] at c ⊢
    omega
theorem in_c (x : Int32) (n : Nat) : (∃ k, k < n ∧ x = nI k) ∨ ¬ (0 ≤ x.toInt ∧ x.toInt < n) := by
  by_cases h : 0 ≤ x.toInt ∧ x.toInt < n
  · have e := tN_int h.1
    exact Or.inl ⟨tN x, by omega, nn_eq h.1⟩
  · exact Or.inr h
theorem sub1 : ∀ n, n < 9 → (nI n - 1).toInt = (n : Int) - 1 := by decide +kernel
theorem c_sc {C : Me} {i : Nat} {N : Nt} {v : Vt} {sc cnt w : Nat} (h : RN N v sc cnt w) : (sN C i N).1 0 i 0 0 = nI sc := by rw [rdN (by decide), h.E 0 0 0 rfl rfl]; exact h.iS.2.1
theorem sta_t {C : Me} {i : Nat} {N : Nt} {v : Vt} {sc cnt w s : Nat} (h : RN N v sc cnt w) (hs : s < sc) : f_nt_stationAt (sN C i N) i (nI s) = some (some (i, s)) := by
  have hl := h.lt
  unfold f_nt_stationAt
  rw [if_neg (nI_pos (show s < 2 ^ 31 by omega)), c_sc h, if_neg (nle hs (by omega)), if_neg (show ¬ (4 : Int32) ≤ nI s from nle (n := 4) (by omega) (by omega)), if_pos (gin_nI (k := s) (n := 4) (by omega) (by omega)), tN_nI (by omega)]
theorem m_sta_t {M : Me} {N : Nt} {v : Vt} {sc cnt w s : Nat} (h : RN N v sc cnt w) (hs : s < sc) : f_m_isStation (sV M v) (nI s) = some 1 := by
  have hl := h.lt
  have e2 := sub1 sc (by omega)
  unfold f_m_isStation
  rw [t_2, rdV, h.iS.2.1]
  refine bs (m_inT ?_) (if_pos (Or.inr rfl))
  rw [z_0, e2, nI_i (by omega)]
  omega
theorem sta_c {C M : Me} {i : Nat} {N : Nt} {v : Vt} {sc cnt w : Nat} (h : RN N v sc cnt w) (x : Int32) : (∃ s, s < sc ∧ x = nI s ∧ f_nt_stationAt (sN C i N) i x = some (some (i, s)) ∧ f_m_isStation (sV M v) x = some 1) ∨ (f_nt_stationAt (sN C i N) i x = some none ∧ f_m_isStation (sV M v) x = some 0) := by
  have hl := h.lt
  rcases in_c x sc with ⟨s, hs, rfl⟩ | q
  · exact Or.inl ⟨s, hs, rfl, sta_t h hs, m_sta_t h hs⟩
  · refine Or.inr ⟨?_, ?_⟩
    · unfold f_nt_stationAt
      by_cases c : x < 0
      · rw [if_pos c]
      · rw [lt0] at c
        rw [if_neg (fun z => c (lt0.mp z)), c_sc h, if_pos (by rw [le_int, nI_i (by omega)]; omega)]
    · have e2 := sub1 sc (by omega)
      unfold f_m_isStation
      rw [t_2, rdV, h.iS.2.1]
      refine bs (m_inF ?_) (if_pos (Or.inl rfl))
      rw [z_0, e2]
      omega
theorem rate_c {C M : Me} {i : Nat} {N : Nt} {v : Vt} {sc cnt w : Nat} (h : RN N v sc cnt w) (x : Int32) : (∃ r, r < cnt ∧ x = nI r ∧ f_tb_has (sN C i N) i x = some 1 ∧ f_m_isRate (sV M v) x = some 1) ∨ (f_tb_has (sN C i N) i x = some 0 ∧ f_m_isRate (sV M v) x = some 0) := by
  have hl := h.lt
  have e2 := sub1 cnt (by omega)
  rcases in_c x cnt with ⟨r, hr, rfl⟩ | q
  · refine Or.inl ⟨r, hr, rfl, c_hasv h.E h.iR hr, ?_⟩
    unfold f_m_isRate
    rw [t_1, rdV, h.iR.2.1]
    refine bs (m_inT ?_) (if_pos (Or.inr rfl))
    rw [z_0, e2, nI_i (by omega)]
    omega
  · refine Or.inr ⟨?_, ?_⟩
    · unfold f_tb_has
      by_cases c : x < 0
      · rw [if_pos c]
      · rw [lt0] at c
        rw [if_neg (fun z => c (lt0.mp z)), c_cnt h, if_pos (by rw [le_int, nI_i (by omega)]; omega)]
    · unfold f_m_isRate
      rw [t_1, rdV, h.iR.2.1]
      refine bs (m_inF ?_) (if_pos (Or.inl rfl))
      rw [z_0, e2]
      omega
theorem link_c {C M : Me} {i : Nat} {N : Nt} {v : Vt} {sc cnt w : Nat} (h : RN N v sc cnt w) (x y : Int32) : (∃ s r, s < sc ∧ r < cnt ∧ x = nI s ∧ y = nI r ∧ f_nt_linkAt (sN C i N) i x y = some (some (i, s, r)) ∧ f_m_areBoth (sV M v) x y = some 1) ∨ (f_nt_linkAt (sN C i N) i x y = some none ∧ f_m_areBoth (sV M v) x y = some 0) := by
  have hl := h.lt
  unfold f_nt_linkAt f_m_areBoth
  rcases sta_c (C := C) (M := M) (i := i) h x with ⟨s, hs, rfl, a1, a2⟩ | ⟨a1, a2⟩
  · rw [a1, a2]
    rcases rate_c (C := C) (M := M) (i := i) h y with ⟨r, hr, rfl, b1, b2⟩ | ⟨b1, b2⟩
    · refine Or.inl ⟨s, r, hs, hr, rfl, rfl, ?_, ?_⟩
      · refine bs rfl (bs b1 (im (by decide) ?_))
        rw [if_pos (gin_nI (by omega) (by omega)), tN_nI (by omega)]
      · exact bs rfl (im (by decide) (bs b2 (im (by decide) rfl)))
    · refine Or.inr ⟨?_, ?_⟩
      · exact bs rfl (bs b1 (ip rfl rfl))
      · exact bs rfl (im (by decide) (bs b2 (ip rfl rfl)))
  · rw [a1, a2]
    exact Or.inr ⟨rfl, bs rfl (ip rfl rfl)⟩
theorem ch_t {C M : Me} {i : Nat} {N : Nt} {v : Vt} {sc cnt w c : Nat} (h : RN N v sc cnt w) (hc : c < 6) (ho : v (aO c) = 1) : f_nt_chainAt (sN C i N) i (nI c) = some (some (i, c)) ∧ f_m_isOpen (sV M v) (nI c) = some 1 := by
  have e50 : (sN C i N).1 50 i c 0 = v (aO c) := by rw [rdN (by decide)]; exact h.E 50 c 0 rfl (dO (by simp) hc)
  have hO : aO c = 420 + 16 * c := rfl
  refine ⟨?_, ?_⟩
  · unfold f_nt_chainAt
    rw [if_neg (nI_pos (show c < 2 ^ 31 by omega)), if_neg (show ¬ (6 : Int32) ≤ nI c from nle (n := 6) (by omega) (by omega)), if_pos (gin_nI (k := c) (n := 6) (by omega) (by omega)), tN_nI (by omega), e50, ho, if_neg (by decide), if_pos (gin_nI (k := c) (n := 6) (by omega) (by omega))]
  · unfold f_m_isOpen f_m_open
    refine bs (m_inT (by rw [z_0, z_5, nI_i (by omega)]; omega)) (im (by decide) ?_)
    simp (disch := omega) only [↓ob, ↓reduceIte, IXl, IXm, IXr, gin_t, tN_nI, rdV]
    exact ip ho rfl
theorem ch_c {C M : Me} {i : Nat} {N : Nt} {v : Vt} {sc cnt w : Nat} (h : RN N v sc cnt w) (x : Int32) : (∃ c, c < 6 ∧ x = nI c ∧ v (aO c) = 1 ∧ f_nt_chainAt (sN C i N) i x = some (some (i, c)) ∧ f_m_isOpen (sV M v) x = some 1) ∨ (f_nt_chainAt (sN C i N) i x = some none ∧ f_m_isOpen (sV M v) x = some 0) := by
  rcases in_c x 6 with ⟨c, hc, rfl⟩ | q
  · have hO : aO c = 420 + 16 * c := rfl
    by_cases ho : v (aO c) = 1
    · exact Or.inl ⟨c, hc, rfl, ho, ch_t h hc ho⟩
    · have e50 : (sN C i N).1 50 i c 0 = v (aO c) := by rw [rdN (by decide)]; exact h.E 50 c 0 rfl (dO (by simp) hc)
      refine Or.inr ⟨?_, ?_⟩
      · unfold f_nt_chainAt
        rw [if_neg (nI_pos (show c < 2 ^ 31 by omega)), if_neg (show ¬ (6 : Int32) ≤ nI c from nle (n := 6) (by omega) (by omega)), if_pos (gin_nI (k := c) (n := 6) (by omega) (by omega)), tN_nI (by omega), e50, if_pos ((h.iC c hc).1.resolve_right ho)]
      · unfold f_m_isOpen f_m_open
        refine bs (m_inT (by rw [z_0, z_5, nI_i (by omega)]; omega)) (im (by decide) ?_)
        simp (disch := omega) only [↓ob, ↓reduceIte, IXl, IXm, IXr, gin_t, tN_nI, rdV]
        exact im ho rfl
  · refine Or.inr ⟨?_, ?_⟩
    · unfold f_nt_chainAt
      by_cases c : x < 0
      · rw [if_pos c]
      · rw [lt0] at c
        rw [if_neg (fun z => c (lt0.mp z)), if_pos (by rw [le_int, z_6]; omega)]
    · unfold f_m_isOpen
      exact bs (m_inF (by rw [z_0, z_5]; omega)) (ip rfl rfl)
theorem ent_c (x : Int32) : (∃ k, k < 4 ∧ x = nI k ∧ f_rc_isEntry x = some 1 ∧ f_m_in x 0 3 = some 1) ∨ (f_rc_isEntry x = some 0 ∧ f_m_in x 0 3 = some 0) := by
  rcases in_c x 4 with ⟨k, hk, rfl⟩ | q
  · refine Or.inl ⟨k, hk, rfl, ?_, m_inT (by rw [z_0, z_3, nI_i (by omega)]; omega)⟩
    unfold f_rc_isEntry
    rw [if_neg (nI_pos (show k < 2 ^ 31 by omega)), if_neg (show ¬ (4 : Int32) ≤ nI k from nle (n := 4) (by omega) (by omega))]
  · refine Or.inr ⟨?_, m_inF (by rw [z_0, z_3]; omega)⟩
    unfold f_rc_isEntry
    by_cases c : x < 0
    · rw [if_pos c]
    · rw [lt0] at c
      rw [if_neg (fun z => c (lt0.mp z)), if_pos (by rw [le_int, z_4]; omega)]
theorem mode_c (x : Int32) : (∃ k, k < 3 ∧ x = nI k ∧ f_rc_isMode x = some 1 ∧ f_m_in x 0 2 = some 1) ∨ (f_rc_isMode x = some 0 ∧ f_m_in x 0 2 = some 0) := by
  rcases in_c x 3 with ⟨k, hk, rfl⟩ | q
  · refine Or.inl ⟨k, hk, rfl, ?_, m_inT (by rw [z_0, z_2, nI_i (by omega)]; omega)⟩
    unfold f_rc_isMode
    rw [if_neg (nI_pos (show k < 2 ^ 31 by omega)), if_neg (show ¬ (3 : Int32) ≤ nI k from nle (n := 3) (by omega) (by omega))]
  · refine Or.inr ⟨?_, m_inF (by rw [z_0, z_2]; omega)⟩
    unfold f_rc_isMode
    by_cases c : x < 0
    · rw [if_pos c]
    · rw [lt0] at c
      rw [if_neg (fun z => c (lt0.mp z)), if_pos (by rw [le_int, z_3]; omega)]
theorem frame_c (x : Int32) : (∃ z, 1 ≤ z ∧ z ≤ 4000 ∧ x = nI z ∧ f_rc_isFrame x = some 1 ∧ f_m_in x 1 4000 = some 1) ∨ (f_rc_isFrame x = some 0 ∧ f_m_in x 1 4000 = some 0) := by
  rcases in_c x 4001 with ⟨k, hk, rfl⟩ | q
  · have ek : (nI k).toInt = (k : Int) := nI_i (by omega)
    by_cases c : k = 0
    · subst c
      exact Or.inr ⟨rfl, rfl⟩
    · refine Or.inl ⟨k, by omega, by omega, rfl, ?_, m_inT (by rw [z_1, z_4000, ek]; omega)⟩
      unfold f_rc_isFrame
      rw [if_neg (fun z => by rw [lt_int, z_1, ek] at z; omega), if_neg (fun z => by rw [lt_int, z_4000, ek] at z; omega)]
  · refine Or.inr ⟨?_, m_inF (by rw [z_1, z_4000]; omega)⟩
    unfold f_rc_isFrame
    by_cases c : x < 1
    · rw [if_pos c]
    · rw [lt_int, z_1] at c
      rw [if_neg (fun z => c (by rw [lt_int, z_1] at z; exact z)), if_pos (by rw [lt_int, z_4000]; omega)]
theorem size_c (x : Int32) : (∃ z, 1 ≤ z ∧ z ≤ 65535 ∧ x = nI z ∧ f_rc_isSize x = some 1 ∧ f_m_in x 1 65535 = some 1) ∨ (f_rc_isSize x = some 0 ∧ f_m_in x 1 65535 = some 0) := by
  rcases in_c x 65536 with ⟨k, hk, rfl⟩ | q
  · have ek : (nI k).toInt = (k : Int) := nI_i (by omega)
    by_cases c : k = 0
    · subst c
      exact Or.inr ⟨rfl, rfl⟩
    · refine Or.inl ⟨k, by omega, by omega, rfl, ?_, m_inT (by rw [z_1, z_65535, ek]; omega)⟩
      unfold f_rc_isSize
      rw [if_neg (fun z => by rw [lt_int, z_1, ek] at z; omega), if_neg (fun z => by rw [lt_int, z_65535, ek] at z; omega)]
  · refine Or.inr ⟨?_, m_inF (by rw [z_1, z_65535]; omega)⟩
    unfold f_rc_isSize
    by_cases c : x < 1
    · rw [if_pos c]
    · rw [lt_int, z_1] at c
      rw [if_neg (fun z => c (by rw [lt_int, z_1] at z; exact z)), if_pos (by rw [lt_int, z_65535]; omega)]
/-! whether a station has an allowed rate -/
def hA (v : Vt) (s cnt : Nat) : Prop := ∃ r, r < cnt ∧ al v s r
theorem c_hA {C : Me} {i : Nat} {N : Nt} {v : Vt} {sc cnt w s : Nat} (h : RN N v sc cnt w) (hs : s < sc) : (hA v s cnt → f_st_hasAllowedRate (sN C i N) i s i = some 1) ∧ (¬ hA v s cnt → f_st_hasAllowedRate (sN C i N) i s i = some 0) := by
  have hl := h.lt
  have key : ∀ d k F, k + d = cnt → d < F → (∀ r, r < k → ¬ al v s r) → ∃ t, lp F (b_st_hasAllowedRate_2 (sN C i N) i s i) (nI k) = some t ∧ (hA v s cnt → t = .inr 1) ∧ (¬ hA v s cnt → t = .inl ()) := by
    intro d
    induction d with
    | zero =>
      intro k F h1 h2 h3
      obtain ⟨F, rfl⟩ : ∃ G, F = G + 1 := ⟨F - 1, by omega⟩
      refine ⟨.inl (), lp_inr ?_, fun ⟨r, q1, q2⟩ => absurd q2 (h3 r (by omega)), fun _ => rfl⟩
      unfold b_st_hasAllowedRate_2
      rw [c_cnt h, if_pos (by rw [show k = cnt by omega]; exact nle_s (by omega))]
    | succ d ih =>
      intro k F h1 h2 h3
      obtain ⟨F, rfl⟩ : ∃ G, F = G + 1 := ⟨F - 1, by omega⟩
      have e20 : (sN C i N).1 20 i s k = v (aP s k) := by rw [rdN (by decide)]; exact (h.lk hs k (by omega)).1
      have b : b_st_hasAllowedRate_2 (sN C i N) i s i (nI k) = if v (aP s k) = 0 then some (.inl (nI (k + 1))) else some (.inr (.inr 1)) := by
        unfold b_st_hasAllowedRate_2
        rw [c_cnt h, if_neg (nle (by omega) (by omega)), if_pos (gin_nI (by omega) (by omega)), tN_nI (by omega), e20]
        simp only [↓ob, IXr]
      by_cases c : v (aP s k) = 0
      · rw [if_pos c] at b
        obtain ⟨t, t1, t2⟩ := ih (k + 1) F (by omega) (by omega) (fun r hr => by
          by_cases e : r = k
          · subst e
            intro z
            have : v (aP s r) = 1 := z
            rw [c] at this
            exact absurd this (by decide)
          · exact h3 r (by omega))
        exact ⟨t, by rw [lp_inl b]; exact t1, t2⟩
      · rw [if_neg c] at b
        have a : al v s k := (h.iL s k (by omega) (by omega)).2.2.2.2.1.resolve_left c
        exact ⟨_, lp_inr b, fun _ => rfl, fun q => absurd ⟨k, by omega, a⟩ q⟩
  obtain ⟨t, t1, t2, t3⟩ := key cnt 0 FU (by omega) (lt_FU (by omega)) (fun r hr => by omega)
  unfold f_st_hasAllowedRate
  rw [show (0 : Int32) = nI 0 from rfl, t1, ob]
  exact ⟨fun q => by rw [t2 q]; rfl, fun q => by rw [t3 q]; rfl⟩
theorem hA_s {v : Vt} {s k : Nat} : hA v s (k + 1) ↔ hA v s k ∨ al v s k := by
  constructor
  · rintro ⟨r, h1, h2⟩
    by_cases e : r = k
    · subst e; exact Or.inr h2
    · exact Or.inl ⟨r, by omega, h2⟩
  · rintro (⟨r, h1, h2⟩ | h)
    · exact ⟨r, by omega, h2⟩
    · exact ⟨k, by omega, h⟩
theorem m_hA {M : Me} {N : Nt} {v : Vt} {sc cnt w s : Nat} (h : RN N v sc cnt w) (hs : s < sc) : (hA v s cnt → f_m_hasAllowed (sV M v) (nI s) = some 1) ∧ (¬ hA v s cnt → f_m_hasAllowed (sV M v) (nI s) = some 0) := by
  have hl := h.lt
  have key : ∀ d k F (x : Int32), k + d = cnt → d < F → (x = 0 ∨ x = 1) → (x = 0 ↔ ¬ hA v s k) → ∃ t, lp F (b_m_hasAllowed_4 (sV M v) (nI s)) (x, nI k) = some t ∧ (t = 0 ∨ t = 1) ∧ (t = 0 ↔ ¬ hA v s cnt) := by
    intro d
    induction d with
    | zero =>
      intro k F x h1 h2 h3 h4
      obtain ⟨F, rfl⟩ : ∃ G, F = G + 1 := ⟨F - 1, by omega⟩
      obtain rfl : k = cnt := by omega
      refine ⟨x, lp_inr ?_, h3, h4⟩
      unfold b_m_hasAllowed_4
      show (if (sV M v).1 100 0 0 (tN 1) ≤ nI k then _ else _) = _
      rw [t_1, rdV, h.iR.2.1, if_pos (nle_s (by omega))]
    | succ d ih =>
      intro k F x h1 h2 h3 h4
      obtain ⟨F, rfl⟩ : ∃ G, F = G + 1 := ⟨F - 1, by omega⟩
      have b : b_m_hasAllowed_4 (sV M v) (nI s) (x, nI k) = if x = 0 then (if v (aP s k) = 1 then some (.inl (1, nI (k + 1))) else some (.inl (0, nI (k + 1)))) else some (.inl (1, nI (k + 1))) := by
        unfold b_m_hasAllowed_4
        show (if (sV M v).1 100 0 0 (tN 1) ≤ nI k then _ else _) = _
        rw [t_1, rdV, h.iR.2.1, if_neg (nle (by omega) (by omega)), m_al (by omega) (by omega)]
        simp only [↓ob, IXr]
        by_cases cx : x = 0
        · rw [if_pos cx, if_pos cx]
          by_cases c : v (aP s k) = 1
          · rw [if_pos c, if_pos c, if_neg (by decide)]
          · rw [if_neg c, if_neg c, if_pos rfl]
        · rw [if_neg cx, if_neg cx]
      have go : ∀ y : Int32, b_m_hasAllowed_4 (sV M v) (nI s) (x, nI k) = some (.inl (y, nI (k + 1))) → (y = 0 ∨ y = 1) → (y = 0 ↔ ¬ hA v s (k + 1)) → ∃ t, lp (F + 1) (b_m_hasAllowed_4 (sV M v) (nI s)) (x, nI k) = some t ∧ (t = 0 ∨ t = 1) ∧ (t = 0 ↔ ¬ hA v s cnt) := fun y q1 q2 q3 => by
        obtain ⟨t, t1, t2⟩ := ih (k + 1) F y (by omega) (by omega) q2 q3
        exact ⟨t, by rw [lp_inl q1]; exact t1, t2⟩
      by_cases c : x = 0
      · rw [if_pos c] at b
        by_cases c2 : v (aP s k) = 1
        · rw [if_pos c2] at b
          exact go _ b (Or.inr rfl) ⟨fun q => absurd q (by decide), fun q => absurd (hA_s.mpr (Or.inr c2)) q⟩
        · rw [if_neg c2] at b
          exact go _ b (Or.inl rfl) ⟨fun _ q => (hA_s.mp q).elim (h4.mp c) c2, fun _ => rfl⟩
      · rw [if_neg c] at b
        have : hA v s k := Classical.byContradiction fun z => c (h4.mpr z)
        exact go _ b (Or.inr rfl) ⟨fun q => absurd q (by decide), fun q => absurd (hA_s.mpr (Or.inl this)) q⟩
  obtain ⟨t, t1, t2, t3⟩ := key cnt 0 FU 0 (by omega) (lt_FU (by omega)) (Or.inl rfl) ⟨fun _ ⟨r, q, _⟩ => absurd q (by omega), fun _ => rfl⟩
  have e : f_m_hasAllowed (sV M v) (nI s) = some t := by
    unfold f_m_hasAllowed
    exact bs t1 (if_pos t2)
  exact ⟨fun q => by rw [e, t2.resolve_left (fun z => t3.mp z q)], fun q => by rw [e, t3.mpr q]⟩
/-! the free chain -/
noncomputable def fc (v : Vt) : Nat → Nat → Option Nat
  | 0, _ => none
  | d + 1, k => @ite _ (v (aO k) = 0) (Classical.propDecidable _) (some k) (fc v d (k + 1))
theorem fc_t {v : Vt} {d k : Nat} (h : v (aO k) = 0) : fc v (d + 1) k = some k := if_pos h
theorem fc_f {v : Vt} {d k : Nat} (h : ¬ v (aO k) = 0) : fc v (d + 1) k = fc v d (k + 1) := if_neg h
theorem fc_b {v : Vt} : ∀ d k c, fc v d k = some c → k ≤ c ∧ c < k + d ∧ v (aO c) = 0
  | 0, k, c, h => by cases h
  | d + 1, k, c, h => by
    by_cases z : v (aO k) = 0
    · rw [fc_t z] at h
      cases h
      exact ⟨Nat.le_refl _, by omega, z⟩
    · rw [fc_f z] at h
      have := fc_b d (k + 1) c h
      exact ⟨by omega, by omega, this.2.2⟩
noncomputable def frC (v : Vt) : Option Nat := fc v 6 0
theorem frC_b {v : Vt} {c : Nat} (h : frC v = some c) : c < 6 ∧ v (aO c) = 0 := by
  have := fc_b 6 0 c h
  exact ⟨by omega, this.2.2⟩
theorem c_fc {C : Me} {i : Nat} {N : Nt} {v : Vt} (hE : RE N v) : f_nt_freeChain (sN C i N) i = some (oI (frC v)) := by
  have key : ∀ d k F, k + d = 6 → d < F → ∃ t, lp F (b_nt_freeChain_2 (sN C i N) i) (nI k) = some t ∧ Sum.elim (fun e6 => some (-9)) (fun o => some o) t = some (oI (fc v d k)) := by
    intro d
    induction d with
    | zero =>
      intro k F h1 h2
      obtain ⟨F, rfl⟩ : ∃ G, F = G + 1 := ⟨F - 1, by omega⟩
      refine ⟨.inl (), lp_inr ?_, rfl⟩
      unfold b_nt_freeChain_2
      rw [if_pos (by rw [show k = 6 by omega]; decide)]
    | succ d ih =>
      intro k F h1 h2
      obtain ⟨F, rfl⟩ : ∃ G, F = G + 1 := ⟨F - 1, by omega⟩
      have e50 : (sN C i N).1 50 i k 0 = v (aO k) := by rw [rdN (by decide)]; exact hE 50 k 0 rfl (dO (by simp) (by omega))
      have b : b_nt_freeChain_2 (sN C i N) i (nI k) = if v (aO k) = 0 then some (.inr (.inr (nI k))) else some (.inl (nI (k + 1))) := by
        unfold b_nt_freeChain_2
        rw [if_neg (show ¬ (6 : Int32) ≤ nI k from nle (n := 6) (by omega) (by omega)), if_pos (gin_nI (by omega) (by omega)), tN_nI (by omega), e50]
        simp only [↓ob, IXr]
      by_cases c : v (aO k) = 0
      · rw [if_pos c] at b
        exact ⟨_, lp_inr b, by rw [fc_t c]; rfl⟩
      · rw [if_neg c] at b
        obtain ⟨t, t1, t2⟩ := ih (k + 1) F (by omega) (by omega)
        exact ⟨t, by rw [lp_inl b]; exact t1, by rw [fc_f c]; exact t2⟩
  obtain ⟨t, t1, t2⟩ := key 6 0 FU (by omega) (lt_FU (by omega))
  unfold f_nt_freeChain
  exact bs t1 t2
theorem m_fc {M : Me} {v : Vt} : f_m_freeChain (sV M v) = some (oI (frC v)) := by
  have stp : ∀ k d, k + d + 1 = 6 → ∀ y : Int32, y = nI k - 1 → b_m_freeChain_5 (sV M v) (oI (fc v d (k + 1)), nI k) = some (.inl (oI (fc v (d + 1) k), y)) := by
    intro k d hd y hy
    have e1 : nI k + (-1 : Int32) = y := by
      rw [hy]
      rcases (show k = 0 ∨ k = 1 ∨ k = 2 ∨ k = 3 ∨ k = 4 ∨ k = 5 by omega) with rfl | rfl | rfl | rfl | rfl | rfl <;> decide
    unfold b_m_freeChain_5 f_m_open
    rw [if_neg (nI_pos (show k < 2 ^ 31 by omega))]
    simp (disch := omega) only [↓ob, ↓reduceIte, IXl, IXm, IXr, gin_t, tN_nI, rdV]
    rw [e1]
    by_cases c : v (aO k) = 0
    · rw [fc_t c]
      exact ip c rfl
    · rw [fc_f c]
      exact im c rfl
  have last : b_m_freeChain_5 (sV M v) (oI (fc v 6 0), (-1 : Int32)) = some (.inr (oI (fc v 6 0))) := by
    unfold b_m_freeChain_5
    show (if (-1 : Int32) < 0 then _ else _) = _
    rw [if_pos (by decide)]
  unfold f_m_freeChain
  refine bs (x := oI (fc v 6 0)) ?_ rfl
  show lp (4993 + 1 + 1 + 1 + 1 + 1 + 1 + 1) (b_m_freeChain_5 (sV M v)) (oI (fc v 0 6), nI 5) = _
  rw [lp_inl (stp 5 0 rfl (nI 4) rfl), lp_inl (stp 4 1 rfl (nI 3) rfl), lp_inl (stp 3 2 rfl (nI 2) rfl), lp_inl (stp 2 3 rfl (nI 1) rfl), lp_inl (stp 1 4 rfl (nI 0) rfl), lp_inl (stp 0 5 rfl (-1) rfl)]
  exact lp_inr last
