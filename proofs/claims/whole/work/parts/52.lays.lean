/-! laying a chain: the three kinds -/
def qF (p : Nat → Nat) : Nat → Nat := fun k => if k = 0 then p 2 else p 3
def qS (p : Nat → Nat) (its r : Nat) : Nat → Nat := fun k => if k = its then r else if k < 2 then p 0 else p k
section L52
variable {N : Nt} {v V : Vt} {sc cnt w s r f c k z : Nat} {x y : Int32} {q t p : Nat → Nat}
theorem eO_sw {a b : Int32} : eO c (eO c V 1 a b) 0 x y = eO c (eO c V 0 x y) 1 a b := by
  unfold eO
  rw [up_c (a := aO c + 9 + 1) (b := aO c + 5 + 0) (by omega), up_c (a := aO c + 5 + 1) (b := aO c + 5 + 0) (by omega), up_c (a := aO c + 9 + 1) (b := aO c + 9 + 0) (by omega), up_c (a := aO c + 5 + 1) (b := aO c + 9 + 0) (by omega)]
theorem RN_fin {N0 : Nt} {v0 : Vt} {kd : Nat} (h0 : RN N0 v0 sc cnt w) (h : RX N V sc cnt w) (hc : c < 6) (hs : s < sc) (hz : 1 ≤ z ∧ z ≤ 4000) (hkd : kd ≤ 2) (f1 : ∀ c', c' < 6 → c' ≠ c → (∀ j, j < 16 → V (aO c' + j) = v0 (aO c' + j)) ∧ N.1 54 c' 0 = N0.1 54 c' 0)
    (g0 : V (aO c) = 1) (g1 : V (aO c + 1) = nI s) (g2 : V (aO c + 2) = nI z) (g3 : V (aO c + 3) = nI kd) (g4 : kd = 1 → (N.1 54 c 0 = 0 ∧ V (aO c + 4) = nI (q 0)) ∨ (N.1 54 c 0 = 1 ∧ V (aO c + 4) = nI (q 1))) (g5 : ∀ k, k < 4 → q k < cnt ∧ 1 ≤ t k ∧ t k ≤ 7) : RN (nw N c q t 4) (lw c V q t 4) sc cnt w := by
  have e : ∀ j, j < aO c + 5 → lw c V q t 4 j = V j := fun j hj => lw_o (Or.inl hj) 4 (by omega)
  have e5 := (lw_E (c := c) (V := V) (q := q) (t := t) (j := 0) 4 (by omega) (by omega)).1
  have e6 := (lw_E (c := c) (V := V) (q := q) (t := t) (j := 1) 4 (by omega) (by omega)).1
  refine RN_lay (q := q) (t := t) (kd := kd) (s := s) (z := z) h0 (RX_cw h hc) hc hs hz hkd (fun c' h1 h2 => ⟨fun j hj => ?_, ?_⟩) (by rw [e _ (by omega)]; exact g0) (by rw [e _ (by omega)]; exact g1) (by rw [e _ (by omega)]; exact g2) (by rw [e _ (by omega)]; exact g3) (fun q1 => ?_) (fun k hk => ?_)
  · rw [lw_o (by show 420 + 16 * c' + j < 420 + 16 * c + 5 ∨ 420 + 16 * c + 13 ≤ 420 + 16 * c' + j; omega) 4 (by omega)]
    exact (f1 c' h1 h2).1 j hj
  · rw [nw_o (by decide)]
    exact (f1 c' h1 h2).2
  · rw [nw_o (by decide), e _ (by omega)]
    rcases g4 q1 with ⟨a1, a2⟩ | ⟨a1, a2⟩
    · exact Or.inl ⟨a1, a2.trans e5.symm⟩
    · exact Or.inr ⟨a1, a2.trans e6.symm⟩
  · obtain ⟨a1, a2⟩ := lw_E (c := c) (V := V) (q := q) (t := t) (j := k) 4 (by omega) hk
    obtain ⟨b1, b2, b3⟩ := g5 k hk
    exact ⟨a1, b1, a2, b2, b3⟩
section M52
variable {M : Me} {v0 : Vt}
theorem m_plain (hR : IR v0 cnt) (hb : wi 100 (v0 6) 100000) (hag : ∀ j, j < 30 → v j = v0 j) (hz2 : v (aO c + 2) = nI z) (hz : z ≤ 65535) (hc : c < 6) (hs : s < 4) (hp : ∀ k, k < 4 → v (aS s + 18 + k) = nI (p k) ∧ p k < cnt) : f_m_layPlain (sV M v) (nI c) (nI s) = some (sV M (lw c (upd v (aO c + 3) 0) p (fun k => trN v0 (p k) z) 4)) := by
  have hO : aO c = 420 + 16 * c := rfl
  have hS : aS s = 290 + 32 * s := rfl
  unfold f_m_layPlain
  refine bs (so c) (ip (gx (k := 420 + 16 * c + 3) (by simp only [IXr]) (by omega) (by omega)) (bs (wx (k := 420 + 16 * c + 3) (by simp only [IXr]) (by omega)) (bs ?_ rfl)))
  refine lp_n (fun k => (nI k, sV M (lw c (upd v (aO c + 3) 0) p (fun k => trN v0 (p k) z) k))) 4 (lt_FU (by omega)) (fun k hk => ?_) ?_
  · have ek : ∀ j, j < 420 ∨ j = aO c + 2 → lw c (upd v (aO c + 3) 0) p (fun k => trN v0 (p k) z) k j = v j := fun j hj => by
      rw [lw_o (by omega) k (by omega), up_n (by omega)]
    have mr := m_role (M := M) (v := lw c (upd v (aO c + 3) 0) p (fun k => trN v0 (p k) z) k) hs hk
    rw [ek _ (by omega), (hp k hk).1] at mr
    unfold b_m_layPlain_14
    refine im (show ¬ (4 : Int32) ≤ nI k from nle (n := 4) (by omega) (by omega)) (bs mr (bs (m_full hR hb (fun j hj => by rw [ek j (by omega)]; exact hag j hj) (by rw [ek _ (Or.inr rfl)]; exact hz2) hz (hp k hk).2 hc hk) ?_))
    simp only [↓ob, IXr]
    rfl
  · unfold b_m_layPlain_14
    exact ip (show (4 : Int32) ≤ nI 4 from by decide) rfl
theorem m_fall (hR : IR v0 cnt) (hb : wi 100 (v0 6) 100000) (hag : ∀ j, j < 30 → v j = v0 j) (hz2 : v (aO c + 2) = nI z) (hz : z ≤ 65535) (hc : c < 6) (hs : s < 4) (hp : ∀ k, k < 4 → v (aS s + 18 + k) = nI (p k) ∧ p k < cnt) : f_m_layFallback (sV M v) (nI c) (nI s) = some (sV M (rfV (lw c (upd v (aO c + 3) 2) (qF p) (fun k => trN v0 (qF p k) z) 4) s (-9) (-9) (-9))) := by
  have hO : aO c = 420 + 16 * c := rfl
  have hS : aS s = 290 + 32 * s := rfl
  have ek : ∀ k, k ≤ 4 → ∀ j, j < 420 ∨ j = aO c + 2 → lw c (upd v (aO c + 3) 2) (qF p) (fun k => trN v0 (qF p k) z) k j = v j := fun k hk j hj => by
    rw [lw_o (by omega) k hk, up_n (by omega)]
  unfold f_m_layFallback
  refine bs (so c) (ip (gx (k := 420 + 16 * c + 3) (by simp only [IXr]) (by omega) (by omega)) (bs (wx (k := 420 + 16 * c + 3) (by simp only [IXr]) (by omega)) ?_))
  have mr := m_role (M := M) (v := upd v (aO c + 3) 2) hs (show 2 < 4 by decide)
  rw [up_n (by omega), (hp 2 (by omega)).1] at mr
  have e0 := ek 0 (by omega)
  rw [lw_0] at e0
  refine bs mr (bs (m_full (k := 0) (z := z) hR hb (fun j hj => by rw [show upd v (420 + 16 * c + 3) 2 j = v j from e0 j (by omega)]; exact hag j hj) (by rw [show upd v (420 + 16 * c + 3) 2 (aO c + 2) = v (aO c + 2) from e0 _ (Or.inr rfl)]; exact hz2) hz (hp 2 (by omega)).2 hc (by omega)) ?_)
  refine bs (x := sV M (lw c (upd v (aO c + 3) 2) (qF p) (fun k => trN v0 (qF p k) z) 4)) ?_ (bs (m_rf hs) rfl)
  refine lp_go (fun k => (nI k, sV M (lw c (upd v (aO c + 3) 2) (qF p) (fun k => trN v0 (qF p k) z) k))) 3 1 FU (lt_FU (by omega)) (fun k hk1 hk => ?_) ?_
  · have mr := m_role (M := M) (v := lw c (upd v (aO c + 3) 2) (qF p) (fun k => trN v0 (qF p k) z) k) hs (show 3 < 4 by decide)
    rw [ek k (by omega) _ (by omega), (hp 3 (by omega)).1] at mr
    have eq : qF p k = p 3 := if_neg (by omega)
    unfold b_m_layFallback_26
    refine im (show ¬ (4 : Int32) ≤ nI k from nle (n := 4) (by omega) (by omega)) (bs mr (bs (m_full hR hb (fun j hj => by rw [ek k (by omega) j (by omega)]; exact hag j hj) (by rw [ek k (by omega) _ (Or.inr rfl)]; exact hz2) hz (hp 3 (by omega)).2 hc (by omega)) ?_))
    simp only [↓ob, IXr]
    rw [lw_s, eq]
  · unfold b_m_layFallback_26
    exact ip (show (4 : Int32) ≤ nI 4 from by decide) rfl
theorem m_smp (hR : IR v0 cnt) (hb : wi 100 (v0 6) 100000) (hag : ∀ j, j < 30 → v j = v0 j) (hz2 : v (aO c + 2) = nI z) (hz : z ≤ 65535) (hc : c < 6) (hs : s < 4) (hp : ∀ k, k < 4 → v (aS s + 18 + k) = nI (p k) ∧ p k < cnt) (hr : r < cnt) {its : Nat} (hi : its = if aN v0 (p 0) 1200 < aN v0 r 1200 then 1 else 0) : f_m_laySampling (sV M v) (nI c) (nI s) (nI r) = some (sV M (upd (lw c (upd (upd v (aO c + 3) 1) (aO c + 4) (nI r)) (qS p its r) (fun k => if k = its then 1 else trN v0 (qS p its r k) z) 4) (aS s + 1) (v (aS s + 1) + 1))) := by
  have hO : aO c = 420 + 16 * c := rfl
  have hS : aS s = 290 + 32 * s := rfl
  have h8 := hR.1
  obtain ⟨V, hV⟩ : ∃ V, V = upd (upd v (aO c + 3) 1) (aO c + 4) (nI r) := ⟨_, rfl⟩
  have eV : ∀ j, j < 420 ∨ j = aO c + 2 → V j = v j := fun j hj => by rw [hV, up_n (by omega), up_n (by omega)]
  have hRV : IR V cnt := by
    refine ⟨h8, by rw [eV 1 (by omega), hag 1 (by omega)]; exact hR.2.1, fun j hj => ?_⟩
    rw [eV _ (by omega), eV _ (by omega), hag _ (by omega), hag _ (by omega)]
    exact hR.2.2 j hj
  have aV : ∀ j y, j < 8 → aN V j y = aN v0 j y := fun j y hj => by
    show airN (tN (V (10 + j))) (tN (V (18 + j))) y = airN (tN (v0 (10 + j))) (tN (v0 (18 + j))) y
    rw [eV _ (by omega), eV _ (by omega), hag _ (by omega), hag _ (by omega)]
  have p0 := (hp 0 (by omega)).2
  have n1 := m_nom (M := M) hRV hr
  have n2 := m_nom (M := M) hRV p0
  rw [aV _ _ (by omega)] at n1 n2
  have a1 := airN_b (m := md v0 r) (p := sp v0 r) (z := 1200) (hR.m hr).2.2.2.1 (by omega)
  have a2 := airN_b (m := md v0 (p 0)) (p := sp v0 (p 0)) (z := 1200) (hR.m p0).2.2.2.1 (by omega)
  have a1' : aN v0 r 1200 ≤ 600000 := a1.2
  have a2' : aN v0 (p 0) 1200 ≤ 600000 := a2.2
  -- roles and full entries at any array that agrees
  have rol : ∀ (W : Vt) k, (∀ j, j < 420 ∨ j = aO c + 2 → W j = v j) → k < 4 → f_m_roleOf (sV M W) (nI s) (nI k) = some (nI (p k)) := fun W k hW hk => by
    have := m_role (M := M) (v := W) hs hk
    rw [hW _ (by omega), (hp k hk).1] at this
    exact this
  have ful : ∀ (W : Vt) k j, (∀ j, j < 420 ∨ j = aO c + 2 → W j = v j) → k < 4 → j < cnt → f_m_fullEntry (sV M W) (nI c) (nI k) (nI j) = some (sV M (eO c W k (nI j) (nI (trN v0 j z)))) := fun W k j hW hk hj =>
    m_full hR hb (fun l hl => by rw [hW l (by omega)]; exact hag l hl) (by rw [hW _ (Or.inr rfl)]; exact hz2) hz hj hc hk
  have eE : ∀ (W : Vt) k x y, (∀ j, j < 420 ∨ j = aO c + 2 → W j = v j) → k < 4 → ∀ j, j < 420 ∨ j = aO c + 2 → eO c W k x y j = v j := fun W k x y hW hk j hj => by
    unfold eO
    rw [up_n (by omega), up_n (by omega)]
    exact hW j hj
  have fin : ∀ W : Vt, W (aS s + 1) = v (aS s + 1) → ∀ o, some (sV M (upd W (aS s + 1) (v (aS s + 1) + 1))) = o → ((f_m_side (nI s)).bind fun r18 => if gin (r18 + (1 : Int32)) 600 then if gin (r18 + (1 : Int32)) 600 then (some (wI (sV M W) 100 0 0 (tN (r18 + (1 : Int32))) (((sV M W).1 100 0 0 (tN (r18 + (1 : Int32)))) + (1 : Int32)))).bind fun M21 => some M21 else none else none) = o := fun W hW o q => by
    refine bs (sd s) (ip (gx (k := 290 + 32 * s + 1) (by simp only [IXr]) (by omega) (by omega)) (ip (gx (k := 290 + 32 * s + 1) (by simp only [IXr]) (by omega) (by omega)) ?_))
    rw [rx (k := 290 + 32 * s + 1) (by simp only [IXr]) (by omega), show W (290 + 32 * s + 1) = v (aS s + 1) from hW]
    exact bs (wx (k := 290 + 32 * s + 1) (by simp only [IXr]) (by omega)) q
  unfold f_m_laySampling
  refine bs (so c) (ip (gx (k := 420 + 16 * c + 3) (by simp only [IXr]) (by omega) (by omega)) (bs (wx (k := 420 + 16 * c + 3) (by simp only [IXr]) (by omega)) ?_))
  refine bs (so c) (ip (gx (k := 420 + 16 * c + 4) (by simp only [IXr]) (by omega) (by omega)) (bs (wx (k := 420 + 16 * c + 4) (by simp only [IXr]) (by omega)) ?_))
  rw [show upd (upd v (420 + 16 * c + 3) 1) (420 + 16 * c + 4) (nI r) = V from hV.symm]
  refine bs n1 (bs (rol V 0 eV (by omega)) (bs n2 ?_))
  by_cases b : aN v0 (p 0) 1200 < aN v0 r 1200
  · rw [if_pos b] at hi
    subst hi
    refine ip ((nI_lt' (by omega) (by omega)).mpr b) ?_
    have w1 := eE V 1 (nI r) (nI 1) eV (by omega)
    refine bs (m_entry (k := 1) (x := nI r) (y := nI 1) hc (by omega)) (bs (rol _ 0 w1 (by omega)) (bs (ful _ 0 _ w1 (by omega) p0) ?_))
    have w2 := eE _ 0 (nI (p 0)) (nI (trN v0 (p 0) z)) w1 (by omega)
    refine bs (rol _ 2 w2 (by omega)) (bs (ful _ 2 _ w2 (by omega) (hp 2 (by omega)).2) ?_)
    have w3 := eE _ 2 (nI (p 2)) (nI (trN v0 (p 2) z)) w2 (by omega)
    refine bs (rol _ 3 w3 (by omega)) (bs (ful _ 3 _ w3 (by omega) (hp 3 (by omega)).2) ?_)
    have w4 := eE _ 3 (nI (p 3)) (nI (trN v0 (p 3) z)) w3 (by omega)
    refine fin _ (w4 _ (by omega)) _ ?_
    rw [eO_sw]
    rfl
  · rw [if_neg b] at hi
    subst hi
    refine im (fun q => b ((nI_lt' (by omega) (by omega)).mp q)) ?_
    have w1 := eE V 0 (nI r) (nI 1) eV (by omega)
    refine bs (m_entry (k := 0) (x := nI r) (y := nI 1) hc (by omega)) (bs (rol _ 0 w1 (by omega)) ?_)
    rw [show (1 : Int32) - (0 : Int32) = nI 1 from rfl]
    refine bs (ful _ 1 _ w1 (by omega) p0) ?_
    have w2 := eE _ 1 (nI (p 0)) (nI (trN v0 (p 0) z)) w1 (by omega)
    refine bs (rol _ 2 w2 (by omega)) (bs (ful _ 2 _ w2 (by omega) (hp 2 (by omega)).2) ?_)
    have w3 := eE _ 2 (nI (p 2)) (nI (trN v0 (p 2) z)) w2 (by omega)
    refine bs (rol _ 3 w3 (by omega)) (bs (ful _ 3 _ w3 (by omega) (hp 3 (by omega)).2) ?_)
    have w4 := eE _ 3 (nI (p 3)) (nI (trN v0 (p 3) z)) w3 (by omega)
    refine fin _ (w4 _ (by omega)) _ ?_
    rfl
end M52
section C52
variable {C : Me} {i : Nat}
theorem c_chF (h37 : ¬ N.1 37 s 0 = 0) (hp : ∀ k, k < 4 → N.1 41 s k = nI (p k)) : f_nt_chooseRates (sN C i N) i i c i s x = some (sN C i (nw (uN (uN N 54 c 0 (-9)) 53 c 0 2) c (qF p) t 0)) := by
  have e41 : ∀ k, k < 4 → (sN C i N).1 41 i s k = nI (p k) := fun k hk => by rw [rdN (by decide)]; exact hp k hk
  have e37 : (sN C i (uN N 54 c 0 (-9))).1 37 i s 0 = N.1 37 s 0 := by rw [rdN (by decide), uN_f (by decide)]
  unfold f_nt_chooseRates
  refine bs (x := sN C i (uN N 54 c 0 (-9))) (by rw [wrN (by decide)]) ?_
  rw [e37]
  refine im h37 (bs (x := sN C i (uN (uN N 54 c 0 (-9)) 53 c 0 2)) (by rw [wrN (by decide)]) ?_)
  rw [t_2, t_3, e41 2 (by omega), e41 3 (by omega)]
  exact bs (c_setR (q := qF p)) rfl
theorem c_chP (h37 : N.1 37 s 0 = 0) (hp : ∀ k, k < 4 → N.1 41 s k = nI (p k)) : f_nt_chooseRates (sN C i N) i i c i s (-9) = some (sN C i (nw (uN (uN N 54 c 0 (-9)) 53 c 0 0) c p t 0)) := by
  have e41 : ∀ k, k < 4 → (sN C i N).1 41 i s k = nI (p k) := fun k hk => by rw [rdN (by decide)]; exact hp k hk
  have e37 : (sN C i (uN N 54 c 0 (-9))).1 37 i s 0 = N.1 37 s 0 := by rw [rdN (by decide), uN_f (by decide)]
  unfold f_nt_chooseRates
  refine bs (x := sN C i (uN N 54 c 0 (-9))) (by rw [wrN (by decide)]) ?_
  rw [e37]
  refine ip h37 (ip rfl (bs (x := sN C i (uN (uN N 54 c 0 (-9)) 53 c 0 0)) (by rw [wrN (by decide)]) ?_))
  rw [t_0, t_1, t_2, t_3, e41 0 (by omega), e41 1 (by omega), e41 2 (by omega), e41 3 (by omega)]
  exact bs (c_setR (q := p)) rfl
theorem c_chS {v0 : Vt} (h37 : N.1 37 s 0 = 0) (hp : ∀ k, k < 4 → N.1 41 s k = nI (p k)) (hE : RE N v0) (hR : IR v0 cnt) (hM : RM N v0 cnt) (p0 : p 0 < cnt) (hr : r < cnt) {its : Nat} (hi : its = if aN v0 (p 0) 1200 < aN v0 r 1200 then 1 else 0) : f_nt_chooseRates (sN C i N) i i c i s (nI r) = some (sN C i (nw (uN (uN (uN (uN N 54 c 0 (-9)) 33 s 0 (N.1 33 s 0 + 1)) 53 c 0 1) 54 c 0 (nI its)) c (qS p its r) t 0)) := by
  have h8 := hR.1
  have e41 : ∀ k, k < 4 → (sN C i N).1 41 i s k = nI (p k) := fun k hk => by rw [rdN (by decide)]; exact hp k hk
  have e37 : (sN C i (uN N 54 c 0 (-9))).1 37 i s 0 = N.1 37 s 0 := by rw [rdN (by decide), uN_f (by decide)]
  have e33 : (sN C i (uN N 54 c 0 (-9))).1 33 i s 0 = N.1 33 s 0 := by rw [rdN (by decide), uN_f (by decide)]
  have no : ∀ j, j < cnt → f_tb_nominalOf (sN C i (uN (uN (uN N 54 c 0 (-9)) 33 s 0 (N.1 33 s 0 + 1)) 53 c 0 1)) i (nI j) = some (nI (aN v0 j 1200)) := fun j hj => by
    unfold f_tb_nominalOf f_tb_has
    have c10 : (sN C i (uN (uN (uN N 54 c 0 (-9)) 33 s 0 (N.1 33 s 0 + 1)) 53 c 0 1)).1 10 i 0 0 = nI cnt := by rw [rdN (by decide), uN_f (by decide), uN_f (by decide), uN_f (by decide), hE 10 0 0 rfl rfl]; exact hR.2.1
    rw [c10, if_neg (nI_pos (show j < 2 ^ 31 by omega)), if_neg (nle hj (by omega)), if_neg (show ¬ (8 : Int32) ≤ nI j from nle (n := 8) (by omega) (by omega)), ob, if_neg (by decide), if_pos (gin_nI (by omega) (by omega)), tN_nI (by omega), rdN (by decide), uN_f (by decide), uN_f (by decide), uN_f (by decide), hM j hj]
  have a1 := airN_b (m := md v0 r) (p := sp v0 r) (z := 1200) (hR.m hr).2.2.2.1 (by omega)
  have a2 := airN_b (m := md v0 (p 0)) (p := sp v0 (p 0)) (z := 1200) (hR.m p0).2.2.2.1 (by omega)
  have a1' : aN v0 r 1200 ≤ 600000 := a1.2
  have a2' : aN v0 (p 0) 1200 ≤ 600000 := a2.2
  unfold f_nt_chooseRates
  refine bs (x := sN C i (uN N 54 c 0 (-9))) (by rw [wrN (by decide)]) ?_
  rw [e37]
  refine ip h37 (im (ne9 (by omega)) ?_)
  rw [e33]
  refine bs (x := sN C i (uN (uN N 54 c 0 (-9)) 33 s 0 (N.1 33 s 0 + 1))) (by rw [wrN (by decide)]) (bs (x := sN C i (uN (uN (uN N 54 c 0 (-9)) 33 s 0 (N.1 33 s 0 + 1)) 53 c 0 1)) (by rw [wrN (by decide)]) (bs (no r hr) ?_))
  rw [t_0, e41 0 (by omega)]
  refine bs (no _ p0) ?_
  by_cases b : aN v0 (p 0) 1200 < aN v0 r 1200
  · rw [if_pos b] at hi
    subst hi
    refine ip ((nI_lt' (by omega) (by omega)).mpr b) (bs (x := sN C i (uN (uN (uN (uN N 54 c 0 (-9)) 33 s 0 (N.1 33 s 0 + 1)) 53 c 0 1) 54 c 0 (nI 1))) (by rw [wrN (by decide)]; rfl) ?_)
    rw [t_2, t_3, e41 2 (by omega), e41 3 (by omega)]
    exact bs (c_setR (q := qS p 1 r)) rfl
  · rw [if_neg b] at hi
    subst hi
    refine im (fun q => b ((nI_lt' (by omega) (by omega)).mp q)) (bs (x := sN C i (uN (uN (uN (uN N 54 c 0 (-9)) 33 s 0 (N.1 33 s 0 + 1)) 53 c 0 1) 54 c 0 (nI 0))) (by rw [wrN (by decide)]; rfl) ?_)
    rw [t_2, t_3, e41 2 (by omega), e41 3 (by omega)]
    exact bs (c_setR (q := qS p 0 r)) rfl
end C52
end L52
