/-! laying a chain as a whole -/
theorem rf_lw {c s : Nat} {V : Vt} {q t : Nat → Nat} {a b d y : Int32} (hs : s < 4) : rfV (lw c (upd V (aO c + 3) y) q t 4) s a b d = lw c (upd (rfV V s a b d) (aO c + 3) y) q t 4 := by
  have hO : aO c = 420 + 16 * c := rfl
  have hS : aS s = 290 + 32 * s := rfl
  unfold rfV
  rw [lw_up (a := aS s + 22) (by omega) 4 (by omega), lw_up (a := aS s + 22 + 1) (by omega) 4 (by omega), lw_up (a := aS s + 22 + 2) (by omega) 4 (by omega), up_c (a := aO c + 3) (b := aS s + 22) (by omega), up_c (a := aO c + 3) (b := aS s + 22 + 1) (by omega), up_c (a := aO c + 3) (b := aS s + 22 + 2) (by omega)]
theorem s_lays {C M : Me} {i : Nat} {N : Nt} {v : Vt} {sc cnt w s c z : Nat} (h : RN N v sc cnt w) (hs : s < sc) (ha : hA v s cnt) (hf : frC v = some c) (hz : 1 ≤ z ∧ z ≤ 4000) : ∃ N' v', f_nt_openChain (sN C i N) i i s (nI z) = some (nI c, sN C i N') ∧ f_m_lays (sV M v) (nI s) (nI z) = some (nI c, sV M v') ∧ RN N' v' sc cnt w ∧ c < 6 ∧ v' (aO c) = 1 ∧ v' (aO c + 1) = nI s ∧ (∀ k, k < 290 → v' k = v k) := by
  have hl := h.lt
  have hs4 : s < 4 := by omega
  have hc := (frC_b hf).1
  have hO : aO c = 420 + 16 * c := rfl
  have hS : aS s = 290 + 32 * s := rfl
  obtain ⟨p, hp⟩ : ∃ p : Nat → Nat, ∀ k, k < 4 → v (aS s + 18 + k) = nI (p k) ∧ p k < cnt := ⟨fun k => tN (v (aS s + 18 + k)), fun k hk => by
    obtain ⟨q, q1, q2⟩ := rl_ok (h.2 s hs) ha hk
    show _ = nI (tN (v (aS s + 18 + k))) ∧ tN (v (aS s + 18 + k)) < cnt
    rw [q2, tN_nI (by omega)]
    exact ⟨rfl, q1⟩⟩
  have x4 := RX_s (f := 32) (s := s) (r := 0) (x := v (aS s) + 1) (RX_s (f := 52) (s := c) (r := 0) (x := nI z) (RX_s (f := 51) (s := c) (r := 0) (x := nI s) (RX_s (f := 50) (s := c) (r := 0) (x := 1) h.toX (dO (by simp) hc) (by simp)) (dO (by simp) hc) (by simp)) (dO (by simp) hc) (by simp)) (dS (by simp) hs4) (by simp)
  obtain ⟨v4, hv4⟩ : ∃ v4, v4 = upd (upd (upd (upd v (aO c) 1) (aO c + 1) (nI s)) (aO c + 2) (nI z)) (aS s) (v (aS s) + 1) := ⟨_, rfl⟩
  have x4 : RX (uN (uN (uN (uN N 50 c 0 1) 51 c 0 (nI s)) 52 c 0 (nI z)) 32 s 0 (v (aS s) + 1)) v4 sc cnt w := by rw [hv4]; exact x4
  have n4 : ∀ f a b, f ≠ 50 → f ≠ 51 → f ≠ 52 → f ≠ 32 → (uN (uN (uN (uN N 50 c 0 1) 51 c 0 (nI s)) 52 c 0 (nI z)) 32 s 0 (v (aS s) + 1)).1 f a b = N.1 f a b := fun f a b h1 h2 h3 h4 => by rw [uN_f h4, uN_f h3, uN_f h2, uN_f h1]
  have e4 : ∀ j, j ≠ aO c → j ≠ aO c + 1 → j ≠ aO c + 2 → j ≠ aS s → v4 j = v j := fun j h1 h2 h3 h4 => by rw [hv4, up_n h4, up_n h3, up_n h2, up_n h1]
  have g0 : v4 (aO c) = 1 := by rw [hv4, up_n (by omega), up_n (by omega), up_n (by omega), up_s]
  have g1 : v4 (aO c + 1) = nI s := by rw [hv4, up_n (by omega), up_n (by omega), up_s]
  have g2 : v4 (aO c + 2) = nI z := by rw [hv4, up_n (by omega), up_s]
  have e32 : (sN C i (uN (uN (uN N 50 c 0 1) 51 c 0 (nI s)) 52 c 0 (nI z))).1 32 i s 0 = v (aS s) := by
    rw [rdN (by decide), uN_f (by decide), uN_f (by decide), uN_f (by decide)]
    exact h.E 32 s 0 rfl (dS (by simp) hs4)
  have wN4 : wI (sN C i (uN (uN (uN N 50 c 0 1) 51 c 0 (nI s)) 52 c 0 (nI z))) 32 i s 0 (v (aS s) + 1) = sN C i (uN (uN (uN (uN N 50 c 0 1) 51 c 0 (nI s)) 52 c 0 (nI z)) 32 s 0 (v (aS s) + 1)) := wrN (by decide)
  generalize hN4 : uN (uN (uN (uN N 50 c 0 1) 51 c 0 (nI s)) 52 c 0 (nI z)) 32 s 0 (v (aS s) + 1) = N4 at x4 n4 wN4
  have cpre : ∀ o, (if (sN C i (rfN N4 s (-9) (-9) (-9))).1 37 i s 0 = 0 then (f_nt_drawCandidate (sN C i (rfN N4 s (-9) (-9) (-9))) i i s).bind fun r11 => (f_nt_chooseRates r11.2 i i c i s r11.1).bind fun r12 => (lp FU (b_nt_openChain_94 i (nI z) (nI c) i c) (0, r12)).bind fun e24 => some (nI c, e24) else (f_nt_chooseRates (sN C i (rfN N4 s (-9) (-9) (-9))) i i c i s (-9)).bind fun r25 => (lp FU (b_nt_openChain_94 i (nI z) (nI c) i c) (0, r25)).bind fun e27 => some (nI c, e27)) = o → f_nt_openChain (sN C i N) i i s (nI z) = o := fun o q => by
    unfold f_nt_openChain
    refine bs (x := nI c) (by rw [c_fc h.E, hf]; rfl) (im (nI_pos (show c < 2 ^ 31 by omega)) (ip (show nI c < (6 : Int32) from (nI_lt' (b := 6) (by omega) (by omega)).mpr hc) (ip (gin_nI (by omega) (by omega)) ?_)))
    rw [tN_nI (by omega)]
    refine bs (x := sN C i (uN N 50 c 0 1)) (by rw [wrN (by decide)]) (bs (x := sN C i (uN (uN N 50 c 0 1) 51 c 0 (nI s))) (by rw [wrN (by decide)]) (bs (x := sN C i (uN (uN (uN N 50 c 0 1) 51 c 0 (nI s)) 52 c 0 (nI z))) (by rw [wrN (by decide)]) ?_))
    rw [e32, wN4]
    exact bs rfl (bs c_rf q)
  have mpre : ∀ o, (if v4 (aS s + 5) = 1 then (f_m_layFallback (sV M v4) (nI c) (nI s)).bind fun r22 => some (nI c, r22) else (f_m_sampledBy (sV M v4) (nI s)).bind fun r18 => if r18.1 = (-9) then (f_m_layPlain r18.2 (nI c) (nI s)).bind fun r21 => some (nI c, r21) else (f_m_laySampling r18.2 (nI c) (nI s) r18.1).bind fun r20 => some (nI c, r20)) = o → f_m_lays (sV M v) (nI s) (nI z) = o := fun o q => by
    unfold f_m_lays
    refine bs (x := nI c) (by rw [m_fc, hf]; rfl) (bs (so c) (ip (gx (k := 420 + 16 * c + 0) (by simp only [IXr]) (by omega) (by omega)) (bs (wx (k := 420 + 16 * c + 0) (by simp only [IXr]) (by omega)) ?_)))
    refine bs (so c) (ip (gx (k := 420 + 16 * c + 1) (by simp only [IXr]) (by omega) (by omega)) (bs (wx (k := 420 + 16 * c + 1) (by simp only [IXr]) (by omega)) ?_))
    refine bs (so c) (ip (gx (k := 420 + 16 * c + 2) (by simp only [IXr]) (by omega) (by omega)) (bs (wx (k := 420 + 16 * c + 2) (by simp only [IXr]) (by omega)) ?_))
    refine bs (sd s) (ip (gx (k := 290 + 32 * s + 0) (by simp only [IXr]) (by omega) (by omega)) (ip (gx (k := 290 + 32 * s + 0) (by simp only [IXr]) (by omega) (by omega)) ?_))
    rw [rx (k := 290 + 32 * s + 0) (by simp only [IXr]) (by omega), up_n (by omega), up_n (by omega), up_n (by omega)]
    refine bs (wx (k := 290 + 32 * s + 0) (by simp only [IXr]) (by omega)) (bs (sd s) (ip (gx (k := 290 + 32 * s + 5) (by simp only [IXr]) (by omega) (by omega)) ?_))
    rw [rx (k := 290 + 32 * s + 5) (by simp only [IXr]) (by omega), show upd (upd (upd (upd v (420 + 16 * c + 0) 1) (420 + 16 * c + 1) (nI s)) (420 + 16 * c + 2) (nI z)) (290 + 32 * s + 0) (v (290 + 32 * s + 0) + 1) = v4 from hv4.symm]
    exact q
  have hb6 : wi 100 (v4 6) 100000 := x4.iS.2.2.2.2.2.1
  have h5 : v4 (aS s + 5) = v (aS s + 5) := e4 _ (by omega) (by omega) (by omega) (by omega)
  have fC : ∀ (W : Vt) (N' : Nt), (∀ c', c' < 6 → c' ≠ c → ∀ j, j < 16 → W (aO c' + j) = v4 (aO c' + j)) → (∀ c', c' ≠ c → N'.1 54 c' 0 = N4.1 54 c' 0) → ∀ c', c' < 6 → c' ≠ c → (∀ j, j < 16 → W (aO c' + j) = v (aO c' + j)) ∧ N'.1 54 c' 0 = N.1 54 c' 0 := fun W N' hW hN' c' h1 h2 => by
    have hO' : aO c' = 420 + 16 * c' := rfl
    exact ⟨fun j hj => by rw [hW c' h1 h2 j hj, e4 _ (by omega) (by omega) (by omega) (by omega)], by rw [hN' c' h2, n4 _ _ _ (by decide) (by decide) (by decide) (by decide)]⟩
  by_cases b5 : v4 (aS s + 5) = 1
  · -- fallback
    rw [if_pos b5] at mpre
    have h37 : ¬ (rfN N4 s (-9) (-9) (-9)).1 37 s 0 = 0 := by
      rw [rfN_o (by decide), n4 _ _ _ (by decide) (by decide) (by decide) (by decide), h.E 37 s 0 rfl (dS (by simp) hs4)]
      show ¬ v (aS s + 5) = 0
      rw [← h5, b5]
      decide
    have e37 : ¬ (sN C i (rfN N4 s (-9) (-9) (-9))).1 37 i s 0 = 0 := by rw [rdN (by decide)]; exact h37
    rw [if_neg e37] at cpre
    have hpN : ∀ k, k < 4 → (rfN N4 s (-9) (-9) (-9)).1 41 s k = nI (p k) := fun k hk => by
      rw [rfN_o (by decide), n4 _ _ _ (by decide) (by decide) (by decide) (by decide), (h.2 s hs).1 k hk]
      exact (hp k hk).1
    have hp4 : ∀ k, k < 4 → v4 (aS s + 18 + k) = nI (p k) ∧ p k < cnt := fun k hk => by rw [e4 _ (by omega) (by omega) (by omega) (by omega)]; exact hp k hk
    have xr := RX_rf (a := -9) (b := -9) (d := -9) x4 hs
    have xf : RX (uN (uN (rfN N4 s (-9) (-9) (-9)) 54 c 0 (-9)) 53 c 0 2) (upd (rfV v4 s (-9) (-9) (-9)) (aO c + 3) 2) sc cnt w := RX_s (f := 53) (s := c) (r := 0) (x := 2) (RX_n54 (c := c) (x := -9) xr) (dO (by simp) hc) (by simp)
    have cl := c_loop (C := C) (i := i) (y3 := nI c) (N := uN (uN (rfN N4 s (-9) (-9) (-9)) 54 c 0 (-9)) 53 c 0 2) (c := c) (q := qF p) (t := fun k => trN v4 (qF p k) z) x4.E x4.iR hb6 (fun f hf a b => by rw [uN_f (by omega), uN_f (by omega), rfN_o (by omega)]) (show z ≤ 65535 by omega) (fun k hk => by
      refine Or.inr ⟨?_, ?_, rfl⟩
      · rw [uN_f (by decide), uN_s]
        exact ne9 (by omega)
      · unfold qF
        split
        · exact (hp 2 (by omega)).2
        · exact (hp 3 (by omega)).2)
    have mf := m_fall (M := M) (v := v4) (v0 := v4) x4.iR hb6 (fun _ _ => rfl) g2 (by omega) hc hs4 hp4
    rw [rf_lw hs4] at mf
    refine ⟨_, _, cpre _ (bs (c_chF (t := fun k => trN v4 (qF p k) z) h37 hpN) (bs cl rfl)), mpre _ (bs mf rfl), ?_, hc, ?_, ?_, fun k hk => ?_⟩
    · refine RN_fin (kd := 2) h xf hc hs hz (by omega) (fC _ _ (fun c' h1 h2 j hj => ?_) (fun c' h1 => ?_)) ?_ ?_ ?_ (by rw [up_s]; rfl) (fun q => absurd q (by decide)) (fun k hk => ⟨?_, trN_b _ _ _⟩)
      · have hO' : aO c' = 420 + 16 * c' := rfl
        rw [up_n (by omega), rfV_o (by omega)]
      · rw [uN_f (by decide), uN_n (by omega), rfN_o (by decide)]
      · rw [up_n (by omega), rfV_o (by omega)]
        exact g0
      · rw [up_n (by omega), rfV_o (by omega)]
        exact g1
      · rw [up_n (by omega), rfV_o (by omega)]
        exact g2
      · unfold qF
        split
        · exact (hp 2 (by omega)).2
        · exact (hp 3 (by omega)).2
    · rw [lw_o (by omega) 4 (by omega), up_n (by omega), rfV_o (by omega)]
      exact g0
    · rw [lw_o (by omega) 4 (by omega), up_n (by omega), rfV_o (by omega)]
      exact g1
    · rw [lw_o (by omega) 4 (by omega), up_n (by omega), rfV_o (by omega), e4 _ (by omega) (by omega) (by omega) (by omega)]
  · -- no fallback
    rw [if_neg b5] at mpre
    have b0 : v (aS s + 5) = 0 := (h.iT s hs4).1.resolve_right (fun q => b5 (h5.trans q))
    have e37 : (sN C i (rfN N4 s (-9) (-9) (-9))).1 37 i s 0 = 0 := by
      rw [rdN (by decide), rfN_o (by decide), n4 _ _ _ (by decide) (by decide) (by decide) (by decide), h.E 37 s 0 rfl (dS (by simp) hs4)]
      exact b0
    rw [if_pos e37] at cpre
    have ha4 : hA v4 s cnt := by
      obtain ⟨r, q1, q2⟩ := ha
      have := aP_lt hs4 (show r < 8 by omega)
      refine ⟨r, q1, ?_⟩
      show v4 (aP s r) = 1
      rw [e4 _ (by omega) (by omega) (by omega) (by omega)]
      exact q2
    obtain ⟨o, N6, v6, d1, d2, x6, d4, d5, d6⟩ := s_draw (C := C) (M := M) (i := i) x4 hs ha4
    have e6 : ∀ j, (j < aS s + 17 ∨ 420 ≤ j) → v6 j = v4 j := fun j hj => d6 j (by omega) (by omega)
    have h37 : N6.1 37 s 0 = 0 := by
      rw [d5 _ _ _ (by decide) (by decide), n4 _ _ _ (by decide) (by decide) (by decide) (by decide), h.E 37 s 0 rfl (dS (by simp) hs4)]
      exact b0
    have hpN : ∀ k, k < 4 → N6.1 41 s k = nI (p k) := fun k hk => by
      rw [d5 _ _ _ (by decide) (by decide), n4 _ _ _ (by decide) (by decide) (by decide) (by decide), (h.2 s hs).1 k hk]
      exact (hp k hk).1
    have hp6 : ∀ k, k < 4 → v6 (aS s + 18 + k) = nI (p k) ∧ p k < cnt := fun k hk => by rw [d6 _ (by omega) (by omega), e4 _ (by omega) (by omega) (by omega) (by omega)]; exact hp k hk
    have hb6' : wi 100 (v6 6) 100000 := x6.iS.2.2.2.2.2.1
    have k0 : v6 (aO c) = 1 := (e6 _ (by omega)).trans g0
    have k1 : v6 (aO c + 1) = nI s := (e6 _ (by omega)).trans g1
    have k2 : v6 (aO c + 2) = nI z := (e6 _ (by omega)).trans g2
    rcases d4 with rfl | ⟨r, hr, rfl⟩
    · have xf : RX (uN (uN N6 54 c 0 (-9)) 53 c 0 0) (upd v6 (aO c + 3) 0) sc cnt w := RX_s (f := 53) (s := c) (r := 0) (x := 0) (RX_n54 (c := c) (x := -9) x6) (dO (by simp) hc) (by simp)
      have cl := c_loop (C := C) (i := i) (y3 := nI c) (N := uN (uN N6 54 c 0 (-9)) 53 c 0 0) (c := c) (q := p) (t := fun k => trN v6 (p k) z) x6.E x6.iR hb6' (fun f hf a b => by rw [uN_f (by omega), uN_f (by omega)]) (show z ≤ 65535 by omega) (fun k hk => by
        refine Or.inr ⟨?_, (hp k hk).2, rfl⟩
        rw [uN_f (by decide), uN_s]
        exact ne9 (by omega))
      have mf := m_plain (M := M) (v := v6) (v0 := v6) x6.iR hb6' (fun _ _ => rfl) k2 (by omega) hc hs4 hp6
      refine ⟨_, _, cpre _ (bs d1 (bs (c_chP (t := fun k => trN v6 (p k) z) h37 hpN) (bs cl rfl))), mpre _ (bs d2 (ip rfl (bs mf rfl))), ?_, hc, ?_, ?_, fun k hk => ?_⟩
      · refine RN_fin (kd := 0) h xf hc hs hz (by omega) (fC _ _ (fun c' h1 h2 j hj => ?_) (fun c' h1 => ?_)) ?_ ?_ ?_ (by rw [up_s]; rfl) (fun q => absurd q (by decide)) (fun k hk => ⟨(hp k hk).2, trN_b _ _ _⟩)
        · have hO' : aO c' = 420 + 16 * c' := rfl
          rw [up_n (by omega)]
          exact e6 _ (by omega)
        · rw [uN_f (by decide), uN_n (by omega), d5 _ _ _ (by decide) (by decide)]
        · rw [up_n (by omega)]
          exact k0
        · rw [up_n (by omega)]
          exact k1
        · rw [up_n (by omega)]
          exact k2
      · rw [lw_o (by omega) 4 (by omega), up_n (by omega)]
        exact k0
      · rw [lw_o (by omega) 4 (by omega), up_n (by omega)]
        exact k1
      · rw [lw_o (by omega) 4 (by omega), up_n (by omega), e6 _ (by omega), e4 _ (by omega) (by omega) (by omega) (by omega)]
    · obtain ⟨its, hi⟩ : ∃ its, its = if aN v6 (p 0) 1200 < aN v6 r 1200 then 1 else 0 := ⟨_, rfl⟩
      have hi2 : its < 2 := by
        rw [hi]
        split <;> omega
      have y33 : N6.1 33 s 0 = v6 (aS s + 1) := x6.E 33 s 0 rfl (dS (by simp) hs4)
      have xf0 : RX (uN (uN (uN (uN N6 54 c 0 (-9)) 33 s 0 (v6 (aS s + 1) + 1)) 53 c 0 1) 54 c 0 (nI its)) (upd (upd (upd v6 (aS s + 1) (v6 (aS s + 1) + 1)) (aO c + 3) 1) (aO c + 4) (nI r)) sc cnt w := RX_v54 (RX_n54 (c := c) (x := nI its) (RX_s (f := 53) (s := c) (r := 0) (x := 1) (RX_s (f := 33) (s := s) (r := 0) (x := v6 (aS s + 1) + 1) (RX_n54 (c := c) (x := -9) x6) (dS (by simp) hs4) (by simp)) (dO (by simp) hc) (by simp))) hc
      have eV : upd (upd (upd v6 (aO c + 3) 1) (aO c + 4) (nI r)) (aS s + 1) (v6 (aS s + 1) + 1) = upd (upd (upd v6 (aS s + 1) (v6 (aS s + 1) + 1)) (aO c + 3) 1) (aO c + 4) (nI r) := by
        rw [up_c (a := aO c + 4) (b := aS s + 1) (by omega), up_c (a := aO c + 3) (b := aS s + 1) (by omega)]
      have xf : RX (uN (uN (uN (uN N6 54 c 0 (-9)) 33 s 0 (N6.1 33 s 0 + 1)) 53 c 0 1) 54 c 0 (nI its)) (upd (upd (upd v6 (aO c + 3) 1) (aO c + 4) (nI r)) (aS s + 1) (v6 (aS s + 1) + 1)) sc cnt w := by
        rw [eV, y33]
        exact xf0
      have hq : ∀ k, k < 4 → qS p its r k < cnt := fun k hk => by
        unfold qS
        split
        · exact hr
        · split
          · exact (hp 0 (by omega)).2
          · exact (hp k hk).2
      have cl := c_loop (C := C) (i := i) (y3 := nI c) (N := uN (uN (uN (uN N6 54 c 0 (-9)) 33 s 0 (N6.1 33 s 0 + 1)) 53 c 0 1) 54 c 0 (nI its)) (c := c) (q := qS p its r) (t := fun k => if k = its then 1 else trN v6 (qS p its r k) z) x6.E x6.iR hb6' (fun f hf a b => by rw [uN_f (by omega), uN_f (by omega), uN_f (by omega), uN_f (by omega)]) (show z ≤ 65535 by omega) (fun k hk => by
        rw [uN_s, nI_j (by omega) (by omega)]
        by_cases e : k = its
        · exact Or.inl ⟨e, if_pos e⟩
        · exact Or.inr ⟨fun z => e ((nI_j (by omega) (by omega)).mp z), hq k hk, if_neg e⟩)
      have mf := m_smp (M := M) (v := v6) (v0 := v6) x6.iR hb6' (fun _ _ => rfl) k2 (by omega) hc hs4 hp6 hr hi
      rw [lw_up (a := aS s + 1) (by omega) 4 (by omega)] at mf
      refine ⟨_, _, cpre _ (bs d1 (bs (c_chS (t := fun k => if k = its then 1 else trN v6 (qS p its r k) z) h37 hpN x6.E x6.iR x6.M (hp 0 (by omega)).2 hr hi) (bs cl rfl))), mpre _ (bs d2 (im (ne9 (by omega)) (bs mf rfl))), ?_, hc, ?_, ?_, fun k hk => ?_⟩
      · refine RN_fin (kd := 1) h xf hc hs hz (by omega) (fC _ _ (fun c' h1 h2 j hj => ?_) (fun c' h1 => ?_)) ?_ ?_ ?_ ?_ (fun _ => ?_) (fun k hk => ⟨hq k hk, ?_⟩)
        · have hO' : aO c' = 420 + 16 * c' := rfl
          rw [up_n (by omega), up_n (by omega), up_n (by omega)]
          exact e6 _ (by omega)
        · rw [uN_n (by omega), uN_f (by decide), uN_f (by decide), uN_n (by omega), d5 _ _ _ (by decide) (by decide)]
        · rw [up_n (by omega), up_n (by omega), up_n (by omega)]
          exact k0
        · rw [up_n (by omega), up_n (by omega), up_n (by omega)]
          exact k1
        · rw [up_n (by omega), up_n (by omega), up_n (by omega)]
          exact k2
        · rw [up_n (by omega), up_n (by omega), up_s]
          rfl
        · rw [uN_s, up_n (show aO c + 4 ≠ aS s + 1 by omega), up_s]
          rcases (show its = 0 ∨ its = 1 by omega) with rfl | rfl
          · exact Or.inl ⟨rfl, rfl⟩
          · exact Or.inr ⟨rfl, rfl⟩
        · show 1 ≤ (if k = its then 1 else trN v6 (qS p its r k) z) ∧ (if k = its then 1 else trN v6 (qS p its r k) z) ≤ 7
          have := trN_b v6 (qS p its r k) z
          split <;> omega
      · rw [lw_o (by omega) 4 (by omega), up_n (by omega), up_n (by omega), up_n (by omega)]
        exact k0
      · rw [lw_o (by omega) 4 (by omega), up_n (by omega), up_n (by omega), up_n (by omega)]
        exact k1
      · rw [lw_o (by omega) 4 (by omega), up_n (by omega), up_n (by omega), up_n (by omega), e6 _ (by omega), e4 _ (by omega) (by omega) (by omega) (by omega)]
