/-! the best chain: both sides -/
section L77
variable {C M X : Me} {N : Nt} {v : Vt} {sc cnt w s z q : Nat} {R : Nat → Nat}
theorem c_expl (h : RN N v sc cnt w) (hs : s < sc) (hz : z ≤ 4000) (hq : q ≤ 8) (hP : Pm v s cnt R q 8) (g : Bg C X) (e80 : X.1 80 0 0 0 = nI q) (hT : Tq v s z X R q) : ∃ X', f_se_explore X = some X' ∧ Bg C X' ∧ CR X' (FB v s cnt z 4096) := by
  have S : St C v s cnt z R q (wL (wL (wL (wL X 85 0 0 0 65536) 86 0 0 0 0) 89 0 0 0 (-1)) 90 0 0 0 1) (dg 0 0 0 0) 0 0 := by
    refine ⟨Bg_l (Bg_l (Bg_l (Bg_l g (by decide) (by decide)) (by decide) (by decide)) (by decide) (by decide)) (by decide) (by decide), e80, hT, ⟨fun k hk => ?_, fun k hk => absurd hk (by omega)⟩, Or.inl ⟨rfl, ?_, ?_⟩⟩
    · obtain rfl : k = 0 := by omega
      exact ⟨(l_o (by omega)).trans ((l_o (by omega)).trans ((l_o (by omega)).trans l_s)), (l_o (by omega)).trans ((l_o (by omega)).trans l_s)⟩
    · exact (l_o (by omega)).trans l_s
    · exact l_s
  obtain ⟨X', k1, k2⟩ := x_0 h hs hz hq hP S
  refine ⟨X', ?_, k2.1, k2.2.2.2.2⟩
  unfold f_se_explore
  rw [t_0]
  exact bs rfl (bs rfl (bs rfl (bs rfl (bs k1 rfl))))
theorem FB_0 (hP : Pm v s cnt R 0 8) : FB v s cnt z 4096 = (-9, 0, 1) := by
  have e := FB_g (v := v) (s := s) (cnt := cnt) (z := z) (a := 0) 4096 (fun c _ hc => okp_n (k := 0) (by omega) (hP.1 _ (by rw [nx_f (by omega)]; exact Nat.mod_lt _ (by decide))))
  rw [Nat.zero_add] at e
  exact e
theorem dgs : ∀ r, r < 8 → ∀ k, k < 4 → (512 * r + 64 * r + 8 * r + r) / 8 ^ k % 8 = r := by decide +kernel
theorem FB_p (hP : Pm v s cnt R q 8) (h0 : 0 < q) : ¬ (FB v s cnt z 4096).1 = -9 := by
  obtain ⟨o, o2, -⟩ := hP.2 0 h0
  have e := FB_ne (v := v) (s := s) (cnt := cnt) (z := z) (n := 512 * R 0 + 64 * R 0 + 8 * R 0 + R 0) (okp_y (fun k hk => by rw [dgs _ o2 k hk]; exact o)) (4096 - (512 * R 0 + 64 * R 0 + 8 * R 0 + R 0 + 1)) (by omega)
  rw [show 512 * R 0 + 64 * R 0 + 8 * R 0 + R 0 + 1 + (4096 - (512 * R 0 + 64 * R 0 + 8 * R 0 + R 0 + 1)) = 4096 by omega] at e
  exact e
theorem Rl_g {C' M' : Me} {w' : Nat} (R : Rl C M w) (hw : w ≤ w') (g : Bg C C') (e : M'.1 = M.1) : Rl C' M' w' := by
  obtain ⟨⟨sc, cnt, h⟩, hs, hh⟩ := R
  have em : mV M' = mV M := by unfold mV; rw [e]
  refine ⟨⟨sc, cnt, by rw [em]; exact RN_m (Bg_r h g) hw⟩, Rs_x hs hw (fun _ => g.1 _ _ _ _ (by omega)) (fun j _ _ => ⟨fun f a b hf => g.1 _ _ _ _ (by omega), fun a b => g.2 _ _ _ _ (by omega)⟩) (fun _ => by rw [e]) (fun _ => by rw [e]), Rh_x hh hw (g.1 _ _ _ _ (by omega)) (g.1 _ _ _ _ (by omega)) (fun j _ => ⟨fun f a b hf => g.1 _ _ _ _ (by omega), fun a b => g.2 _ _ _ _ (by omega)⟩) (by rw [e]) (fun _ => by rw [e])⟩
theorem T_bestChain (Rel : Rl C M w) (x y t : Int32) : ∃ o C' M', f_rc_bestChain C x y t = some (o, C') ∧ f_m_bestChain M x y t = some (o, M') ∧ Rl C' M' (w + 5000) := by
  obtain ⟨⟨sc, cnt, h⟩, -, -⟩ := id Rel
  have hl := h.lt
  unfold f_rc_bestChain f_m_bestChain
  have a0 := sta_c (C := C) (M := M) (i := 0) h x
  rw [sN_e, sV_e] at a0
  rcases a0 with ⟨s, hs, rfl, a1, a2⟩ | ⟨a1, a2⟩
  · rcases frame_c y with ⟨z, hz, hz2, rfl, f1, f2⟩ | ⟨f1, f2⟩
    · rcases ent_c t with ⟨k, hk, rfl, g1, g2⟩ | ⟨g1, g2⟩
      · obtain ⟨X, p1, p2, R, q, hq, e80, hP, hT⟩ := c_prep h hs hz2
        have hP8 : Pm (mV M) s cnt R q 8 := by
          have := Pm_e hP (Nat.le_refl _) (8 - cnt)
          rw [show cnt + (8 - cnt) = 8 by omega] at this
          exact this
        have mb := m_bst (M := M) h hs hz2 (nI k)
        rw [sV_e] at mb
        have eM : (sV (MB (mV M) s cnt z M 4096) (mV M)).1 = M.1 := by
          have e1 : (sV (MB (mV M) s cnt z M 4096) (mV M)).1 = (sV M (mV M)).1 := by
            unfold sV
            rw [MB_1]
          rw [e1, sV_e]
        by_cases c : q = 0
        · subst c
          have e9 : (FB (mV M) s cnt z 4096).1 = -9 := by rw [FB_0 hP8]
          refine fwd (o := -9) (bs a1 (bs f1 (im (by decide) (bs g1 (im (by decide) (bs p1 (ip e80 rfl))))))) (bs a2 (im (by decide) (bs f2 (im (by decide) (bs g2 (im (by decide) (bs mb (ip e9 rfl)))))))) (Rl_g Rel (by omega) p2 eM)
        · obtain ⟨X', x1, x2, x3⟩ := c_expl h hs hz2 hq hP8 p2 e80 hT
          have n9 := FB_p (z := z) hP8 (by omega)
          rcases x3 with ⟨c1, -⟩ | ⟨c', c1, c2, c3, c4, c5⟩
          · exact absurd c1 n9
          · refine fwd (o := nI (c' / 8 ^ (3 - k) % 8)) (bs a1 (bs f1 (im (by decide) (bs g1 (im (by decide) (bs p1 (im ?_ (bs x1 (ip (gin_nI hk (by omega)) ?_))))))))) (bs a2 (im (by decide) (bs f2 (im (by decide) (bs g2 (im (by decide) (bs mb (im n9 ?_)))))))) (Rl_g Rel (by omega) x2 eM)
            · rw [e80]
              exact ne0 (by omega) (by omega)
            · rw [tN_nI (by omega), c5 k hk]
            · show some (((FB (mV M) s cnt z 4096).1 >>> (((3 : Int32) * ((3 : Int32) - nI k)) &&& 31)) &&& (7 : Int32), _) = _
              rw [c2, show (3 : Int32) - nI k = nI (3 - k) from nI_sb (a := 3) (by omega), dgI c1 (by omega)]
      · exact fwd (o := -1) (bs a1 (bs f1 (im (by decide) (bs g1 (ip rfl rfl))))) (bs a2 (im (by decide) (bs f2 (im (by decide) (bs g2 (ip rfl rfl)))))) (Rl_m Rel (by omega))
    · exact fwd (o := -1) (bs a1 (bs f1 (ip rfl rfl))) (bs a2 (im (by decide) (bs f2 (ip rfl rfl)))) (Rl_m Rel (by omega))
  · exact fwd (o := -1) (bs a1 rfl) (bs a2 (ip rfl rfl)) (Rl_m Rel (by omega))
end L77
