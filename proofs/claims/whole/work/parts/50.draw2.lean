/-! the draw of a candidate -/
section L50
variable {N : Nt} {v : Vt} {sc cnt w s r f c k : Nat} {x : Int32}
theorem rfV_o {a b d : Int32} {k : Nat} (hk : k < aS s + 22 ∨ aS s + 25 ≤ k) : rfV v s a b d k = v k := by
  unfold rfV
  rw [up_n (by omega), up_n (by omega), up_n (by omega)]
theorem m_tail {M : Me} (hs4 : s < 4) (x : Int32) (h12 : x = 12 → rcI v s r ≠ -9) : ((f_m_roleOf (sV M v) (nI s) 0).bind fun r18 => if nI r = r18 then if x = 12 then (f_m_refuse (sV M v) (nI s) 2 x 21).bind fun r30 => some ((-9 : Int32), r30) else (f_m_refuse (sV M v) (nI s) 2 x (-9)).bind fun r29 => some ((-9), r29) else (f_m_roleOf (sV M v) (nI s) 1).bind fun r20 => if nI r = r20 then if x = 12 then (f_m_refuse (sV M v) (nI s) 2 x 22).bind fun r27 => some ((-9), r27) else (f_m_refuse (sV M v) (nI s) 2 x (-9)).bind fun r26 => some ((-9), r26) else if x = 12 then (f_m_refuse (sV M v) (nI s) 2 x 23).bind fun r24 => some ((-9), r24) else (f_m_refuse (sV M v) (nI s) 2 x (-9)).bind fun r23 => some ((-9), r23)) = some (-9, sV M (rfV v s 2 x (if x = 12 then rcI v s r else -9))) := by
  have m0 := m_role (M := M) (v := v) hs4 (show 0 < 4 by decide)
  have m1 := m_role (M := M) (v := v) hs4 (show 1 < 4 by decide)
  by_cases c : x = 12
  · have h := h12 c
    have eD : (if x = 12 then rcI v s r else -9) = rcI v s r := if_pos c
    rw [eD]
    unfold rcI at h ⊢
    by_cases c0 : v (aS s + 18 + 0) = nI r
    · rw [if_pos c0]
      exact bs m0 (ip c0.symm (ip c (bs (m_rf hs4) rfl)))
    · rw [if_neg c0] at h ⊢
      by_cases c1 : v (aS s + 18 + 1) = nI r
      · rw [if_pos c1]
        exact bs m0 (im (fun q => c0 q.symm) (bs m1 (ip c1.symm (ip c (bs (m_rf hs4) rfl)))))
      · rw [if_neg c1] at h ⊢
        by_cases c2 : v (aS s + 18 + 2) = nI r
        · rw [if_pos c2]
          exact bs m0 (im (fun q => c0 q.symm) (bs m1 (im (fun q => c1 q.symm) (ip c (bs (m_rf hs4) rfl)))))
        · rw [if_neg c2] at h
          exact absurd rfl h
  · have eD : (if x = 12 then rcI v s r else -9) = -9 := if_neg c
    rw [eD]
    by_cases c0 : v (aS s + 18 + 0) = nI r
    · exact bs m0 (ip c0.symm (im c (bs (m_rf hs4) rfl)))
    · by_cases c1 : v (aS s + 18 + 1) = nI r
      · exact bs m0 (im (fun q => c0 q.symm) (bs m1 (ip c1.symm (im c (bs (m_rf hs4) rfl)))))
      · exact bs m0 (im (fun q => c0 q.symm) (bs m1 (im (fun q => c1 q.symm) (im c (bs (m_rf hs4) rfl)))))
theorem imax1 {n : Nat} (h : 0 < n) (h2 : n < 2147483648) : imax 1 (nI n) = nI n := by
  by_cases c : 1 < n
  · exact if_pos ((nI_lt' (a := 1) (by omega) (by omega)).mpr c)
  · rw [show n = 1 by omega]
    rfl
theorem rfN_o {a b d : Int32} {f p q : Nat} (hf : f ≠ 42) : (rfN N s a b d).1 f p q = N.1 f p q := by
  unfold rfN
  rw [uN_f hf, uN_f hf, uN_f hf]
theorem s_draw {C M : Me} {i : Nat} (h : RX N v sc cnt w) (hs : s < sc) (ha : hA v s cnt) : ∃ o N' v', f_nt_drawCandidate (sN C i (rfN N s (-9) (-9) (-9))) i i s = some (o, sN C i N') ∧ f_m_sampledBy (sV M v) (nI s) = some (o, sV M v') ∧ RX N' v' sc cnt w ∧ (o = -9 ∨ ∃ r, r < cnt ∧ o = nI r) ∧ (∀ f a b, f ≠ 40 → f ≠ 42 → N'.1 f a b = N.1 f a b) ∧ (∀ k, k ≠ aS s + 17 → (k < aS s + 22 ∨ aS s + 25 ≤ k) → v' k = v k) := by
  have hl := h.lt
  have hs4 : s < 4 := by omega
  have hS : aS s = 290 + 32 * s := rfl
  have hc0 : 0 < cnt := by obtain ⟨r, q, -⟩ := ha; omega
  have x1 := RX_rf (a := -9) (b := -9) (d := -9) h hs
  have n1 : ∀ f a b, f ≠ 42 → (rfN N s (-9) (-9) (-9)).1 f a b = N.1 f a b := fun f a b hf => rfN_o hf
  have k1 : ∀ k, (k < aS s + 22 ∨ aS s + 25 ≤ k) → rfV v s (-9) (-9) (-9) k = v k := fun k hk => rfV_o hk
  have mr := m_rf (M := M) (v := v) (a := -9) (b := -9) (d := -9) hs4
  generalize rfN N s (-9) (-9) (-9) = N1 at x1 n1 ⊢
  generalize rfV v s (-9) (-9) (-9) = v1 at x1 k1 mr
  have e33 : (sN C i N1).1 33 i s 0 = v1 (290 + 32 * s + 1) := by rw [rdN (by decide)]; exact x1.E 33 s 0 rfl (dS (by simp) hs4)
  have e32 : (sN C i N1).1 32 i s 0 = v1 (290 + 32 * s + 0) := by rw [rdN (by decide)]; exact x1.E 32 s 0 rfl (dS (by simp) hs4)
  have e2 : (sN C i N1).1 2 i 0 0 = v1 3 := by rw [rdN (by decide)]; exact x1.E 2 0 0 rfl rfl
  have e40 : (sN C i N1).1 40 i s 0 = v1 (290 + 32 * s + 17) := by rw [rdN (by decide)]; exact ((x1.T s hs4).1 hs).1
  have mp0 : ∀ o : Option (Int32 × Me), (if (v1 (290 + 32 * s + 1) + 1) * 100 ≤ v1 (290 + 32 * s + 0) * v1 3 then _ else (f_m_refuse (sV M v1) (nI s) 1 (-9) (-9)).bind fun r31 => some ((-9), r31)) = o → f_m_sampledBy (sV M v) (nI s) = o := fun o q => by
    unfold f_m_sampledBy
    refine bs mr (bs (sd s) (ip (gx (k := 290 + 32 * s + 1) (by simp only [IXr]) (by omega) (by omega)) (bs (sd s) (ip (gx (k := 290 + 32 * s + 0) (by simp only [IXr]) (by omega) (by omega)) ?_))))
    rw [rx (k := 290 + 32 * s + 1) (by simp only [IXr]) (by omega), rx (k := 290 + 32 * s + 0) (by simp only [IXr]) (by omega), t_3, rdV]
    exact q
  by_cases A : (v1 (290 + 32 * s + 1) + 1) * 100 ≤ v1 (290 + 32 * s + 0) * v1 3
  · obtain ⟨d, hd⟩ : ∃ d, d = (1103515245 : Int32) * v1 (290 + 32 * s + 17) + 12345 := ⟨_, rfl⟩
    have x2 : RX (uN N1 40 s 0 d) (upd v1 (290 + 32 * s + 17) d) sc cnt w := RX_40 x1 hs
    obtain ⟨u1, u2⟩ := ush16 d
    have hrc : dw d % cnt < cnt := Nat.mod_lt _ hc0
    have er : nI (dw d) - nI (dw d) / nI cnt * nI cnt = nI (dw d % cnt) := pk_rem (by omega) hc0 (by omega)
    have i10 : (sN C i (uN N1 40 s 0 d)).1 10 i 0 0 = nI cnt := by rw [rdN (by decide), x2.E 10 0 0 rfl rfl]; exact x2.iR.2.1
    have i40 : (sN C i (uN N1 40 s 0 d)).1 40 i s 0 = d := by rw [rdN (by decide)]; exact uN_s
    have j1 : upd v1 (290 + 32 * s + 17) d 1 = nI cnt := x2.iR.2.1
    have n2 : ∀ f a b, f ≠ 40 → (uN N1 40 s 0 d).1 f a b = N1.1 f a b := fun f a b hf => uN_f hf
    have k2 : ∀ k, k ≠ 290 + 32 * s + 17 → upd v1 (290 + 32 * s + 17) d k = v1 k := fun k hk => up_n hk
    generalize dw d % cnt = r at hrc er
    obtain ⟨x, y, cm, cc, cr⟩ := s_cause (C := C) (M := M) (i := i) x2 hs hrc
    have cpre : ∀ o, ((f_nt_causeAgainst (sN C i (uN N1 40 s 0 d)) i i s (nI r)).bind fun r6 => if r6 = (-9) then some (nI r, sN C i (uN N1 40 s 0 d)) else if r6 = 12 then (f_nt_roleCause (sN C i (uN N1 40 s 0 d)) i s (nI r)).bind fun r10 => (f_st_noteRefusal (sN C i (uN N1 40 s 0 d)) i s 2 r6 r10).bind fun r11 => some ((-9), r11) else (f_st_noteRefusal (sN C i (uN N1 40 s 0 d)) i s 2 r6 (-9)).bind fun r9 => some ((-9), r9)) = o → f_nt_drawCandidate (sN C i N1) i i s = o := fun o q => by
      unfold f_nt_drawCandidate f_rc_nextDraw
      rw [e33, e32, e2, e40, ← hd]
      refine ip A (bs rfl (bs (x := sN C i (uN N1 40 s 0 d)) (by rw [wrN (by decide)]) ?_))
      rw [i10, i40, imax1 hc0 (by omega), u1]
      exact ip (ne0 hc0 (by omega)) (bs (x := nI r) (by rw [er]) q)
    have mpre : ∀ o, ((f_m_causeOf (sV M (upd v1 (290 + 32 * s + 17) d)) (nI s) (nI r)).bind fun r16 => if r16 = 0 then some (nI r, sV M (upd v1 (290 + 32 * s + 17) d)) else ((f_m_roleOf (sV M (upd v1 (290 + 32 * s + 17) d)) (nI s) 0).bind fun r18 => if nI r = r18 then if r16 = 12 then (f_m_refuse (sV M (upd v1 (290 + 32 * s + 17) d)) (nI s) 2 r16 21).bind fun r30 => some ((-9 : Int32), r30) else (f_m_refuse (sV M (upd v1 (290 + 32 * s + 17) d)) (nI s) 2 r16 (-9)).bind fun r29 => some ((-9), r29) else (f_m_roleOf (sV M (upd v1 (290 + 32 * s + 17) d)) (nI s) 1).bind fun r20 => if nI r = r20 then if r16 = 12 then (f_m_refuse (sV M (upd v1 (290 + 32 * s + 17) d)) (nI s) 2 r16 22).bind fun r27 => some ((-9), r27) else (f_m_refuse (sV M (upd v1 (290 + 32 * s + 17) d)) (nI s) 2 r16 (-9)).bind fun r26 => some ((-9), r26) else if r16 = 12 then (f_m_refuse (sV M (upd v1 (290 + 32 * s + 17) d)) (nI s) 2 r16 23).bind fun r24 => some ((-9), r24) else (f_m_refuse (sV M (upd v1 (290 + 32 * s + 17) d)) (nI s) 2 r16 (-9)).bind fun r23 => some ((-9), r23))) = o → f_m_sampledBy (sV M v) (nI s) = o := fun o q => by
      unfold f_m_sampledBy
      refine bs mr (bs (sd s) (ip (gx (k := 290 + 32 * s + 1) (by simp only [IXr]) (by omega) (by omega)) (bs (sd s) (ip (gx (k := 290 + 32 * s + 0) (by simp only [IXr]) (by omega) (by omega)) ?_))))
      rw [rx (k := 290 + 32 * s + 1) (by simp only [IXr]) (by omega), rx (k := 290 + 32 * s + 0) (by simp only [IXr]) (by omega), t_3, rdV]
      refine ip A (bs (sd s) (bs (sd s) (ip (gx (k := 290 + 32 * s + 17) (by simp only [IXr]) (by omega) (by omega)) (ip (gx (k := 290 + 32 * s + 17) (by simp only [IXr]) (by omega) (by omega)) ?_))))
      rw [rx (k := 290 + 32 * s + 17) (by simp only [IXr]) (by omega), ← hd]
      refine bs (wx (k := 290 + 32 * s + 17) (by simp only [IXr]) (by omega)) (bs (sd s) (ip (gx (k := 290 + 32 * s + 17) (by simp only [IXr]) (by omega) (by omega)) ?_))
      rw [t_1, rdV, j1, rx (k := 290 + 32 * s + 17) (by simp only [IXr]) (by omega), up_s, u1]
      exact ip (ne0 hc0 (by omega)) (bs (x := nI r) (by rw [er]) q)
    have nn : ∀ f a b, f ≠ 40 → f ≠ 42 → (uN N1 40 s 0 d).1 f a b = N.1 f a b := fun f a b h1 h2 => (n2 f a b h1).trans (n1 f a b h2)
    have kk : ∀ k, k ≠ aS s + 17 → (k < aS s + 22 ∨ aS s + 25 ≤ k) → upd v1 (290 + 32 * s + 17) d k = v k := fun k h1 h2 => (k2 k h1).trans (k1 k h2)
    rcases cr with ⟨rfl, rfl⟩ | ⟨e, q1, q2⟩
    · exact ⟨nI r, _, _, cpre _ (bs cc (ip rfl rfl)), mpre _ (bs cm (ip rfl rfl)), x2, Or.inr ⟨r, hrc, rfl⟩, nn, kk⟩
    · subst e
      have e0 : ¬ x = 0 := by rcases q1 with rfl | rfl | rfl | rfl <;> decide
      have e9 : ¬ x = -9 := by rcases q1 with rfl | rfl | rfl | rfl <;> decide
      refine ⟨-9, rfN (uN N1 40 s 0 d) s 2 x (if x = 12 then rcI (upd v1 (290 + 32 * s + 17) d) s r else -9), _, cpre _ (bs cc (im e9 ?_)), mpre _ (bs cm (im e0 (m_tail hs4 x q2))), RX_rf x2 hs, Or.inl rfl, fun f a b h1 h2 => (rfN_o h2).trans (nn f a b h1 h2), fun k h1 h2 => (rfV_o h2).trans (kk k h1 h2)⟩
      by_cases c : x = 12
      · rw [if_pos c, if_pos c]
        exact bs (c_rc (x2.O hs).1) (bs c_rf rfl)
      · rw [if_neg c, if_neg c]
        exact bs c_rf rfl
  · have cR : f_nt_drawCandidate (sN C i N1) i i s = some (-9, sN C i (rfN N1 s 1 (-9) (-9))) := by
      unfold f_nt_drawCandidate
      rw [e33, e32, e2]
      exact im A (bs c_rf rfl)
    exact ⟨-9, _, _, cR, mp0 _ (im A (bs (m_rf hs4) rfl)), RX_rf x1 hs, Or.inl rfl, fun f a b h1 h2 => (rfN_o h2).trans (n1 f a b h2), fun k h1 h2 => (rfV_o h2).trans (k1 k h2)⟩
end L50
