/-! the relation sees a network and an array only where they have places; copies -/
section L66
variable {C M : Me} {i i0 i1 : Nat} {N N' S : Nt} {v v' : Vt} {sc cnt w s r : Nat}
theorem RN_xv (h : RN N v sc cnt w) (hv : ∀ k, k < 600 → v' k = v k) : RN N v' sc cnt w := by
  have hl := h.lt
  have eO : ∀ c j, c < 6 → j < 16 → v' (aO c + j) = v (aO c + j) := fun c j h1 h2 => hv _ (by show 420 + 16 * c + j < 600; omega)
  have eS : ∀ a j, a < 4 → j < 32 → v' (aS a + j) = v (aS a + j) := fun a j h1 h2 => hv _ (by show 290 + 32 * a + j < 600; omega)
  have eSk : ∀ a j k, a < 4 → j + k < 32 → v' (aS a + j + k) = v (aS a + j + k) := fun a j k h1 h2 => hv _ (by show 290 + 32 * a + j + k < 600; omega)
  refine ⟨⟨?_, ?_, ?_, ?_, ?_, ?_, ?_, ?_, ?_, ?_, ?_⟩, ?_⟩
  · intro f a b h1 h2
    rw [hv _ (da_ad h2).2]
    exact h.E f a b h1 h2
  · intro a b h1 h2
    have hP := aP_lt h1 h2
    rw [hv _ (by omega), hv _ (by omega), hv _ (by omega), hv _ (by omega)]
    exact h.L a b h1 h2
  · intro a ha
    obtain ⟨q1, q2⟩ := h.T a ha
    rw [eS a 17 ha (by omega), eS a 16 ha (by omega)]
    refine ⟨fun z => ?_, q2⟩
    obtain ⟨t1, t2, t3⟩ := q1 z
    exact ⟨t1, fun k hk => by rw [eSk a 22 k ha (by omega)]; exact t2 k hk, t3⟩
  · intro a k h1 h2 h3
    rw [eS a 6 h1 (by omega)] at h3
    rw [eSk a 7 k h1 (by omega)]
    exact h.Q a k h1 h2 h3
  · intro c h1 h2
    rw [eO c 3 h1 (by omega)] at h2
    rw [eO c 4 h1 (by omega), eO c 5 h1 (by omega), eO c 6 h1 (by omega)]
    exact h.K c h1 h2
  · intro b hb
    rw [h.M b hb]
    show nI (airN (tN (v (10 + b))) (tN (v (18 + b))) 1200) = nI (airN (tN (v' (10 + b))) (tN (v' (18 + b))) 1200)
    rw [hv _ (by omega), hv _ (by omega)]
  · refine ⟨hl.2, by rw [hv _ (by omega)]; exact h.iR.2.1, fun b hb => ?_⟩
    rw [hv _ (by omega), hv _ (by omega)]
    exact h.iR.2.2 b hb
  · unfold IS
    rw [hv 2 (by omega), hv 3 (by omega), hv 4 (by omega), hv 5 (by omega), hv 6 (by omega), hv 0 (by omega), hv 7 (by omega), hv 8 (by omega)]
    exact h.iS
  · intro a b h1 h2
    have hP := aP_lt h1 h2
    rw [hv _ (by omega), hv _ (by omega), hv _ (by omega), hv _ (by omega), hv _ (by omega)]
    exact h.iL a b h1 h2
  · intro a ha
    obtain ⟨a1, a2, a3, a4⟩ := h.iT a ha
    rw [eS a 5 ha (by omega), eS a 6 ha (by omega), eS a 15 ha (by omega)]
    exact ⟨a1, a2, a3, fun k hk q => by rw [eSk a 7 k ha (by omega)]; exact a4 k hk q⟩
  · intro c hc
    have e0 := eO c 0 hc (by omega)
    rw [Nat.add_zero] at e0
    obtain ⟨a1, a2⟩ := h.iC c hc
    rw [e0, eO c 1 hc (by omega), eO c 2 hc (by omega), eO c 3 hc (by omega)]
    refine ⟨a1, fun z => ?_⟩
    obtain ⟨b1, b2, b3, b4, b5⟩ := a2 z
    refine ⟨b1, b2, b3, b4, fun k hk => ?_⟩
    rw [hv _ (by show 420 + 16 * c + 5 + k < 600; omega), hv _ (by show 420 + 16 * c + 9 + k < 600; omega)]
    exact b5 k hk
  · intro t ht
    obtain ⟨a1, a2⟩ := h.2 t ht
    refine ⟨fun k hk => by rw [eSk t 18 k (by omega) (by omega)]; exact a1 k hk, fun z k hk => ?_⟩
    rw [eSk t 18 k (by omega) (by omega)]
    refine a2 ?_ k hk
    obtain ⟨b, z1, z2⟩ := z
    have hP := aP_lt (show t < 4 by omega) (show b < 8 by omega)
    refine ⟨b, z1, ?_⟩
    unfold al at z2 ⊢
    rw [hv _ (by omega)] at z2
    exact z2
theorem RN_xn (h : RN N v sc cnt w) (hN : ∀ f a b, ((dm f a b = true ∧ f ≠ 39) ∨ (f = 13 ∧ a = 0 ∧ b < 8)) → N'.1 f a b = N.1 f a b) (hN2 : ∀ a, a < 4 → N'.2 39 a 0 = N.2 39 a 0) : RN N' v sc cnt w := by
  have hl := h.lt
  refine ⟨⟨?_, ?_, ?_, ?_, ?_, ?_, h.iR, h.iS, h.iL, h.iT, h.iC⟩, ?_⟩
  · intro f a b h1 h2
    rw [hN f a b (Or.inl ⟨h2, fun q => by subst q; cases h1⟩)]
    exact h.E f a b h1 h2
  · intro a b h1 h2
    rw [hN 20 a b (Or.inl ⟨dP (by simp) h1 h2, by decide⟩), hN 21 a b (Or.inl ⟨dP (by simp) h1 h2, by decide⟩), hN 27 a b (Or.inl ⟨dP (by simp) h1 h2, by decide⟩)]
    exact h.L a b h1 h2
  · intro a ha
    obtain ⟨q1, q2⟩ := h.T a ha
    rw [hN 40 a 0 (Or.inl ⟨dS (by simp) ha, by decide⟩), hN2 a ha]
    refine ⟨fun z => ?_, fun z => ?_⟩
    · obtain ⟨t1, t2, t3⟩ := q1 z
      exact ⟨t1, fun k hk => by rw [hN 42 a k (Or.inl ⟨d42 ha hk, by decide⟩)]; exact t2 k hk, t3⟩
    · obtain ⟨t1, t2⟩ := q2 z
      exact ⟨t1, fun k hk => by rw [hN 42 a k (Or.inl ⟨d42 ha hk, by decide⟩)]; exact t2 k hk⟩
  · intro a k h1 h2 h3
    rw [hN 43 a k (Or.inl ⟨d43 h1 h2, by decide⟩)]
    exact h.Q a k h1 h2 h3
  · intro c h1 h2
    rw [hN 54 c 0 (Or.inl ⟨dO (by simp) h1, by decide⟩)]
    exact h.K c h1 h2
  · intro b hb
    rw [hN 13 0 b (Or.inr ⟨rfl, rfl, by omega⟩)]
    exact h.M b hb
  · intro t ht
    obtain ⟨a1, a2⟩ := h.2 t ht
    exact ⟨fun k hk => by rw [hN 41 t k (Or.inl ⟨d41 (by omega) hk, by decide⟩)]; exact a1 k hk, a2⟩
/-! a copy: what is copied so far -/
def Cp (S N : Nt) (P : Nat → Nat → Nat → Prop) (Q : Nat → Prop) : Prop := (∀ f a b, P f a b → N.1 f a b = S.1 f a b) ∧ ∀ a, Q a → N.2 39 a 0 = S.2 39 a 0
theorem Cp_w {P P' : Nat → Nat → Nat → Prop} {Q Q' : Nat → Prop} (h : Cp S N P Q) (h1 : ∀ f a b, P' f a b → P f a b) (h2 : ∀ a, Q' a → Q a) : Cp S N P' Q' := ⟨fun f a b q => h.1 f a b (h1 f a b q), fun a q => h.2 a (h2 a q)⟩
theorem Cp_u {P : Nat → Nat → Nat → Prop} {Q : Nat → Prop} {f s r : Nat} (h : Cp S N P Q) : Cp S (uN N f s r (S.1 f s r)) (fun a b d => P a b d ∨ (a = f ∧ b = s ∧ d = r)) Q := by
  refine ⟨fun a b d q => ?_, h.2⟩
  by_cases e : a = f ∧ b = s ∧ d = r
  · obtain ⟨rfl, rfl, rfl⟩ := e
    rw [uN_s]
  · rw [uN_n e]
    exact h.1 a b d (q.resolve_right e)
theorem Cp_l {P : Nat → Nat → Nat → Prop} {Q : Nat → Prop} {s : Nat} (h : Cp S N P Q) : Cp S (uL N 39 s 0 (S.2 39 s 0)) P (fun a => Q a ∨ a = s) := by
  refine ⟨h.1, fun a q => ?_⟩
  by_cases e : a = s
  · subst e
    exact if_pos ⟨rfl, rfl, rfl⟩
  · show (if 39 = 39 ∧ a = s ∧ 0 = 0 then S.2 39 s 0 else N.2 39 a 0) = _
    rw [if_neg (fun z => e z.2.1)]
    exact h.2 a (q.resolve_right e)
theorem Cp_c {P : Nat → Nat → Nat → Prop} {Q : Nat → Prop} {f s n : Nat} (h : Cp S N P Q) : Cp S (uC N f s (fun k => S.1 f s k) 0 0 n) (fun a b d => P a b d ∨ (a = f ∧ b = s ∧ d < n)) Q := by
  refine ⟨fun a b d q => ?_, h.2⟩
  show (if a = f ∧ b = s then va_cpy (fun k => S.1 f s k) (N.1 f s) 0 0 n d else N.1 a b d) = _
  by_cases e : a = f ∧ b = s
  · obtain ⟨rfl, rfl⟩ := e
    rw [if_pos ⟨rfl, rfl⟩]
    unfold va_cpy
    by_cases c : d < n
    · rw [if_pos ⟨by omega, by omega⟩, show 0 + (d - 0) = d by omega]
    · rw [if_neg (by omega)]
      exact h.1 a b d (q.resolve_right (fun z => c z.2.2))
  · rw [if_neg e]
    exact h.1 a b d (q.resolve_right (fun z => e ⟨z.1, z.2.1⟩))
section C66
variable {P : Nat → Nat → Nat → Prop} {Q : Nat → Prop} (hi : i1 ≠ i0)
theorem st_u {f : Nat} (hi : i1 ≠ i0) (hf : f < 70) (N : Nt) : some (wI (sN C i0 N) f i0 s r ((sN C i0 N).1 f i1 s r)) = some (sN C i0 (uN N f s r ((nN C i1).1 f s r))) := by
  rw [rdNj hi, wrN hf]
  rfl
theorem st_l (hi : i1 ≠ i0) (N : Nt) : some (wL (sN C i0 N) 39 i0 s 0 ((sN C i0 N).2 39 i1 s 0)) = some (sN C i0 (uL N 39 s 0 ((nN C i1).2 39 s 0))) := by
  rw [rdN2j hi, wrL (by decide)]
  rfl
theorem st_c {f n : Nat} (hi : i1 ≠ i0) (hf : f < 70) (N : Nt) : some (cI (sN C i0 N) f i0 s (fun k => (sN C i0 N).1 f i1 s k) 0 0 n) = some (sN C i0 (uC N f s (fun k => (nN C i1).1 f s k) 0 0 n)) := by
  have e : (fun k => (sN C i0 N).1 f i1 s k) = fun k => (nN C i1).1 f s k := funext fun k => rdNj hi
  rw [e, wrC hf]
theorem cp_ch (hi : i1 ≠ i0) (h : Cp (nN C i1) N P Q) (hb : (nN C i1).1 50 s 0 = 0 ∨ (nN C i1).1 50 s 0 = 1) : ∃ N', f_ch_become (sN C i0 N) i0 s i1 s = some (sN C i0 N') ∧ Cp (nN C i1) N' (fun a b d => P a b d ∨ (50 ≤ a ∧ a ≤ 54 ∧ b = s ∧ d = 0) ∨ (55 ≤ a ∧ a ≤ 56 ∧ b = s ∧ d < 4)) Q := by
  have c := Cp_c (f := 56) (s := s) (n := 4) (Cp_c (f := 55) (s := s) (n := 4) (Cp_u (f := 54) (s := s) (r := 0) (Cp_u (f := 53) (s := s) (r := 0) (Cp_u (f := 52) (s := s) (r := 0) (Cp_u (f := 51) (s := s) (r := 0) (Cp_u (f := 50) (s := s) (r := 0) h))))))
  refine ⟨_, ?_, Cp_w c (fun a b d q => ?_) (fun a q => q)⟩
  · unfold f_ch_become
    refine ip (by rw [rdNj hi]; exact hb) (bs (st_u hi (by decide) _) (bs (st_u hi (by decide) _) (bs (st_u hi (by decide) _) (bs (st_u hi (by decide) _) (bs (st_u hi (by decide) _) (bs (st_c hi (by decide) _) (bs (st_c hi (by decide) _) rfl)))))))
  · rcases q with q | q | q
    · simp [q]
    · rcases (show a = 50 ∨ a = 51 ∨ a = 52 ∨ a = 53 ∨ a = 54 by omega) with e | e | e | e | e <;> simp [e, q.2.2.1, q.2.2.2]
    · rcases (show a = 55 ∨ a = 56 by omega) with e | e <;> simp [e, q.2.2.1, q.2.2.2]
theorem cp_lk (hi : i1 ≠ i0) (h : Cp (nN C i1) N P Q) (hb : (nN C i1).1 20 s r = 0 ∨ (nN C i1).1 20 s r = 1) : ∃ N', f_lk_become (sN C i0 N) i0 s r i1 s r = some (sN C i0 N') ∧ Cp (nN C i1) N' (fun a b d => P a b d ∨ (20 ≤ a ∧ a ≤ 27 ∧ b = s ∧ d = r)) Q := by
  have c := Cp_u (f := 27) (s := s) (r := r) (Cp_u (f := 26) (s := s) (r := r) (Cp_u (f := 25) (s := s) (r := r) (Cp_u (f := 24) (s := s) (r := r) (Cp_u (f := 23) (s := s) (r := r) (Cp_u (f := 22) (s := s) (r := r) (Cp_u (f := 21) (s := s) (r := r) (Cp_u (f := 20) (s := s) (r := r) h)))))))
  refine ⟨_, ?_, Cp_w c (fun a b d q => ?_) (fun a q => q)⟩
  · unfold f_lk_become
    refine ip (by rw [rdNj hi]; exact hb) (bs (st_u hi (by decide) _) (bs (st_u hi (by decide) _) (bs (st_u hi (by decide) _) (bs (st_u hi (by decide) _) (bs (st_u hi (by decide) _) (bs (st_u hi (by decide) _) (bs (st_u hi (by decide) _) (bs (st_u hi (by decide) _) rfl))))))))
  · rcases q with q | q
    · simp [q]
    · rcases (show a = 20 ∨ a = 21 ∨ a = 22 ∨ a = 23 ∨ a = 24 ∨ a = 25 ∨ a = 26 ∨ a = 27 by omega) with e | e | e | e | e | e | e | e <;> simp [e, q.2.2.1, q.2.2.2]
theorem cp_tb (hi : i1 ≠ i0) (h : Cp (nN C i1) N P Q) : ∃ N', f_tb_become (sN C i0 N) i0 i1 = some (sN C i0 N') ∧ Cp (nN C i1) N' (fun a b d => P a b d ∨ (a = 10 ∧ b = 0 ∧ d = 0) ∨ (11 ≤ a ∧ a ≤ 13 ∧ b = 0 ∧ d < 8)) Q := by
  have c := Cp_c (f := 13) (s := 0) (n := 8) (Cp_c (f := 12) (s := 0) (n := 8) (Cp_c (f := 11) (s := 0) (n := 8) (Cp_u (f := 10) (s := 0) (r := 0) h)))
  refine ⟨_, ?_, Cp_w c (fun a b d q => ?_) (fun a q => q)⟩
  · unfold f_tb_become
    exact bs (st_u hi (by decide) _) (bs (st_c hi (by decide) _) (bs (st_c hi (by decide) _) (bs (st_c hi (by decide) _) rfl)))
  · rcases q with q | q | q
    · simp [q]
    · simp [q.1, q.2.1, q.2.2]
    · rcases (show a = 11 ∨ a = 12 ∨ a = 13 by omega) with e | e | e <;> simp [e, q.2.2.1, q.2.2.2]
theorem cp_st (hi : i1 ≠ i0) (h : Cp (nN C i1) N P Q) (hb : ∀ r, r < 8 → (nN C i1).1 20 s r = 0 ∨ (nN C i1).1 20 s r = 1) (hb2 : (nN C i1).1 37 s 0 = 0 ∨ (nN C i1).1 37 s 0 = 1) : ∃ N', f_st_become (sN C i0 N) i0 s i1 s = some (sN C i0 N') ∧ Cp (nN C i1) N' (fun a b d => P a b d ∨ (20 ≤ a ∧ a ≤ 27 ∧ b = s ∧ d < 8) ∨ (a = 41 ∧ b = s ∧ d < 4) ∨ (a = 42 ∧ b = s ∧ d < 3) ∨ (a = 43 ∧ b = s ∧ d < 8) ∨ (31 ≤ a ∧ a ≤ 38 ∧ b = s ∧ d = 0) ∨ (a = 40 ∧ b = s ∧ d = 0)) (fun a => Q a ∨ a = s) := by
  have key := lpI (b := b_st_become_2 i0 s i1 s) (fun k x => ∃ N', x = (nI k, sN C i0 N') ∧ Cp (nN C i1) N' (fun a b d => P a b d ∨ (20 ≤ a ∧ a ≤ 27 ∧ b = s ∧ d < k)) Q) (fun t => ∃ N', t = sN C i0 N' ∧ Cp (nN C i1) N' (fun a b d => P a b d ∨ (20 ≤ a ∧ a ≤ 27 ∧ b = s ∧ d < 8)) Q) 8 (by omega) (fun k x hk hP => ?_) (fun x hP => ?_) (x := (0, sN C i0 N)) ⟨N, rfl, Cp_w h (fun a b d q => q.resolve_right (by omega)) (fun a q => q)⟩
  · obtain ⟨t, t1, N1, rfl, c1⟩ := key
    have c := Cp_u (f := 40) (s := s) (r := 0) (Cp_l (s := s) (Cp_u (f := 38) (s := s) (r := 0) (Cp_u (f := 37) (s := s) (r := 0) (Cp_u (f := 36) (s := s) (r := 0) (Cp_u (f := 35) (s := s) (r := 0) (Cp_u (f := 34) (s := s) (r := 0) (Cp_u (f := 33) (s := s) (r := 0) (Cp_u (f := 32) (s := s) (r := 0) (Cp_u (f := 31) (s := s) (r := 0) (Cp_c (f := 43) (s := s) (n := 8) (Cp_c (f := 42) (s := s) (n := 3) (Cp_c (f := 41) (s := s) (n := 4) c1))))))))))))
    refine ⟨_, ?_, Cp_w c (fun a b d q => ?_) (fun a q => q)⟩
    · unfold f_st_become
      refine bs t1 (bs (st_c hi (by decide) _) (bs (st_c hi (by decide) _) (bs (st_c hi (by decide) _) (bs (st_u hi (by decide) _) (bs (st_u hi (by decide) _) (bs (st_u hi (by decide) _) (bs (st_u hi (by decide) _) (bs (st_u hi (by decide) _) (bs (st_u hi (by decide) _) (ip (by rw [rdNj hi]; exact hb2) (bs (st_u hi (by decide) _) (bs (st_u hi (by decide) _) (bs (st_l hi _) (bs (st_u hi (by decide) _) rfl))))))))))))))
    · rcases q with q | q | q | q | q | q | q
      · simp [q]
      · simp [q]
      · simp [q.1, q.2.1, q.2.2]
      · simp [q.1, q.2.1, q.2.2]
      · simp [q.1, q.2.1, q.2.2]
      · rcases (show a = 31 ∨ a = 32 ∨ a = 33 ∨ a = 34 ∨ a = 35 ∨ a = 36 ∨ a = 37 ∨ a = 38 by omega) with e | e | e | e | e | e | e | e <;> simp [e, q.2.2.1, q.2.2.2]
      · simp [q.1, q.2.1, q.2.2]
  · obtain ⟨N1, rfl, c1⟩ := hP
    obtain ⟨N2, l1, c2⟩ := cp_lk (s := s) (r := k) hi c1 (hb k hk)
    refine ⟨(nI (k + 1), sN C i0 N2), ?_, N2, rfl, Cp_w c2 (fun a b d q => ?_) (fun a q => q)⟩
    · unfold b_st_become_2
      refine im (show ¬ (8 : Int32) ≤ nI k from nle (n := 8) (by omega) (by omega)) (ip (gin_nI (by omega) (by omega)) (ip (gin_nI (by omega) (by omega)) ?_))
      rw [tN_nI (by omega)]
      refine bs l1 ?_
      simp only [↓ob, IXr]
    · rcases q with q | q
      · exact Or.inl (Or.inl q)
      · by_cases e : d = k
        · exact Or.inr ⟨q.1, q.2.1, q.2.2.1, e⟩
        · exact Or.inl (Or.inr ⟨q.1, q.2.1, q.2.2.1, by omega⟩)
  · obtain ⟨N1, rfl, c1⟩ := hP
    refine ⟨_, ?_, N1, rfl, c1⟩
    unfold b_st_become_2
    exact ip (show (8 : Int32) ≤ nI 8 from by decide) rfl
theorem cp_lo (hi : i1 ≠ i0) (h : Cp (nN C i1) N P Q) : ∃ N', f_lo_become (sN C i0 N) i0 i1 = some (sN C i0 N') ∧ Cp (nN C i1) N' (fun a b d => P a b d ∨ (a = 60 ∧ b = 0 ∧ d = 0) ∨ (a = 61 ∧ b < 4 ∧ d < 20)) Q := by
  have key := lpI (b := b_lo_become_10 i0 i1) (fun k x => ∃ N', x = (nI k, sN C i0 N') ∧ Cp (nN C i1) N' (fun a b d => (P a b d ∨ (a = 60 ∧ b = 0 ∧ d = 0)) ∨ (a = 61 ∧ b < k ∧ d < 20)) Q) (fun t => ∃ N', t = sN C i0 N' ∧ Cp (nN C i1) N' (fun a b d => (P a b d ∨ (a = 60 ∧ b = 0 ∧ d = 0)) ∨ (a = 61 ∧ b < 4 ∧ d < 20)) Q) 4 (by omega) (fun k x hk hP => ?_) (fun x hP => ?_) (x := (0, sN C i0 (uN N 60 0 0 ((nN C i1).1 60 0 0)))) ⟨_, rfl, Cp_w (Cp_u (f := 60) (s := 0) (r := 0) h) (fun a b d q => q.resolve_right (by omega)) (fun a q => q)⟩
  · obtain ⟨t, t1, N1, rfl, c1⟩ := key
    refine ⟨N1, ?_, Cp_w c1 (fun a b d q => ?_) (fun a q => q)⟩
    · unfold f_lo_become
      exact bs (st_u hi (by decide) _) (bs t1 rfl)
    · rcases q with q | q | q
      · exact Or.inl (Or.inl q)
      · exact Or.inl (Or.inr q)
      · exact Or.inr q
  · obtain ⟨N1, rfl, c1⟩ := hP
    refine ⟨(nI (k + 1), sN C i0 (uC N1 61 k (fun j => (nN C i1).1 61 k j) 0 0 20)), ?_, _, rfl, Cp_w (Cp_c (f := 61) (s := k) (n := 20) c1) (fun a b d q => ?_) (fun a q => q)⟩
    · unfold b_lo_become_10
      refine im (show ¬ (4 : Int32) ≤ nI k from nle (n := 4) (by omega) (by omega)) (ip (gin_nI (by omega) (by omega)) (ip (gin_nI (by omega) (by omega)) ?_))
      rw [tN_nI (by omega)]
      refine bs (st_c hi (by decide) _) ?_
      simp only [↓ob, IXr]
    · rcases q with q | q
      · exact Or.inl (Or.inl q)
      · by_cases e : b = k
        · exact Or.inr ⟨q.1, e, q.2.2⟩
        · exact Or.inl (Or.inr ⟨q.1, by omega, q.2.2⟩)
  · obtain ⟨N1, rfl, c1⟩ := hP
    refine ⟨_, ?_, N1, rfl, c1⟩
    unfold b_lo_become_10
    exact ip (show (4 : Int32) ≤ nI 4 from by decide) rfl
end C66
end L66
