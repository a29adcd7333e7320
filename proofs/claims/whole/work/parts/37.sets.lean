/-! which part of the relation a write touches -/
theorem ad_ne {f s r f' s' r' : Nat} (h : dm f s r = true) (h' : dm f' s' r' = true) (hf : f' ≠ f) : ad f' s' r' ≠ ad f s r := fun e => hf (ad_inj h' h e).1
theorem dP {f s r : Nat} (h : f = 20 ∨ f = 21 ∨ f = 22 ∨ f = 23 ∨ f = 24 ∨ f = 25 ∨ f = 26 ∨ f = 27) (hs : s < 4) (hr : r < 8) : dm f s r = true := by
  rcases h with rfl | rfl | rfl | rfl | rfl | rfl | rfl | rfl <;> simp [dm] <;> omega
theorem dS {f s : Nat} (h : f = 31 ∨ f = 32 ∨ f = 33 ∨ f = 34 ∨ f = 35 ∨ f = 36 ∨ f = 37 ∨ f = 38 ∨ f = 39 ∨ f = 40) (hs : s < 4) : dm f s 0 = true := by
  rcases h with rfl | rfl | rfl | rfl | rfl | rfl | rfl | rfl | rfl | rfl <;> simp [dm] <;> omega
theorem d41 {s k : Nat} (hs : s < 4) (hk : k < 4) : dm 41 s k = true := by simp [dm]; omega
theorem d42 {s k : Nat} (hs : s < 4) (hk : k < 3) : dm 42 s k = true := by simp [dm]; omega
theorem d43 {s k : Nat} (hs : s < 4) (hk : k < 8) : dm 43 s k = true := by simp [dm]; omega
theorem dO {f c : Nat} (h : f = 50 ∨ f = 51 ∨ f = 52 ∨ f = 53 ∨ f = 54) (hc : c < 6) : dm f c 0 = true := by
  rcases h with rfl | rfl | rfl | rfl | rfl <;> simp [dm] <;> omega
theorem d55 {c k : Nat} (hs : c < 6) (hk : k < 4) : dm 55 c k = true := by simp [dm]; omega
theorem d56 {c k : Nat} (hs : c < 6) (hk : k < 4) : dm 56 c k = true := by simp [dm]; omega
theorem d11 {r : Nat} (hr : r < 8) : dm 11 0 r = true := by simp [dm]; omega
theorem d12 {r : Nat} (hr : r < 8) : dm 12 0 r = true := by simp [dm]; omega
theorem d61 {f k : Nat} (hf : f < 4) (hk : k < 20) : dm 61 f k = true := by simp [dm]; omega
section ST
variable {N : Nt} {v : Vt} {sc cnt w f s r : Nat} {x : Int32}
/-- the array at another field's place -/
theorem up_ad {f' s' r' k : Nat} (h : dm f s r = true) (h' : dm f' s' r' = true) (hf : f' ≠ f) (hk : ad f' s' r' = k) : upd v (ad f s r) x k = v k := by
  subst hk
  exact up_n (ad_ne h h' hf)
theorem RL_v (h : RL N v sc cnt) (hd : dm f s r = true) (hf : f ≠ 20 ∧ f ≠ 21 ∧ f ≠ 27 ∧ f ≠ 22) : RL N (upd v (ad f s r) x) sc cnt := by
  intro s' r' h1 h2
  rw [up_ad (k := aP s' r') hd (dP (f := 20) (by simp) h1 h2) hf.1.symm rfl, up_ad (k := aP s' r' + 7) hd (dP (f := 27) (by simp) h1 h2) hf.2.2.1.symm rfl, up_ad (k := aP s' r' + 1) hd (dP (f := 21) (by simp) h1 h2) hf.2.1.symm rfl, up_ad (k := aP s' r' + 6) hd (dP (f := 22) (by simp) h1 h2) hf.2.2.2.symm rfl]
  exact h s' r' h1 h2
theorem RL_n (h : RL N v sc cnt) (hf : f ≠ 20 ∧ f ≠ 21 ∧ f ≠ 27) : RL (uN N f s r x) v sc cnt := by
  intro s' r' h1 h2
  rw [uN_f hf.1.symm, uN_f hf.2.2.symm, uN_f hf.2.1.symm]
  exact h s' r' h1 h2
theorem RL_s (h : RL N v sc cnt) (hd : dm f s r = true) (hf : f ≠ 20 ∧ f ≠ 21 ∧ f ≠ 27 ∧ f ≠ 22) : RL (uN N f s r x) (upd v (ad f s r) x) sc cnt := RL_n (RL_v h hd hf) ⟨hf.1, hf.2.1, hf.2.2.1⟩
theorem RT_v (h : RT N v sc) (hd : dm f s r = true) (hf : f ≠ 39 ∧ f ≠ 40 ∧ f ≠ 42) : RT N (upd v (ad f s r) x) sc := by
  intro s' h1
  obtain ⟨a, b⟩ := h s' h1
  refine ⟨fun q => ?_, b⟩
  obtain ⟨a1, a2, a3⟩ := a q
  rw [up_ad (k := aS s' + 17) hd (dS (f := 40) (by simp) h1) hf.2.1.symm rfl, up_ad (k := aS s' + 16) hd (dS (f := 39) (by simp) h1) hf.1.symm rfl]
  refine ⟨a1, fun k hk => ?_, a3⟩
  rw [up_ad (k := aS s' + 22 + k) hd (d42 h1 hk) hf.2.2.symm rfl]
  exact a2 k hk
theorem RT_n (h : RT N v sc) (hf : f ≠ 40 ∧ f ≠ 42) : RT (uN N f s r x) v sc := by
  intro s' h1
  obtain ⟨a, b⟩ := h s' h1
  refine ⟨fun q => ?_, fun q => ?_⟩
  · obtain ⟨a1, a2, a3⟩ := a q
    rw [uN_f hf.1.symm]
    exact ⟨a1, fun k hk => by rw [uN_f hf.2.symm]; exact a2 k hk, a3⟩
  · obtain ⟨a1, a2⟩ := b q
    rw [uN_f hf.1.symm]
    exact ⟨a1, fun k hk => by rw [uN_f hf.2.symm]; exact a2 k hk⟩
theorem RT_s (h : RT N v sc) (hd : dm f s r = true) (hf : f ≠ 39 ∧ f ≠ 40 ∧ f ≠ 42) : RT (uN N f s r x) (upd v (ad f s r) x) sc := RT_n (RT_v h hd hf) hf.2
theorem RQ_v (h : RQ N v) (hd : dm f s r = true) (hf : f ≠ 31 ∧ f ≠ 43) : RQ N (upd v (ad f s r) x) := by
  intro s' k h1 h2
  rw [up_ad (k := aS s' + 6) hd (dS (f := 31) (by simp) h1) hf.1.symm rfl, up_ad (k := aS s' + 7 + k) hd (d43 h1 h2) hf.2.symm rfl]
  exact h s' k h1 h2
theorem RQ_n (h : RQ N v) (hf : f ≠ 43) : RQ (uN N f s r x) v := by
  intro s' k h1 h2
  rw [uN_f hf.symm]
  exact h s' k h1 h2
theorem RQ_s (h : RQ N v) (hd : dm f s r = true) (hf : f ≠ 31 ∧ f ≠ 43) : RQ (uN N f s r x) (upd v (ad f s r) x) := RQ_n (RQ_v h hd hf) hf.2
theorem RK_v (h : RK N v) (hd : dm f s r = true) (hf : f ≠ 53 ∧ f ≠ 54 ∧ f ≠ 55) : RK N (upd v (ad f s r) x) := by
  intro c h1
  rw [up_ad (k := aO c + 3) hd (dO (f := 53) (by simp) h1) hf.1.symm rfl, up_ad (k := aO c + 4) hd (dO (f := 54) (by simp) h1) hf.2.1.symm rfl, up_ad (k := aO c + 5) hd (d55 (k := 0) h1 (by omega)) hf.2.2.symm rfl, up_ad (k := aO c + 6) hd (d55 (k := 1) h1 (by omega)) hf.2.2.symm rfl]
  exact h c h1
theorem RK_n (h : RK N v) (hf : f ≠ 54) : RK (uN N f s r x) v := by
  intro c h1
  rw [uN_f hf.symm]
  exact h c h1
theorem RK_s (h : RK N v) (hd : dm f s r = true) (hf : f ≠ 53 ∧ f ≠ 54 ∧ f ≠ 55) : RK (uN N f s r x) (upd v (ad f s r) x) := RK_n (RK_v h hd hf) hf.2.1
theorem aN_v {q z : Nat} (hd : dm f s r = true) (hf : f ≠ 11 ∧ f ≠ 12) (hq : q < 8) : aN (upd v (ad f s r) x) q z = aN v q z := by
  show airN (tN (upd v (ad f s r) x (10 + q))) (tN (upd v (ad f s r) x (18 + q))) z = _
  rw [up_ad (k := 10 + q) hd (d11 hq) hf.1.symm rfl, up_ad (k := 18 + q) hd (d12 hq) hf.2.symm rfl]
  rfl
theorem RM_v (h : RM N v cnt) (h8 : cnt ≤ 8) (hd : dm f s r = true) (hf : f ≠ 11 ∧ f ≠ 12) : RM N (upd v (ad f s r) x) cnt := by
  intro q hq
  rw [aN_v hd hf (by omega)]
  exact h q hq
theorem RM_n (h : RM N v cnt) (hf : f ≠ 13) : RM (uN N f s r x) v cnt := by
  intro q hq
  rw [uN_f hf.symm]
  exact h q hq
theorem RM_s (h : RM N v cnt) (h8 : cnt ≤ 8) (hd : dm f s r = true) (hf : f ≠ 11 ∧ f ≠ 12 ∧ f ≠ 13) : RM (uN N f s r x) (upd v (ad f s r) x) cnt := RM_n (RM_v h h8 hd ⟨hf.1, hf.2.1⟩) hf.2.2
theorem IR_v (h : IR v cnt) (hd : dm f s r = true) (hf : f ≠ 10 ∧ f ≠ 11 ∧ f ≠ 12) : IR (upd v (ad f s r) x) cnt := by
  obtain ⟨a1, a2, a3⟩ := h
  refine ⟨a1, by rw [up_ad hd (show dm 10 0 0 = true from rfl) hf.1.symm (k := 1) rfl]; exact a2, fun q hq => ?_⟩
  rw [up_ad (k := 10 + q) hd (d11 (show q < 8 by omega)) hf.2.1.symm rfl, up_ad (k := 18 + q) hd (d12 (show q < 8 by omega)) hf.2.2.symm rfl]
  exact a3 q hq
theorem IS_v (h : IS v sc w) (hd : dm f s r = true) (hf : 7 ≤ f ∧ f ≠ 60) : IS (upd v (ad f s r) x) sc w := by
  unfold IS
  rw [up_ad hd (show dm 0 0 0 = true from rfl) (by omega) (k := 2) rfl, up_ad hd (show dm 1 0 0 = true from rfl) (by omega) (k := 0) rfl, up_ad hd (show dm 2 0 0 = true from rfl) (by omega) (k := 3) rfl, up_ad hd (show dm 3 0 0 = true from rfl) (by omega) (k := 4) rfl, up_ad hd (show dm 4 0 0 = true from rfl) (by omega) (k := 5) rfl, up_ad hd (show dm 5 0 0 = true from rfl) (by omega) (k := 6) rfl, up_ad hd (show dm 6 0 0 = true from rfl) (by omega) (k := 7) rfl, up_ad hd (show dm 60 0 0 = true from rfl) (by omega) (k := 8) rfl]
  exact h
theorem IL_v (h : IL v w) (hd : dm f s r = true) (hf : f ≠ 20 ∧ f ≠ 21 ∧ f ≠ 23 ∧ f ≠ 24 ∧ f ≠ 27) : IL (upd v (ad f s r) x) w := by
  intro s' r' h1 h2
  rw [up_ad (k := aP s' r') hd (dP (f := 20) (by simp) h1 h2) hf.1.symm rfl, up_ad (k := aP s' r' + 1) hd (dP (f := 21) (by simp) h1 h2) hf.2.1.symm rfl, up_ad (k := aP s' r' + 2) hd (dP (f := 23) (by simp) h1 h2) hf.2.2.1.symm rfl, up_ad (k := aP s' r' + 3) hd (dP (f := 24) (by simp) h1 h2) hf.2.2.2.1.symm rfl, up_ad (k := aP s' r' + 7) hd (dP (f := 27) (by simp) h1 h2) hf.2.2.2.2.symm rfl]
  exact h s' r' h1 h2
theorem IT_v (h : IT v) (hd : dm f s r = true) (hf : f ≠ 31 ∧ f ≠ 37 ∧ f ≠ 38 ∧ f ≠ 43) : IT (upd v (ad f s r) x) := by
  intro s' h1
  obtain ⟨a1, a2, a3, a4⟩ := h s' h1
  rw [up_ad (k := aS s' + 5) hd (dS (f := 37) (by simp) h1) hf.2.1.symm rfl, up_ad (k := aS s' + 6) hd (dS (f := 31) (by simp) h1) hf.1.symm rfl, up_ad (k := aS s' + 15) hd (dS (f := 38) (by simp) h1) hf.2.2.1.symm rfl]
  refine ⟨a1, a2, a3, fun k hk q => ?_⟩
  rw [up_ad (k := aS s' + 7 + k) hd (d43 h1 hk) hf.2.2.2.symm rfl]
  exact a4 k hk q
theorem IC_v (h : IC v sc cnt) (hd : dm f s r = true) (hf : f ≠ 50 ∧ f ≠ 51 ∧ f ≠ 52 ∧ f ≠ 53 ∧ f ≠ 55 ∧ f ≠ 56) : IC (upd v (ad f s r) x) sc cnt := by
  intro c h1
  obtain ⟨a1, a2⟩ := h c h1
  rw [up_ad (k := aO c) hd (dO (f := 50) (by simp) h1) hf.1.symm rfl, up_ad (k := aO c + 1) hd (dO (f := 51) (by simp) h1) hf.2.1.symm rfl, up_ad (k := aO c + 2) hd (dO (f := 52) (by simp) h1) hf.2.2.1.symm rfl, up_ad (k := aO c + 3) hd (dO (f := 53) (by simp) h1) hf.2.2.2.1.symm rfl]
  refine ⟨a1, fun q => ?_⟩
  obtain ⟨b1, b2, b3, b4, b5⟩ := a2 q
  refine ⟨b1, b2, b3, b4, fun k hk => ?_⟩
  rw [up_ad (k := aO c + 5 + k) hd (d55 h1 hk) hf.2.2.2.2.1.symm rfl, up_ad (k := aO c + 9 + k) hd (d56 h1 hk) hf.2.2.2.2.2.symm rfl]
  exact b5 k hk
theorem RO_v {t : Nat} (ht : t < 4) (h8 : cnt ≤ 8) (h : RO N v t cnt) (hd : dm f s r = true) (hf : f ≠ 20 ∧ f ≠ 41) : RO N (upd v (ad f s r) x) t cnt := by
  obtain ⟨a1, a2⟩ := h
  refine ⟨fun k hk => ?_, fun q k hk => ?_⟩
  · rw [up_ad (k := aS t + 18 + k) hd (d41 ht hk) hf.2.symm rfl]
    exact a1 k hk
  · rw [up_ad (k := aS t + 18 + k) hd (d41 ht hk) hf.2.symm rfl]
    refine a2 ?_ k hk
    obtain ⟨r', q1, q2⟩ := q
    refine ⟨r', q1, ?_⟩
    unfold al at q2 ⊢
    rw [up_ad (k := aP t r') hd (dP (f := 20) (by simp) ht (show r' < 8 by omega)) hf.1.symm rfl] at q2
    exact q2
theorem RO_n {t : Nat} (h : RO N v t cnt) (hf : f ≠ 41) : RO (uN N f s r x) v t cnt := ⟨fun k hk => by rw [uN_f hf.symm]; exact h.1 k hk, h.2⟩
theorem RO_s {t : Nat} (ht : t < 4) (h8 : cnt ≤ 8) (h : RO N v t cnt) (hd : dm f s r = true) (hf : f ≠ 20 ∧ f ≠ 41) : RO (uN N f s r x) (upd v (ad f s r) x) t cnt := RO_n (RO_v ht h8 h hd hf) hf.2
/-- a field that nothing else rests on -/
theorem RB_s (h : RB N v sc cnt w) (hd : dm f s r = true) (hf : f = 25 ∨ f = 26 ∨ f = 32 ∨ f = 33 ∨ f = 34 ∨ f = 35 ∨ f = 36 ∨ f = 61 ∨ f = 41) : RB (uN N f s r x) (upd v (ad f s r) x) sc cnt w := by
  obtain ⟨h1, h2, h3, h4, h5, h6, h7, h8, h9, h10, h11⟩ := h
  exact ⟨h1.set hd, RL_s h2 hd (by omega), RT_s h3 hd (by omega), RQ_s h4 hd (by omega), RK_s h5 hd (by omega), RM_s h6 h7.1 hd (by omega), IR_v h7 hd (by omega), IS_v h8 hd (by omega), IL_v h9 hd (by omega), IT_v h10 hd (by omega), IC_v h11 hd (by omega)⟩
theorem RN_s (h : RN N v sc cnt w) (hd : dm f s r = true) (hf : f = 25 ∨ f = 26 ∨ f = 32 ∨ f = 33 ∨ f = 34 ∨ f = 35 ∨ f = 36 ∨ f = 61) : RN (uN N f s r x) (upd v (ad f s r) x) sc cnt w :=
  ⟨RB_s h.1 hd (by omega), fun t ht => RO_s (by have := h.1.2.2.2.2.2.2.2.1.1; omega) h.1.2.2.2.2.2.2.1.1 (h.2 t ht) hd (by omega)⟩
theorem RO_41 {t : Nat} (ht : t < 4) (hs : s < 4) (hr : r < 4) (hts : t ≠ s) (h8 : cnt ≤ 8) (h : RO N v t cnt) : RO (uN N 41 s r x) (upd v (ad 41 s r) x) t cnt := by
  obtain ⟨a1, a2⟩ := h
  have ne : ∀ k, k < 4 → aS t + 18 + k ≠ ad 41 s r := fun k hk e => hts (ad_inj (d41 ht hk) (d41 hs hr) e).2.1
  refine ⟨fun k hk => ?_, fun q k hk => ?_⟩
  · rw [up_n (ne k hk), uN_n (fun q => hts q.2.1)]
    exact a1 k hk
  · rw [up_n (ne k hk)]
    refine a2 ?_ k hk
    obtain ⟨r', q1, q2⟩ := q
    refine ⟨r', q1, ?_⟩
    unfold al at q2 ⊢
    rw [up_ad (k := aP t r') (d41 hs hr) (dP (f := 20) (by simp) ht (show r' < 8 by omega)) (by decide) rfl] at q2
    exact q2
end ST
