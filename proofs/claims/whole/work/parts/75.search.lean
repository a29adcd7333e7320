/-! the best chain: all sequences -/
section L75
variable {C M X : Me} {N : Nt} {v : Vt} {sc cnt w s z q : Nat} {R : Nat → Nat}
theorem okp_n {c k : Nat} (hk : k < 4) (h : ¬ okr v s cnt (c / 8 ^ k % 8) = true) : ¬ okp v s cnt c 4 = true := fun o => h (okp_4 o k hk)
theorem okp_y {c : Nat} (h : ∀ k, k < 4 → okr v s cnt (c / 8 ^ k % 8) = true) : okp v s cnt c 4 = true := by
  rw [okp_s, okp_s, okp_s, okp_s, h 0 (by omega), h 1 (by omega), h 2 (by omega), h 3 (by omega)]
  rfl
theorem FB_s (n : Nat) : FB v s cnt z (n + 1) = if okp v s cnt n 4 = true then fs (FB v s cnt z n) n (wv v s z n) else FB v s cnt z n := rfl
theorem FB_g {a : Nat} : ∀ j, (∀ c, a ≤ c → c < a + j → ¬ okp v s cnt c 4 = true) → FB v s cnt z (a + j) = FB v s cnt z a
  | 0, _ => rfl
  | j + 1, h => by
    rw [← Nat.add_assoc, FB_s, if_neg (h (a + j) (by omega) (by omega))]
    exact FB_g j (fun c h1 h2 => h c h1 (by omega))
theorem FB_ne {n : Nat} (ho : okp v s cnt n 4 = true) : ∀ j, n + 1 + j ≤ 4096 → ¬ (FB v s cnt z (n + 1 + j)).1 = -9 := by
  have f1 : ∀ (x : Int32 × Int64 × Int64) (m : Nat) (p : Int64 × Int64), m < 4096 → (x.1 = -9 ∨ ¬ x.1 = -9) → ¬ (fs x m p).1 = -9 := fun x m p hm c => by
    unfold fs
    by_cases c1 : x.1 = -9
    · rw [if_pos c1]; exact ne9 (by omega)
    · rw [if_neg c1]
      by_cases c2 : lg_cmp (((65536 : Int64) - p.1) * x.2.2) (x.2.1 * p.2) ≤ 0
      · rw [if_pos c2]; exact c1
      · rw [if_neg c2]; exact ne9 (by omega)
  intro j
  induction j with
  | zero =>
    intro h
    show ¬ (FB v s cnt z (n + 1)).1 = -9
    rw [FB_s, if_pos ho]
    exact f1 _ _ _ (by omega) (Classical.em _)
  | succ j ih =>
    intro h
    rw [← Nat.add_assoc, FB_s]
    by_cases c : okp v s cnt (n + 1 + j) 4 = true
    · rw [if_pos c]; exact f1 _ _ _ (by omega) (Classical.em _)
    · rw [if_neg c]; exact ih (by omega)
theorem St_kp {e : Nat → Nat} {n : Nat} (h : RN N v sc cnt w) (hs : s < sc) (hz : z ≤ 4000) (S : St C v s cnt z R q X e 4 n) (hn : n < 4096) (ho : okp v s cnt n 4 = true) (he : ∀ k, k < 4 → e k = n / 8 ^ (3 - k) % 8) : ∃ X', f_se_keepIfBetter X = some X' ∧ St C v s cnt z R q X' e 4 (n + 1) := by
  have hl := h.lt
  obtain ⟨g, e80, hT, hP, hC⟩ := S
  have o4 := okp_4 ho
  have ew : wv v s z n = PV v s z e 4 := by
    show wkR v s z (n / 8 ^ 0 % 8) (wkR v s z (n / 8 ^ 1 % 8) (wkR v s z (n / 8 ^ 2 % 8) (wkR v s z (n / 8 ^ 3 % 8) (65536, 0)))) = wkR v s z (e 3) (wkR v s z (e 2) (wkR v s z (e 1) (wkR v s z (e 0) (65536, 0))))
    rw [he 0 (by omega), he 1 (by omega), he 2 (by omega), he 3 (by omega)]
  have hc : ∀ k, k < 4 → e k < cnt := fun k hk => by
    rw [he k hk]
    exact (okr_t (o4 (3 - k) (by omega))).1
  obtain ⟨n7, n8, n9, a, b, eP, b1, b2, b3⟩ := WF_e (e := e) (z := z) h.iR h.iL (show s < 4 by omega) hl.2 hz 4 hc
  obtain ⟨p1, p2⟩ := hP.1 4 (by omega)
  have eF : FB v s cnt z (n + 1) = fs (FB v s cnt z n) n (wv v s z n) := by rw [FB_s, if_pos ho]
  have take : ∃ X', (some (wL X 89 0 0 0 ((65536 : Int64) - (PV v s z e 4).1))).bind (fun M3 => (some (wL M3 90 0 0 0 (PV v s z e 4).2)).bind fun M4 => (some (cI M4 88 0 0 (fun k => M4.1 87 0 0 k) 0 0 4)).bind fun M5 => some M5) = some X' ∧ Bg C X' ∧ X'.1 80 0 0 0 = nI q ∧ Tq v s z X' R q ∧ PF v s z X' e 4 ∧ CR X' (nI n, (65536 : Int64) - (wv v s z n).1, (wv v s z n).2) := by
    rw [ew]
    generalize (65536 : Int64) - (PV v s z e 4).1 = A
    have r1 : ∀ f k, f ≠ 89 → f ≠ 90 → (wL (wL X 89 0 0 0 A) 90 0 0 0 (PV v s z e 4).2).2 f 0 0 k = X.2 f 0 0 k := fun f k h1 h2 => (l_o (fun x => h2 x.1)).trans (l_o (fun x => h1 x.1))
    have r2 : (wL (wL X 89 0 0 0 A) 90 0 0 0 (PV v s z e 4).2).2 89 0 0 0 = A := (l_o (by omega)).trans l_s
    have r3 : (wL (wL X 89 0 0 0 A) 90 0 0 0 (PV v s z e 4).2).2 90 0 0 0 = (PV v s z e 4).2 := l_s
    refine ⟨_, rfl, Bg_c (Bg_l (Bg_l g (by decide) (by decide)) (by decide) (by decide)) (by decide) (by decide), e80, fun p' hp' => hT p' hp', ⟨fun k hk => ?_, fun k hk => hP.2 k hk⟩, ?_⟩
    · obtain ⟨c1, c2⟩ := hP.1 k hk
      exact ⟨(r1 85 k (by decide) (by decide)).trans c1, (r1 86 k (by decide) (by decide)).trans c2⟩
    · refine Or.inr ⟨n, hn, rfl, r2, r3, fun k hk => ?_⟩
      show va_cpy (fun k => X.1 87 0 0 k) (X.1 88 0 0) 0 0 4 k = _
      unfold va_cpy
      rw [if_pos (by omega), Nat.zero_add, Nat.sub_zero, ← he k hk]
      exact hP.2 k hk
  obtain ⟨X', k1, k2, k3, k4, k5, k6⟩ := take
  unfold f_se_keepIfBetter
  rw [t_4, p1, p2]
  rcases hC with ⟨c1, c2, c3⟩ | ⟨c, c1, c2, c3, c4, c5⟩
  · have e2 : FB v s cnt z (n + 1) = (nI n, (65536 : Int64) - (wv v s z n).1, (wv v s z n).2) := eF.trans (if_pos c1)
    refine ⟨X', bs rfl (im ?_ k1), k2, k3, k4, k5, by rw [e2]; exact k6⟩
    rw [c2, c3, eP]
    exact first b1 (by omega) (by omega)
  · have n9 : ¬ (FB v s cnt z n).1 = -9 := by rw [c2]; exact ne9 (by omega)
    by_cases k : lg_cmp (((65536 : Int64) - (wv v s z n).1) * (FB v s cnt z n).2.2) ((FB v s cnt z n).2.1 * (wv v s z n).2) ≤ 0
    · have e2 : FB v s cnt z (n + 1) = FB v s cnt z n := eF.trans ((if_neg n9).trans (if_pos k))
      refine ⟨X, bs rfl (ip ?_ rfl), g, e80, hT, hP, by rw [e2]; exact Or.inr ⟨c, c1, c2, c3, c4, c5⟩⟩
      rw [c3, c4, ← ew]
      exact k
    · have e2 : FB v s cnt z (n + 1) = (nI n, (65536 : Int64) - (wv v s z n).1, (wv v s z n).2) := eF.trans ((if_neg n9).trans (if_neg k))
      refine ⟨X', bs rfl (im ?_ k1), k2, k3, k4, k5, by rw [e2]; exact k6⟩
      rw [c3, c4, ← ew]
      exact k
end L75
