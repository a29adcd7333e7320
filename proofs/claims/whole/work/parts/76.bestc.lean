/-! the best chain: the call -/
section L76
variable {C M X : Me} {N : Nt} {v : Vt} {sc cnt w s z q : Nat} {R : Nat → Nat}
theorem Pm_e {k : Nat} (h : Pm v s cnt R q k) (hk : cnt ≤ k) : ∀ j, Pm v s cnt R q (k + j)
  | 0 => h
  | j + 1 => Pm_0 (Pm_e h hk j) (fun o => by
    have q1 : k + j < cnt := (okr_t o).1
    omega)
theorem lvl {b : Int32 × Me → Option ((Int32 × Me) ⊕ Me)} {e : Nat → Nat} {d base st : Nat} (hq : q ≤ 8) (hP : Pm v s cnt R q 8) (hb : ∀ p X, p < q → R p < 8 → okr v s cnt (R p) = true → St C v s cnt z R q X e d (base + st * R p) → ∃ X', b (nI p, X) = some (.inl (nI (p + 1), X')) ∧ St C v s cnt z R q X' e d (base + st * (R p + 1))) (hx : ∀ X : Me, X.1 80 0 0 0 = nI q → b (nI q, X) = some (.inr X)) (hg : ∀ d' c, d' < 8 → base + st * d' ≤ c → c < base + st * (d' + 1) → ¬ okr v s cnt d' = true → ¬ okp v s cnt c 4 = true) (S : St C v s cnt z R q X e d base) : ∃ X', lp FU b (0, X) = some X' ∧ St C v s cnt z R q X' e d (base + st * 8) := by
  obtain ⟨hP1, hP2⟩ := hP
  have gp : ∀ j x, x + j ≤ 8 → (∀ d', x ≤ d' → d' < x + j → ¬ okr v s cnt d' = true) → FB v s cnt z (base + st * (x + j)) = FB v s cnt z (base + st * x) := by
    intro j
    induction j with
    | zero => intro x _ _; rfl
    | succ j ih =>
      intro x h1 h2
      have e1 : base + st * (x + (j + 1)) = base + st * (x + j) + st := by rw [← Nat.add_assoc, Nat.mul_succ, Nat.add_assoc]
      rw [e1, FB_g st (fun c c1 c2 => hg (x + j) c (by omega) c1 (by rw [Nat.add_assoc, ← Nat.mul_succ] at c2; exact c2) (h2 (x + j) (by omega) (by omega)))]
      exact ih x (by omega) (fun d' a1 a2 => h2 d' a1 (by omega))
  have nb : ∀ p, nx R q 8 p ≤ 8 := fun p => by
    by_cases c : p < q
    · rw [nx_t c]; have := (hP2 p c).2.1; omega
    · rw [nx_f c]; omega
  refine lpI (fun k x => x.1 = nI k ∧ St C v s cnt z R q x.2 e d (base + st * nx R q 8 k)) _ q (by omega) (fun k x hk P => ?_) (fun x P => ?_) ⟨rfl, ?_⟩
  · obtain ⟨x1, Y⟩ := x
    obtain ⟨rfl, hS⟩ := P
    rw [nx_t hk] at hS
    obtain ⟨o1, o2, o4, o3⟩ := hP2 k hk
    obtain ⟨Y', y1, y2⟩ := hb k Y hk o2 o1 hS
    refine ⟨_, y1, rfl, St_n y2 ?_⟩
    have g1 := gp (nx R q 8 (k + 1) - (R k + 1)) (R k + 1) (by have := nb (k + 1); omega) (fun d' a1 a2 => o3 d' (by omega) (by omega))
    rw [show R k + 1 + (nx R q 8 (k + 1) - (R k + 1)) = nx R q 8 (k + 1) by omega] at g1
    exact g1
  · obtain ⟨x1, Y⟩ := x
    obtain ⟨rfl, hS⟩ := P
    rw [nx_f (by omega)] at hS
    exact ⟨Y, hx Y hS.2.1, hS⟩
  · refine St_n S ?_
    have g1 := gp (nx R q 8 0) 0 (by have := nb 0; omega) (fun d' _ a2 => hP1 d' (by omega))
    rw [Nat.zero_add] at g1
    exact g1
def dg (a b c d : Nat) : Nat → Nat
  | 0 => a
  | 1 => b
  | 2 => c
  | _ => d
theorem x_3 (h : RN N v sc cnt w) (hs : s < sc) (hz : z ≤ 4000) (hq : q ≤ 8) (hP : Pm v s cnt R q 8) {r0 r1 r2 : Nat} (h0 : r0 < 8) (h1 : r1 < 8) (h2 : r2 < 8) (k0 : okr v s cnt r0 = true) (k1 : okr v s cnt r1 = true) (k2 : okr v s cnt r2 = true) {y1 y2 y3 : Int32} (S : St C v s cnt z R q X (dg r0 r1 r2 0) 3 (512 * r0 + 64 * r1 + 8 * r2)) : ∃ X', lp FU (b_se_explore_79 y1 y2 y3) (0, X) = some X' ∧ St C v s cnt z R q X' (dg r0 r1 r2 0) 3 (512 * r0 + 64 * r1 + 8 * r2 + 1 * 8) := by
  refine lvl hq hP (fun p X hp hr ho S => ?_) (fun X e => ?_) (fun d' c hd a1 a2 ho => okp_n (k := 0) (by omega) (by rw [show c / 8 ^ 0 % 8 = d' by omega]; exact ho)) S
  · obtain ⟨X1, p1, S1⟩ := St_pl (e' := dg r0 r1 r2 (R p)) S (by omega) hp hq (fun k hk => by rcases (show k = 0 ∨ k = 1 ∨ k = 2 by omega) with rfl | rfl | rfl <;> rfl) rfl
    have g0 : (512 * r0 + 64 * r1 + 8 * r2 + 1 * R p) / 8 ^ 0 % 8 = R p := by omega
    have g1 : (512 * r0 + 64 * r1 + 8 * r2 + 1 * R p) / 8 ^ 1 % 8 = r2 := by omega
    have g2 : (512 * r0 + 64 * r1 + 8 * r2 + 1 * R p) / 8 ^ 2 % 8 = r1 := by omega
    have g3 : (512 * r0 + 64 * r1 + 8 * r2 + 1 * R p) / 8 ^ 3 % 8 = r0 := by omega
    have oo : okp v s cnt (512 * r0 + 64 * r1 + 8 * r2 + 1 * R p) 4 = true := okp_y (fun k hk => by
      rcases (show k = 0 ∨ k = 1 ∨ k = 2 ∨ k = 3 by omega) with rfl | rfl | rfl | rfl
      · rw [g0]; exact ho
      · rw [g1]; exact k2
      · rw [g2]; exact k1
      · rw [g3]; exact k0)
    obtain ⟨X2, p2, S2⟩ := St_kp h hs hz S1 (by omega) oo (fun k hk => by
      rcases (show k = 0 ∨ k = 1 ∨ k = 2 ∨ k = 3 by omega) with rfl | rfl | rfl | rfl
      · exact g3.symm
      · exact g2.symm
      · exact g1.symm
      · exact g0.symm)
    refine ⟨X2, ?_, ?_⟩
    · unfold b_se_explore_79
      refine im ?_ (bs p1 (bs p2 ?_))
      · show ¬ X.1 80 0 0 0 ≤ nI p
        rw [S.2.1]
        exact nle hp (by omega)
      · simp only [↓ob, IXr]
    · have S3 := St_dn (e' := dg r0 r1 r2 0) S2 (fun k hk => by rcases (show k = 0 ∨ k = 1 ∨ k = 2 by omega) with rfl | rfl | rfl <;> rfl)
      rw [show 512 * r0 + 64 * r1 + 8 * r2 + 1 * (R p + 1) = 512 * r0 + 64 * r1 + 8 * r2 + 1 * R p + 1 by omega]
      exact S3
  · unfold b_se_explore_79
    refine ip ?_ rfl
    show X.1 80 0 0 0 ≤ nI q
    rw [e]
    exact nle_s (by omega)
theorem x_2 (h : RN N v sc cnt w) (hs : s < sc) (hz : z ≤ 4000) (hq : q ≤ 8) (hP : Pm v s cnt R q 8) {r0 r1 : Nat} (h0 : r0 < 8) (h1 : r1 < 8) (k0 : okr v s cnt r0 = true) (k1 : okr v s cnt r1 = true) {y1 y2 : Int32} (S : St C v s cnt z R q X (dg r0 r1 0 0) 2 (512 * r0 + 64 * r1)) : ∃ X', lp FU (b_se_explore_62 y1 y2) (0, X) = some X' ∧ St C v s cnt z R q X' (dg r0 r1 0 0) 2 (512 * r0 + 64 * r1 + 8 * 8) := by
  refine lvl hq hP (fun p X hp hr ho S => ?_) (fun X e => ?_) (fun d' c hd a1 a2 ho => okp_n (k := 1) (by omega) (by rw [show c / 8 ^ 1 % 8 = d' by omega]; exact ho)) S
  · obtain ⟨X1, p1, S1⟩ := St_pl (e' := dg r0 r1 (R p) 0) S (by omega) hp hq (fun k hk => by rcases (show k = 0 ∨ k = 1 by omega) with rfl | rfl <;> rfl) rfl
    obtain ⟨X2, p2, S2⟩ := x_3 (y1 := y1) (y2 := y2) (y3 := nI p) h hs hz hq hP h0 h1 hr k0 k1 ho S1
    refine ⟨X2, ?_, ?_⟩
    · unfold b_se_explore_62
      refine im ?_ (bs p1 (bs p2 ?_))
      · show ¬ X.1 80 0 0 0 ≤ nI p
        rw [S.2.1]
        exact nle hp (by omega)
      · simp only [↓ob, IXr]
    · have S3 := St_dn (e' := dg r0 r1 0 0) S2 (fun k hk => by rcases (show k = 0 ∨ k = 1 by omega) with rfl | rfl <;> rfl)
      rw [show 512 * r0 + 64 * r1 + 8 * (R p + 1) = 512 * r0 + 64 * r1 + 8 * R p + 1 * 8 by omega]
      exact S3
  · unfold b_se_explore_62
    refine ip ?_ rfl
    show X.1 80 0 0 0 ≤ nI q
    rw [e]
    exact nle_s (by omega)
theorem x_1 (h : RN N v sc cnt w) (hs : s < sc) (hz : z ≤ 4000) (hq : q ≤ 8) (hP : Pm v s cnt R q 8) {r0 : Nat} (h0 : r0 < 8) (k0 : okr v s cnt r0 = true) {y1 : Int32} (S : St C v s cnt z R q X (dg r0 0 0 0) 1 (512 * r0)) : ∃ X', lp FU (b_se_explore_46 y1) (0, X) = some X' ∧ St C v s cnt z R q X' (dg r0 0 0 0) 1 (512 * r0 + 64 * 8) := by
  refine lvl hq hP (fun p X hp hr ho S => ?_) (fun X e => ?_) (fun d' c hd a1 a2 ho => okp_n (k := 2) (by omega) (by rw [show c / 8 ^ 2 % 8 = d' by omega]; exact ho)) S
  · obtain ⟨X1, p1, S1⟩ := St_pl (e' := dg r0 (R p) 0 0) S (by omega) hp hq (fun k hk => by rcases (show k = 0 by omega) with rfl; rfl) rfl
    obtain ⟨X2, p2, S2⟩ := x_2 (y1 := y1) (y2 := nI p) h hs hz hq hP h0 hr k0 ho S1
    refine ⟨X2, ?_, ?_⟩
    · unfold b_se_explore_46
      refine im ?_ (bs p1 (bs p2 ?_))
      · show ¬ X.1 80 0 0 0 ≤ nI p
        rw [S.2.1]
        exact nle hp (by omega)
      · simp only [↓ob, IXr]
    · have S3 := St_dn (e' := dg r0 0 0 0) S2 (fun k hk => by rcases (show k = 0 by omega) with rfl; rfl)
      rw [show 512 * r0 + 64 * (R p + 1) = 512 * r0 + 64 * R p + 8 * 8 by omega]
      exact S3
  · unfold b_se_explore_46
    refine ip ?_ rfl
    show X.1 80 0 0 0 ≤ nI q
    rw [e]
    exact nle_s (by omega)
theorem x_0 (h : RN N v sc cnt w) (hs : s < sc) (hz : z ≤ 4000) (hq : q ≤ 8) (hP : Pm v s cnt R q 8) (S : St C v s cnt z R q X (dg 0 0 0 0) 0 0) : ∃ X', lp FU b_se_explore_30 (0, X) = some X' ∧ St C v s cnt z R q X' (dg 0 0 0 0) 0 (0 + 512 * 8) := by
  refine lvl hq hP (fun p X hp hr ho S => ?_) (fun X e => ?_) (fun d' c hd a1 a2 ho => okp_n (k := 3) (by omega) (by rw [show c / 8 ^ 3 % 8 = d' by omega]; exact ho)) S
  · obtain ⟨X1, p1, S1⟩ := St_pl (e' := dg (R p) 0 0 0) S (by omega) hp hq (fun k hk => by omega) rfl
    rw [Nat.zero_add (512 * R p)] at S1
    obtain ⟨X2, p2, S2⟩ := x_1 (y1 := nI p) h hs hz hq hP hr ho S1
    refine ⟨X2, ?_, ?_⟩
    · unfold b_se_explore_30
      refine im ?_ (bs p1 (bs p2 ?_))
      · show ¬ X.1 80 0 0 0 ≤ nI p
        rw [S.2.1]
        exact nle hp (by omega)
      · simp only [↓ob, IXr]
    · have S3 := St_dn (e' := dg 0 0 0 0) S2 (fun k hk => by omega)
      rw [show 0 + 512 * (R p + 1) = 512 * R p + 64 * 8 by omega]
      exact S3
  · unfold b_se_explore_30
    refine ip ?_ rfl
    show X.1 80 0 0 0 ≤ nI q
    rw [e]
    exact nle_s (by omega)
end L76
