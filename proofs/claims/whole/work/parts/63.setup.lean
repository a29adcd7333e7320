/-! setting up: both sides, behind the act -/
/-- two arrays agree on the rates and on one station's pairs -/
def Al (v v' : Vt) (s : Nat) : Prop := (∀ k, k < 30 → v' k = v k) ∧ ∀ r j, r < 8 → j < 8 → v' (aP s r + j) = v (aP s r + j)
section L63
variable {v v' : Vt} {s cnt w : Nat}
theorem l_al (h : Al v v' s) {r : Nat} (hr : r < 8) : al v' s r = al v s r := by
  have := h.2 r 0 hr (by omega)
  show (v' (aP s r) = 1) = (v (aP s r) = 1)
  rw [Nat.add_zero] at this
  rw [this]
theorem l_k (h : Al v v' s) {r : Nat} (hr : r < 8) : kN v' s r = kN v s r := by
  show tN (v' (aP s r + 1)) = tN (v (aP s r + 1))
  rw [h.2 r 1 hr (by omega)]
theorem l_a3 (h : Al v v' s) {r z : Nat} (hr : r < 8) : aN v' r z = aN v r z := by
  show airN (tN (v' (10 + r))) (tN (v' (18 + r))) z = airN (tN (v (10 + r))) (tN (v (18 + r))) z
  rw [h.1 _ (by omega), h.1 _ (by omega)]
theorem l_v (h : Al v v' s) {r : Nat} (hr : r < 8) : vN v' s r = vN v s r := by
  unfold vN
  rw [l_k h hr, l_a3 h hr]
theorem l_btr (h : Al v v' s) {a b : Nat} (ha : a < 8) (hb : b < 8) : btr v' s a b = btr v s a b := by
  unfold btr
  rw [l_k h ha, l_k h hb, l_v h ha, l_v h hb]
theorem l_bS (h : Al v v' s) (but : Option Nat) (least : Nat) : ∀ k, k ≤ 8 → bS v' s but least k = bS v s but least k
  | 0, _ => rfl
  | k + 1, hk => by
    have ih := l_bS h but least k (by omega)
    have hb := bS_b (v := v) (s := s) (but := but) (least := least) k
    refine pk_c ?_ ih
    rw [l_al h (by omega), l_k h (by omega), ih]
    constructor
    · rintro ⟨a1, a2, a3, a4⟩
      exact ⟨a1, a2, a3, fun b q => by rw [← l_btr h (by omega) (by have := hb b q; omega)]; exact a4 b q⟩
    · rintro ⟨a1, a2, a3, a4⟩
      exact ⟨a1, a2, a3, fun b q => by rw [l_btr h (by omega) (by have := hb b q; omega)]; exact a4 b q⟩
theorem l_uS (h : Al v v' s) : ∀ k, k ≤ 8 → uS v' s k = uS v s k
  | 0, _ => rfl
  | k + 1, hk => by
    have ih := l_uS h k (by omega)
    have hb := uS_b (v := v) (s := s) k
    refine pk_c ?_ ih
    rw [l_al h (by omega), l_k h (by omega), l_v h (by omega), ih]
    constructor
    · rintro ⟨a1, a4⟩
      exact ⟨a1, fun b q => by rw [← l_k h (show b < 8 by have := hb b q; omega), ← l_v h (show b < 8 by have := hb b q; omega)]; exact a4 b q⟩
    · rintro ⟨a1, a4⟩
      exact ⟨a1, fun b q => by rw [l_k h (show b < 8 by have := hb b q; omega), l_v h (show b < 8 by have := hb b q; omega)]; exact a4 b q⟩
theorem l_wS (h : Al v v' s) : ∀ k, k ≤ 8 → wS v' s k = wS v s k
  | 0, _ => rfl
  | k + 1, hk => by
    have ih := l_wS h k (by omega)
    have hb := wS_b (v := v) (s := s) k
    refine pk_c ?_ ih
    rw [l_al h (by omega), l_a3 h (show k < 8 by omega), ih]
    constructor
    · rintro ⟨a1, a4⟩
      exact ⟨a1, fun b q => by rw [← l_a3 h (show b < 8 by have := hb b q; omega)]; exact a4 b q⟩
    · rintro ⟨a1, a4⟩
      exact ⟨a1, fun b q => by rw [l_a3 h (show b < 8 by have := hb b q; omega)]; exact a4 b q⟩
theorem l_zS (h : Al v v' s) (hc : cnt ≤ 8) : zS v' s cnt = zS v s cnt := by
  unfold zS
  rw [l_bS h none 62259 cnt hc, l_uS h cnt hc]
theorem l_sS (h : Al v v' s) (hc : cnt ≤ 8) : sS v' s cnt = sS v s cnt := by
  unfold sS
  rw [l_bS h none 0 cnt hc, l_bS h _ 0 cnt hc]
/-- one pair as it begins -/
def bgV (v : Vt) (s r : Nat) : Vt := upd (upd (upd v (aP s r) 1) (aP s r + 1) (-1)) (aP s r + 7) 500
theorem bg_0 {r : Nat} : bgV v s r (aP s r) = 1 := by unfold bgV; rw [up_n (by omega), up_n (by omega), up_s]
theorem bg_1 {r : Nat} : bgV v s r (aP s r + 1) = -1 := by unfold bgV; rw [up_n (by omega), up_s]
theorem bg_7 {r : Nat} : bgV v s r (aP s r + 7) = 500 := by unfold bgV; rw [up_s]
theorem bg_o {r k : Nat} (h : k ≠ aP s r ∧ k ≠ aP s r + 1 ∧ k ≠ aP s r + 7) : bgV v s r k = v k := by unfold bgV; rw [up_n h.2.2, up_n h.2.1, up_n h.1]
theorem m_bg {M : Me} {r : Nat} (hs : s < 4) (hr : r < 8) : f_m_begins (sV M v) (nI s) (nI r) = some (sV M (bgV v s r)) := by
  unfold f_m_begins
  refine bs (spr s r) (ip (gx (k := 30 + 8 * (8 * s + r) + 0) (by simp only [IXr]) (by omega) (by omega)) (bs (wx (k := 30 + 8 * (8 * s + r) + 0) (by simp only [IXr]) (by omega)) ?_))
  refine ip (gx (k := 30 + 8 * (8 * s + r) + 1) (by simp only [IXr]) (by omega) (by omega)) (bs (wx (k := 30 + 8 * (8 * s + r) + 1) (by simp only [IXr]) (by omega)) ?_)
  refine ip (gx (k := 30 + 8 * (8 * s + r) + 7) (by simp only [IXr]) (by omega) (by omega)) (bs (wx (k := 30 + 8 * (8 * s + r) + 7) (by simp only [IXr]) (by omega)) ?_)
  rfl
/-- a pair begins: the relation holds with that pair among the begun ones -/
def RLb (N : Nt) (v : Vt) (B : Nat → Nat → Prop) : Prop := ∀ s r, s < 4 → r < 8 →
  (B s r → N.1 20 s r = v (aP s r) ∧ N.1 27 s r = v (aP s r + 7) ∧ N.1 21 s r = esC (v (aP s r + 1)) ∧ (v (aP s r + 1) < 0 → v (aP s r + 6) = 0)) ∧ (¬ B s r → N.1 20 s r = 1 ∧ N.1 27 s r = 500 ∧ N.1 21 s r = -9 ∧ v (aP s r + 6) = 0)
theorem RLb_bg {N : Nt} {B : Nat → Nat → Prop} {s r : Nat} (h : RLb N v B) (hs : s < 4) (hr : r < 8) (hB : ¬ B s r) : RLb N (bgV v s r) (fun a b => B a b ∨ (a = s ∧ b = r)) := by
  intro a b h1 h2
  obtain ⟨q1, q2⟩ := h a b h1 h2
  by_cases e : a = s ∧ b = r
  · obtain ⟨rfl, rfl⟩ := e
    obtain ⟨e1, e2, e3, e4⟩ := q2 hB
    refine ⟨fun _ => ?_, fun z => absurd (Or.inr ⟨rfl, rfl⟩) z⟩
    rw [bg_0, bg_1, bg_7, bg_o (by omega), e1, e2, e3]
    exact ⟨rfl, rfl, by decide, fun _ => e4⟩
  · have hab : aP a b = 30 + 8 * (8 * a + b) := rfl
    have hsr : aP s r = 30 + 8 * (8 * s + r) := rfl
    rw [bg_o (by omega), bg_o (by omega), bg_o (by omega), bg_o (by omega)]
    exact ⟨fun z => q1 (z.resolve_right e), fun z => q2 (fun y => z (Or.inl y))⟩
end L63
section M63
variable {N : Nt} {v : Vt} {sc cnt w s r : Nat} {x : Int32}
theorem RE_bg (h : RE N v) (hs : s < 4) (hr : r < 8) : RE N (bgV v s r) := ((h.setv (f := 20) (dP (by simp) hs hr) rfl).setv (f := 21) (dP (by simp) hs hr) rfl).setv (f := 27) (dP (by simp) hs hr) rfl
theorem IL_bg (h : IL v w) (hr : r < 8) : IL (bgV v s r) w := by
  intro a b h1 h2
  obtain ⟨q1, q2, q3, q4, q5, q6⟩ := h a b h1 h2
  have hab : aP a b = 30 + 8 * (8 * a + b) := rfl
  have hsr : aP s r = 30 + 8 * (8 * s + r) := rfl
  by_cases e : a = s ∧ b = r
  · obtain ⟨rfl, rfl⟩ := e
    rw [bg_0, bg_1, bg_7, bg_o (by omega), bg_o (by omega)]
    exact ⟨q1, q2, q3, ⟨by decide, by decide⟩, Or.inr rfl, ⟨by decide, by decide⟩⟩
  · by_cases e2 : aP a b = aP s r
    · exact absurd ⟨by omega, by omega⟩ e
    · rw [bg_o (by omega), bg_o (by omega), bg_o (by omega), bg_o (by omega), bg_o (by omega)]
      exact ⟨q1, q2, q3, q4, q5, q6⟩
theorem bg_hi {k : Nat} (hs : s < 4) (hr : r < 8) (hk : k < 30 ∨ 286 ≤ k) : bgV v s r k = v k := by
  have := aP_lt hs hr
  have hsr : aP s r = 30 + 8 * (8 * s + r) := rfl
  exact bg_o (by omega)
/-- all parts of the relation but those of links and rates -/
def RY (N : Nt) (v : Vt) (sc cnt w : Nat) : Prop := RT N v sc ∧ RQ N v ∧ RK N v ∧ IS v sc w ∧ IT v ∧ IC v sc cnt
theorem RY_lo {v' : Vt} (h : RY N v sc cnt w) (hv : ∀ k, (k < 10 ∧ k ≠ 1) ∨ 286 ≤ k → v' k = v k) : RY N v' sc cnt w := by
  obtain ⟨h1, h2, h3, h4, h5, h6⟩ := h
  refine ⟨fun a ha => ?_, fun a k h7 h8 h9 => ?_, fun c h7 h8 => ?_, ?_, fun a ha => ?_, fun c h7 => ?_⟩
  · have hS : aS a = 290 + 32 * a := rfl
    have q := h1 a ha
    rw [hv _ (by omega), hv _ (by omega)]
    refine ⟨fun z => ?_, q.2⟩
    obtain ⟨a1, a2, a3⟩ := q.1 z
    exact ⟨a1, fun k hk => by rw [hv _ (by omega)]; exact a2 k hk, a3⟩
  · have hS : aS a = 290 + 32 * a := rfl
    rw [hv _ (by omega)] at h9
    rw [hv _ (by omega)]
    exact h2 a k h7 h8 h9
  · have hO : aO c = 420 + 16 * c := rfl
    rw [hv _ (by omega)] at h8
    rw [hv _ (by omega), hv _ (by omega), hv _ (by omega)]
    exact h3 c h7 h8
  · unfold IS
    rw [hv 2 (by omega), hv 3 (by omega), hv 4 (by omega), hv 5 (by omega), hv 6 (by omega), hv 0 (by omega), hv 7 (by omega), hv 8 (by omega)]
    exact h4
  · have hS : aS a = 290 + 32 * a := rfl
    obtain ⟨a1, a2, a3, a4⟩ := h5 a ha
    rw [hv _ (by omega), hv _ (by omega), hv _ (by omega)]
    exact ⟨a1, a2, a3, fun k hk q => by rw [hv _ (by omega)]; exact a4 k hk q⟩
  · have hO : aO c = 420 + 16 * c := rfl
    obtain ⟨a1, a2⟩ := h6 c h7
    rw [hv _ (by omega), hv _ (by omega), hv _ (by omega), hv _ (by omega)]
    refine ⟨a1, fun z => ?_⟩
    obtain ⟨b1, b2, b3, b4, b5⟩ := a2 z
    refine ⟨b1, b2, b3, b4, fun k hk => ?_⟩
    rw [hv _ (by omega), hv _ (by omega)]
    exact b5 k hk
theorem RY_n {N' : Nt} (h : RY N v sc cnt w) (hN : ∀ f a b, (f = 40 ∨ f = 42 ∨ f = 43 ∨ f = 54) → N'.1 f a b = N.1 f a b) (hN2 : N'.2 = N.2) : RY N' v sc cnt w := by
  obtain ⟨h1, h2, h3, h4, h5, h6⟩ := h
  refine ⟨fun a ha => ?_, fun a k h7 h8 h9 => ?_, fun c h7 h8 => ?_, h4, h5, h6⟩
  · have q := h1 a ha
    rw [hN _ _ _ (by simp), hN2]
    refine ⟨fun z => ?_, fun z => ?_⟩
    · obtain ⟨a1, a2, a3⟩ := q.1 z
      exact ⟨a1, fun k hk => by rw [hN _ _ _ (by simp)]; exact a2 k hk, a3⟩
    · obtain ⟨a1, a2⟩ := q.2 z
      exact ⟨a1, fun k hk => by rw [hN _ _ _ (by simp)]; exact a2 k hk⟩
  · rw [hN _ _ _ (by simp)]
    exact h2 a k h7 h8 h9
  · rw [hN _ _ _ (by simp)]
    exact h3 c h7 h8
theorem RB.y (h : RB N v sc cnt w) : RY N v sc cnt w := by
  obtain ⟨h1, h2, h3, h4, h5, h6, h7, h8, h9, h10, h11⟩ := h
  exact ⟨h3, h4, h5, h8, h10, h11⟩
/-- the array with the pairs of rate r begun for the stations from k on -/
def bgs (v : Vt) (r : Nat) : Nat → Nat → Vt
  | _, 0 => v
  | k, d + 1 => bgV (bgs v r (k + 1) d) k r
theorem bgs_o {j : Nat} (hr : r < 8) : ∀ d k, k + d ≤ 4 → (j < 30 ∨ 286 ≤ j) → bgs v r k d j = v j
  | 0, _, _, _ => rfl
  | d + 1, k, hk, hj => by
    show bgV (bgs v r (k + 1) d) k r j = v j
    rw [bg_hi (by omega) hr hj]
    exact bgs_o hr d (k + 1) (by omega) hj
theorem bgs_p {a b j : Nat} (hj : j < 8) (hb : b < 8) (hr : r < 8) : ∀ d k, a < k → bgs v r k d (aP a b + j) = v (aP a b + j)
  | 0, _, _ => rfl
  | d + 1, k, hk => by
    have h1 : aP a b = 30 + 8 * (8 * a + b) := rfl
    have h2 : aP k r = 30 + 8 * (8 * k + r) := rfl
    show bgV (bgs v r (k + 1) d) k r (aP a b + j) = _
    rw [bg_o (by omega)]
    exact bgs_p hj hb hr d (k + 1) (by omega)
end M63
