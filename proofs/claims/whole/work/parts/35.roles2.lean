theorem m_slow {M : Me} {v : Vt} {s cnt : Nat} (hR : IR v cnt) (hs : s < 4) : f_m_slowestOf (sV M v) (nI s) = some (oI (wS v s cnt)) := by
  have h8 := hR.1
  unfold f_m_slowestOf
  have key : lp FU (b_m_slowestOf_5 (sV M v) (nI s)) ((-9 : Int32), (0 : Int32)) = some (oI (wS v s cnt)) := by
    refine lp_n (fun k => (oI (wS v s k), nI k)) cnt (lt_FU (by omega)) (fun k hk => ?_) ?_
    · have hbb := wS_b (v := v) (s := s) k
      unfold b_m_slowestOf_5
      rw [m_al hs (by omega), m_nom hR hk]
      simp (disch := omega) only [ob, IXt, IXr, rdV, hR.2.1]
      rw [if_neg (fun q => by rw [nI_le' (by omega) (by omega)] at q; omega)]
      show _ = some (Sum.inl (oI (wS v s (k + 1)), nI (k + 1)))
      by_cases c1 : v (aP s k) = 1
      · rw [if_pos c1, if_neg (by decide)]
        cases hb : wS v s k with
        | none =>
          have e : wS v s (k + 1) = some k := pk_t ⟨c1, fun b q => by rw [hb] at q; cases q⟩
          rw [if_pos (show oI none = -9 from rfl), e]
          rfl
        | some b =>
          have hbk := hbb b hb
          have a1 := airN_b (m := md v k) (p := sp v k) (z := 1200) (hR.m hk).2.2.2.1 (by omega)
          have a2 := airN_b (m := md v b) (p := sp v b) (z := 1200) (hR.m (show b < cnt by omega)).2.2.2.1 (by omega)
          have a1' : aN v k 1200 ≤ 600000 := a1.2
          have a2' : aN v b 1200 ≤ 600000 := a2.2
          rw [if_neg (show ¬ oI (some b) = -9 from ne9 (by omega)), oI_s, m_nom hR (by omega)]
          simp only [ob]
          by_cases c4 : aN v k 1200 ≤ aN v b 1200
          · have e : wS v s (k + 1) = some b := (pk_f (show ¬ (al v s k ∧ ∀ b, wS v s k = some b → aN v b 1200 < aN v k 1200) from fun q => by have := q.2 b hb; omega)).trans hb
            rw [if_pos ((nI_le' (by omega) (by omega)).mpr c4), e]
            rfl
          · have e : wS v s (k + 1) = some k := pk_t ⟨c1, fun b' q => by rw [hb] at q; cases q; omega⟩
            rw [if_neg (fun q => c4 ((nI_le' (by omega) (by omega)).mp q)), e]
            rfl
      · have e : wS v s (k + 1) = wS v s k := pk_f (fun q => c1 q.1)
        rw [if_neg c1, if_pos rfl, e]
    · unfold b_m_slowestOf_5
      simp only [IXt, rdV, hR.2.1]
      rw [if_pos ((nI_le' (by omega) (by omega)).mpr (Nat.le_refl _))]
  rw [key]
  rfl
/-- surest -/
noncomputable def zS (v : Vt) (s cnt : Nat) : Option Nat := match bS v s none 62259 cnt with
  | none => uS v s cnt
  | some r => some r
theorem zS_b {v : Vt} {s cnt b : Nat} (h : zS v s cnt = some b) : b < cnt := by
  unfold zS at h
  cases e : bS v s none 62259 cnt with
  | none => rw [e] at h; exact uS_b _ _ h
  | some r => rw [e] at h; cases h; exact bS_b _ _ e
theorem m_sure {M : Me} {v : Vt} {s w cnt : Nat} (hL : IL v w) (hR : IR v cnt) (hs : s < 4) : f_m_surestOf (sV M v) (nI s) = some (oI (zS v s cnt)) := by
  have h8 := hR.1
  unfold f_m_surestOf
  have q1 := m_best (M := M) (v := v) (s := s) (but := none) (least := 62259) hL hR hs (fun b h => by cases h) (by omega)
  rw [show (-9 : Int32) = oI none from rfl, show (62259 : Int32) = nI 62259 from rfl, q1]
  simp only [ob]
  unfold zS
  cases eb : bS v s none 62259 cnt with
  | some r =>
    have := bS_b _ _ eb
    rw [if_neg (show ¬ oI (some r) = oI none from ne9 (by omega))]
  | none =>
    rw [if_pos rfl]
    have key : lp FU (b_m_surestOf_24 (sV M v) (nI s)) (oI none, (0 : Int32)) = some (oI (uS v s cnt)) := by
      refine lp_n (fun k => (oI (uS v s k), nI k)) cnt (lt_FU (by omega)) (fun k hk => ?_) ?_
      · have hbb := uS_b (v := v) (s := s) k
        have hkn := (hL.k hs (show k < 8 by omega)).1
        have hvn := vN_b hL hR hs hk
        unfold b_m_surestOf_24
        rw [m_al hs (by omega), m_kn hL hs (by omega), m_vl hL hR hs hk]
        simp (disch := omega) only [ob, IXt, IXr, rdV, hR.2.1]
        rw [if_neg (fun q => by rw [nI_le' (by omega) (by omega)] at q; omega)]
        show _ = some (Sum.inl (oI (uS v s (k + 1)), nI (k + 1)))
        by_cases c1 : v (aP s k) = 1
        · rw [if_pos c1, if_neg (by decide)]
          cases hb : uS v s k with
          | none =>
            have e : uS v s (k + 1) = some k := pk_t ⟨c1, fun b q => by rw [hb] at q; cases q⟩
            rw [if_pos (show oI none = -9 from rfl), e]
            rfl
          | some b =>
            have hbk := hbb b hb
            have hkb := (hL.k hs (show b < 8 by omega)).1
            have hvb := vN_b hL hR hs (show b < cnt by omega)
            rw [if_neg (show ¬ oI (some b) = -9 from ne9 (by omega)), oI_s, m_kn hL hs (by omega), m_vl hL hR hs (by omega)]
            simp only [ob]
            by_cases c4 : kN v s b < kN v s k
            · have e : uS v s (k + 1) = some k := pk_t ⟨c1, fun b' q => by rw [hb] at q; cases q; exact Or.inl c4⟩
              rw [if_pos ((nI_lt' (by omega) (by omega)).mpr c4), e]
              rfl
            · rw [if_neg (fun q => c4 ((nI_lt' (by omega) (by omega)).mp q))]
              by_cases c5 : kN v s k = kN v s b
              · rw [if_pos (by rw [c5])]
                by_cases c6 : vN v s k ≤ vN v s b
                · have e : uS v s (k + 1) = some b := (pk_f (show ¬ (al v s k ∧ ∀ b, uS v s k = some b → (kN v s b < kN v s k ∨ (kN v s k = kN v s b ∧ vN v s b < vN v s k))) from fun q => by have := q.2 b hb; omega)).trans hb
                  rw [if_pos ((nI_le' (by omega) (by omega)).mpr c6), e]
                  rfl
                · have e : uS v s (k + 1) = some k := pk_t ⟨c1, fun b' q => by rw [hb] at q; cases q; exact Or.inr ⟨c5, by omega⟩⟩
                  rw [if_neg (fun q => c6 ((nI_le' (by omega) (by omega)).mp q)), e]
                  rfl
              · have e : uS v s (k + 1) = some b := (pk_f (show ¬ (al v s k ∧ ∀ b, uS v s k = some b → (kN v s b < kN v s k ∨ (kN v s k = kN v s b ∧ vN v s b < vN v s k))) from fun q => by have := q.2 b hb; omega)).trans hb
                rw [if_neg (fun q => c5 ((nI_j (by omega) (by omega)).mp q)), e]
                rfl
        · have e : uS v s (k + 1) = uS v s k := pk_f (fun q => c1 q.1)
          rw [if_neg c1, if_pos rfl, e]
      · unfold b_m_surestOf_24
        simp only [IXt, rdV, hR.2.1]
        rw [if_pos ((nI_le' (by omega) (by omega)).mpr (Nat.le_refl _))]
    rw [key]
    rfl
/-! what the roles depend on -/
def Ag (v v' : Vt) : Prop := ∀ k, k < 290 → v' k = v k
theorem aP_lt {s r : Nat} (hs : s < 4) (hr : r < 8) : aP s r + 7 < 286 := by
  show 30 + 8 * (8 * s + r) + 7 < 286
  omega
theorem ag_al {v v' : Vt} (h : Ag v v') {s r : Nat} (hs : s < 4) (hr : r < 8) : al v' s r = al v s r := by
  have := aP_lt hs hr
  show (v' (aP s r) = 1) = (v (aP s r) = 1)
  rw [h _ (by omega)]
theorem ag_k {v v' : Vt} (h : Ag v v') {s r : Nat} (hs : s < 4) (hr : r < 8) : kN v' s r = kN v s r := by
  have := aP_lt hs hr
  show tN (v' (aP s r + 1)) = tN (v (aP s r + 1))
  rw [h _ (by omega)]
theorem ag_a {v v' : Vt} (h : Ag v v') {r z : Nat} (hr : r < 8) : aN v' r z = aN v r z := by
  show airN (tN (v' (10 + r))) (tN (v' (18 + r))) z = airN (tN (v (10 + r))) (tN (v (18 + r))) z
  rw [h _ (by omega), h _ (by omega)]
theorem ag_v {v v' : Vt} (h : Ag v v') {s r : Nat} (hs : s < 4) (hr : r < 8) : vN v' s r = vN v s r := by
  unfold vN
  rw [ag_k h hs hr, ag_a h hr]
theorem ag_btr {v v' : Vt} (h : Ag v v') {s a b : Nat} (hs : s < 4) (ha : a < 8) (hb : b < 8) : btr v' s a b = btr v s a b := by
  unfold btr
  rw [ag_k h hs ha, ag_k h hs hb, ag_v h hs ha, ag_v h hs hb]
theorem pk_c {p q : Prop} {k : Nat} {o o' : Option Nat} (h : p ↔ q) (ho : o = o') : pk p k o = pk q k o' := by
  subst ho
  by_cases c : p
  · rw [pk_t c, pk_t (h.mp c)]
  · rw [pk_f c, pk_f (fun x => c (h.mpr x))]
theorem ag_bS {v v' : Vt} (h : Ag v v') {s : Nat} (hs : s < 4) (but : Option Nat) (least : Nat) : ∀ k, k ≤ 8 → bS v' s but least k = bS v s but least k
  | 0, _ => rfl
  | k + 1, hk => by
    have ih := ag_bS h hs but least k (by omega)
    have hb := bS_b (v := v) (s := s) (but := but) (least := least) k
    refine pk_c ?_ ih
    rw [ag_al h hs (by omega), ag_k h hs (by omega), ih]
    constructor
    · rintro ⟨a1, a2, a3, a4⟩
      exact ⟨a1, a2, a3, fun b q => by rw [← ag_btr h hs (by omega) (by have := hb b q; omega)]; exact a4 b q⟩
    · rintro ⟨a1, a2, a3, a4⟩
      exact ⟨a1, a2, a3, fun b q => by rw [ag_btr h hs (by omega) (by have := hb b q; omega)]; exact a4 b q⟩
theorem ag_uS {v v' : Vt} (h : Ag v v') {s : Nat} (hs : s < 4) : ∀ k, k ≤ 8 → uS v' s k = uS v s k
  | 0, _ => rfl
  | k + 1, hk => by
    have ih := ag_uS h hs k (by omega)
    have hb := uS_b (v := v) (s := s) k
    refine pk_c ?_ ih
    rw [ag_al h hs (by omega), ag_k h hs (by omega), ag_v h hs (by omega), ih]
    constructor
    · rintro ⟨a1, a4⟩
      exact ⟨a1, fun b q => by rw [← ag_k h hs (show b < 8 by have := hb b q; omega), ← ag_v h hs (show b < 8 by have := hb b q; omega)]; exact a4 b q⟩
    · rintro ⟨a1, a4⟩
      exact ⟨a1, fun b q => by rw [ag_k h hs (show b < 8 by have := hb b q; omega), ag_v h hs (show b < 8 by have := hb b q; omega)]; exact a4 b q⟩
theorem ag_wS {v v' : Vt} (h : Ag v v') {s : Nat} (hs : s < 4) : ∀ k, k ≤ 8 → wS v' s k = wS v s k
  | 0, _ => rfl
  | k + 1, hk => by
    have ih := ag_wS h hs k (by omega)
    have hb := wS_b (v := v) (s := s) k
    refine pk_c ?_ ih
    rw [ag_al h hs (by omega), ag_a h (show k < 8 by omega), ih]
    constructor
    · rintro ⟨a1, a4⟩
      exact ⟨a1, fun b q => by rw [← ag_a h (show b < 8 by have := hb b q; omega)]; exact a4 b q⟩
    · rintro ⟨a1, a4⟩
      exact ⟨a1, fun b q => by rw [ag_a h (show b < 8 by have := hb b q; omega)]; exact a4 b q⟩
theorem ag_zS {v v' : Vt} (h : Ag v v') {s cnt : Nat} (hs : s < 4) (hc : cnt ≤ 8) : zS v' s cnt = zS v s cnt := by
  unfold zS
  rw [ag_bS h hs none 62259 cnt hc, ag_uS h hs cnt hc]
theorem ag_IR {v v' : Vt} (h : Ag v v') {cnt : Nat} (hR : IR v cnt) : IR v' cnt := by
  obtain ⟨a1, a2, a3⟩ := hR
  refine ⟨a1, by rw [h _ (by omega)]; exact a2, fun r hr => ?_⟩
  rw [h _ (by omega), h _ (by omega)]
  exact a3 r hr
theorem ag_IL {v v' : Vt} (h : Ag v v') {w : Nat} (hL : IL v w) : IL v' w := by
  intro s r hs hr
  have := aP_lt hs hr
  rw [h _ (by omega), h _ (by omega), h _ (by omega), h _ (by omega), h _ (by omega)]
  exact hL s r hs hr
theorem ag_rf (v : Vt) : Ag v v := fun _ _ => rfl
theorem ag_up {v v' : Vt} (h : Ag v v') {k : Nat} {x : Int32} (hk : 290 ≤ k) : Ag v (upd v' k x) := fun j hj => by
  rw [up_n (by omega)]
  exact h j hj
theorem ag_tr {v v' v2 : Vt} (h : Ag v v') (h2 : Ag v' v2) : Ag v v2 := fun k hk => (h2 k hk).trans (h k hk)
/-- second -/
noncomputable def sS (v : Vt) (s cnt : Nat) : Option Nat := match bS v s (bS v s none 0 cnt) 0 cnt with
  | none => bS v s none 0 cnt
  | some r => some r
theorem sS_b {v : Vt} {s cnt b : Nat} (h : sS v s cnt = some b) : b < cnt := by
  unfold sS at h
  cases e : bS v s (bS v s none 0 cnt) 0 cnt with
  | none => rw [e] at h; exact bS_b _ _ h
  | some r => rw [e] at h; cases h; exact bS_b _ _ e
/-- the array behind fillRoles -/
noncomputable def fR (v : Vt) (s cnt : Nat) : Vt := upd (upd (upd (upd v (aS s + 18) (oI (bS v s none 0 cnt))) (aS s + 18 + 1) (oI (sS v s cnt))) (aS s + 18 + 2) (oI (zS v s cnt))) (aS s + 18 + 3) (oI (wS v s cnt))
theorem m_fill {M : Me} {v : Vt} {s w cnt : Nat} (hL : IL v w) (hR : IR v cnt) (hs : s < 4) : f_m_fillRoles (sV M v) (nI s) = some (sV M (fR v s cnt)) := by
  have h8 := hR.1
  unfold f_m_fillRoles f_m_side
  have q1 : f_m_bestBut (sV M v) (nI s) (-9) 0 = some (oI (bS v s none 0 cnt)) := m_best (but := none) (least := 0) hL hR hs (fun b h => by cases h) (by omega)
  have b1 := fun f => bq (β := Me) q1 f
  simp (disch := omega) only [↓ob, ↓b1, ↓reduceIte, IXl, IXm, IXr, gin_t, tN_nI, wrV, rdV, up_s]
  have g1 : Ag v (upd v (290 + 32 * s + 18) (oI (bS v s none 0 cnt))) := ag_up (ag_rf v) (by omega)
  have q2 : f_m_bestBut (sV M (upd v (290 + 32 * s + 18) (oI (bS v s none 0 cnt)))) (nI s) (oI (bS v s none 0 cnt)) 0 = some (oI (bS v s (bS v s none 0 cnt) 0 cnt)) := by
    have e := m_best (M := M) (least := 0) (but := bS v s none 0 cnt) (ag_IL g1 hL) (ag_IR g1 hR) hs (fun b h => by have := bS_b _ _ h; omega) (by omega)
    rw [ag_bS g1 hs (bS v s none 0 cnt) 0 cnt h8] at e
    exact e
  rw [q2]
  simp only [ob]
  have tail : ∀ x : Option Nat, sS v s cnt = x → ((f_m_surestOf (sV M (upd (upd v (290 + 32 * s + 18) (oI (bS v s none 0 cnt))) (290 + 32 * s + 18 + 1) (oI x))) (nI s)).bind fun r20 => (f_m_slowestOf (sV M (upd (upd (upd v (290 + 32 * s + 18) (oI (bS v s none 0 cnt))) (290 + 32 * s + 18 + 1) (oI x)) (290 + 32 * s + 18 + 2) r20)) (nI s)).bind fun r23 => some (sV M (upd (upd (upd (upd v (290 + 32 * s + 18) (oI (bS v s none 0 cnt))) (290 + 32 * s + 18 + 1) (oI x)) (290 + 32 * s + 18 + 2) r20) (290 + 32 * s + 18 + 3) r23))) = some (sV M (fR v s cnt)) := by
    intro x hx
    have g2 : Ag v (upd (upd v (290 + 32 * s + 18) (oI (bS v s none 0 cnt))) (290 + 32 * s + 18 + 1) (oI x)) := ag_up g1 (by omega)
    rw [m_sure (ag_IL g2 hL) (ag_IR g2 hR) hs, ag_zS g2 hs h8]
    simp only [ob]
    have g3 := ag_up (k := 290 + 32 * s + 18 + 2) (x := oI (zS v s cnt)) g2 (by omega)
    rw [m_slow (ag_IR g3 hR) hs, ag_wS g3 hs cnt h8]
    simp only [ob]
    unfold fR
    rw [hx]
  cases e : bS v s (bS v s none 0 cnt) 0 cnt with
  | none =>
    rw [if_pos (show oI none = -9 from rfl)]
    exact tail (bS v s none 0 cnt) (by unfold sS; rw [e])
  | some r =>
    have := bS_b _ _ e
    rw [if_neg (show ¬ oI (some r) = -9 from ne9 (by omega))]
    exact tail (some r) (by unfold sS; rw [e])
