/-! the tries of a report: counts and times -/
theorem uN_c {N : Nt} {f s r f' s' r' : Nat} {x y : Int32} (h : f ≠ f') : uN (uN N f s r x) f' s' r' y = uN (uN N f' s' r' y) f s r x := by
  refine Prod.ext (funext fun a => funext fun b => funext fun d => ?_) rfl
  show (if a = f' ∧ b = s' ∧ d = r' then y else if a = f ∧ b = s ∧ d = r then x else N.1 a b d) = if a = f ∧ b = s ∧ d = r then x else if a = f' ∧ b = s' ∧ d = r' then y else N.1 a b d
  by_cases c1 : a = f ∧ b = s ∧ d = r
  · rw [if_pos c1, if_pos c1, if_neg (fun q => h (c1.1.symm.trans q.1))]
  · rw [if_neg c1, if_neg c1]
theorem uN_e {N : Nt} {f s r : Nat} {x : Int32} (h : N.1 f s r = x) : uN N f s r x = N := by
  refine Prod.ext (funext fun a => funext fun b => funext fun d => ?_) rfl
  show (if a = f ∧ b = s ∧ d = r then x else N.1 a b d) = N.1 a b d
  by_cases c1 : a = f ∧ b = s ∧ d = r
  · rw [if_pos c1, c1.1, c1.2.1, c1.2.2, h]
  · rw [if_neg c1]
def incV (v : Vt) (s r m g : Nat) : Vt := fun k => if k = aP s r + 2 ∨ k = aP s r + 4 then v k + nI m else if k = aP s r + 3 ∨ k = aP s r + 5 then v k + nI g else v k
theorem incV_o {v : Vt} {s r m g k : Nat} (hs : s < 4) (hr : r < 8) (hk : k < 30 ∨ 286 ≤ k) : incV v s r m g k = v k := by
  have := aP_lt hs hr
  have hP : aP s r = 30 + 8 * (8 * s + r) := rfl
  unfold incV
  rw [if_neg (by omega), if_neg (by omega)]
theorem incV_a {v : Vt} {s r m g s' r' : Nat} : incV v s r m g (aP s' r') = v (aP s' r') := by
  have hP : aP s r = 30 + 8 * (8 * s + r) := rfl
  have hP' : aP s' r' = 30 + 8 * (8 * s' + r') := rfl
  unfold incV
  rw [if_neg (by omega), if_neg (by omega)]
theorem incV_c {v : Vt} {s r m g m' g' : Nat} : incV (incV v s r m g) s r m' g' = incV v s r (m + m') (g + g') := by
  funext k
  unfold incV
  by_cases a : k = aP s r + 2 ∨ k = aP s r + 4
  · simp only [if_pos a, Int32.add_assoc, l_add]
  · by_cases b : k = aP s r + 3 ∨ k = aP s r + 5
    · simp only [if_neg a, if_pos b, Int32.add_assoc, l_add]
    · simp only [if_neg a, if_neg b]
theorem incV_u {v : Vt} {s r m g : Nat} : upd (upd (upd (upd v (aP s r + 2) (v (aP s r + 2) + nI m)) (aP s r + 3) (v (aP s r + 3) + nI g)) (aP s r + 4) (v (aP s r + 4) + nI m)) (aP s r + 5) (v (aP s r + 5) + nI g) = incV v s r m g := by
  funext k
  unfold incV
  by_cases e2 : k = aP s r + 2
  · subst e2
    rw [up_n (by omega), up_n (by omega), up_n (by omega), up_s, if_pos (Or.inl rfl)]
  · by_cases e3 : k = aP s r + 3
    · subst e3
      rw [up_n (by omega), up_n (by omega), up_s, if_neg (by omega), if_pos (Or.inl rfl)]
    · by_cases e4 : k = aP s r + 4
      · subst e4
        rw [up_n (by omega), up_s, if_pos (Or.inr rfl)]
      · by_cases e5 : k = aP s r + 5
        · subst e5
          rw [up_s, if_neg (by omega), if_pos (Or.inr rfl)]
        · rw [up_n e5, up_n e4, up_n e3, up_n e2, if_neg (by omega), if_neg (by omega)]
def incN (N : Nt) (s r m g : Nat) : Nt := uN (uN (uN (uN N 23 s r (N.1 23 s r + nI m)) 25 s r (N.1 25 s r + nI m)) 24 s r (N.1 24 s r + nI g)) 26 s r (N.1 26 s r + nI g)
theorem RN_inc {N : Nt} {v : Vt} {sc cnt w s r m g : Nat} (h : RN N v sc cnt w) (hs : s < 4) (hr : r < 8) (hg : g ≤ m) (hw : w + m < 2147483648) : RN (incN N s r m g) (incV v s r m g) sc cnt (w + m) := by
  obtain ⟨t1, t2, t3, t4, t5⟩ := h.iL.t hs hr
  have e23 : N.1 23 s r = v (aP s r + 2) := h.E 23 s r rfl (dP (by simp) hs hr)
  have e24 : N.1 24 s r = v (aP s r + 3) := h.E 24 s r rfl (dP (by simp) hs hr)
  have e25 : N.1 25 s r = v (aP s r + 4) := h.E 25 s r rfl (dP (by simp) hs hr)
  have e26 : N.1 26 s r = v (aP s r + 5) := h.E 26 s r rfl (dP (by simp) hs hr)
  have a1 : v (aP s r + 2) + nI m = nI (trN' v s r + m) := by rw [t1, l_add]
  have a2 : v (aP s r + 3) + nI g = nI (suN v s r + g) := by rw [t2, l_add]
  have q := RN_t2 (x := v (aP s r + 2) + nI m) (y := v (aP s r + 3) + nI g) (w' := w + m) h hs hr (by omega) (by rw [a1]; exact wi_n (by omega) ⟨by omega, by omega⟩) (by rw [a2, nI_i (by omega)]; omega) (by rw [a1, a2, nI_i (by omega), nI_i (by omega)]; omega)
  have q2 := RN_s (f := 26) (x := v (aP s r + 5) + nI g) (RN_s (f := 25) (x := v (aP s r + 4) + nI m) q (dP (by simp) hs hr) (by simp)) (dP (by simp) hs hr) (by simp)
  rw [← incV_u]
  unfold incN
  rw [e23, e24, e25, e26, uN_c (f := 25) (f' := 24) (by decide)]
  exact q2
theorem c_count0 {C : Me} {i : Nat} {N : Nt} {s r m : Nat} : f_lk_count (sN C i N) i s r (nI m) 0 = some (sN C i (incN N s r m 0)) := by
  unfold f_lk_count
  refine bs (x := sN C i (uN N 23 s r (N.1 23 s r + nI m))) (by rw [rdN (by decide), wrN (by decide)]) (bs (x := sN C i (uN (uN N 23 s r (N.1 23 s r + nI m)) 25 s r (N.1 25 s r + nI m))) (by rw [rdN (by decide), wrN (by decide), uN_f (by decide)]) (ip rfl ?_))
  have z : ∀ x : Int32, x + nI 0 = x := fun x => Int32.add_zero x
  unfold incN
  rw [z, z, uN_e (f := 24) (by rw [uN_f (by decide), uN_f (by decide)]), uN_e (f := 26) (by rw [uN_f (by decide), uN_f (by decide)])]
theorem c_count1 {C : Me} {i : Nat} {N : Nt} {s r m : Nat} : f_lk_count (sN C i N) i s r (nI m) 1 = some (sN C i (incN N s r m 1)) := by
  unfold f_lk_count
  refine bs (x := sN C i (uN N 23 s r (N.1 23 s r + nI m))) (by rw [rdN (by decide), wrN (by decide)]) (bs (x := sN C i (uN (uN N 23 s r (N.1 23 s r + nI m)) 25 s r (N.1 25 s r + nI m))) (by rw [rdN (by decide), wrN (by decide), uN_f (by decide)]) (im (by decide) ?_))
  refine bs (x := sN C i (uN (uN (uN N 23 s r (N.1 23 s r + nI m)) 25 s r (N.1 25 s r + nI m)) 24 s r (N.1 24 s r + nI 1))) (by rw [rdN (by decide), wrN (by decide), uN_f (by decide), uN_f (by decide)]; rfl) ?_
  refine bs (x := sN C i (incN N s r m 1)) ?_ rfl
  unfold incN
  rw [rdN (by decide), wrN (by decide), uN_f (by decide), uN_f (by decide), uN_f (by decide)]
  rfl
/-- the array behind n of the tries of a report -/
def VF (v : Vt) (c s T g : Nat) : Nat → Vt
  | 0 => v
  | n + 1 => incV (VF v c s T g n) s (raC v c (enF v c n)) 1 (if n + 1 = T then g else 0)
section L54
variable {v v' : Vt} {sc cnt w c s T g : Nat}
theorem VF_o {k : Nat} (hs : s < 4) (ho : OC v sc cnt c) (h8 : cnt ≤ 8) (hk : k < 30 ∨ 286 ≤ k) : ∀ n, n ≤ off v c 4 → VF v c s T g n k = v k
  | 0, _ => rfl
  | n + 1, hn => by
    have eb := en_b ho (show n < off v c 4 by omega)
    have := (ho.2.2.2.2.2.2 _ eb.1).2.1
    show incV (VF v c s T g n) s (raC v c (enF v c n)) 1 (if n + 1 = T then g else 0) k = v k
    rw [incV_o hs (by omega) hk]
    exact VF_o hs ho h8 hk n (by omega)
theorem VF_a {s' r' : Nat} : ∀ n, VF v c s T g n (aP s' r') = v (aP s' r')
  | 0 => rfl
  | n + 1 => by
    show incV (VF v c s T g n) s (raC v c (enF v c n)) 1 (if n + 1 = T then g else 0) (aP s' r') = _
    rw [incV_a]
    exact VF_a n
theorem VF_seg {a r : Nat} : ∀ m, 1 ≤ m → a + m ≤ T → (∀ j, j < m → raC v c (enF v c (a + j)) = r) → VF v c s T g (a + m) = incV (VF v c s T g a) s r m (if a + m = T then g else 0)
  | 0, h, _, _ => absurd h (by omega)
  | 1, _, _, h => by
    have := h 0 (by omega)
    rw [Nat.add_zero] at this
    show incV (VF v c s T g a) s (raC v c (enF v c a)) 1 (if a + 1 = T then g else 0) = _
    rw [this]
  | m + 2, _, h2, h => by
    have ih := VF_seg (a := a) (r := r) (m + 1) (by omega) (by omega) (fun j hj => h j (by omega))
    show incV (VF v c s T g (a + (m + 1))) s (raC v c (enF v c (a + (m + 1)))) 1 (if a + (m + 1) + 1 = T then g else 0) = _
    rw [ih, h (m + 1) (by omega), incV_c, if_neg (show ¬ a + (m + 1) = T by omega), Nat.zero_add]
    rfl
theorem ra_c (h : ∀ k, aO c < k → v' k = v k) (k : Nat) : raC v' c k = raC v c k := by
  unfold raC
  rw [h _ (by omega)]
theorem tr_c (h : ∀ k, aO c < k → v' k = v k) (k : Nat) : trC v' c k = trC v c k := by
  unfold trC
  rw [h _ (by omega)]
theorem off_c (h : ∀ k, aO c < k → v' k = v k) : ∀ k, off v' c k = off v c k
  | 0 => rfl
  | k + 1 => by
    show off v' c k + trC v' c k = off v c k + trC v c k
    rw [off_c h k, tr_c h]
theorem en_c (h : ∀ k, aO c < k → v' k = v k) (n : Nat) : enF v' c n = enF v c n := by
  unfold enF
  rw [off_c h, off_c h, off_c h]
theorem OC_c (h : ∀ k, aO c < k → v' k = v k) (ho : OC v sc cnt c) : OC v' sc cnt c := by
  obtain ⟨a1, a2, a3, a4, a5, a6, a7⟩ := ho
  have hs : sC v' c = sC v c := by unfold sC; rw [h _ (by omega)]
  have hz : zC v' c = zC v c := by unfold zC; rw [h _ (by omega)]
  refine ⟨a1, by rw [hs, h _ (by omega)]; exact a2, by rw [hs]; exact a3, by rw [hz, h _ (by omega)]; exact a4, by rw [hz]; exact a5, by rw [hz]; exact a6, fun k hk => ?_⟩
  rw [ra_c h, tr_c h, h _ (by omega), h _ (by omega)]
  exact a7 k hk
theorem tt_c (h : ∀ k, aO c < k → v' k = v k) (h2 : ∀ k, k < 30 → v' k = v k) (ho : OC v sc cnt c) (h8 : cnt ≤ 8) {n : Nat} (hn : n < off v c 4) : ttF v' c n = ttF v c n := by
  have eb := en_b ho hn
  have := (ho.2.2.2.2.2.2 _ eb.1).2.1
  unfold ttF ttN
  rw [en_c h, ra_c h, off_c h, show zC v' c = zC v c by unfold zC; rw [h _ (by omega)]]
  show airN (tN (v' (10 + _))) (tN (v' (18 + _))) _ + _ = airN (tN (v (10 + _))) (tN (v (18 + _))) _ + _
  rw [h2 _ (by omega), h2 _ (by omega)]
def sF (v : Vt) (c : Nat) : Nat → Nat
  | 0 => 0
  | n + 1 => sF v c n + ttF v c n
theorem sF_c (h : ∀ k, aO c < k → v' k = v k) (h2 : ∀ k, k < 30 → v' k = v k) (ho : OC v sc cnt c) (h8 : cnt ≤ 8) : ∀ n, n ≤ off v c 4 → sF v' c n = sF v c n
  | 0, _ => rfl
  | n + 1, hn => by
    show sF v' c n + ttF v' c n = sF v c n + ttF v c n
    rw [sF_c h h2 ho h8 n (by omega), tt_c h h2 ho h8 (by omega)]
theorem sF_b (hR : IR v cnt) (ho : OC v sc cnt c) : ∀ n, n ≤ off v c 4 → sF v c n ≤ 604603 * n
  | 0, _ => Nat.le_refl _
  | n + 1, hn => by
    have ih := sF_b hR ho n (by omega)
    have eb := en_b ho (show n < off v c 4 by omega)
    have q := (ho.2.2.2.2.2.2 _ eb.1).2.1
    have := (ttN_b (z := zC v c) (j := n - off v c (enF v c n)) hR q (by have := ho.2.2.2.2.2.1; omega)).2
    show sF v c n + ttN v (raC v c (enF v c n)) (zC v c) (n - off v c (enF v c n)) ≤ _
    omega
theorem m_tot {M : Me} (hR : IR v cnt) (ho : OC v sc cnt c) (hT : T ≤ off v c 4) : f_m_timeOfTries (sV M v) (nI c) (nI T) = some (nI (sF v c T)) := by
  have hb := off_b ho
  unfold f_m_timeOfTries
  refine bs (x := nI (sF v c T)) ?_ rfl
  refine lp_n (fun n => (nI (sF v c n), nI n)) T (lt_FU (by omega)) (fun n hn => ?_) ?_
  · unfold b_m_timeOfTries_5
    refine im (nle hn (by omega)) (bs (m_ttF hR ho (by omega)) ?_)
    simp only [↓ob, IXr, l_add]
    rfl
  · unfold b_m_timeOfTries_5
    exact ip (nle_s (by omega)) rfl
theorem imin_n {a b : Nat} (ha : a < 2147483648) (hb : b < 2147483648) : imin (nI a) (nI b) = nI (min a b) := by
  by_cases c : b < a
  · rw [show min a b = b by omega]
    exact if_pos ((nI_lt' hb ha).mpr c)
  · rw [show min a b = a by omega]
    exact if_neg (fun q => c ((nI_lt' hb ha).mp q))
theorem c_ttF2 {C : Me} {i : Nat} {N : Nt} (hE : RE N v) (hR : IR v cnt) (oc : OC v sc cnt c) {k j : Nat} (hk : k < 4) (hj : j < trC v c k) : f_tb_timeOfTry (sN C i N) i ((sN C i N).1 55 i c k) ((sN C i N).1 52 i c 0) (nI j) = some (nI (ttF v c (off v c k + j))) := by
  obtain ⟨hc, o1, o2, o3, o4, o5, hk'⟩ := id oc
  obtain ⟨b1, b2, b3, b4⟩ := hk' k hk
  have e52 : (sN C i N).1 52 i c 0 = nI (zC v c) := by rw [rdN (by decide), hE 52 c 0 rfl (dO (by simp) hc)]; exact o3
  have e5 : (sN C i N).1 55 i c k = nI (raC v c k) := by rw [rdN (by decide), hE 55 c k rfl (d55 hc (by omega))]; exact b1
  rw [e5, e52, c_tt hE hR b2 (by omega) (by omega)]
  unfold ttF
  rw [(en_eq oc hk hj).1, Nat.add_sub_cancel_left]
theorem c_tot {C : Me} {i : Nat} {N : Nt} (hE : RE N v) (hR : IR v cnt) (oc : OC v sc cnt c) (hT : T ≤ off v c 4) : f_nt_timeOfTries (sN C i N) i i c (nI T) = some (nI (sF v c T)) := by
  have hb := off_b oc
  obtain ⟨hc, o1, o2, o3, o4, o5, hk'⟩ := id oc
  unfold f_nt_timeOfTries
  refine bs (x := nI (sF v c (min T (off v c 4)))) ?_ (by rw [show min T (off v c 4) = T by omega])
  have z : (nI T, (0 : Int32), (0 : Int32)) = (nI (T - min T (off v c 0)), nI (sF v c (min T (off v c 0))), nI 0) := by
    rw [show off v c 0 = 0 from rfl, Nat.min_zero]
    rfl
  rw [z]
  refine lp_n (fun k => (nI (T - min T (off v c k)), nI (sF v c (min T (off v c k))), nI k)) 4 (lt_FU (by omega)) (fun k hk => ?_) ?_
  · obtain ⟨b1, b2, b3, b4⟩ := hk' k hk
    have hoff : off v c (k + 1) = off v c k + trC v c k := rfl
    have e9 : (sN C i N).1 56 i c (tN (nI k)) = nI (trC v c k) := by rw [rdN (by decide), tN_nI (by omega), hE 56 c k rfl (d56 hc (by omega))]; exact b3
    unfold b_nt_timeOfTries_8
    refine im (show ¬ (4 : Int32) ≤ nI k from nle (n := 4) (by omega) (by omega)) (ip (gin_nI (by omega) (by omega)) ?_)
    refine bs (x := nI (min (T - min T (off v c k)) (trC v c k))) ?_ (bs (x := nI (sF v c (min T (off v c (k + 1))))) ?_ ?_)
    · show some (imin (nI (T - min T (off v c k))) ((sN C i N).1 56 i c (tN (nI k)))) = _
      rw [e9, imin_n (by omega) (by omega)]
    · rw [show min T (off v c (k + 1)) = min T (off v c k) + min (T - min T (off v c k)) (trC v c k) by omega]
      refine lp_n (fun j => (nI (sF v c (min T (off v c k) + j)), nI j)) (min (T - min T (off v c k)) (trC v c k)) (lt_FU (by omega)) (fun j hj => ?_) ?_
      · unfold b_nt_timeOfTries_30
        refine im (nle hj (by omega)) (ip (gin_nI (by omega) (by omega)) ?_)
        have ct := c_ttF2 (C := C) (i := i) hE hR oc hk (show j < trC v c k by omega)
        have eo : off v c k = min T (off v c k) := by omega
        rw [eo] at ct
        show ((f_tb_timeOfTry (sN C i N) i ((sN C i N).1 55 i c (tN (nI k))) ((sN C i N).1 52 i c 0) (nI j)).bind _) = _
        rw [tN_nI (by omega), ct]
        simp only [↓ob, IXr, l_add]
        rfl
      · unfold b_nt_timeOfTries_30
        exact ip (nle_s (by omega)) rfl
    · simp only [↓ob, IXr]
      rw [nI_sb (by omega), show T - min T (off v c k) - min (T - min T (off v c k)) (trC v c k) = T - min T (off v c (k + 1)) by omega]
  · unfold b_nt_timeOfTries_8
    exact ip (show (4 : Int32) ≤ nI 4 from by decide) rfl
end L54
