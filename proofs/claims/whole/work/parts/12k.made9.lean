/-! what is being made: the new cells as a list -/
def apV (V : Nat → va_E) (b : Nat) (L : List va_E) : Nat → va_E := fun k => if k < b then V k else L.getD (k - b) (.inr (0, []))
abbrev mL (V : Nat → va_E) (b : Nat) (L : List va_E) : Mv := (apV V b L, b + L.length)
theorem apV_lt {V : Nat → va_E} {b : Nat} {L : List va_E} {k : Nat} (h : k < b) : apV V b L k = V k := if_pos h
theorem apV_ge {V : Nat → va_E} {b : Nat} {L : List va_E} {k : Nat} (h : ¬ k < b) : apV V b L k = L.getD (k - b) (.inr (0, [])) := if_neg h
theorem apV_at {V : Nat → va_E} {b j : Nat} {L : List va_E} {e : va_E} (h : L[j]? = some e) : apV V b L (b + j) = e := by
  rw [apV_ge (by omega), Nat.add_sub_cancel_left, List.getD_eq_getElem?_getD, h]
  rfl
theorem apV_set {V : Nat → va_E} {b j : Nat} {L : List va_E} {e : va_E} (h : j < L.length) : uV (apV V b L) (b + j) e = apV V b (L.set j e) := by
  funext k
  unfold uV
  by_cases c : k = b + j
  · subst c
    rw [if_pos rfl, apV_ge (by omega), Nat.add_sub_cancel_left, List.getD_eq_getElem?_getD, List.getElem?_set_self h]
    rfl
  · rw [if_neg c]
    by_cases d : k < b
    · rw [apV_lt d, apV_lt d]
    · rw [apV_ge d, apV_ge d, List.getD_eq_getElem?_getD, List.getD_eq_getElem?_getD, List.getElem?_set_ne (by omega)]
theorem apV_app {V : Nat → va_E} {b : Nat} {L R : List va_E} : apV V b (L ++ R) = apV (apV V b L) (b + L.length) R := by
  funext k
  by_cases d : k < b + L.length
  · rw [apV_lt d]
    by_cases c : k < b
    · rw [apV_lt c, apV_lt c]
    · rw [apV_ge c, apV_ge c, List.getD_eq_getElem?_getD, List.getD_eq_getElem?_getD, List.getElem?_append_left (by omega)]
  · rw [apV_ge d, apV_ge (by omega), List.getD_eq_getElem?_getD, List.getD_eq_getElem?_getD, List.getElem?_append_right (by omega)]
    rw [show k - b - L.length = k - (b + L.length) by omega]
theorem apV_push {V : Nat → va_E} {b : Nat} {L : List va_E} {e : va_E} : uV (apV V b L) (b + L.length) e = apV V b (L ++ [e]) := by
  rw [apV_app]
  funext k
  unfold uV
  by_cases c : k = b + L.length
  · subst c
    rw [if_pos rfl, apV_ge (by omega), Nat.sub_self]
    rfl
  · rw [if_neg c]
    by_cases d : k < b + L.length
    · rw [apV_lt d]
    · rw [apV_ge d, apV_ge (by omega), List.getD_eq_getElem?_getD, List.getElem?_eq_none (by omega), List.getD_eq_getElem?_getD, List.getElem?_eq_none (by show 1 ≤ _; omega)]
theorem mL_app {V : Nat → va_E} {b : Nat} {L R : List va_E} : mL V b (L ++ R) = mL (apV V b L) (b + L.length) R := by
  show (apV V b (L ++ R), b + (L ++ R).length) = (apV (apV V b L) (b + L.length) R, b + L.length + R.length)
  rw [apV_app, List.length_append, Nat.add_assoc]
theorem mL_push {V : Nat → va_E} {b : Nat} {L : List va_E} {e : va_E} : mL V b (L ++ [e]) = (uV (apV V b L) (b + L.length) e, b + L.length + 1) := by
  show (apV V b (L ++ [e]), b + (L ++ [e]).length) = _
  rw [apV_push, List.length_append]
  rfl
theorem mL_set {V : Nat → va_E} {b j : Nat} {L : List va_E} {e : va_E} (h : j < L.length) : mL V b (L.set j e) = (uV (apV V b L) (b + j) e, b + L.length) := by
  show (apV V b (L.set j e), b + (L.set j e).length) = _
  rw [apV_set h, List.length_set]
theorem lt_of_at {L : List va_E} {j : Nat} {e : va_E} (h : L[j]? = some e) : j < L.length := (List.getElem?_eq_some_iff.mp h).1
theorem WV_app {G : Gt} {V : Nat → va_E} {b : Nat} {L R : List va_E} {H H1 : Heap} (h : WV G (mL V b L) H) (z : H1.size = H.size + R.length) (o : ∀ a : Nat, a < H.size → H1[a]? = H[a]?) (hR : ∀ (j : Nat) (e : va_E), R[j]? = some e → va_at G.2.1 cls (H.size + j, e) H1) : WV G (mL V b (L ++ R)) H1 := by
  obtain ⟨hP, hz⟩ := h
  have hz : H.size = G.1 + (b + L.length) := hz
  have hP : va_P G.2.1 cls (LV G.1 (apV V b L) (b + L.length)) H := hP
  have hk : ∀ (k : Nat) (x : Nat × va_E), (LV G.1 (apV V b L) (b + L.length))[k]? = some x → H1[x.1]? = H[x.1]? := fun k x hx => o x.1 ((hP k x hx).lt)
  have hP1 := hP.kept hk
  refine ⟨fun k x hx => ?_, ?_⟩
  · have hx : (LV G.1 (apV V b (L ++ R)) (b + (L ++ R).length))[k]? = some x := hx
    rw [apV_app] at hx
    by_cases c : k < b + (L ++ R).length
    · rw [LV_get c] at hx
      cases hx
      by_cases d : k < b + L.length
      · rw [apV_lt d]
        exact hP1 k _ (LV_get d)
      · rw [apV_ge d]
        rw [List.length_append] at c
        have hj : k - (b + L.length) < R.length := by omega
        have he : R[k - (b + L.length)]? = some R[k - (b + L.length)] := List.getElem?_eq_getElem hj
        rw [List.getD_eq_getElem?_getD, he]
        have t := hR _ _ he
        rw [hz, Nat.add_assoc, show b + L.length + (k - (b + L.length)) = k by omega] at t
        exact t
    · rw [LV_none c] at hx
      cases hx
  · show H1.size = G.1 + (b + (L ++ R).length)
    rw [List.length_append]
    omega
theorem WV_cell {G : Gt} {V : Nat → va_E} {q q0 cA : Nat} {a a' : vp_A} {H : Heap} (h : WV G (V, q) H) (hV : V q0 = .inl (cA, a)) (he : vp_cell cA a = vp_cell cA a') : WV G (uV V q0 (.inl (cA, a')), q) H := by
  obtain ⟨hP, hz⟩ := h
  have hP : va_P G.2.1 cls (LV G.1 V q) H := hP
  refine ⟨fun k x hx => ?_, hz⟩
  have hx : (LV G.1 (uV V q0 (.inl (cA, a'))) q)[k]? = some x := hx
  by_cases c : k < q
  · rw [LV_get c] at hx
    cases hx
    unfold uV
    by_cases d : k = q0
    · rw [if_pos d]
      have t := hP k _ (LV_get c)
      rw [d, hV] at t
      have t1 : H[G.1 + q0]? = some (vp_cell cA a) := t
      show H[G.1 + k]? = some (vp_cell cA a')
      rw [d, ← he]
      exact t1
    · rw [if_neg d]
      exact hP k _ (LV_get c)
  · rw [LV_none c] at hx
    cases hx
theorem cell_q {cA n : Nat} {f g : Nat → Option Nat} (h : ∀ k, k < n → f k = g k) : vp_cell cA (n, .inr (.inr (.inr (.inr f)))) = vp_cell cA (n, .inr (.inr (.inr (.inr g)))) := by
  rw [vp_cell_q, vp_cell_q]
  exact mw_ext (fun j hj => by rw [h j hj])
theorem cell_i {cA n : Nat} {f g : Nat → Int32} (h : ∀ k, k < n → f k = g k) : vp_cell cA (n, .inl f) = vp_cell cA (n, .inl g) := by
  show arrV cA n (fun j => .int (f j)) = arrV cA n (fun j => .int (g j))
  exact mw_ext (fun j hj => by rw [h j hj])
/-! the bundle of a constructor's text -/
def Kc (X : Cx Mv) (cc : ByteArray) (own : String) (G : Gt) (A C : Nat) : Prop := Ok X cc own ∧ GV X G ∧ Nm X ∧ Nx X ∧ X.fits A C
theorem fits_le {μ : Type} {X : Cx μ} {A C a c : Nat} (h : X.fits A C) (ha : a ≤ A ∧ c ≤ C) : X.fits a c := by
  obtain ⟨p, l, e, R, s, m, args, below, meth, cd, Q, H0, Wd, A9, nL, cells, slots⟩ := X
  obtain ⟨h1, h2⟩ := h
  have h1 : cells + A ≤ R.cells := h1
  have h2 : slots + C ≤ R.slots := h2
  exact ⟨by omega, by omega⟩
theorem Zr.fits {μ : Type} {X : Cx μ} {rm : Room} {a c : Nat} (h : Zr X) (hR : X.R = rm) (ha : a ≤ rm.cells ∧ c ≤ rm.slots) : X.fits a c := by
  obtain ⟨p, l, e, R, s, m, args, below, meth, cd, Q, H0, Wd, A9, nL, cells, slots⟩ := X
  obtain ⟨h1, h2⟩ := h
  have h1 : cells = 0 := h1
  have h2 : slots = 0 := h2
  have hR : R = rm := hR
  subst hR
  exact ⟨by omega, by omega⟩
theorem more_R {μ : Type} {X : Cx μ} {a c : Nat} : (X.more a c).R = X.R := by
  obtain ⟨p, l, e, R, s, m, args, below, meth, cd, Q, H0, Wd, A9, nL, cells, slots⟩ := X
  show R = R
  rfl
theorem more_l {μ : Type} {X : Cx μ} {a c : Nat} : (X.more a c).l = X.l := by
  obtain ⟨p, l, e, R, s, m, args, below, meth, cd, Q, H0, Wd, A9, nL, cells, slots⟩ := X
  show l = l
  rfl
theorem more_nL {μ : Type} {X : Cx μ} {a c : Nat} : (X.more a c).nL = X.nL := by
  obtain ⟨p, l, e, R, s, m, args, below, meth, cd, Q, H0, Wd, A9, nL, cells, slots⟩ := X
  show nL = nL
  rfl
theorem nl_more {μ : Type} {X : Cx μ} {a c n i : Nat} (h : X.nL = n) (hi : i + 1 ≤ n) : i < (X.more a c).nL := by
  rw [more_nL, h]
  exact hi
theorem r_more0 {μ : Type} {X : Cx μ} {M : μ} {pc : Nat} {lv : List (Nat × Value)} {st : List Value} (k : Wt (X.more 0 0) M pc lv st) : Wt X M pc lv st := by
  obtain ⟨p, l, e, R, s, m, args, below, meth, cd, Q, H0, Wd, A9, nL, cells, slots⟩ := X
  exact k
theorem r_m {μ : Type} {X : Cx μ} {M M' : μ} {pc : Nat} {lv : List (Nat × Value)} {st : List Value} (h : M' = M) (k : Wt X M' pc lv st) : Wt X M pc lv st := h ▸ k
theorem Kc.ok {X : Cx Mv} {cc : ByteArray} {own : String} {G : Gt} {A C a c : Nat} (h : Kc X cc own G A C) : Ok (X.more a c) cc own := Ok.more h.1
theorem Kc.gv {X : Cx Mv} {cc : ByteArray} {own : String} {G : Gt} {A C a c : Nat} (h : Kc X cc own G A C) (ha : a ≤ A ∧ c ≤ C) : GV (X.more a c) G := Gx.more h.2.1 (fits_le h.2.2.2.2 ha)
theorem Kc.nm {X : Cx Mv} {cc : ByteArray} {own : String} {G : Gt} {A C a c : Nat} (h : Kc X cc own G A C) : Nm (X.more a c) := Nm.more h.2.2.1
theorem Kc.nx {X : Cx Mv} {cc : ByteArray} {own : String} {G : Gt} {A C a c : Nat} (h : Kc X cc own G A C) : Nx (X.more a c) := Nx.more h.2.2.2.1
theorem Kc.ft {X : Cx Mv} {cc : ByteArray} {own : String} {G : Gt} {A C a c a' c' k N : Nat} (h : Kc X cc own G A C) (ha : a + k = a') (hc : c + N = c') (hle : a' ≤ A ∧ c' ≤ C) : (X.more a c).fits k N := fits_more (by rw [ha, hc]; exact fits_le h.2.2.2.2 hle)
