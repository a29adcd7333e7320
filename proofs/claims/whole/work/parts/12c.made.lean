/-! what is being made: the region's first n cells, and no cell behind them -/
abbrev Mv : Type := (Nat → va_E) × Nat
def LV (b : Nat) (V : Nat → va_E) (n : Nat) : va_W := (List.range n).map (fun q => (b + q, V q))
def uV (V : Nat → va_E) (q : Nat) (e : va_E) : Nat → va_E := fun k => if k = q then e else V k
theorem LV_get {b n q : Nat} {V : Nat → va_E} (h : q < n) : (LV b V n)[q]? = some (b + q, V q) := by
  unfold LV
  rw [List.getElem?_map, List.getElem?_range h]
  rfl
theorem LV_none {b n q : Nat} {V : Nat → va_E} (h : ¬ q < n) : (LV b V n)[q]? = none := by
  unfold LV
  rw [List.getElem?_eq_none]
  rw [List.length_map, List.length_range]
  omega
theorem LV_ext {b n : Nat} {V V' : Nat → va_E} (h : ∀ q, q < n → V q = V' q) : LV b V n = LV b V' n := by
  refine List.ext_getElem? (fun q => ?_)
  by_cases c : q < n
  · rw [LV_get c, LV_get c, h q c]
  · rw [LV_none c, LV_none c]
theorem LV_set {b n q : Nat} {V : Nat → va_E} {e : va_E} (h : q < n) : (LV b V n).set q (b + q, e) = LV b (uV V q e) n := by
  refine List.ext_getElem? (fun k => ?_)
  rw [List.getElem?_set]
  by_cases c : q = k
  · subst c
    have hl : q < (LV b V n).length := by unfold LV; rw [List.length_map, List.length_range]; exact h
    rw [if_pos rfl, if_pos hl, LV_get h]
    unfold uV
    rw [if_pos rfl]
  · rw [if_neg c]
    by_cases d : k < n
    · rw [LV_get d, LV_get d]
      unfold uV
      rw [if_neg (fun z => c z.symm)]
    · rw [LV_none d, LV_none d]
theorem LV_app {b n : Nat} {V : Nat → va_E} {e : va_E} : LV b V n ++ [(b + n, e)] = LV b (uV V n e) (n + 1) := by
  have e1 : LV b V n = LV b (uV V n e) n := LV_ext (fun q hq => by
    unfold uV
    rw [if_neg (by omega)])
  rw [e1]
  unfold LV
  rw [List.range_succ, List.map_append]
  show _ ++ _ = _ ++ [(b + n, uV V n e n)]
  unfold uV
  rw [if_pos rfl]
def rV (G : Gt) (q : Nat) : Prop := G.1 ≤ q
theorem LV_D (G : Gt) (V : Nat → va_E) (n : Nat) : va_D (rV G) (LV G.1 V n) := by
  have key : ∀ (k : Nat) (p : Nat × va_E), (LV G.1 V n)[k]? = some p → k < n ∧ p.1 = G.1 + k := fun k p h => by
    by_cases c : k < n
    · rw [LV_get c] at h
      cases h
      exact ⟨c, rfl⟩
    · rw [LV_none c] at h
      cases h
  refine ⟨fun i j p q hi hj e => ?_, fun k q hk => ?_⟩
  · have h1 := (key i p hi).2
    have h2 := (key j q hj).2
    omega
  · obtain ⟨h1, h2⟩ := key k q hk
    show G.1 ≤ q.1
    omega
def WV (G : Gt) (M : Mv) (H : Heap) : Prop := va_P G.2.1 cls (LV G.1 M.1 M.2) H ∧ H.size = G.1 + M.2
theorem WV_C {G : Gt} {M : Me} {V : Nat → va_E} {H : Heap} (h : WV G (V, 769) H) (e : ∀ q, q < 769 → V q = ceq G M q) : WC G M H := by
  have e1 : LV G.1 V 769 = wC G M := LV_ext e
  have h1 := h.1
  show va_P G.2.1 cls (wC G M) H
  rw [← e1]
  exact h1
abbrev GV (X : Cx Mv) (G : Gt) : Prop := Gx X G (WV G) (rV G)
def Cx.more {μ : Type} (X : Cx μ) (k N : Nat) : Cx μ := match X with
  | (p, l, e, R, s, m, args, below, meth, c, Q, H0, Wd, A, nL, cells, slots) => (p, l, e, R, s, m, args, below, meth, c, Q, H0, Wd, A, nL, cells + k, slots + N)
def Cx.fits {μ : Type} (X : Cx μ) (k N : Nat) : Prop := match X with
  | (_, _, _, R, _, _, _, _, _, _, _, _, _, _, _, cells, slots) => cells + k ≤ R.cells ∧ slots + N ≤ R.slots
theorem Ok.more {X : Cx Mv} {cc : ByteArray} {own : String} {k N : Nat} (h : Ok X cc own) : Ok (X.more k N) cc own := by
  obtain ⟨p, l, e, R, s, m, args, below, meth, c, Q, H0, Wd, A, nL, cells, slots⟩ := X
  obtain ⟨⟨hx, hb, hml, hown, hts⟩, hlocks⟩ := h
  exact ⟨⟨hx, hb, hml, hown, hts⟩, hlocks⟩
theorem Gx.more {X : Cx Mv} {G : Gt} {k N : Nat} (h : GV X G) (hf : X.fits k N) : GV (X.more k N) G := by
  obtain ⟨p, l, e, R, s, m, args, below, meth, c, Q, H0, Wd, A, nL, cells, slots⟩ := X
  obtain ⟨h1, h2, h3, -, -⟩ := h
  obtain ⟨h4, h5⟩ := hf
  exact ⟨h1, h2, h3, h4, h5⟩
section RV
variable {X : Cx Mv} {cc : ByteArray} {own : String} {V : Nat → va_E} {pc n q : Nat} {lv : List (Nat × Value)} {st : List Value} {G : Gt}
theorem n_new {C : String} {T : u_T} {N ci ix : Nat} {fs : List Value} (ty : Nat → FieldType) (he : pc + 3 = n) (ok : Ok X cc own) (hG : GV X G) (hin : ∀ w ∈ u_ws C T N, w ∈ gw) (hty : ∀ k, k < N → parseFieldDescriptor (T k).2.2.1 = some (ty k)) (hc : cls[ci]? = some (C, T, N)) (hfs : ∀ j, j < N → defaultValue (ty j) = vp_V fs j) (hw1 : Cond.classLink own ix C ∈ gw) (hw2 : Cond.instantiable C N ∈ gw) (hw3 : Cond.initialized C ∈ gw) (hf : X.fits 1 N) (d : decode cc pc = .ok (.new ix, 3)) (k : Wt (X.more 1 N) (uV V q (.inr (ci, fs)), q + 1) n lv (.ref (G.1 + q) :: st)) : Wt X (V, q) pc lv st := by
  obtain ⟨p, l, e, R, s, m, args, below, meth, c, Q, H0, Wd, A, nL, cells, slots⟩ := X
  obtain ⟨⟨hx, hb, hml, hown, hts⟩, hlocks⟩ := ok
  obtain ⟨hWd, hA, ⟨hK, hN⟩, hcs, hss⟩ := hG
  subst he; subst hWd; subst hA
  intro H locs ls hW hS hl
  obtain ⟨hP, hz⟩ := hW
  have hz : H.size = G.1 + q := hz
  have hP : va_P G.2.1 cls (LV G.1 V q) H := hP
  have hKn := hK.1 ci _ hc
  refine W.newcK hx hb hown (hts _ hw1) (hts _ hw2) (hts _ hw3) rfl d hf.1 hf.2 hKn.2.1 rfl fun H1 kC hkC e1 z1 o1 => ?_
  have hk : ∀ (k : Nat) (x : Nat × va_E), (LV G.1 V q)[k]? = some x → H1[x.1]? = H[x.1]? := fun k x hx => o1 x.1 ((hP k x hx).lt)
  have hP2 : va_P G.2.1 cls [(H.size, .inr (ci, fs))] H1 := fun k x hx => by
    have hz : k < 1 := (List.getElem?_eq_some_iff.mp hx).1
    rw [show k = 0 by omega] at hx
    cases hx
    exact ⟨_, hc, (u_born ty hts hin hKn hkC e1 hty).to hfs⟩
  have hP1 := (hP.kept hk).app hP2
  rw [hz, LV_app] at hP1
  rw [hz]
  exact k H1 locs ls ⟨hP1, by show H1.size = G.1 + (q + 1); omega⟩ ⟨Nat.le_trans hS.1 (by omega), fun x h1 h2 => (o1 x (Nat.lt_of_lt_of_le h1 hS.1)).trans (hS.2.1 x h1 h2), hS.2.2⟩ hl
end RV
