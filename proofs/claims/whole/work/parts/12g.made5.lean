/-! what is being made: a field is read -/
section RV5
variable {X : Cx Mv} {cc : ByteArray} {own : String} {V : Nat → va_E} {pc n q q0 : Nat} {lv : List (Nat × Value)} {st : List Value} {G : Gt}
theorem n_get {C : String} {T : u_T} {N ci ix : Nat} {fs : List Value} {v : Value} (he : pc + 3 = n) (ok : Ok X cc own) (hG : GV X G) (hin : ∀ w ∈ u_ws C T N, w ∈ gw) (hq : q0 < q) (hV : V q0 = .inr (ci, fs)) (hc : cls[ci]? = some (C, T, N)) (j : Nat) (hj : j < N) (hw : Cond.fieldLink own ix C (T j).2.1 (T j).2.2.1 ∈ gw) (hC : (T j).1 = C) (hv : fs[j]? = some v) (d : decode cc pc = .ok (.getfield ix, 3)) (k : Wt X (V, q) n lv (v :: st)) : Wt X (V, q) pc lv (.ref (G.1 + q0) :: st) := by
  obtain ⟨p, l, e, R, s, m, args, below, meth, c, Q, H0, Wd, A, nL, cells, slots⟩ := X
  obtain ⟨⟨hx, hb, hml, hown, hts⟩, hlocks⟩ := ok
  obtain ⟨hWd, hA, ⟨hK, -⟩, hcs, hss⟩ := hG
  subst he; subst hWd; subst hA
  intro H locs ls hW hS hl
  have hP : va_P G.2.1 cls (LV G.1 V q) H := hW.1
  exact va_get hx hb hts hin hown hK hP q0 (by rw [LV_get hq, hV]) hc j hj (hts _ hw) (fun x h => by rw [← hC]; exact h) hv d (k H locs ls hW hS hl)
end RV5
