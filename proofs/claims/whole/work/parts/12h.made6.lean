/-! what is being made: Object's constructor; a constructor's contract -/
section RV6
variable {X : Cx Mv} {cc : ByteArray} {own : String} {M : Mv} {pc n a : Nat} {lv : List (Nat × Value)} {st : List Value} {G : Gt}
theorem n_obj {ix : Nat} (he : pc + 3 = n) (ok : Ok X cc own) (hw1 : Cond.methodLink own ix objectInit ∈ gw) (hw2 : Cond.instanceMethod objectInit ∈ gw) (hw3 : Cond.code objectInit ⟨#[0xb1]⟩ 1 none ∈ gw) (hR : 1 ≤ X.R.frames ∧ 20 ≤ X.R.locals) (hcat : (st.map fun v => v.category).sum ≤ 8) (d : decode cc pc = .ok (.invokespecial ix, 3)) (k : Wt X M n lv st) : Wt X M pc lv (.ref a :: st) := by
  obtain ⟨p, l, e, R, s, m, args, below, meth, c, Q, H0, Wd, A, nL, cells, slots⟩ := X
  obtain ⟨⟨hx, hb, hml, hown, hts⟩, hlocks⟩ := ok
  obtain ⟨hR1, hR2⟩ := hR
  subst he
  intro H locs ls hW hS hl
  have hR1 : 1 ≤ R.frames := hR1
  have hR2 : 8 + 12 ≤ R.locals := hR2
  refine W.objInit hx hb hown (hts _ hw1) (hts _ hw2) (hts _ hw3) rfl (by rw [hml]; exact hl.1) rfl d hR1 (Nat.le_trans (Nat.add_le_add_right (lv_room hcat) 12) hR2) ?_
  exact W.eq (g2 := F0 m (pc + 3) ls st) rfl (k H locs ls hW hS hl)
end RV6
