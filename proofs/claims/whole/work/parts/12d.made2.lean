/-! what is being made: fields and places are written -/
def Nm {μ : Type} (X : Cx μ) : Prop := match X with
  | (_, _, _, _, _, _, _, _, meth, _, _, _, _, _, _, _, _) => meth.name = "<init>"
theorem Nm.more {μ : Type} {X : Cx μ} {k N : Nat} (h : Nm X) : Nm (X.more k N) := by
  obtain ⟨p, l, e, R, s, m, args, below, meth, c, Q, H0, Wd, A, nL, cells, slots⟩ := X
  have h' : meth.name = "<init>" := h
  show meth.name = "<init>"
  exact h'
section RV2
variable {X : Cx Mv} {cc : ByteArray} {own : String} {V : Nat → va_E} {pc n q q0 : Nat} {lv : List (Nat × Value)} {st : List Value} {G : Gt}
theorem n_putF {C : String} {T : u_T} {N ci ix : Nat} {fs : List Value} {v : Value} {ty : FieldType} (ty0 : Nat → FieldType) (he : pc + 3 = n) (ok : Ok X cc own) (hN : Nm X) (hG : GV X G) (hin : ∀ w ∈ u_ws C T N, w ∈ gw) (hty : ∀ k, k < N → parseFieldDescriptor (T k).2.2.1 = some (ty0 k)) (hnm : ∀ a, a < N → ∀ b, b < N → a ≠ b → (T a).2.1 ≠ (T b).2.1) (hq : q0 < q) (hV : V q0 = .inr (ci, fs)) (hc : cls[ci]? = some (C, T, N)) (j : Nat) (hj : j < N) (hw : Cond.fieldLink own ix C (T j).2.1 (T j).2.2.1 ∈ gw) (hC : (T j).1 = C) (hfin : (T j).2.2.2 = true) (hdecl : (T j).1 = own) (hd : parseFieldDescriptor (T j).2.2.1 = some ty) (hn : narrow ty v = v) (hfit : fits ty v = true) (hl : j < fs.length) (d : decode cc pc = .ok (.putfield ix, 3)) (k : Wt X (uV V q0 (.inr (ci, fs.set j v)), q) n lv st) : Wt X (V, q) pc lv (v :: .ref (G.1 + q0) :: st) := by
  obtain ⟨p, l, e, R, s, m, args, below, meth, c, Q, H0, Wd, A, nL, cells, slots⟩ := X
  obtain ⟨⟨hx, hb, hml, hown, hts⟩, hlocks⟩ := ok
  obtain ⟨hWd, hA, ⟨hK, -⟩, hcs, hss⟩ := hG
  subst he; subst hWd; subst hA
  intro H locs ls hW hS hls
  obtain ⟨hP, hz⟩ := hW
  have hz : H.size = G.1 + q := hz
  have hP : va_P G.2.1 cls (LV G.1 V q) H := hP
  have he : (LV G.1 V q)[q0]? = some (G.1 + q0, .inr (ci, fs)) := by rw [LV_get hq, hV]
  have hap := va_apart (own := own) hts hin ty0 hty hnm hK hc
  obtain ⟨r, h1, cell, q1, q2, q3, q4⟩ := hP q0 _ he
  have hr : r = (C, T, N) := Option.some.inj (h1.symm.trans hc)
  subst hr
  obtain ⟨hSl, hfc, kC, hkC, hkind⟩ := hK.1 ci _ hc
  obtain ⟨cf, kf, fi, f, hi, hsl⟩ := hSl j hj
  have hlay := hts _ (hin _ (u_in_lay hj))
  unfold u_lay at hlay
  rw [if_pos hfin] at hlay
  have hst := (u_facts hfc hkC (u_lays hts hin hj) hi).1
  have hcf : m.cls = cf := by
    obtain ⟨_, _, c', _, _, _, -, -, hf', -, -, -, hown2, -⟩ := Cond.laysFinal_spec hlay
    have e1 : c' = cf := by have := hi.symm.trans hf'; simp at this; exact this.1.symm
    rw [hdecl] at hown2
    rw [← e1]; exact Option.some.inj (hown.symm.trans hown2)
  have h6 := u_fits hfc hkC hkind (Or.inr hlay) hi hd hn hfit
  refine W.putFinK hx hb hown (hts _ hw) (by rw [← hC]; exact hi) hst hcf hN (by rw [q2]; exact h6) q1 q3 (by rw [hsl]; exact k2_hasslot (q4 j hj)) rfl rfl d fun H' e1 e2 e3 => ?_
  rw [hsl] at e1 ⊢
  have hP1 := hP.set (e := .inr (ci, fs.set j v)) (LV_D G V q) he ⟨_, hc, t_OB.to (V := updV (vp_V fs) j v) ⟨_, e1, q2, q3, t_set q4 hap hj v⟩ (fun i _ => vp_updV_set hl v i)⟩ e3
  rw [LV_set hq] at hP1
  exact k H' _ ls ⟨hP1, by show H'.size = G.1 + q; rw [← hz]; exact e2⟩ (hS.put e2 e3 ((LV_D G V q).2 q0 _ he)) hls
end RV2
