/-! what is being made: a field that is not final; a place of an array of references -/
section RV3
variable {X : Cx Mv} {cc : ByteArray} {own : String} {V : Nat → va_E} {pc n q q0 : Nat} {lv : List (Nat × Value)} {st : List Value} {G : Gt}
theorem n_put {C : String} {T : u_T} {N ci ix : Nat} {fs : List Value} {v : Value} {ty : FieldType} (ty0 : Nat → FieldType) (he : pc + 3 = n) (ok : Ok X cc own) (hG : GV X G) (hin : ∀ w ∈ u_ws C T N, w ∈ gw) (hty : ∀ k, k < N → parseFieldDescriptor (T k).2.2.1 = some (ty0 k)) (hnm : ∀ a, a < N → ∀ b, b < N → a ≠ b → (T a).2.1 ≠ (T b).2.1) (hq : q0 < q) (hV : V q0 = .inr (ci, fs)) (hc : cls[ci]? = some (C, T, N)) (j : Nat) (hj : j < N) (hw : Cond.fieldLink own ix C (T j).2.1 (T j).2.2.1 ∈ gw) (hC : (T j).1 = C) (hfin : (T j).2.2.2 = false) (hd : parseFieldDescriptor (T j).2.2.1 = some ty) (hn : narrow ty v = v) (hfit : fits ty v = true) (hl : j < fs.length) (d : decode cc pc = .ok (.putfield ix, 3)) (k : Wt X (uV V q0 (.inr (ci, fs.set j v)), q) n lv st) : Wt X (V, q) pc lv (v :: .ref (G.1 + q0) :: st) := by
  obtain ⟨p, l, e, R, s, m, args, below, meth, c, Q, H0, Wd, A, nL, cells, slots⟩ := X
  obtain ⟨⟨hx, hb, hml, hown, hts⟩, hlocks⟩ := ok
  obtain ⟨hWd, hA, ⟨hK, -⟩, hcs, hss⟩ := hG
  subst he; subst hWd; subst hA
  intro H locs ls hW hS hls
  obtain ⟨hP, hz⟩ := hW
  have hz : H.size = G.1 + q := hz
  have hP : va_P G.2.1 cls (LV G.1 V q) H := hP
  have he : (LV G.1 V q)[q0]? = some (G.1 + q0, .inr (ci, fs)) := by rw [LV_get hq, hV]
  have hap := va_apart (own := own) hts hin ty0 hty hnm hK hc
  obtain ⟨r, h1, cell, q1, q2, q3, q4⟩ := hP q0 _ he
  have hr : r = (C, T, N) := Option.some.inj (h1.symm.trans hc)
  subst hr
  obtain ⟨hSl, hfc, kC, hkC, hkind⟩ := hK.1 ci _ hc
  obtain ⟨cf, kf, fi, f, hi, hsl⟩ := hSl j hj
  have hlay := hts _ (hin _ (u_in_lay hj))
  unfold u_lay at hlay
  rw [if_neg (by rw [hfin]; decide)] at hlay
  have hst := (u_facts hfc hkC (u_lays hts hin hj) hi).1
  have h6 := u_store hfc hkC hkind hlay hi hd hn hfit
  refine W.putK hx hb (f := f) ⟨hown, hts _ hw, ⟨_, _, _, by rw [← hC]; exact hi⟩, hst⟩ (by rw [q2]; exact h6) q1 q3 (by rw [hsl]; exact k2_hasslot (q4 j hj)) rfl rfl d fun H' e1 e2 e3 => ?_
  rw [hsl] at e1 ⊢
  have hP1 := hP.set (e := .inr (ci, fs.set j v)) (LV_D G V q) he ⟨_, hc, t_OB.to (V := updV (vp_V fs) j v) ⟨_, e1, q2, q3, t_set q4 hap hj v⟩ (fun i _ => vp_updV_set hl v i)⟩ e3
  rw [LV_set hq] at hP1
  exact k H' _ ls ⟨hP1, by show H'.size = G.1 + q; rw [← hz]; exact e2⟩ (hS.put e2 e3 ((LV_D G V q).2 q0 _ he)) hls
theorem n_aast {r : vw_C} {ci t0 cA nA q1 : Nat} {vs : List Value} {f : Nat → Option Nat} {i : Int32} (he : pc + 1 = n) (ok : Ok X cc own) (hG : GV X G) (hq : q0 < q) (hV : V q0 = .inl (cA, nA, .inr (.inr (.inr (.inr f))))) (ht : (tyl G)[t0]? = some (cA, .object r.1)) (hq1 : q1 < q) (hV1 : V q1 = .inr (ci, vs)) (hc : cls[ci]? = some r) (hi : vp_in i nA) (d : decode cc pc = .ok (.aastore, 1)) (k : Wt X (uV V q0 (.inl (cA, nA, .inr (.inr (.inr (.inr (va_up f (tN i) (some (G.1 + q1)))))))), q) n lv st) : Wt X (V, q) pc lv (.ref (G.1 + q1) :: .int i :: .ref (G.1 + q0) :: st) := by
  obtain ⟨p, l, e, R, s, m, args, below, meth, c, Q, H0, Wd, A, nL, cells, slots⟩ := X
  obtain ⟨⟨hx, hb, hml, hown, hts⟩, hlocks⟩ := ok
  obtain ⟨hWd, hA, ⟨hK, -⟩, hcs, hss⟩ := hG
  subst he; subst hWd; subst hA
  intro H locs ls hW hS hls
  obtain ⟨hP, hz⟩ := hW
  have hz : H.size = G.1 + q := hz
  have hP : va_P G.2.1 cls (LV G.1 V q) H := hP
  have ha : (LV G.1 V q)[q0]? = some (G.1 + q0, .inl (cA, nA, .inr (.inr (.inr (.inr f))))) := by rw [LV_get hq, hV]
  have hv : (LV G.1 V q)[q1]? = some (G.1 + q1, .inr (ci, vs)) := by rw [LV_get hq1, hV1]
  have hlt : i.toNatClampNeg < nA := Nat.not_le.mp fun q => hi (Or.inr q)
  have h0 : ¬ i < 0 := fun q => hi (Or.inl q)
  obtain ⟨r', hr', cellV, g1, g2, g3, -⟩ := hP q1 _ hv
  have hcls := (hK.1 ci r hc).2
  obtain ⟨kA, comp, k1, k2, k3, -⟩ := (hK.2 t0 _ ht).2
  have hcomp : comp = G.2.1.1 ci := Option.some.inj (k3.symm.trans hcls.1)
  subst hcomp
  obtain ⟨kC, hkC, -⟩ := hcls.2
  refine W.aast hx hb (hP q0 _ ha) (fun q h => by cases h) (fun h => by cases h) k1 k2 rfl hkC ⟨h0, by show _ < (arrV _ _ _).slots.size; rw [arrV_size]; exact hlt⟩ g1 (fun q h => by rw [g3] at h; cases h) (by rw [g2]; exact hkC) (by rw [g2]; exact va_assign hcls) rfl rfl d fun H1 e z oq => ?_
  have hat : va_at G.2.1 cls (G.1 + q0, .inl (cA, nA, .inr (.inr (.inr (.inr (va_up f (tN i) (some (G.1 + q1)))))))) H1 := by
    show H1[G.1 + q0]? = some (vp_cell _ _)
    rw [e, vp_cell_q, vp_cell_q, arrV_store]
    congr 2
    funext x
    by_cases hx : x = i.toNatClampNeg
    · subst hx
      simp [updV, va_up, va_rf]
    · simp [updV, va_up, hx]
  have hP1 := hP.set (LV_D G V q) ha hat oq
  rw [LV_set hq] at hP1
  exact k H1 _ ls ⟨hP1, by show H1.size = G.1 + q; rw [← hz]; exact z⟩ (hS.put z oq ((LV_D G V q).2 q0 _ ha)) hls
end RV3
