/-! what is being made: rows over lists -/
section RV7
variable {X : Cx Mv} {cc : ByteArray} {own : String} {V : Nat → va_E} {pc n q q0 : Nat} {lv : List (Nat × Value)} {st : List Value} {G : Gt}
theorem n_anew {C : String} {x : Int32} {N' t0 cA ix : Nat} (he : pc + 3 = n) (ok : Ok X cc own) (hG : GV X G) (hw1 : Cond.classLink own ix C ∈ gw) (hw2 : ∀ s : State, Nst s → va_AO C s) (hX : Nx X) (ht : (tyl G)[t0]? = some (cA, .object C)) (hn : ¬ x < 0) (hN : x.toNatClampNeg = N') (hbytes : N' * 4 ≤ 536870912) (hf : X.fits 1 N') (d : decode cc pc = .ok (.anewarray ix, 3)) (k : Wt (X.more 1 N') (uV V q (.inl (cA, N', .inr (.inr (.inr (.inr (fun _ => none)))))), q + 1) n lv (.ref (G.1 + q) :: st)) : Wt X (V, q) pc lv (.int x :: st) := by
  obtain ⟨p, l, e, R, s, m, args, below, meth, c, Q, H0, Wd, A, nL, cells, slots⟩ := X
  obtain ⟨⟨hx, hb, hml, hown, hts⟩, hlocks⟩ := ok
  obtain ⟨hWd, hA, ⟨hK, -⟩, hcs, hss⟩ := hG
  have hNs : Nst s := hX
  subst he; subst hWd; subst hA; subst hN
  intro H locs ls hW hS hl
  obtain ⟨hP, hz⟩ := hW
  have hz : H.size = G.1 + q := hz
  have hP : va_P G.2.1 cls (LV G.1 V q) H := hP
  refine W.anew hx hb hown (hts _ hw1) (hw2 s hNs) rfl d rfl hn hbytes hf.1 hf.2 fun cA1 kA comp f1 f2 f3 f4 => ?_
  obtain ⟨kB, comp2, g1, g2, g3, g4⟩ := (hK.2 t0 _ ht).2
  have hcA : cA1 = cA := Option.some.inj (f1.symm.trans g4)
  subst hcA
  generalize hH1 : H.push ({ cls := cA1, slots := Array.replicate x.toNatClampNeg .null, vm := .none } : Cell) = H1
  have z1 : H1.size = H.size + 1 := by rw [← hH1, Array.size_push]
  have e1 : H1[H.size]? = some (arrV cA1 x.toNatClampNeg (fun _ => .null)) := by rw [← hH1, Array.getElem?_push_size, ← arrV_new]
  have o1 : ∀ q : Nat, q < H.size → H1[q]? = H[q]? := fun q hq => by rw [← hH1, Array.getElem?_push, if_neg (Nat.ne_of_lt hq)]
  have hk : ∀ (k : Nat) (x : Nat × va_E), (LV G.1 V q)[k]? = some x → H1[x.1]? = H[x.1]? := fun k x hx => o1 x.1 ((hP k x hx).lt)
  have hP2 : va_P G.2.1 cls [(H.size, .inl (cA1, x.toNatClampNeg, .inr (.inr (.inr (.inr (fun _ => none))))))] H1 := fun k y hx => by
    have hz : k < 1 := (List.getElem?_eq_some_iff.mp hx).1
    rw [show k = 0 by omega] at hx
    cases hx
    show H1[H.size]? = some (vp_cell _ _)
    rw [vp_cell_q]
    exact e1
  have hP1 := (hP.kept hk).app hP2
  rw [hz, LV_app] at hP1
  rw [hz]
  exact k H1 locs ls ⟨hP1, by show H1.size = G.1 + (q + 1); omega⟩ ⟨Nat.le_trans hS.1 (by omega), fun x h1 h2 => (o1 x (Nat.lt_of_lt_of_le h1 hS.1)).trans (hS.2.1 x h1 h2), hS.2.2⟩ hl
theorem n_iast {t0 cA nA : Nat} {f : Nat → Int32} {i x : Int32} (he : pc + 1 = n) (ok : Ok X cc own) (hG : GV X G) (hq : q0 < q) (hV : V q0 = .inl (cA, nA, .inl f)) (ht : (tyl G)[t0]? = some (cA, .int)) (hi : vp_in i nA) (d : decode cc pc = .ok (.iastore, 1)) (k : Wt X (uV V q0 (.inl (cA, nA, .inl (upd f i.toNatClampNeg x))), q) n lv st) : Wt X (V, q) pc lv (.int x :: .int i :: .ref (G.1 + q0) :: st) := by
  obtain ⟨p, l, e, R, s, m, args, below, meth, c, Q, H0, Wd, A, nL, cells, slots⟩ := X
  obtain ⟨⟨hx, hb, hml, hown, hts⟩, hlocks⟩ := ok
  obtain ⟨hWd, hA, ⟨hK, -⟩, hcs, hss⟩ := hG
  subst he; subst hWd; subst hA
  intro H locs ls hW hS hls
  obtain ⟨hP, hz⟩ := hW
  have hz : H.size = G.1 + q := hz
  have hP : va_P G.2.1 cls (LV G.1 V q) H := hP
  have ha : (LV G.1 V q)[q0]? = some (G.1 + q0, .inl (cA, nA, .inl f)) := by rw [LV_get hq, hV]
  refine W.iast hx hb (hP q0 _ ha) ((hK.2 t0 _ ht).1 nA (fun j => .int (f j))) (fun q => by cases q) (by show ¬ (i < 0 ∨ (arrV _ _ _).slots.size ≤ _); rw [arrV_size]; exact hi) rfl rfl d fun H1 e z oq => ?_
  have hP1 := hP.set (e := .inl (cA, nA, .inl (upd f i.toNatClampNeg x))) (LV_D G V q) ha (by
    show H1[G.1 + q0]? = some (vp_cell _ _)
    rw [e]
    rw [vp_cell_i, vp_cell_i, arrV_store]
    refine congrArg some (mw_ext (fun j _ => ?_))
    unfold updV upd
    by_cases hj : j = i.toNatClampNeg
    · rw [if_pos hj, if_pos hj]
    · rw [if_neg hj, if_neg hj]) oq
  rw [LV_set hq] at hP1
  exact k H1 _ ls ⟨hP1, by show H1.size = G.1 + q; rw [← hz]; exact z⟩ (hS.put z oq ((LV_D G V q).2 q0 _ ha)) hls
theorem n_alen {t0 cA : Nat} {x : vp_A} {ty : FieldType} {v : Int32} (he : pc + 1 = n) (ok : Ok X cc own) (hG : GV X G) (hq : q0 < q) (hV : V q0 = .inl (cA, x)) (ht : (tyl G)[t0]? = some (cA, ty)) (hv : Int32.ofNat x.1 = v) (d : decode cc pc = .ok (.arraylength, 1)) (k : Wt X (V, q) n lv (.int v :: st)) : Wt X (V, q) pc lv (.ref (G.1 + q0) :: st) := by
  obtain ⟨p, l, e, R, s, m, args, below, meth, c, Q, H0, Wd, A, nL, cells, slots⟩ := X
  obtain ⟨⟨hx, hb, hml, hown, hts⟩, hlocks⟩ := ok
  obtain ⟨hWd, hA, ⟨hK, -⟩, hcs, hss⟩ := hG
  subst he; subst hWd; subst hA
  intro H locs ls hW hS hl
  have hP : va_P G.2.1 cls (LV G.1 V q) H := hW.1
  exact va_alen hx hb hK hP q0 t0 (by rw [LV_get hq, hV]) ht hv d (k H locs ls hW hS hl)
theorem n_cell {cA : Nat} {a a' : vp_A} (hG : GV X G) (hV : V q0 = .inl (cA, a)) (he : vp_cell cA a = vp_cell cA a') (k : Wt X (uV V q0 (.inl (cA, a')), q) pc lv st) : Wt X (V, q) pc lv st := by
  obtain ⟨p, l, e, R, s, m, args, below, meth, c, Q, H0, Wd, A, nL, cells, slots⟩ := X
  obtain ⟨hWd, hA, -, -, -⟩ := hG
  subst hWd
  intro H locs ls hW hS hl
  exact k H locs ls (WV_cell hW hV he) hS hl
theorem n_callF {M M' : Mv} {st0 : List Value} {y : MethodName} {b : ByteArray} {nl : Nat} {rm : Room} {na ix mc ms : Nat} {av : List Value} (he : pc + 3 = n) (ok : Ok X cc own) (hG : GV X G) (hX : Nx X) (hF : MF y b nl none na) (hI : Cond.static y ∈ gw) (hw : Cond.methodLink own ix y ∈ gw) (hC : Cn X.l G y b nl rm av M M' mc ms) (hrm : rm.cells = mc ∧ rm.slots = ms) (hR : rm.frames + 1 ≤ X.R.frames ∧ 8 + (nl + 11) + rm.locals ≤ X.R.locals) (hn : av.length = na)
    (hst : st0 = av.reverse ++ st) (hcat : (st.map fun v => v.category).sum ≤ 8) (d : decode cc pc = .ok (.invokestatic ix, 3)) (hf : X.fits mc ms) (k : Wt (X.more mc ms) M' n lv st) : Wt X M pc lv st0 := by
  obtain ⟨p, l, e, R, s, m, args, below, meth, c, Q, H0, Wd, A9, nL, cells, slots⟩ := X
  obtain ⟨⟨hx, hb, hml, hown, hts⟩, hlocks⟩ := ok
  obtain ⟨hWd, hA, hK, hcs, hss⟩ := hG
  have hNs : Nst s := hX
  subst he; subst hWd; subst hA
  obtain ⟨f1, f2, f3, f4, f5⟩ := hF
  intro H locs ls hW hS hl
  subst hst
  have hcw : CallB R s args own ix y b nl none (.code y b nl none :: gw) rm mc ms na ∧ (Cond.static y).before args s = true := ⟨callB_of na hts (gw_in f1) rfl hrm.1 hrm.2 (hts _ f2) (hts _ hw) ⟨f3, f4, f5⟩ hR, hts _ hI⟩
  refine my_callV (va_runS ⟨hx, hb, hml, hown, hts⟩ hC hcw ⟨va_blindV, fun U hU hW2 => ⟨rfl, by rw [hU]; exact hW, Kn.warm hW2 hK, Nst.warm hW2 hNs⟩⟩ rfl hn hl.1 rfl (lv_room hcat) d hf) hS (fun H1 locs1 hW1 hS1 => k H1 locs1 ls hW1 hS1 hl)
end RV7
section RV8
variable {X : Cx Mv} {cc : ByteArray} {own : String} {V : Nat → va_E} {pc n b j a c a' c' A C : Nat} {L L' : List va_E} {lv : List (Nat × Value)} {st : List Value} {G : Gt}
theorem m_set {e : va_E} (hq : j < L.length) (hL : L.set j e = L') (k : Wt X (mL V b L') pc lv st) : Wt X (uV (apV V b L) (b + j) e, b + L.length) pc lv st := by
  subst hL
  exact r_m (mL_set hq) k
theorem m_new {Cn : String} {T : u_T} {N ci ix : Nat} {fs : List Value} (ty : Nat → FieldType) (he : pc + 3 = n) (h : Kc X cc own G A C) (hin : ∀ w ∈ u_ws Cn T N, w ∈ gw) (hty : ∀ k, k < N → parseFieldDescriptor (T k).2.2.1 = some (ty k)) (hc : cls[ci]? = some (Cn, T, N)) (hfs : ∀ j, j < N → defaultValue (ty j) = vp_V fs j) (hw1 : Cond.classLink own ix Cn ∈ gw) (hw2 : Cond.instantiable Cn N ∈ gw) (hw3 : Cond.initialized Cn ∈ gw) (hj : L.length = j) (ha : a + 1 = a') (hs : c + N = c') (hle : a' ≤ A ∧ c' ≤ C) (d : decode cc pc = .ok (.new ix, 3)) (k : Wt (X.more a' c') (mL V b (L ++ [.inr (ci, fs)])) n lv (.ref (G.1 + (b + j)) :: st)) : Wt (X.more a c) (mL V b L) pc lv st := by
  subst hj; subst ha; subst hs
  refine n_new ty he h.ok (h.gv ⟨by omega, by omega⟩) hin hty hc hfs hw1 hw2 hw3 (h.ft rfl rfl hle) d ?_
  rw [more_more, ← mL_push]
  exact k
theorem m_newa {atype : ArrayType} {x : Int32} {N' t0 cA : Nat} {a0 : vp_A} (he : pc + 2 = n) (h : Kc X cc own G A C) (hw : Cond.arrayClass (newarray.typeOf atype) ∈ gw) (ht : (tyl G)[t0]? = some (cA, newarray.typeOf atype)) (hp : ∀ U : State, va_RA U cA (newarray.typeOf atype) → U.vm.findClass ("[" ++ (newarray.typeOf atype).toString) = some cA) (hv : ∀ cA : ClassId, vp_cell cA a0 = arrV cA N' (fun _ => defaultValue (newarray.typeOf atype))) (hn : ¬ x < 0) (hN : x.toNatClampNeg = N') (hbytes : N' * componentBytes (newarray.typeOf atype) ≤ 536870912) (hj : L.length = j) (ha : a + 1 = a') (hs : c + N' = c') (hle : a' ≤ A ∧ c' ≤ C) (d : decode cc pc = .ok (.newarray atype, 2)) (k : Wt (X.more a' c') (mL V b (L ++ [.inl (cA, a0)])) n lv (.ref (G.1 + (b + j)) :: st)) : Wt (X.more a c) (mL V b L) pc lv (.int x :: st) := by
  subst hj; subst ha; subst hs
  refine n_newa he h.ok (h.gv ⟨by omega, by omega⟩) hw ht hp hv hn hN hbytes (h.ft rfl rfl hle) d ?_
  rw [more_more, ← mL_push]
  exact k
theorem m_anew {Cn : String} {x : Int32} {N' t0 cA ix : Nat} (he : pc + 3 = n) (h : Kc X cc own G A C) (hw1 : Cond.classLink own ix Cn ∈ gw) (hw2 : ∀ s : State, Nst s → va_AO Cn s) (ht : (tyl G)[t0]? = some (cA, .object Cn)) (hn : ¬ x < 0) (hN : x.toNatClampNeg = N') (hbytes : N' * 4 ≤ 536870912) (hj : L.length = j) (ha : a + 1 = a') (hs : c + N' = c') (hle : a' ≤ A ∧ c' ≤ C) (d : decode cc pc = .ok (.anewarray ix, 3)) (k : Wt (X.more a' c') (mL V b (L ++ [.inl (cA, N', .inr (.inr (.inr (.inr (fun _ => none)))))])) n lv (.ref (G.1 + (b + j)) :: st)) : Wt (X.more a c) (mL V b L) pc lv (.int x :: st) := by
  subst hj; subst ha; subst hs
  refine n_anew he h.ok (h.gv ⟨by omega, by omega⟩) hw1 hw2 h.nx ht hn hN hbytes (h.ft rfl rfl hle) d ?_
  rw [more_more, ← mL_push]
  exact k
theorem m_mnew {x y : Int32} {N' K' ix : Nat} (he : pc + 4 = n) (h : Kc X cc own G A C) (hw1 : Cond.classLink own ix "[[I" ∈ gw) (hw3 : Cond.arrayClass .int ∈ gw) (hn : ¬ x < 0) (hk : ¬ y < 0) (hN : x.toNatClampNeg = N') (hK' : y.toNatClampNeg = K') (hb1 : N' * 4 ≤ 536870912) (hb2 : K' * 4 ≤ 536870912) (hb3 : K' ≤ 536870912) (hj : L.length = j) (ha : a + (1 + N') = a') (hs : c + (N' + N' * K') = c') (hle : a' ≤ A ∧ c' ≤ C) (d : decode cc pc = .ok (.multianewarray ix 2, 4)) (hL : L ++ (.inl (G.2.2 7, N', .inr (.inr (.inr (.inr (fun k => some (G.1 + (b + j + 1 + k))))))) :: List.replicate N' (.inl (G.2.2 0, K', .inl (fun _ => 0)))) = L') (k : Wt (X.more a' c') (mL V b L') n lv (.ref (G.1 + (b + j)) :: st)) : Wt (X.more a c) (mL V b L) pc lv (.int y :: .int x :: st) := by
  have ok : Ok (X.more a c) cc own := h.ok
  have hG : GV (X.more a c) G := h.gv ⟨by omega, by omega⟩
  have hX : Nx (X.more a c) := h.nx
  have hf : (X.more a c).fits (1 + N') (N' + N' * K') := h.ft ha hs hle
  have e1 : (X.more a c).more (1 + N') (N' + N' * K') = X.more a' c' := by rw [more_more, ha, hs]
  rw [← e1] at k
  generalize X.more a c = Y at ok hG hX hf k ⊢
  obtain ⟨p, l, e, R, s, m, args, below, meth, cd, Q, H0, Wd, A9, nL, cells, slots⟩ := Y
  obtain ⟨⟨hx, hb, hml, hown, hts⟩, hlocks⟩ := ok
  obtain ⟨hWd, hA, ⟨hK, -⟩, hcs, hss⟩ := hG
  have hNs : Nst s := hX
  obtain ⟨hf1, hf2⟩ := hf
  subst he; subst hWd; subst hA; subst hj; subst hL; subst hN; subst hK'
  intro H locs ls hW hS hl
  have hz : H.size = G.1 + (b + L.length) := hW.2
  refine mw_new2 (ty := .int) hx hb hown (hts _ hw1) hNs.1.2.2.2.2 (hts _ hw3) rfl d rfl hn hk hb1 hb2 hb3 rfl rfl hf1 hf2 fun H1 cA cB g1 g2 z e1 e2 o => ?_
  have hcA : cA = G.2.2 7 := Option.some.inj (g1.symm.trans (hK.2 7 _ rfl).2)
  have hcB : cB = G.2.2 0 := Option.some.inj (g2.symm.trans (hK.2 0 _ rfl).2)
  subst hcA; subst hcB
  have hW1 : WV G (mL V b (L ++ (.inl (G.2.2 7, x.toNatClampNeg, .inr (.inr (.inr (.inr (fun k => some (G.1 + (b + L.length + 1 + k))))))) :: List.replicate x.toNatClampNeg (.inl (G.2.2 0, y.toNatClampNeg, .inl (fun _ => 0)))))) H1 := by
    refine WV_app hW (by rw [List.length_cons, List.length_replicate, z]; omega) o (fun i e hi => ?_)
    cases i with
    | zero =>
      cases hi
      show H1[H.size]? = some (vp_cell _ _)
      rw [vp_cell_q, e1, hz]
      refine congrArg some (mw_ext (fun j _ => ?_))
      show Value.ref _ = Value.ref _
      rw [show G.1 + (b + L.length) + 1 + j = G.1 + (b + L.length + 1 + j) by omega]
    | succ i =>
      rw [List.getElem?_cons_succ] at hi
      have hlt : i < x.toNatClampNeg := by
        have t := lt_of_at hi
        rw [List.length_replicate] at t
        exact t
      rw [List.getElem?_replicate_of_lt hlt] at hi
      cases hi
      show H1[H.size + (i + 1)]? = some (vp_cell _ _)
      rw [show H.size + (i + 1) = H.size + 1 + i by omega, e2 i hlt]
      rfl
  have hS1 : va_S (rV G) H0 H1 (locs ++ (List.range x.toNatClampNeg).map fun j => ⟨H.size, j⟩) := by
    refine ⟨Nat.le_trans hS.1 (by omega), fun q h1 h2 => (o q (Nat.lt_of_lt_of_le h1 hS.1)).trans (hS.2.1 q h1 h2), fun q hq => ?_⟩
    rcases List.mem_append.mp hq with h1 | h1
    · exact hS.2.2 q h1
    · obtain ⟨i, -, rfl⟩ := List.mem_map.mp h1
      show G.1 ≤ H.size
      omega
  have t := k H1 _ ls hW1 hS1 hl
  rw [hz]
  rw [Nat.add_assoc cells, Nat.add_assoc slots]
  rw [hz] at t
  exact t
theorem m_putF {Cn : String} {T : u_T} {N ci ix : Nat} {fs : List Value} {v : Value} {ty : FieldType} (ty0 : Nat → FieldType) (he : pc + 3 = n) (h : Kc X cc own G A C) (hin : ∀ w ∈ u_ws Cn T N, w ∈ gw) (hty : ∀ k, k < N → parseFieldDescriptor (T k).2.2.1 = some (ty0 k)) (hnm : ∀ a, a < N → ∀ b, b < N → a ≠ b → (T a).2.1 ≠ (T b).2.1) (hc : cls[ci]? = some (Cn, T, N)) (i : Nat) (hi : i < N) (hw : Cond.fieldLink own ix Cn (T i).2.1 (T i).2.2.1 ∈ gw) (hC : (T i).1 = Cn) (hfin : (T i).2.2.2 = true) (hdecl : (T i).1 = own) (hd : parseFieldDescriptor (T i).2.2.1 = some ty) (hn : narrow ty v = v) (hfit : fits ty v = true) (hl : i < fs.length) (hle : a ≤ A ∧ c ≤ C) (hV : L[j]? = some (.inr (ci, fs))) (hL : L.set j (.inr (ci, fs.set i v)) = L') (d : decode cc pc = .ok (.putfield ix, 3)) (k : Wt (X.more a c) (mL V b L') n lv st) : Wt (X.more a c) (mL V b L) pc lv (v :: .ref (G.1 + (b + j)) :: st) :=
  n_putF ty0 he h.ok h.nm (h.gv hle) hin hty hnm (Nat.add_lt_add_left (lt_of_at hV) b) (apV_at hV) hc i hi hw hC hfin hdecl hd hn hfit hl d (m_set (lt_of_at hV) hL k)
theorem m_put {Cn : String} {T : u_T} {N ci ix : Nat} {fs : List Value} {v : Value} {ty : FieldType} (ty0 : Nat → FieldType) (he : pc + 3 = n) (h : Kc X cc own G A C) (hin : ∀ w ∈ u_ws Cn T N, w ∈ gw) (hty : ∀ k, k < N → parseFieldDescriptor (T k).2.2.1 = some (ty0 k)) (hnm : ∀ a, a < N → ∀ b, b < N → a ≠ b → (T a).2.1 ≠ (T b).2.1) (hc : cls[ci]? = some (Cn, T, N)) (i : Nat) (hi : i < N) (hw : Cond.fieldLink own ix Cn (T i).2.1 (T i).2.2.1 ∈ gw) (hC : (T i).1 = Cn) (hfin : (T i).2.2.2 = false) (hd : parseFieldDescriptor (T i).2.2.1 = some ty) (hn : narrow ty v = v) (hfit : fits ty v = true) (hl : i < fs.length) (hle : a ≤ A ∧ c ≤ C) (hV : L[j]? = some (.inr (ci, fs))) (hL : L.set j (.inr (ci, fs.set i v)) = L') (d : decode cc pc = .ok (.putfield ix, 3)) (k : Wt (X.more a c) (mL V b L') n lv st) : Wt (X.more a c) (mL V b L) pc lv (v :: .ref (G.1 + (b + j)) :: st) :=
  n_put ty0 he h.ok (h.gv hle) hin hty hnm (Nat.add_lt_add_left (lt_of_at hV) b) (apV_at hV) hc i hi hw hC hfin hd hn hfit hl d (m_set (lt_of_at hV) hL k)
theorem m_get {Cn : String} {T : u_T} {N ci ix : Nat} {fs : List Value} {v : Value} (he : pc + 3 = n) (h : Kc X cc own G A C) (hin : ∀ w ∈ u_ws Cn T N, w ∈ gw) (hc : cls[ci]? = some (Cn, T, N)) (i : Nat) (hi : i < N) (hw : Cond.fieldLink own ix Cn (T i).2.1 (T i).2.2.1 ∈ gw) (hC : (T i).1 = Cn) (hle : a ≤ A ∧ c ≤ C) (hV : L[j]? = some (.inr (ci, fs))) (hv : fs[i]? = some v) (d : decode cc pc = .ok (.getfield ix, 3)) (k : Wt (X.more a c) (mL V b L) n lv (v :: st)) : Wt (X.more a c) (mL V b L) pc lv (.ref (G.1 + (b + j)) :: st) :=
  n_get he h.ok (h.gv hle) hin (Nat.add_lt_add_left (lt_of_at hV) b) (apV_at hV) hc i hi hw hC hv d k
theorem m_aast {r : vw_C} {ci t0 cA nA j1 k : Nat} {vs : List Value} {f f' : Nat → Option Nat} {i : Int32} (he : pc + 1 = n) (h : Kc X cc own G A C) (ht : (tyl G)[t0]? = some (cA, .object r.1)) (hc : cls[ci]? = some r) (hi : vp_in i nA) (hle : a ≤ A ∧ c ≤ C) (hV : L[j]? = some (.inl (cA, nA, .inr (.inr (.inr (.inr f)))))) (hV1 : L[j1]? = some (.inr (ci, vs))) (hk : tN i = k) (hf : va_up f k (some (G.1 + (b + j1))) = f') (hL : L.set j (.inl (cA, nA, .inr (.inr (.inr (.inr f'))))) = L') (d : decode cc pc = .ok (.aastore, 1)) (kk : Wt (X.more a c) (mL V b L') n lv st) : Wt (X.more a c) (mL V b L) pc lv (.ref (G.1 + (b + j1)) :: .int i :: .ref (G.1 + (b + j)) :: st) :=
  n_aast he h.ok (h.gv hle) (Nat.add_lt_add_left (lt_of_at hV) b) (apV_at hV) ht (Nat.add_lt_add_left (lt_of_at hV1) b) (apV_at hV1) hc hi d (m_set (lt_of_at hV) (by rw [hk, hf]; exact hL) kk)
theorem m_iast {t0 cA nA k : Nat} {f : Nat → Int32} {i x : Int32} (he : pc + 1 = n) (h : Kc X cc own G A C) (ht : (tyl G)[t0]? = some (cA, .int)) (hi : vp_in i nA) (hle : a ≤ A ∧ c ≤ C) (hV : L[j]? = some (.inl (cA, nA, .inl f))) (hk : i.toNatClampNeg = k) (hL : L.set j (.inl (cA, nA, .inl (upd f k x))) = L') (d : decode cc pc = .ok (.iastore, 1)) (kk : Wt (X.more a c) (mL V b L') n lv st) : Wt (X.more a c) (mL V b L) pc lv (.int x :: .int i :: .ref (G.1 + (b + j)) :: st) :=
  n_iast he h.ok (h.gv hle) (Nat.add_lt_add_left (lt_of_at hV) b) (apV_at hV) ht hi d (m_set (lt_of_at hV) (by rw [hk]; exact hL) kk)
theorem m_cell {cA : Nat} {x x' : vp_A} (h : Kc X cc own G A C) (hle : a ≤ A ∧ c ≤ C) (hV : L[j]? = some (.inl (cA, x))) (he : vp_cell cA x = vp_cell cA x') (hL : L.set j (.inl (cA, x')) = L') (k : Wt (X.more a c) (mL V b L') pc lv st) : Wt (X.more a c) (mL V b L) pc lv st :=
  n_cell (h.gv hle) (apV_at hV) he (m_set (lt_of_at hV) hL k)
theorem m_obj {M : Mv} {x ix : Nat} (he : pc + 3 = n) (h : Kc X cc own G A C) (hw1 : Cond.methodLink own ix objectInit ∈ gw) (hw2 : Cond.instanceMethod objectInit ∈ gw) (hw3 : Cond.code objectInit ⟨#[0xb1]⟩ 1 none ∈ gw) (hR : 1 ≤ X.R.frames ∧ 20 ≤ X.R.locals) (hcat : (st.map fun v => v.category).sum ≤ 8) (d : decode cc pc = .ok (.invokespecial ix, 3)) (k : Wt (X.more a c) M n lv st) : Wt (X.more a c) M pc lv (.ref x :: st) :=
  n_obj he h.ok hw1 hw2 hw3 (by rw [more_R]; exact hR) hcat d k
theorem m_callC {R L1 L2 : List va_E} {e0 : va_E} {st0 : List Value} {y : MethodName} {bb : ByteArray} {nl : Nat} {rm : Room} {na ix mc ms bj : Nat} {As : List Value} (he : pc + 3 = n) (h : Kc X cc own G A C) (hF : MF y bb nl none na) (hy : y.name = "<init>") (hI : Cond.instanceMethod y ∈ gw) (hw : Cond.methodLink own ix y ∈ gw) (hC : Cn X.l G y bb nl rm (.ref (G.1 + bj) :: As) (mL (apV V b L) bj [e0]) (mL (apV V b L) bj R) mc ms) (hj : b + L.length = bj) (hrm : rm.cells = mc ∧ rm.slots = ms) (hR : rm.frames + 1 ≤ X.R.frames ∧ 8 + (nl + 11) + rm.locals ≤ X.R.locals) (hn : As.length = na)
    (hst : st0 = As.reverse ++ .ref (G.1 + bj) :: st) (hcat : (st.map fun v => v.category).sum ≤ 8) (d : decode cc pc = .ok (.invokespecial ix, 3)) (ha : a + mc = a') (hs : c + ms = c') (hle : a' ≤ A ∧ c' ≤ C) (hL1 : L ++ [e0] = L1) (hL2 : L ++ R = L2) (k : Wt (X.more a' c') (mL V b L2) n lv st) : Wt (X.more a c) (mL V b L1) pc lv st0 := by
  subst hj; subst hL1; subst hL2
  rw [← mL_app, ← mL_app] at hC
  rw [← ha, ← hs, ← more_more] at k
  rw [← more_l (a := a) (c := c)] at hC
  exact n_callC he h.ok (h.gv ⟨by omega, by omega⟩) h.nx hF hy hI hw hC hrm (by rw [more_R]; exact hR) hn hst hcat d (h.ft ha hs hle) k
theorem m_callCN {host : String} {R L1 L2 : List va_E} {e0 : va_E} {st0 : List Value} {y : MethodName} {bb : ByteArray} {nl : Nat} {rm : Room} {na ix mc ms bj : Nat} {As : List Value} (he : pc + 3 = n) (h : Kc X cc own G A C) (hF : MF y bb nl none na) (hy : y.name = "<init>") (hI : Cond.instanceMethod y ∈ gw) (hNx : ∀ s : State, Nst s → va_Nw (.methodLinkNest own ix y host) s) (hC : Cn X.l G y bb nl rm (.ref (G.1 + bj) :: As) (mL (apV V b L) bj [e0]) (mL (apV V b L) bj R) mc ms) (hj : b + L.length = bj) (hrm : rm.cells = mc ∧ rm.slots = ms) (hR : rm.frames + 1 ≤ X.R.frames ∧ 8 + (nl + 11) + rm.locals ≤ X.R.locals) (hn : As.length = na)
    (hst : st0 = As.reverse ++ .ref (G.1 + bj) :: st) (hcat : (st.map fun v => v.category).sum ≤ 8) (d : decode cc pc = .ok (.invokespecial ix, 3)) (ha : a + mc = a') (hs : c + ms = c') (hle : a' ≤ A ∧ c' ≤ C) (hL1 : L ++ [e0] = L1) (hL2 : L ++ R = L2) (k : Wt (X.more a' c') (mL V b L2) n lv st) : Wt (X.more a c) (mL V b L1) pc lv st0 := by
  subst hj; subst hL1; subst hL2
  rw [← mL_app, ← mL_app] at hC
  rw [← ha, ← hs, ← more_more] at k
  rw [← more_l (a := a) (c := c)] at hC
  exact n_callCN he h.ok (h.gv ⟨by omega, by omega⟩) h.nx hF hy hI hNx hC hrm (by rw [more_R]; exact hR) hn hst hcat d (h.ft ha hs hle) k
theorem m_callF {st0 : List Value} {y : MethodName} {bb : ByteArray} {nl : Nat} {rm : Room} {na ix : Nat} {av : List Value} {e' : va_E} (he : pc + 3 = n) (h : Kc X cc own G A C) (hF : MF y bb nl none na) (hI : Cond.static y ∈ gw) (hw : Cond.methodLink own ix y ∈ gw) (hC : Cn X.l G y bb nl rm av (mL V b L) (uV (apV V b L) (b + j) e', b + L.length) 0 0) (hrm : rm.cells = 0 ∧ rm.slots = 0) (hR : rm.frames + 1 ≤ X.R.frames ∧ 8 + (nl + 11) + rm.locals ≤ X.R.locals) (hn : av.length = na)
    (hst : st0 = av.reverse ++ st) (hcat : (st.map fun v => v.category).sum ≤ 8) (d : decode cc pc = .ok (.invokestatic ix, 3)) (hle : a ≤ A ∧ c ≤ C) (hq : j < L.length) (hL : L.set j e' = L') (k : Wt (X.more a c) (mL V b L') n lv st) : Wt (X.more a c) (mL V b L) pc lv st0 := by
  rw [← more_l (a := a) (c := c)] at hC
  refine n_callF he h.ok (h.gv hle) h.nx hF hI hw hC hrm (by rw [more_R]; exact hR) hn hst hcat d (h.ft rfl rfl hle) ?_
  rw [more_more]
  exact m_set hq hL k
def upF (G : Gt) (a : Nat → Nat) (n : Nat) : Nat → Option Nat := fun k => if k < n then some (G.1 + a k) else none
theorem upF_0 {a : Nat → Nat} {x : Nat} (h : a 0 = x) : va_up (fun _ => none) 0 (some (G.1 + x)) = upF G a 1 := by
  subst h
  funext k
  unfold va_up upF
  by_cases e : k = 0
  · subst e
    rw [if_pos rfl, if_pos (by omega)]
  · rw [if_neg e, if_neg (by omega)]
theorem upF_s {a : Nat → Nat} {n x : Nat} (h : a n = x) : va_up (upF G a n) n (some (G.1 + x)) = upF G a (n + 1) := by
  subst h
  funext k
  unfold va_up upF
  by_cases e : k = n
  · subst e
    rw [if_pos rfl, if_pos (by omega)]
  · rw [if_neg e]
    by_cases e2 : k < n
    · rw [if_pos e2, if_pos (by omega)]
    · rw [if_neg e2, if_neg (by omega)]
theorem upF_q {cA n : Nat} {a : Nat → Nat} : vp_cell cA (n, .inr (.inr (.inr (.inr (upF G a n))))) = vp_cell cA (n, .inr (.inr (.inr (.inr (fun k => some (G.1 + a k)))))) := cell_q (fun k hk => if_pos hk)
theorem rR2 {rm : Room} {u v : Nat} (h : X.R = rm) (h2 : u ≤ rm.frames ∧ v ≤ rm.locals) : u ≤ X.R.frames ∧ v ≤ X.R.locals := by
  rw [h]
  exact h2
theorem uV_uV {q0 : Nat} {e e' : va_E} : uV (uV V q0 e) q0 e' = uV V q0 e' := by
  funext k
  unfold uV
  by_cases h : k = q0
  · rw [if_pos h, if_pos h]
  · rw [if_neg h, if_neg h, if_neg h]
theorem uV_at {q0 : Nat} {e : va_E} : uV V q0 e q0 = e := if_pos rfl
end RV8
theorem l_a {A B : List va_E} {a c n : Nat} (h1 : A.length = a) (h2 : B.length = c) (h3 : a + c = n) : (A ++ B).length = n := by
  rw [List.length_append, h1, h2, h3]
theorem g_l {A B : List va_E} {j : Nat} {e : va_E} (h : A[j]? = some e) : (A ++ B)[j]? = some e := by
  rw [List.getElem?_append_left (lt_of_at h), h]
theorem g_r {A B : List va_E} {a i j : Nat} {e : va_E} (h : A.length = a) (h2 : B[i]? = some e) (h3 : a + i = j) : (A ++ B)[j]? = some e := by
  rw [List.getElem?_append_right (by omega), h, show j - a = i by omega, h2]
theorem s_l {A A' B : List va_E} {j : Nat} {e : va_E} (h : A.set j e = A') (hj : j < A.length) : (A ++ B).set j e = A' ++ B := by
  rw [List.set_append_left _ _ hj, h]
theorem s_r {A B B' : List va_E} {a i j : Nat} {e : va_E} (h : A.length = a) (h2 : B.set i e = B') (h3 : a + i = j) : (A ++ B).set j e = A ++ B' := by
  rw [List.set_append_right _ _ (by omega), h, show j - a = i by omega, h2]
theorem l_t {A : List va_E} {a j : Nat} (h : A.length = a) (hj : j + 1 ≤ a) : j < A.length := by
  rw [h]
  exact hj
theorem c_l {A : List va_E} {b a : Nat} (h : A.length = a) : b + A.length = b + a := by
  rw [h]
abbrev apd (A B : List va_E) : List va_E := A ++ B
