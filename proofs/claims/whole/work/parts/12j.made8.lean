/-! what is being made: a constructor is called -/
theorem va_blindV {G : Gt} {av : List Value} {M : Mv} : FrameBlind (va_Pc av (fun U => WV G M U.heap ∧ Kn G U ∧ Nst U)) := fun a U g mk q => ⟨q.1, q.2.1, Kn.same rfl q.2.2.1, Nst.same rfl q.2.2.2⟩
theorem my_callV {p : Program} {l : Launch} {e : Env} {R : Room} {s : State} {m : MethodId} {args : Array Value} {below : List Frame} {meth : Method} {c : Code} {H : Heap} {locs : List Loc} {cells slots mc ms : Nat} {Q : State → Prop} {pc : Nat} {ls : Array Slot} {st0 rest : List Value} {G : Gt} {H0 : Heap} {M' : Mv} {a : Array Value}
    (hr : va_Run p l e R s m args below meth c H locs cells slots mc ms (F0 m pc ls st0) rest (QcV G M' a) (rV G)) (hS : va_S (rV G) H0 H locs)
    (kk : ∀ (H1 : Heap) (locs1 : List Loc), WV G M' H1 → va_S (rV G) H0 H1 locs1 → W p l e R s m args below meth c H1 locs1 (cells + mc) (slots + ms) Q (F0 m (pc + 3) ls rest)) : W p l e R s m args below meth c H locs cells slots Q (F0 m pc ls st0) := by
  intro T hT X
  obtain ⟨v, st₀, t, T', L, h0, X', hL, e1, e2, ⟨hv, hw, hz, hk⟩, st⟩ := hr T hT X
  cases hv
  rw [h0] at hz hk
  obtain ⟨t2, a1, b1⟩ := kk T'.heap (locs ++ L) (by rw [e1]; exact hw)
    ⟨Nat.le_trans hS.1 (by rw [e1]; exact hz), fun q h1 h2 => by rw [e1, hk q (Nat.lt_of_lt_of_le h1 hS.1) h2]; exact hS.2.1 q h1 h2, fun q hq => by
      rcases List.mem_append.mp hq with h | h
      · exact hS.2.2 q h
      · exact hL q h⟩ T' rfl X'
  exact ⟨t2, st t2 a1, b1⟩
theorem n_callC {X : Cx Mv} {cc : ByteArray} {own : String} {M M' : Mv} {pc n : Nat} {lv : List (Nat × Value)} {st st0 : List Value} {G : Gt} {y : MethodName} {b : ByteArray} {nl : Nat} {rm : Room} {na ix mc ms a : Nat} {As : List Value} (he : pc + 3 = n) (ok : Ok X cc own) (hG : GV X G) (hX : Nx X) (hF : MF y b nl none na) (hy : y.name = "<init>") (hI : Cond.instanceMethod y ∈ gw) (hw : Cond.methodLink own ix y ∈ gw) (hC : Cn X.l G y b nl rm (.ref a :: As) M M' mc ms) (hrm : rm.cells = mc ∧ rm.slots = ms) (hR : rm.frames + 1 ≤ X.R.frames ∧ 8 + (nl + 11) + rm.locals ≤ X.R.locals) (hn : As.length = na)
    (hst : st0 = As.reverse ++ .ref a :: st) (hcat : (st.map fun v => v.category).sum ≤ 8) (d : decode cc pc = .ok (.invokespecial ix, 3)) (hf : X.fits mc ms) (k : Wt (X.more mc ms) M' n lv st) : Wt X M pc lv st0 := by
  obtain ⟨p, l, e, R, s, m, args, below, meth, c, Q, H0, Wd, A9, nL, cells, slots⟩ := X
  obtain ⟨⟨hx, hb, hml, hown, hts⟩, hlocks⟩ := ok
  obtain ⟨hWd, hA, hK, hcs, hss⟩ := hG
  have hNs : Nst s := hX
  subst he; subst hWd; subst hA
  obtain ⟨f1, f2, f3, f4, f5⟩ := hF
  intro H locs ls hW hS hl
  subst hst
  have hcw : CallB R s args own ix y b nl none (.code y b nl none :: gw) rm mc ms na ∧ y.name = "<init>" ∧ (Cond.instanceMethod y).before args s = true := ⟨callB_of na hts (gw_in f1) rfl hrm.1 hrm.2 (hts _ f2) (hts _ hw) ⟨f3, f4, f5⟩ hR, hy, hts _ hI⟩
  refine my_callV (va_runI ⟨hx, hb, hml, hown, hts⟩ hC hcw ⟨va_blindV, fun U hU hW2 => ⟨rfl, by rw [hU]; exact hW, Kn.warm hW2 hK, Nst.warm hW2 hNs⟩⟩ rfl hn hl.1 rfl (lv_room hcat) d hf) hS (fun H1 locs1 hW1 hS1 => k H1 locs1 ls hW1 hS1 hl)
theorem n_callCN {host : String} {X : Cx Mv} {cc : ByteArray} {own : String} {M M' : Mv} {pc n : Nat} {lv : List (Nat × Value)} {st st0 : List Value} {G : Gt} {y : MethodName} {b : ByteArray} {nl : Nat} {rm : Room} {na ix mc ms a : Nat} {As : List Value} (he : pc + 3 = n) (ok : Ok X cc own) (hG : GV X G) (hX : Nx X) (hF : MF y b nl none na) (hy : y.name = "<init>") (hI : Cond.instanceMethod y ∈ gw) (hNx : ∀ s : State, Nst s → va_Nw (.methodLinkNest own ix y host) s) (hC : Cn X.l G y b nl rm (.ref a :: As) M M' mc ms) (hrm : rm.cells = mc ∧ rm.slots = ms) (hR : rm.frames + 1 ≤ X.R.frames ∧ 8 + (nl + 11) + rm.locals ≤ X.R.locals) (hn : As.length = na)
    (hst : st0 = As.reverse ++ .ref a :: st) (hcat : (st.map fun v => v.category).sum ≤ 8) (d : decode cc pc = .ok (.invokespecial ix, 3)) (hf : X.fits mc ms) (k : Wt (X.more mc ms) M' n lv st) : Wt X M pc lv st0 := by
  obtain ⟨p, l, e, R, s, m, args, below, meth, c, Q, H0, Wd, A9, nL, cells, slots⟩ := X
  obtain ⟨⟨hx, hb, hml, hown, hts⟩, hlocks⟩ := ok
  obtain ⟨hWd, hA, hK, hcs, hss⟩ := hG
  have hNs : Nst s := hX
  subst he; subst hWd; subst hA
  obtain ⟨f1, f2, f3, f4, f5⟩ := hF
  intro H locs ls hW hS hl
  subst hst
  have hcw := va_cnB (R := R) (args := args) (own := own) (host := host) (index := ix) (y := y) (bytes := b) (maxL := nl) (ret := none) (ws := .code y b nl none :: gw) (ws' := gw) (rm := rm) (mc := mc) (ms := ms) na hts (gw_in f1) rfl hrm.1 hrm.2 (hNx s hNs) (hts _ f2) ⟨f3, f4, f5⟩ hR
  refine my_callV (va_runIN ⟨hx, hb, hml, hown, hts⟩ hC ⟨hcw, hy, hts _ hI⟩ ⟨va_blindV, fun U hU hW2 => ⟨rfl, by rw [hU]; exact hW, Kn.warm hW2 hK, Nst.warm hW2 hNs⟩⟩ rfl hn hl.1 rfl (lv_room hcat) d hf) hS (fun H1 locs1 hW1 hS1 => k H1 locs1 ls hW1 hS1 hl)
