section RC
variable {μ : Type}
/-- the end of a method: what the return instruction needs -/
def Fin {μ : Type} (X : Cx μ) (cc : ByteArray) (ret : Option FieldType) (o : Option Value) (M : μ) : Prop := match o with
  | none => ∀ pc lv, decode cc pc = .ok (.return_, 1) → Wt X M pc lv []
  | some (.int v) => ∀ pc lv, (∃ ty, ret = some ty ∧ narrow ty (.int v) = .int v) → decode cc pc = .ok (.ireturn, 1) → Wt X M pc lv [.int v]
  | some (.long v) => ∀ pc lv, decode cc pc = .ok (.lreturn, 1) → Wt X M pc lv [.long v]
  | some v => ∀ pc lv, (v = .null ∨ ∃ a, v = .ref a) → decode cc pc = .ok (.areturn, 1) → Wt X M pc lv [v]
def QcO (W0 : Me → Heap → Prop) (A : Nat → Prop) (o : Option Value) (M' : Me) : Array Value → State → Outcome → State → Prop := fun _ st oc t => oc = .returned o ∧ W0 M' t.heap ∧ va_F A st t
def Ct (l : Launch) (G : Gt) (W0 : Me → Heap → Prop) (A : Nat → Prop) (y : MethodName) (b : ByteArray) (n : Nat) (ret : Option FieldType) (rm : Room) (av : List Value) (M : Me) (o : Option Value) (M' : Me) : Prop :=
  Met l y (.code y b n ret :: gw) rm (va_Pc av (fun U => W0 M U.heap ∧ Kn G U)) (QcO W0 A o M') 0 0 A
def okRet (ret : Option FieldType) (o : Option Value) : Prop := match o with
  | none => ret = none
  | some (.int _) => ∃ ty, ret = some ty
  | some (.long _) => ret = some .long
  | some _ => ∃ rt, ret = some rt ∧ ((∃ n, rt = .object n) ∨ ∃ t, rt = .array t)
def Cx.l {μ : Type} (X : Cx μ) : Launch := X.2.1
theorem Ct.mk {l : Launch} {G : Gt} {W0 : Me → Heap → Prop} {A : Nat → Prop} {y : MethodName} {b : ByteArray} {n : Nat} {ret : Option FieldType} {rm : Room} {av : List Value} {M : Me} {o : Option Value} {M' : Me} {own : String} (hown : own = y.cls) (hy : plainName y.cls = true) (hlen : (lg_sl av).length ≤ n) (hr : okRet ret o)
    (body : ∀ X : Cx Me, X.l = l → X.R = rm → X.nL = n → Ok X b own → Gx X G W0 A → Fin X b ret o M' → Wt X M 0 (lv_args 0 av) []) : Ct l G W0 A y b n ret rm av M o M' := by
  subst hown
  refine Met.ofW (cc := b) (maxL := n) (ret := ret) hy rfl ?_
  intro p e s m args below meth c s₁ B hml hv
  obtain ⟨rfl, hW, hK⟩ := hv
  have hts : ∀ w ∈ (Cond.code y b n ret :: gw), w.before av.toArray s = true := atoms_spec (ws := .code y b n ret :: gw) B.pre
  have hown : s.vm.findClass y.cls = some m.cls := findClass_of_methodNamed B.named
  have hret := B.returns
  have hlk := B.notSynchronized
  rw [lg_entry_eq]
  refine body (p, l, e, rm, s, m, av.toArray, below, meth, c, MQ below (QcO W0 A o M') av.toArray s 0 0 A, s.heap, W0, A, n, 0, 0) rfl rfl rfl ⟨⟨B.exec, B.bytes, hml, hown, fun w hw => hts w (List.mem_cons_of_mem _ hw)⟩, hlk⟩ ⟨rfl, rfl, hK, Nat.zero_le _, Nat.zero_le _⟩ ?_ s.heap [] _ hW va_S.rf (lv_entry av hlen)
  have hx := B.exec
  have hb := B.bytes
  cases o with
  | none =>
    intro pc lv hd H locs ls hW' hS hl
    exact W.vret hx hb (by rw [hret]; exact hr) (fun t ht _ => ⟨rfl, by rw [ht]; exact hW', hS.F ht⟩) hS.2.2 hd
  | some v =>
    cases v with
    | int v =>
      intro pc lv hn hd H locs ls hW' hS hl
      obtain ⟨ty, e1, e2⟩ := hn
      exact W.zret hx hb (hret.trans e1) e2 (fun t ht _ => ⟨rfl, by rw [ht]; exact hW', hS.F ht⟩) hS.2.2 hd
    | long v =>
      intro pc lv hd H locs ls hW' hS hl
      exact W.lret hx hb (hret.trans hr) (fun t ht _ => ⟨rfl, by rw [ht]; exact hW', hS.F ht⟩) hS.2.2 hd
    | _ =>
      intro pc lv hn hd H locs ls hW' hS hl
      obtain ⟨rt, e1, e2⟩ := hr
      exact W.aret hx hb (hret.trans e1) e2 hn (fun t ht _ => ⟨rfl, by rw [ht]; exact hW', hS.F ht⟩) hS.2.2 hd
def MF (y : MethodName) (b : ByteArray) (n : Nat) (ret : Option FieldType) (na : Nat) : Prop :=
  Cond.code y b n ret ∈ gw ∧ Cond.initialized y.cls ∈ gw ∧ (y.cls ≠ "java/lang/invoke/MethodHandle" ∧ y.cls ≠ "java/lang/invoke/VarHandle" ∧ (parseMethodDescriptor y.desc).map (fun d => d.parameters.length) = some na)
theorem gw_in {w : Cond} (h : w ∈ gw) : GoodIn gw (w :: gw) := fun v hv => by
  rcases List.mem_cons.mp hv with rfl | hv
  · exact ⟨h, gd_all h⟩
  · exact ⟨hv, gd_all hv⟩
theorem va_blind {W0 : Me → Heap → Prop} {G : Gt} {av : List Value} {M : Me} : FrameBlind (va_Pc av (fun U => W0 M U.heap ∧ Kn G U)) := fun a U g mk q => ⟨q.1, q.2.1, Kn.same rfl q.2.2⟩
/-- behind a call: the callee's cells are the caller's -/
theorem my_call {p : Program} {l : Launch} {e : Env} {R : Room} {s : State} {m : MethodId} {args : Array Value} {below : List Frame} {meth : Method} {c : Code} {H : Heap} {locs : List Loc} {cells slots : Nat} {Q : State → Prop} {pc : Nat} {ls : Array Slot} {st0 rest : List Value} {W0 : Me → Heap → Prop} {A A0 : Nat → Prop} {H0 : Heap} {o : Option Value} {M' : Me} {a : Array Value}
    (hr : va_Run p l e R s m args below meth c H locs cells slots 0 0 (F0 m pc ls st0) rest (QcO W0 A o M' a) A) (hS : va_S A0 H0 H locs) (hA : ∀ q, A q → A0 q)
    (kk : ∀ (H1 : Heap) (locs1 : List Loc), W0 M' H1 → H.size ≤ H1.size → (∀ q : Nat, q < H.size → ¬ A q → H1[q]? = H[q]?) → va_S A0 H0 H1 locs1 → W p l e R s m args below meth c H1 locs1 cells slots Q (F0 m (pc + 3) ls (o.toList ++ rest))) : W p l e R s m args below meth c H locs cells slots Q (F0 m pc ls st0) := by
  intro T hT X
  obtain ⟨v, st₀, t, T', L, h0, X', hL, e1, e2, ⟨hv, hw, hz, hk⟩, st⟩ := hr T hT X
  cases hv
  rw [h0] at hz hk
  obtain ⟨t2, a1, b1⟩ := kk T'.heap (locs ++ L) (by rw [e1]; exact hw) (by rw [e1]; exact hz) (fun q h1 h2 => by rw [e1]; exact hk q h1 h2)
    ⟨Nat.le_trans hS.1 (by rw [e1]; exact hz), fun q h1 h2 => by rw [e1, hk q (Nat.lt_of_lt_of_le h1 hS.1) (fun z => h2 (hA q z))]; exact hS.2.1 q h1 h2, fun q hq => by
      rcases List.mem_append.mp hq with h | h
      · exact hS.2.2 q h
      · exact hA _ (hL q h)⟩ T' rfl X'
  exact ⟨t2, st t2 a1, b1⟩
theorem r_callV {X : Cx Me} {cc : ByteArray} {own : String} {M : Me} {pc n : Nat} {lv : List (Nat × Value)} {st st0 : List Value} {G : Gt} {W0 : Me → Heap → Prop} {A : Nat → Prop} {y : MethodName} {b : ByteArray} {nl : Nat} {ret : Option FieldType} {rm : Room} {av : List Value} {o : Option Value} {M' : Me} {na ix : Nat} {a : Nat} {As : List Value} (he : pc + 3 = n) (ok : Ok X cc own) (hG : Gx X G W0 A) (hF : MF y b nl ret na) (hI : Cond.instanceMethod y ∈ gw) (hs : Cond.selects y.cls y y ∈ gw) (hw : Cond.methodLink own ix y ∈ gw) (hC : Ct X.l G W0 A y b nl ret rm av M o M') (hrm : rm.cells = 0 ∧ rm.slots = 0) (hR : rm.frames + 1 ≤ X.R.frames ∧ 8 + (nl + 11) + rm.locals ≤ X.R.locals) (hav : av = .ref a :: As) (hn : As.length = na)
    (hrv : ∀ (s : State) (H : Heap), Kn G s → W0 M H → ∃ cell : Cell, H[a]? = some cell ∧ cell.vm.isStatics = false ∧ s.vm.findClass y.cls = some cell.cls) (hst : st0 = As.reverse ++ .ref a :: st) (hcat : (st.map fun v => v.category).sum ≤ 8) (d : decode cc pc = .ok (.invokevirtual ix, 3)) (k : Wt X M' n lv (o.toList ++ st)) : Wt X M pc lv st0 := by
  obtain ⟨p, l, e, R, s, m, args, below, meth, c, Q, H0, Wd, A9, nL, cells, slots⟩ := X
  obtain ⟨⟨hx, hb, hml, hown, hts⟩, hlocks⟩ := ok
  obtain ⟨hWd, hA, hK, hcs, hss⟩ := hG
  subst he; subst hWd; subst hA
  obtain ⟨f1, f2, f3, f4, f5⟩ := hF
  intro H locs ls hW hS hl
  subst hav; subst hst
  have hcw := cwV (R := R) (s := s) (args := args) (own := own) (index := ix) (C := y.cls) (y := y) (bytes := b) (maxL := nl) (ret := ret) (ws := .code y b nl ret :: gw) (ws' := gw) (rm := rm) (mc := 0) (ms := 0) na hts (fun w hw' => by
    rcases List.mem_append.mp hw' with h | h
    · simp only [List.mem_cons, List.not_mem_nil, or_false] at h
      rcases h with rfl | rfl | rfl | rfl
      · exact ⟨hw, gd_all hw⟩
      · exact ⟨hI, gd_all hI⟩
      · exact ⟨hs, gd_all hs⟩
      · exact ⟨f2, gd_all f2⟩
    · exact gw_in f1 w h) rfl hrm.1 hrm.2 ⟨rfl, f3, f4, f5⟩ hR
  refine my_call (va_runV ⟨hx, hb, hml, hown, hts⟩ hC hcw ⟨va_blind, hrv s H hK hW, fun U hU hW2 => ⟨rfl, by rw [hU]; exact hW, Kn.warm hW2 hK⟩⟩ rfl hn hl.1 rfl (lv_room hcat) d ⟨hcs, hss⟩) hS (fun _ h => h) (fun H1 locs1 hW1 _ _ hS1 => k H1 locs1 ls hW1 hS1 hl)
theorem r_callS {X : Cx Me} {cc : ByteArray} {own : String} {M : Me} {pc n : Nat} {lv : List (Nat × Value)} {st st0 : List Value} {G : Gt} {W0 : Me → Heap → Prop} {A : Nat → Prop} {y : MethodName} {b : ByteArray} {nl : Nat} {ret : Option FieldType} {rm : Room} {av : List Value} {o : Option Value} {M' : Me} {na ix : Nat} (he : pc + 3 = n) (ok : Ok X cc own) (hG : Gx X G W0 A) (hF : MF y b nl ret na) (hI : Cond.static y ∈ gw) (hw : Cond.methodLink own ix y ∈ gw) (hC : Ct X.l G W0 A y b nl ret rm av M o M') (hrm : rm.cells = 0 ∧ rm.slots = 0) (hR : rm.frames + 1 ≤ X.R.frames ∧ 8 + (nl + 11) + rm.locals ≤ X.R.locals) (hn : av.length = na)
    (hst : st0 = av.reverse ++ st) (hcat : (st.map fun v => v.category).sum ≤ 8) (d : decode cc pc = .ok (.invokestatic ix, 3)) (k : Wt X M' n lv (o.toList ++ st)) : Wt X M pc lv st0 := by
  obtain ⟨p, l, e, R, s, m, args, below, meth, c, Q, H0, Wd, A9, nL, cells, slots⟩ := X
  obtain ⟨⟨hx, hb, hml, hown, hts⟩, hlocks⟩ := ok
  obtain ⟨hWd, hA, hK, hcs, hss⟩ := hG
  subst he; subst hWd; subst hA
  obtain ⟨f1, f2, f3, f4, f5⟩ := hF
  intro H locs ls hW hS hl
  subst hst
  have hcw : CallB R s args own ix y b nl ret (.code y b nl ret :: gw) rm 0 0 na ∧ (Cond.static y).before args s = true := ⟨callB_of na hts (gw_in f1) rfl hrm.1 hrm.2 (hts _ f2) (hts _ hw) ⟨f3, f4, f5⟩ hR, hts _ hI⟩
  refine my_call (va_runS ⟨hx, hb, hml, hown, hts⟩ hC hcw ⟨va_blind, fun U hU hW2 => ⟨rfl, by rw [hU]; exact hW, Kn.warm hW2 hK⟩⟩ rfl hn hl.1 rfl (lv_room hcat) d ⟨hcs, hss⟩) hS (fun _ h => h) (fun H1 locs1 hW1 _ _ hS1 => k H1 locs1 ls hW1 hS1 hl)
theorem r_callSN {X : Cx Me} {cc : ByteArray} {own : String} {M : Me} {pc n : Nat} {lv : List (Nat × Value)} {st st0 : List Value} {G : Gt} {W0 : Me → Heap → Prop} {A : Nat → Prop} {y : MethodName} {b : ByteArray} {nl : Nat} {ret : Option FieldType} {rm : Room} {av : List Value} {o : Option Value} {M' : Me} {na ix : Nat} {host : String} (hNx : ∀ s : State, Kn G s → va_Nw (.methodLinkNest own ix y host) s) (he : pc + 3 = n) (ok : Ok X cc own) (hG : Gx X G W0 A) (hF : MF y b nl ret na) (hI : Cond.static y ∈ gw) (hC : Ct X.l G W0 A y b nl ret rm av M o M') (hrm : rm.cells = 0 ∧ rm.slots = 0) (hR : rm.frames + 1 ≤ X.R.frames ∧ 8 + (nl + 11) + rm.locals ≤ X.R.locals) (hn : av.length = na)
    (hst : st0 = av.reverse ++ st) (hcat : (st.map fun v => v.category).sum ≤ 8) (d : decode cc pc = .ok (.invokestatic ix, 3)) (k : Wt X M' n lv (o.toList ++ st)) : Wt X M pc lv st0 := by
  obtain ⟨p, l, e, R, s, m, args, below, meth, c, Q, H0, Wd, A9, nL, cells, slots⟩ := X
  obtain ⟨⟨hx, hb, hml, hown, hts⟩, hlocks⟩ := ok
  obtain ⟨hWd, hA, hK, hcs, hss⟩ := hG
  subst he; subst hWd; subst hA
  obtain ⟨f1, f2, f3, f4, f5⟩ := hF
  intro H locs ls hW hS hl
  subst hst
  have hcw := va_cnB (R := R) (args := args) (own := own) (host := host) (index := ix) (y := y) (bytes := b) (maxL := nl) (ret := ret) (ws := .code y b nl ret :: gw) (ws' := gw) (rm := rm) (mc := 0) (ms := 0) na hts (gw_in f1) rfl hrm.1 hrm.2 (hNx s hK) (hts _ f2) ⟨f3, f4, f5⟩ hR
  refine my_call (va_runSN ⟨hx, hb, hml, hown, hts⟩ hC ⟨hcw, hts _ hI, trivial⟩ ⟨va_blind, fun U hU hW2 => ⟨rfl, by rw [hU]; exact hW, Kn.warm hW2 hK⟩⟩ rfl hn hl.1 rfl (lv_room hcat) d ⟨hcs, hss⟩) hS (fun _ h => h) (fun H1 locs1 hW1 _ _ hS1 => k H1 locs1 ls hW1 hS1 hl)
theorem r_mmax {X : Cx Me} {cc : ByteArray} {own : String} {M : Me} {pc n : Nat} {lv : List (Nat × Value)} {st : List Value} {G : Gt} {W0 : Me → Heap → Prop} {A : Nat → Prop} {x y : Int32} {ix : Nat} (he : pc + 3 = n) (ok : Ok X cc own) (hG : Gx X G W0 A) (hw : Cond.methodLink own ix Lib.Math.max.name ∈ gw) (hw2 : Cond.static Lib.Math.max.name ∈ gw) (hw3 : Cond.initialized "java/lang/Math" ∈ gw) (hw4 : Cond.code Lib.Math.max.name Lib.Math.max.code 2 (some .int) ∈ gw) (hR : 1 ≤ X.R.frames ∧ (st.map fun v => v.category).sum + 13 ≤ X.R.locals) (d : decode cc pc = .ok (.invokestatic ix, 3)) (k : Wt X M n lv (.int (if x < y then y else x) :: st)) : Wt X M pc lv (.int y :: .int x :: st) := by
  obtain ⟨p, l, e, R, s, m, args, below, meth, c, Q, H0, Wd, A9, nL, cells, slots⟩ := X
  obtain ⟨⟨hx, hb, hml, hown, hts⟩, hlocks⟩ := ok
  obtain ⟨hWd, hA, hK, hcs, hss⟩ := hG
  subst he; subst hWd; subst hA
  intro H locs ls hW hS hl
  exact va_mmax hx hb (hml.trans hl.1.symm) hown (hts _ hw) (hts _ hw2) (hts _ hw3) (hts _ hw4) hR.1 hR.2 hcs hss d (k H locs ls hW hS hl)
theorem r_mmin {X : Cx Me} {cc : ByteArray} {own : String} {M : Me} {pc n : Nat} {lv : List (Nat × Value)} {st : List Value} {G : Gt} {W0 : Me → Heap → Prop} {A : Nat → Prop} {x y : Int32} {ix : Nat} (he : pc + 3 = n) (ok : Ok X cc own) (hG : Gx X G W0 A) (hw : Cond.methodLink own ix Lib.Math.min.name ∈ gw) (hw2 : Cond.static Lib.Math.min.name ∈ gw) (hw3 : Cond.initialized "java/lang/Math" ∈ gw) (hw4 : Cond.code Lib.Math.min.name Lib.Math.min.code 2 (some .int) ∈ gw) (hR : 1 ≤ X.R.frames ∧ (st.map fun v => v.category).sum + 13 ≤ X.R.locals) (d : decode cc pc = .ok (.invokestatic ix, 3)) (k : Wt X M n lv (.int (if y < x then y else x) :: st)) : Wt X M pc lv (.int y :: .int x :: st) := by
  obtain ⟨p, l, e, R, s, m, args, below, meth, c, Q, H0, Wd, A9, nL, cells, slots⟩ := X
  obtain ⟨⟨hx, hb, hml, hown, hts⟩, hlocks⟩ := ok
  obtain ⟨hWd, hA, hK, hcs, hss⟩ := hG
  subst he; subst hWd; subst hA
  intro H locs ls hW hS hl
  exact va_mmin hx hb (hml.trans hl.1.symm) hown (hts _ hw) (hts _ hw2) (hts _ hw3) (hts _ hw4) hR.1 hR.2 hcs hss d (k H locs ls hW hS hl)
theorem rv_RC {G : Gt} {M : Me}  : ∀ (s : State) (H : Heap), Kn G s → WC G M H → ∃ cell : Cell, H[G.1 + oRC]? = some cell ∧ cell.vm.isStatics = false ∧ s.vm.findClass "RetryChains" = some cell.cls := fun _ _ hK hW => va_recv hK.1 hW (ci := 0) (q0 := oRC) rfl (wC_get (ky_RC))
theorem rv_NET {G : Gt} {M : Me} {i1 : Nat} (h1 : i1 < 9) : ∀ (s : State) (H : Heap), Kn G s → WC G M H → ∃ cell : Cell, H[G.1 + oNET i1]? = some cell ∧ cell.vm.isStatics = false ∧ s.vm.findClass "RetryChains$Network" = some cell.cls := fun _ _ hK hW => va_recv hK.1 hW (ci := 1) (q0 := oNET i1) rfl (wC_get (ky_NET i1 h1))
theorem rv_TAB {G : Gt} {M : Me} {i1 : Nat} (h1 : i1 < 9) : ∀ (s : State) (H : Heap), Kn G s → WC G M H → ∃ cell : Cell, H[G.1 + oTAB i1]? = some cell ∧ cell.vm.isStatics = false ∧ s.vm.findClass "RetryChains$RateTable" = some cell.cls := fun _ _ hK hW => va_recv hK.1 hW (ci := 2) (q0 := oTAB i1) rfl (wC_get (ky_TAB i1 h1))
theorem rv_LOG {G : Gt} {M : Me} {i1 : Nat} (h1 : i1 < 9) : ∀ (s : State) (H : Heap), Kn G s → WC G M H → ∃ cell : Cell, H[G.1 + oLOG i1]? = some cell ∧ cell.vm.isStatics = false ∧ s.vm.findClass "RetryChains$EventLog" = some cell.cls := fun _ _ hK hW => va_recv hK.1 hW (ci := 3) (q0 := oLOG i1) rfl (wC_get (ky_LOG i1 h1))
theorem rv_STA {G : Gt} {M : Me} {i1 : Nat} (h1 : i1 < 9) {i2 : Nat} (h2 : i2 < 4) : ∀ (s : State) (H : Heap), Kn G s → WC G M H → ∃ cell : Cell, H[G.1 + oSTA i1 i2]? = some cell ∧ cell.vm.isStatics = false ∧ s.vm.findClass "RetryChains$Station" = some cell.cls := fun _ _ hK hW => va_recv hK.1 hW (ci := 4) (q0 := oSTA i1 i2) rfl (wC_get (ky_STA i1 h1 i2 h2))
theorem rv_LNK {G : Gt} {M : Me} {i1 : Nat} (h1 : i1 < 9) {i2 : Nat} (h2 : i2 < 4) {i3 : Nat} (h3 : i3 < 8) : ∀ (s : State) (H : Heap), Kn G s → WC G M H → ∃ cell : Cell, H[G.1 + oLNK i1 i2 i3]? = some cell ∧ cell.vm.isStatics = false ∧ s.vm.findClass "RetryChains$Link" = some cell.cls := fun _ _ hK hW => va_recv hK.1 hW (ci := 5) (q0 := oLNK i1 i2 i3) rfl (wC_get (ky_LNK i1 h1 i2 h2 i3 h3))
theorem rv_CHN {G : Gt} {M : Me} {i1 : Nat} (h1 : i1 < 9) {i2 : Nat} (h2 : i2 < 6) : ∀ (s : State) (H : Heap), Kn G s → WC G M H → ∃ cell : Cell, H[G.1 + oCHN i1 i2]? = some cell ∧ cell.vm.isStatics = false ∧ s.vm.findClass "RetryChains$Chain" = some cell.cls := fun _ _ hK hW => va_recv hK.1 hW (ci := 6) (q0 := oCHN i1 i2) rfl (wC_get (ky_CHN i1 h1 i2 h2))
theorem rv_HIS {G : Gt} {M : Me}  : ∀ (s : State) (H : Heap), Kn G s → WC G M H → ∃ cell : Cell, H[G.1 + oHIS]? = some cell ∧ cell.vm.isStatics = false ∧ s.vm.findClass "RetryChains$History" = some cell.cls := fun _ _ hK hW => va_recv hK.1 hW (ci := 7) (q0 := oHIS) rfl (wC_get (ky_HIS))
theorem rv_SEA {G : Gt} {M : Me}  : ∀ (s : State) (H : Heap), Kn G s → WC G M H → ∃ cell : Cell, H[G.1 + oSEA]? = some cell ∧ cell.vm.isStatics = false ∧ s.vm.findClass "RetryChains$ChainSearch" = some cell.cls := fun _ _ hK hW => va_recv hK.1 hW (ci := 8) (q0 := oSEA) rfl (wC_get (ky_SEA))
theorem rv_MOD {G : Gt} {M : Me} : ∀ (s : State) (H : Heap), Kn G s → WM G M H → ∃ cell : Cell, H[G.1 + 0]? = some cell ∧ cell.vm.isStatics = false ∧ s.vm.findClass "RetryChainsModel" = some cell.cls := fun _ _ hK hW => va_recv hK.1 hW (ci := 9) (q0 := 0) rfl rfl
end RC
