/-! an array of arrays is made. An own walk over the model's word 'make': nothing of the library's shelf of laws of JDK members is named here. -/
theorem mw_ext {cI : ClassId} {N : Nat} {f g : Nat → Value} (h : ∀ j, j < N → f j = g j) : arrV cI N f = arrV cI N g := by
  have e : (fun j : Fin N => f j.val) = fun j : Fin N => g j.val := funext fun j => h j.val j.isLt
  unfold arrV
  rw [e]
/-- the outer array when i rows hang in it -/
def mw_o (cA : ClassId) (N h i : Nat) : Cell := arrV cA N fun j => if j < i then .ref (h + 1 + j) else .null
/-- a row -/
def mw_r (cB : ClassId) (M : Nat) (dv : Value) : Cell := arrV cB M fun _ => dv
/-- the state when i rows are laid -/
def mw_s (T : State) (cA cB : ClassId) (N M : Nat) (dv : Value) : Nat → State
  | 0 => T.pushCell (mw_o cA N T.heap.size 0)
  | i + 1 => ((mw_s T cA cB N M dv i).pushCell (mw_r cB M dv)).setCell T.heap.size (mw_o cA N T.heap.size (i + 1))
theorem mw_o0 (cA : ClassId) (N h : Nat) : ({ cls := cA, slots := Array.replicate N .null, vm := .none } : Cell) = mw_o cA N h 0 := by
  rw [arrV_new]
  exact mw_ext fun j _ => (if_neg (Nat.not_lt_zero j)).symm
theorem mw_o1 (cA : ClassId) (N h i : Nat) : (mw_o cA N h i).setSlot i (.ref (h + 1 + i)) = mw_o cA N h (i + 1) := by
  unfold mw_o
  rw [arrV_store]
  refine mw_ext fun j _ => ?_
  show (if j = i then Value.ref (h + 1 + i) else if j < i then Value.ref (h + 1 + j) else Value.null) = _
  by_cases c : j = i
  · subst c; rw [if_pos rfl, if_pos (Nat.lt_succ_self j)]
  · rw [if_neg c]
    by_cases d : j < i
    · rw [if_pos d, if_pos (by omega)]
    · rw [if_neg d, if_neg (by omega)]
theorem mw_os (cA : ClassId) (N h i : Nat) : (mw_o cA N h i).slots.size = N := arrV_size _ _ _
theorem mw_rs (cB : ClassId) (M : Nat) (dv : Value) : (mw_r cB M dv).slots.size = M := arrV_size _ _ _
section
variable (T : State) (cA cB : ClassId) (N M : Nat) (dv : Value)
theorem mw_sz : ∀ i, (mw_s T cA cB N M dv i).heap.size = T.heap.size + 1 + i
  | 0 => by show (T.heap.push _).size = _; rw [Array.size_push]
  | i + 1 => by
    show (State.setCell _ _ _).heap.size = _
    rw [size_setCell]
    show (Array.push _ _).size = _
    rw [Array.size_push, mw_sz i]; omega
theorem mw_vm : ∀ i, (mw_s T cA cB N M dv i).vm = T.vm
  | 0 => rfl
  | i + 1 => mw_vm i
theorem mw_us : ∀ i, (mw_s T cA cB N M dv i).slotsUsed = T.slotsUsed + N + i * M
  | 0 => by
    show T.slotsUsed + (mw_o cA N T.heap.size 0).slots.size = _
    rw [mw_os, Nat.zero_mul]; rfl
  | i + 1 => by
    show (mw_s T cA cB N M dv i).slotsUsed + (mw_r cB M dv).slots.size = _
    rw [mw_rs, mw_us i, Nat.succ_mul, Nat.add_assoc]
theorem mw_at : ∀ i, (mw_s T cA cB N M dv i).heap[T.heap.size]? = some (mw_o cA N T.heap.size i)
  | 0 => State.heap_pushCell_size _ _
  | i + 1 => by
    refine heapAt_setCell_self _ ?_
    show _ < (Array.push _ _).size
    rw [Array.size_push, mw_sz]; omega
theorem mw_od {a : Nat} (ha : a < T.heap.size) : ∀ i, (mw_s T cA cB N M dv i).heap[a]? = T.heap[a]?
  | 0 => State.heap_pushCell_of_lt _ _ ha
  | i + 1 => by
    have z : a < (mw_s T cA cB N M dv i).heap.size := by rw [mw_sz]; omega
    exact (heapAt_setCell_ne _ (Nat.ne_of_gt ha)).trans ((State.heap_pushCell_of_lt _ _ z).trans (mw_od ha i))
theorem mw_in : ∀ i j, j < i → (mw_s T cA cB N M dv i).heap[T.heap.size + 1 + j]? = some (mw_r cB M dv)
  | 0, _, h => absurd h (Nat.not_lt_zero _)
  | i + 1, j, h => by
    have y : T.heap.size ≠ T.heap.size + 1 + j := by omega
    refine (heapAt_setCell_ne _ y).trans ?_
    by_cases c : j = i
    · subst c
      rw [← mw_sz T cA cB N M dv j]
      exact State.heap_pushCell_size _ _
    · have z : T.heap.size + 1 + j < (mw_s T cA cB N M dv i).heap.size := by rw [mw_sz]; omega
      exact (State.heap_pushCell_of_lt _ _ z).trans (mw_in i j (by omega))
theorem mw_tp (f : JFrame) : ∀ i, mw_s (T.setTop f) cA cB N M dv i = (mw_s T cA cB N M dv i).setTop f
  | 0 => rfl
  | i + 1 => by
    show State.setCell (State.pushCell (mw_s (T.setTop f) cA cB N M dv i) _) _ _ = _
    rw [mw_tp f i]; rfl
end
section
variable {p : Program} {l : Launch} {e : Env} {R : Room} {s : State} {m : MethodId} {args : Array Value} {below : List Frame} {meth : Method} {c : Code}
/-- the walk stands at each of these states -/
theorem mw_st {T : State} {locs : List Loc} {cells slots : Nat} (X : Stand p l e R s m args below meth c T locs cells slots) (cA cB : ClassId) (N M : Nat) (dv : Value) :
    ∀ i, Stand p l e R s m args below meth c (mw_s T cA cB N M dv i) (locs ++ (List.range i).map fun j => ⟨T.heap.size, j⟩) (cells + 1 + i) (slots + N + i * M)
  | 0 => by
    have h := X.pushed (mw_o cA N T.heap.size 0)
    rw [mw_os] at h
    rw [List.range_zero, List.map_nil, List.append_nil, Nat.zero_mul]
    exact h
  | i + 1 => by
    have h := (mw_st X cA cB N M dv i).pushed (mw_r cB M dv)
    have z : T.heap.size < (mw_s T cA cB N M dv i).heap.size := by rw [mw_sz]; omega
    have hc : ((mw_s T cA cB N M dv i).pushCell (mw_r cB M dv)).heap[T.heap.size]? = some (mw_o cA N T.heap.size i) :=
      (State.heap_pushCell_of_lt _ _ z).trans (mw_at T cA cB N M dv i)
    have h' := h.stored hc i (.ref (T.heap.size + 1 + i))
    rw [mw_o1, mw_rs] at h'
    rw [List.range_succ, List.map_append, ← List.append_assoc, Nat.succ_mul, ← Nat.add_assoc (slots + N)]
    exact h'
end
section
variable {E : CtlPost} {e : Env}
/-- a loop over i, i + 1 .. N - 1 that leads from S i to S (i + 1) leads to S N -/
theorem mw_lp (F : Nat → PUnit → Sem (ForInStep PUnit)) (S : Nat → State) (N : Nat)
    (hF : ∀ i d acts (Z : ForInStep PUnit → Pre), i < N → (∀ d' acts', Z (.yield PUnit.unit) d' acts' (S (i + 1))) → wp (F i PUnit.unit) Z E e d acts (S i))
    {Z : PUnit → Pre} (hZ : ∀ d acts, Z PUnit.unit d acts (S N)) :
    ∀ r i d acts, i + r = N → wp (forIn (List.range' i r) PUnit.unit F) Z E e d acts (S i)
  | 0, i, d, acts, h => by
    have h' : i = N := h
    subst h'
    simp only [List.range'_zero, List.forIn_nil, wp_pure']
    exact hZ d acts
  | r + 1, i, d, acts, h => by
    simp only [List.range'_succ, List.forIn_cons, wp_bind']
    exact hF i d acts _ (by omega) fun d' acts' => mw_lp F S N hF hZ r (i + 1) d' acts' (by omega)
/-- one array, from the model's word -/
theorem mw_a1 {d : Bool} {acts : List Action} {s : State} {cI cE : ClassId} {kI : Class} {ty : FieldType} {n : Nat} {v : Value} (hk : s.vm.classes[cI]? = some kI) (hd : kI.kind = .array cE ty)
    (h1 : ¬ n > e.platform.arrayLengthLimit) (h2 : ¬ n * componentBytes ty > e.platform.maxHeapBytes) (h3 : s.heap.size < e.platform.maxCells) (h4 : s.slotsUsed + n ≤ e.platform.maxSlots)
    (hv : fits ty v = true) {Z : Addr → Pre} (hZ : ∀ acts', Z s.heap.size d acts' (s.pushCell (arrV cI n fun _ => v))) : wp (Jvm.newArray cI n v) Z E e d acts s := by
  have hf : ∀ (i : Nat) (x : Value), (Array.replicate n v)[i]? = some x → s.fitsSlot cI .none i x = true := by
    intro i x hx
    rw [Array.getElem?_replicate] at hx
    by_cases c : i < n
    · rw [if_pos c] at hx
      cases hx
      simp [State.fitsSlot, State.slotType?, hk, hd, hv]
    · rw [if_neg c] at hx; cases hx
  simp only [Jvm.newArray, Jvm.arrayFits, wp_bind', wp_pure', Jvm.W.ask, Jvm.W.ite, Jvm.W.theClass, Jvm.W.alloc, Jvm.W.stop, hk, hd, h1, h2, if_false, Option.some.injEq, exists_eq_left', Array.size_replicate]
  rw [if_neg (by omega)]
  refine ⟨h3, h4, hf, ?_⟩
  rw [arrV_new]
  exact hZ _
theorem mw_nf {t : FieldType} (h : t.isReference = true) : fits t .null = true ∧ ∀ a, fits t (.ref a) = true := by
  cases t <;> first | exact ⟨rfl, fun _ => rfl⟩ | cases h
/-- an array of n rows of length k -/
theorem mw_mk {d : Bool} {acts : List Action} {s : State} {cA cB cC : ClassId} {kA kB : Class} {tA tB : FieldType} {n k : Int32} (hA : s.vm.classes[cA]? = some kA) (hdA : kA.kind = .array cB tA) (hr : tA.isReference = true)
    (hB : s.vm.classes[cB]? = some kB) (hdB : kB.kind = .array cC tB) (hn : ¬ n < 0) (hk : ¬ k < 0)
    (h1 : ¬ n.toNatClampNeg > e.platform.arrayLengthLimit) (h2 : ¬ n.toNatClampNeg * componentBytes tA > e.platform.maxHeapBytes)
    (h3 : ¬ k.toNatClampNeg > e.platform.arrayLengthLimit) (h4 : ¬ k.toNatClampNeg * componentBytes tB > e.platform.maxHeapBytes)
    (hv : fits tB (defaultValue tB) = true) (h5 : s.heap.size + 1 + n.toNatClampNeg ≤ e.platform.maxCells) (h6 : s.slotsUsed + n.toNatClampNeg + n.toNatClampNeg * k.toNatClampNeg ≤ e.platform.maxSlots)
    {Z : Addr → Pre} (hZ : ∀ d' acts', Z s.heap.size d' acts' (mw_s s cA cB n.toNatClampNeg k.toNatClampNeg (defaultValue tB) n.toNatClampNeg)) :
    wp (Jvm.Op.multianewarray.make cA [n, k]) Z E e d acts s := by
  obtain ⟨f1, f2⟩ := mw_nf hr
  have hq : List.find? (fun x : Int32 => decide (x < 0)) [k] = none := by
    rw [List.find?_cons_of_neg (by simpa using hk)]; rfl
  generalize eN : n.toNatClampNeg = N at *
  generalize eM : k.toNatClampNeg = M at *
  rw [Jvm.Op.multianewarray.make]
  simp only [wp_bind', wp_pure', Jvm.W.ite, Jvm.W.theClass, hn, if_false, hA, hdA, Option.some.injEq, exists_eq_left', eN]
  refine mw_a1 hA hdA h1 h2 (by omega) (by omega) f1 fun acts' => ?_
  simp only [hq]
  rw [ite_self, wp_bind', Std.Legacy.Range.forIn_eq_forIn_range']
  have e0 : (arrV cA N fun _ => Value.null) = mw_o cA N s.heap.size 0 := mw_ext fun j _ => (if_neg (Nat.not_lt_zero j)).symm
  have e1 : ([:N] : Std.Legacy.Range).size = N := by simp [Std.Legacy.Range.size]
  rw [e0, e1]
  refine mw_lp _ (mw_s s cA cB N M (defaultValue tB)) N (fun i d acts Z' hi hZ' => ?_) (fun d acts => ?_) N 0 d acts' (Nat.zero_add N)
  · have g1 := mw_vm s cA cB N M (defaultValue tB) i
    have g2 := mw_sz s cA cB N M (defaultValue tB) i
    have g3 := mw_us s cA cB N M (defaultValue tB) i
    have g4 := mw_at s cA cB N M (defaultValue tB) i
    have g5 : i * M + M ≤ N * M := by
      rw [← Nat.succ_mul]; exact Nat.mul_le_mul_right M hi
    rw [wp_bind', Jvm.Op.multianewarray.make]
    simp only [wp_bind', wp_pure', Jvm.W.ite, Jvm.W.theClass, hk, if_false, g1, hB, hdB, Option.some.injEq, exists_eq_left', eM]
    refine mw_a1 (by rw [g1]; exact hB) hdB h3 h4 (by rw [g2]; omega) (by rw [g3]; omega) hv fun acts'' => ?_
    have z : s.heap.size < (mw_s s cA cB N M (defaultValue tB) i).heap.size := by rw [g2]; omega
    rw [wp_bind', Jvm.W.writeLoc]
    refine ⟨mw_o cA N s.heap.size i, (State.heap_pushCell_of_lt _ _ z).trans g4, (by intro q; cases q), (by rw [mw_os]; exact hi), ?_, ?_⟩
    · show State.fitsSlot _ cA .none i _ = true
      simp [State.fitsSlot, State.slotType?, g1, hA, hdA, f2]
    · rw [wp_pure', g2, mw_o1]
      exact hZ' _ _
  · exact hZ d acts
end
theorem mw_new2 {p : Program} {l : Launch} {e : Env} {R : Room} {s : State} {m : MethodId} {args : Array Value} {below : List Frame} {meth : Method} {c : Code} {H : Heap} {locs : List Loc} {cells slots : Nat} {Q : State → Prop} {cc : ByteArray} (hexec : p.tables.exec = Jvm.exec) (hb : c.code = cc) {own : String} {index : Nat} {ty : FieldType}
    (hown : s.vm.findClass own = some m.cls) (hclink : (Cond.classLink own index ("[" ++ (FieldType.array ty).toString)).before args s = true)
    (hover : (Cond.arrayOver (.array ty)).before args s = true) (harr : (Cond.arrayClass ty).before args s = true)
    {g : JFrame} (hg : g.method = m) (hdg : decode cc g.pc = .ok (.multianewarray index 2, 4)) {n k : Int32} {rest : List Value} (hstack : g.stack = .int k :: .int n :: rest)
    (hn : ¬ n < 0) (hk : ¬ k < 0) (hb1 : n.toNatClampNeg * 4 ≤ 536870912) (hb2 : k.toNatClampNeg * componentBytes ty ≤ 536870912) (hb3 : k.toNatClampNeg ≤ 536870912)
    (hdf : fits ty (defaultValue ty) = true) (hdd : (defaultValue ty).isDefault = true)
    (hcells : cells + (1 + n.toNatClampNeg) ≤ R.cells) (hslots : slots + (n.toNatClampNeg + n.toNatClampNeg * k.toNatClampNeg) ≤ R.slots)
    (kk : ∀ (H1 : Heap) (cA cB : ClassId), s.vm.findClass ("[" ++ (FieldType.array ty).toString) = some cA → s.vm.findClass (FieldType.array ty).toString = some cB → H1.size = H.size + 1 + n.toNatClampNeg → H1[H.size]? = some (arrV cA n.toNatClampNeg (fun j => .ref (H.size + 1 + j))) → (∀ j, j < n.toNatClampNeg → H1[H.size + 1 + j]? = some (arrV cB k.toNatClampNeg (fun _ => defaultValue ty))) → (∀ a : Nat, a < H.size → H1[a]? = H[a]?) →
      W p l e R s m args below meth c H1 (locs ++ (List.range n.toNatClampNeg).map fun j => ⟨H.size, j⟩) (cells + 1 + n.toNatClampNeg) (slots + n.toNatClampNeg + n.toNatClampNeg * k.toNatClampNeg) Q { g with pc := g.pc + 4, stack := .ref H.size :: rest }) : W p l e R s m args below meth c H locs cells slots Q g := by
  intro T hT X
  subst hT; subst hb; subst hg
  obtain ⟨cB, cA, kA, hfB, -, hkA, hdA, hfA⟩ := arrayOverA_spec hover
  obtain ⟨cB', kB, cC, hfB', hkB, hdB⟩ := Cond.arrayClass_spec harr
  have eB : cB' = cB := Option.some.inj (hfB'.symm.trans hfB)
  subst eB
  obtain ⟨cA', hfA', hcl⟩ := Cond.classLink_spec hown hclink e.platform (by rw [X.admits.platform])
  have eA : cA' = cA := Option.some.inj (hfA'.symm.trans hfA)
  subst eA
  obtain ⟨hgive, hwarm, -⟩ := State.classEntry (e := e) X.warmed hcl
  generalize T.vm.noted g.method.cls index (.cls cA') = vm1 at hgive hwarm
  obtain ⟨kA1, hkA1, eA1⟩ := hwarm.alike.2.2 _ _ hkA
  obtain ⟨kB1, hkB1, eB1⟩ := hwarm.alike.2.2 _ _ hkB
  have hdA1 : kA1.kind = .array cB' (.array ty) := by rw [eA1]; exact hdA
  have hdB1 : kB1.kind = .array cC ty := by rw [eB1]; exact hdB
  obtain ⟨r1, r2⟩ := X.roomAbove hcells hslots
  have XN := mw_st (X.noted hwarm) cA' cB' n.toNatClampNeg k.toNatClampNeg (defaultValue ty) n.toNatClampNeg
  obtain ⟨t, a1, b1⟩ := kk _ cA' cB' hfA hfB (mw_sz (T.setVm vm1) cA' cB' _ _ (defaultValue ty) _)
    ((mw_at (T.setVm vm1) cA' cB' n.toNatClampNeg k.toNatClampNeg (defaultValue ty) n.toNatClampNeg).trans (congrArg some (mw_ext fun j hj => if_pos hj)))
    (mw_in (T.setVm vm1) cA' cB' n.toNatClampNeg k.toNatClampNeg (defaultValue ty) n.toNatClampNeg)
    (fun a ha => mw_od (T.setVm vm1) cA' cB' n.toNatClampNeg k.toNatClampNeg (defaultValue ty) ha n.toNatClampNeg) _ rfl XN
  refine ⟨t, ?_, b1⟩
  have l1 : ¬ n.toNatClampNeg > e.platform.arrayLengthLimit := by rw [Launch.admits_arrayLengthLimit X.admits]; omega
  have l2 : ¬ n.toNatClampNeg * componentBytes (.array ty) > e.platform.maxHeapBytes := by
    rw [Launch.admits_maxHeapBytes X.admits]; show ¬ n.toNatClampNeg * 4 > 536870912; omega
  have l3 : ¬ k.toNatClampNeg > e.platform.arrayLengthLimit := by rw [Launch.admits_arrayLengthLimit X.admits]; omega
  have l4 : ¬ k.toNatClampNeg * componentBytes ty > e.platform.maxHeapBytes := by rw [Launch.admits_maxHeapBytes X.admits]; omega
  jvm_step X.here [hexec, hdg]
  simp only [Jvm.Op.multianewarray.sem, wp_bind', Jvm.W.resolveClassAt_links (State.method?_setTop g X.here.top) hgive]
  rw [Jvm.W.popN, if_neg (by decide)]
  refine ⟨g, State.topJava?_setTop' (s := T.setVm vm1) g X.here.top, [.int n, .int k], rest, rfl, hstack, ?_⟩
  simp only [List.mapM_cons, List.mapM_nil, wp_bind', wp_pure']
  have eT : ((T.setTop g).setVm vm1).setTop { g with stack := rest } = (T.setVm vm1).setTop { g with stack := rest } := State.setTop_setTop (s := T.setVm vm1) ..
  rw [eT]
  refine mw_mk (kA := kA1) (kB := kB1) hkA1 hdA1 rfl hkB1 hdB1 hn hk l1 l2 l3 l4 hdf (by show T.heap.size + 1 + _ ≤ _; omega) (by show T.slotsUsed + _ + _ ≤ _; omega) fun d' acts' => ?_
  rw [mw_tp]
  simp only [wp_bind', Jvm.W.mark, Jvm.W.pushRef, State.topJava?_setTop' _ XN.here.top, Option.some.injEq, exists_eq_left', State.setTop_setTop, State.heap_setTop]
  intro acts
  simp [jvm, XN.here.top]
  exact a1
