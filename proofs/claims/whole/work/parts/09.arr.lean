section RA
variable {X : Cx Me} {cc : ByteArray} {own : String} {M : Me} {pc n : Nat} {lv : List (Nat × Value)} {st : List Value} {G : Gt}
theorem va_aldA {p : Program} {l : Launch} {e : Env} {R : Room} {s : State} {m : MethodId} {args : Array Value} {below : List Frame} {meth : Method} {c : Code} {H : Heap} {locs : List Loc} {cells slots : Nat} {Q : State → Prop} {pc : Nat} {ls : Array Slot} {rest : List Value} {D : va_G} {cl : List vw_C} {tys : List (ClassId × FieldType)} {ws : va_W} {a : Nat} {cc : ByteArray} (hexec : p.tables.exec = Jvm.exec) (hb : c.code = cc) (hK : va_K D cl tys s) (hP : va_P D cl ws H) (q0 t0 : Nat) {cA : ClassId} {ty : FieldType} {n : Nat} {f : Nat → Option Nat} (ha : ws[q0]? = some (a, .inl (cA, n, .inr (.inr (.inr (.inr f)))))) (ht : tys[t0]? = some (cA, .array ty)) {i : Int32} (hin : vp_in i n) (hdg : decode cc pc = .ok (.aaload, 1))
    (kk : W p l e R s m args below meth c H locs cells slots Q (F0 m (pc + 1) ls (va_rf (f i.toNatClampNeg) :: rest))) : W p l e R s m args below meth c H locs cells slots Q (F0 m pc ls (.int i :: .ref a :: rest)) := by
  have hlt : i.toNatClampNeg < n := Nat.not_le.mp fun q => hin (Or.inr q)
  exact W.aald (v := va_rf (f i.toNatClampNeg)) (ty := .array ty) hexec hb (hP q0 _ ha) ((hK.2 t0 _ ht).1 n (fun j => va_rf (f j))) rfl (fun q => by cases q) (by show ¬ (i < 0 ∨ (arrV _ _ _).slots.size ≤ _); rw [arrV_size]; exact hin) (by show (arrV _ _ _).slots[_]? = _; rw [arrV_read _ _ hlt]) rfl rfl hdg kk
theorem wI_1a {M : Me} {f i s r r0 : Nat} {v : Int32} (ha : ar f = true) : ∀ f' i' s' r', ¬ (f' = f ∧ i' = i ∧ s' = s ∧ (ar f = true ∨ r' = r0)) → (wI M f i s r v).1 f' i' s' r' = M.1 f' i' s' r' := by
  intro f' i' s' r' h
  exact if_neg (fun q => h ⟨q.1, q.2.1, q.2.2.1, Or.inl ha⟩)
theorem wL_2a {M : Me} {f i s r r0 : Nat} {v : Int64} (ha : ar f = true) : ∀ f' i' s' r', ¬ (f' = f ∧ i' = i ∧ s' = s ∧ (ar f = true ∨ r' = r0)) → (wL M f i s r v).2 f' i' s' r' = M.2 f' i' s' r' := by
  intro f' i' s' r' h
  exact if_neg (fun q => h ⟨q.1, q.2.1, q.2.2.1, Or.inl ha⟩)
theorem al_MODES (he : pc + 1 = n) (ok : Ok X cc own) (hG : GC X G) {i1 : Nat} (h1 : i1 < 9) {x : Int32} (hin : vp_in x 8) (d : decode cc pc = .ok (.iaload, 1)) (k : Wt X M n lv (.int (M.1 11 i1 0 (tN x)) :: st)) : Wt X M pc lv (.int x :: .ref (G.1 + oMODES i1) :: st) := by
  obtain ⟨p, l, e, R, s, m, args, below, meth, c, Q, H0, Wd, A, nL, cells, slots⟩ := X
  obtain ⟨⟨hx, hb, hml, hown, hts⟩, hlocks⟩ := ok
  obtain ⟨hWd, hA, ⟨hK, -⟩, -, -⟩ := hG
  subst he; subst hWd; subst hA
  intro H locs ls hW hS hl
  exact va_iald hx hb hK hW (oMODES i1) 0 (wC_get (ky_MODES i1 h1)) rfl hin d (k H locs ls hW hS hl)
theorem as_MODES (he : pc + 1 = n) (ok : Ok X cc own) (hG : GC X G) {i1 : Nat} (h1 : i1 < 9) {x : Int32} {v : Int32} (hin : vp_in x 8) (d : decode cc pc = .ok (.iastore, 1)) (k : Wt X (wI M 11 i1 0 (tN x) v) n lv st) : Wt X M pc lv (.int v :: .int x :: .ref (G.1 + oMODES i1) :: st) := by
  obtain ⟨p, l, e, R, s, m, args, below, meth, c, Q, H0, Wd, A, nL, cells, slots⟩ := X
  obtain ⟨⟨hx, hb, hml, hown, hts⟩, hlocks⟩ := ok
  obtain ⟨hWd, hA, ⟨hK, -⟩, -, -⟩ := hG
  subst he; subst hWd; subst hA
  intro H locs ls hW hS hl
  have hset := wC_set (G := G) (M := M) (M' := wI M 11 i1 0 (tN x) v) (f := 11) (ky_MODES i1 h1) rfl (fun _ => by decide) (wI_1a rfl) (fun _ _ _ _ _ => rfl)
  have e : ce G (wI M 11 i1 0 (tN x) v) 3 i1 0 0 = .inl (G.2.2 0, 8, .inl (upd (fun k => M.1 11 i1 0 k) (tN x) v)) := by
    show Sum.inl _ = Sum.inl _
    refine congrArg (fun g => Sum.inl (G.2.2 0, 8, Sum.inl g)) (funext fun k => ?_)
    simp [wI, upd]
  rw [e] at hset
  refine va_iast hx hb hK hW (wC_D G M) hS (oMODES i1) 0 (wC_get (ky_MODES i1 h1)) rfl hin d (fun H1 locs1 hP1 _ hS1 => k H1 locs1 ls ?_ hS1 hl)
  show va_P _ _ _ _
  rw [← hset]
  exact hP1
theorem cp_MODES (he : pc + 3 = n) (ok : Ok X cc own) (hG : GC X G) {i1 : Nat} (h1 : i1 < 9) {q0 n0 : Nat} {f : Nat → Int32} (hsrc : (wC G M)[q0]? = some (G.1 + q0, .inl (G.2.2 0, n0, .inl f))) {sp dp z : Int32} {sn dn zn : Nat} (c1 : tN sp = sn) (c2 : tN dp = dn) (c3 : tN z = zn) (h1' : ¬ sp < 0) (h2' : ¬ dp < 0) (h3' : ¬ z < 0) (h4 : sn + zn ≤ n0) (h5 : dn + zn ≤ 8) {ix : Nat} (hw : Cond.methodLink own ix arraycopyName ∈ gw) (hw2 : Cond.native arraycopyName ∈ gw) (hw3 : Cond.static arraycopyName ∈ gw) (hw4 : Cond.initialized "java/lang/System" ∈ gw) (hR : 1 ≤ X.R.frames ∧ (st.map fun v => v.category).sum + (nativeFrameWords "java/lang/System" "arraycopy" 5 + 11) ≤ X.R.locals) (d : decode cc pc = .ok (.invokestatic ix, 3)) (k : Wt X (cI M 11 i1 0 f sn dn zn) n lv st) : Wt X M pc lv (.int z :: .int dp :: .ref (G.1 + oMODES i1) :: .int sp :: .ref (G.1 + q0) :: st) := by
  obtain ⟨p, l, e, R, s, m, args, below, meth, c, Q, H0, Wd, A, nL, cells, slots⟩ := X
  obtain ⟨⟨hx, hb, hml, hown, hts⟩, hlocks⟩ := ok
  obtain ⟨hWd, hA, ⟨hK, -⟩, -, -⟩ := hG
  subst he; subst hWd; subst hA
  intro H locs ls hW hS hl
  subst c1; subst c2; subst c3
  have hset := wC_set (G := G) (M := M) (M' := cI M 11 i1 0 f (tN sp) (tN dp) (tN z)) (f := 11) (ky_MODES i1 h1) rfl (fun _ => by decide) (cI_1 rfl) (fun _ _ _ _ _ => rfl)
  have e : ce G (cI M 11 i1 0 f (tN sp) (tN dp) (tN z)) 3 i1 0 0 = .inl (G.2.2 0, 8, .inl (va_cpy f (fun k => M.1 11 i1 0 k) (tN sp) (tN dp) (tN z))) := by
    show Sum.inl _ = Sum.inl _
    refine congrArg (fun g => Sum.inl (G.2.2 0, 8, Sum.inl g)) (funext fun k => ?_)
    simp [cI]
  rw [e] at hset
  refine va_copyi hx hb (hml.trans hl.1.symm) hown (hts _ hw) (hts _ hw2) (hts _ hw3) (hts _ hw4) hK hW (wC_D G M) hS q0 (oMODES i1) 0 0 hsrc (wC_get (ky_MODES i1 h1)) rfl rfl rfl h1' h2' h3' h4 h5 (fun _ _ => rfl) hR.1 hR.2 d (fun H1 locs1 hP1 _ hS1 => k H1 locs1 ls ?_ hS1 hl)
  show va_P _ _ _ _
  rw [← hset]
  exact hP1
theorem al_SPEEDS (he : pc + 1 = n) (ok : Ok X cc own) (hG : GC X G) {i1 : Nat} (h1 : i1 < 9) {x : Int32} (hin : vp_in x 8) (d : decode cc pc = .ok (.iaload, 1)) (k : Wt X M n lv (.int (M.1 12 i1 0 (tN x)) :: st)) : Wt X M pc lv (.int x :: .ref (G.1 + oSPEEDS i1) :: st) := by
  obtain ⟨p, l, e, R, s, m, args, below, meth, c, Q, H0, Wd, A, nL, cells, slots⟩ := X
  obtain ⟨⟨hx, hb, hml, hown, hts⟩, hlocks⟩ := ok
  obtain ⟨hWd, hA, ⟨hK, -⟩, -, -⟩ := hG
  subst he; subst hWd; subst hA
  intro H locs ls hW hS hl
  exact va_iald hx hb hK hW (oSPEEDS i1) 0 (wC_get (ky_SPEEDS i1 h1)) rfl hin d (k H locs ls hW hS hl)
theorem as_SPEEDS (he : pc + 1 = n) (ok : Ok X cc own) (hG : GC X G) {i1 : Nat} (h1 : i1 < 9) {x : Int32} {v : Int32} (hin : vp_in x 8) (d : decode cc pc = .ok (.iastore, 1)) (k : Wt X (wI M 12 i1 0 (tN x) v) n lv st) : Wt X M pc lv (.int v :: .int x :: .ref (G.1 + oSPEEDS i1) :: st) := by
  obtain ⟨p, l, e, R, s, m, args, below, meth, c, Q, H0, Wd, A, nL, cells, slots⟩ := X
  obtain ⟨⟨hx, hb, hml, hown, hts⟩, hlocks⟩ := ok
  obtain ⟨hWd, hA, ⟨hK, -⟩, -, -⟩ := hG
  subst he; subst hWd; subst hA
  intro H locs ls hW hS hl
  have hset := wC_set (G := G) (M := M) (M' := wI M 12 i1 0 (tN x) v) (f := 12) (ky_SPEEDS i1 h1) rfl (fun _ => by decide) (wI_1a rfl) (fun _ _ _ _ _ => rfl)
  have e : ce G (wI M 12 i1 0 (tN x) v) 4 i1 0 0 = .inl (G.2.2 0, 8, .inl (upd (fun k => M.1 12 i1 0 k) (tN x) v)) := by
    show Sum.inl _ = Sum.inl _
    refine congrArg (fun g => Sum.inl (G.2.2 0, 8, Sum.inl g)) (funext fun k => ?_)
    simp [wI, upd]
  rw [e] at hset
  refine va_iast hx hb hK hW (wC_D G M) hS (oSPEEDS i1) 0 (wC_get (ky_SPEEDS i1 h1)) rfl hin d (fun H1 locs1 hP1 _ hS1 => k H1 locs1 ls ?_ hS1 hl)
  show va_P _ _ _ _
  rw [← hset]
  exact hP1
theorem cp_SPEEDS (he : pc + 3 = n) (ok : Ok X cc own) (hG : GC X G) {i1 : Nat} (h1 : i1 < 9) {q0 n0 : Nat} {f : Nat → Int32} (hsrc : (wC G M)[q0]? = some (G.1 + q0, .inl (G.2.2 0, n0, .inl f))) {sp dp z : Int32} {sn dn zn : Nat} (c1 : tN sp = sn) (c2 : tN dp = dn) (c3 : tN z = zn) (h1' : ¬ sp < 0) (h2' : ¬ dp < 0) (h3' : ¬ z < 0) (h4 : sn + zn ≤ n0) (h5 : dn + zn ≤ 8) {ix : Nat} (hw : Cond.methodLink own ix arraycopyName ∈ gw) (hw2 : Cond.native arraycopyName ∈ gw) (hw3 : Cond.static arraycopyName ∈ gw) (hw4 : Cond.initialized "java/lang/System" ∈ gw) (hR : 1 ≤ X.R.frames ∧ (st.map fun v => v.category).sum + (nativeFrameWords "java/lang/System" "arraycopy" 5 + 11) ≤ X.R.locals) (d : decode cc pc = .ok (.invokestatic ix, 3)) (k : Wt X (cI M 12 i1 0 f sn dn zn) n lv st) : Wt X M pc lv (.int z :: .int dp :: .ref (G.1 + oSPEEDS i1) :: .int sp :: .ref (G.1 + q0) :: st) := by
  obtain ⟨p, l, e, R, s, m, args, below, meth, c, Q, H0, Wd, A, nL, cells, slots⟩ := X
  obtain ⟨⟨hx, hb, hml, hown, hts⟩, hlocks⟩ := ok
  obtain ⟨hWd, hA, ⟨hK, -⟩, -, -⟩ := hG
  subst he; subst hWd; subst hA
  intro H locs ls hW hS hl
  subst c1; subst c2; subst c3
  have hset := wC_set (G := G) (M := M) (M' := cI M 12 i1 0 f (tN sp) (tN dp) (tN z)) (f := 12) (ky_SPEEDS i1 h1) rfl (fun _ => by decide) (cI_1 rfl) (fun _ _ _ _ _ => rfl)
  have e : ce G (cI M 12 i1 0 f (tN sp) (tN dp) (tN z)) 4 i1 0 0 = .inl (G.2.2 0, 8, .inl (va_cpy f (fun k => M.1 12 i1 0 k) (tN sp) (tN dp) (tN z))) := by
    show Sum.inl _ = Sum.inl _
    refine congrArg (fun g => Sum.inl (G.2.2 0, 8, Sum.inl g)) (funext fun k => ?_)
    simp [cI]
  rw [e] at hset
  refine va_copyi hx hb (hml.trans hl.1.symm) hown (hts _ hw) (hts _ hw2) (hts _ hw3) (hts _ hw4) hK hW (wC_D G M) hS q0 (oSPEEDS i1) 0 0 hsrc (wC_get (ky_SPEEDS i1 h1)) rfl rfl rfl h1' h2' h3' h4 h5 (fun _ _ => rfl) hR.1 hR.2 d (fun H1 locs1 hP1 _ hS1 => k H1 locs1 ls ?_ hS1 hl)
  show va_P _ _ _ _
  rw [← hset]
  exact hP1
theorem al_NOMS (he : pc + 1 = n) (ok : Ok X cc own) (hG : GC X G) {i1 : Nat} (h1 : i1 < 9) {x : Int32} (hin : vp_in x 8) (d : decode cc pc = .ok (.iaload, 1)) (k : Wt X M n lv (.int (M.1 13 i1 0 (tN x)) :: st)) : Wt X M pc lv (.int x :: .ref (G.1 + oNOMS i1) :: st) := by
  obtain ⟨p, l, e, R, s, m, args, below, meth, c, Q, H0, Wd, A, nL, cells, slots⟩ := X
  obtain ⟨⟨hx, hb, hml, hown, hts⟩, hlocks⟩ := ok
  obtain ⟨hWd, hA, ⟨hK, -⟩, -, -⟩ := hG
  subst he; subst hWd; subst hA
  intro H locs ls hW hS hl
  exact va_iald hx hb hK hW (oNOMS i1) 0 (wC_get (ky_NOMS i1 h1)) rfl hin d (k H locs ls hW hS hl)
theorem as_NOMS (he : pc + 1 = n) (ok : Ok X cc own) (hG : GC X G) {i1 : Nat} (h1 : i1 < 9) {x : Int32} {v : Int32} (hin : vp_in x 8) (d : decode cc pc = .ok (.iastore, 1)) (k : Wt X (wI M 13 i1 0 (tN x) v) n lv st) : Wt X M pc lv (.int v :: .int x :: .ref (G.1 + oNOMS i1) :: st) := by
  obtain ⟨p, l, e, R, s, m, args, below, meth, c, Q, H0, Wd, A, nL, cells, slots⟩ := X
  obtain ⟨⟨hx, hb, hml, hown, hts⟩, hlocks⟩ := ok
  obtain ⟨hWd, hA, ⟨hK, -⟩, -, -⟩ := hG
  subst he; subst hWd; subst hA
  intro H locs ls hW hS hl
  have hset := wC_set (G := G) (M := M) (M' := wI M 13 i1 0 (tN x) v) (f := 13) (ky_NOMS i1 h1) rfl (fun _ => by decide) (wI_1a rfl) (fun _ _ _ _ _ => rfl)
  have e : ce G (wI M 13 i1 0 (tN x) v) 5 i1 0 0 = .inl (G.2.2 0, 8, .inl (upd (fun k => M.1 13 i1 0 k) (tN x) v)) := by
    show Sum.inl _ = Sum.inl _
    refine congrArg (fun g => Sum.inl (G.2.2 0, 8, Sum.inl g)) (funext fun k => ?_)
    simp [wI, upd]
  rw [e] at hset
  refine va_iast hx hb hK hW (wC_D G M) hS (oNOMS i1) 0 (wC_get (ky_NOMS i1 h1)) rfl hin d (fun H1 locs1 hP1 _ hS1 => k H1 locs1 ls ?_ hS1 hl)
  show va_P _ _ _ _
  rw [← hset]
  exact hP1
theorem cp_NOMS (he : pc + 3 = n) (ok : Ok X cc own) (hG : GC X G) {i1 : Nat} (h1 : i1 < 9) {q0 n0 : Nat} {f : Nat → Int32} (hsrc : (wC G M)[q0]? = some (G.1 + q0, .inl (G.2.2 0, n0, .inl f))) {sp dp z : Int32} {sn dn zn : Nat} (c1 : tN sp = sn) (c2 : tN dp = dn) (c3 : tN z = zn) (h1' : ¬ sp < 0) (h2' : ¬ dp < 0) (h3' : ¬ z < 0) (h4 : sn + zn ≤ n0) (h5 : dn + zn ≤ 8) {ix : Nat} (hw : Cond.methodLink own ix arraycopyName ∈ gw) (hw2 : Cond.native arraycopyName ∈ gw) (hw3 : Cond.static arraycopyName ∈ gw) (hw4 : Cond.initialized "java/lang/System" ∈ gw) (hR : 1 ≤ X.R.frames ∧ (st.map fun v => v.category).sum + (nativeFrameWords "java/lang/System" "arraycopy" 5 + 11) ≤ X.R.locals) (d : decode cc pc = .ok (.invokestatic ix, 3)) (k : Wt X (cI M 13 i1 0 f sn dn zn) n lv st) : Wt X M pc lv (.int z :: .int dp :: .ref (G.1 + oNOMS i1) :: .int sp :: .ref (G.1 + q0) :: st) := by
  obtain ⟨p, l, e, R, s, m, args, below, meth, c, Q, H0, Wd, A, nL, cells, slots⟩ := X
  obtain ⟨⟨hx, hb, hml, hown, hts⟩, hlocks⟩ := ok
  obtain ⟨hWd, hA, ⟨hK, -⟩, -, -⟩ := hG
  subst he; subst hWd; subst hA
  intro H locs ls hW hS hl
  subst c1; subst c2; subst c3
  have hset := wC_set (G := G) (M := M) (M' := cI M 13 i1 0 f (tN sp) (tN dp) (tN z)) (f := 13) (ky_NOMS i1 h1) rfl (fun _ => by decide) (cI_1 rfl) (fun _ _ _ _ _ => rfl)
  have e : ce G (cI M 13 i1 0 f (tN sp) (tN dp) (tN z)) 5 i1 0 0 = .inl (G.2.2 0, 8, .inl (va_cpy f (fun k => M.1 13 i1 0 k) (tN sp) (tN dp) (tN z))) := by
    show Sum.inl _ = Sum.inl _
    refine congrArg (fun g => Sum.inl (G.2.2 0, 8, Sum.inl g)) (funext fun k => ?_)
    simp [cI]
  rw [e] at hset
  refine va_copyi hx hb (hml.trans hl.1.symm) hown (hts _ hw) (hts _ hw2) (hts _ hw3) (hts _ hw4) hK hW (wC_D G M) hS q0 (oNOMS i1) 0 0 hsrc (wC_get (ky_NOMS i1 h1)) rfl rfl rfl h1' h2' h3' h4 h5 (fun _ _ => rfl) hR.1 hR.2 d (fun H1 locs1 hP1 _ hS1 => k H1 locs1 ls ?_ hS1 hl)
  show va_P _ _ _ _
  rw [← hset]
  exact hP1
theorem al_ROLES (he : pc + 1 = n) (ok : Ok X cc own) (hG : GC X G) {i1 : Nat} (h1 : i1 < 9) {i2 : Nat} (h2 : i2 < 4) {x : Int32} (hin : vp_in x 4) (d : decode cc pc = .ok (.iaload, 1)) (k : Wt X M n lv (.int (M.1 41 i1 i2 (tN x)) :: st)) : Wt X M pc lv (.int x :: .ref (G.1 + oROLES i1 i2) :: st) := by
  obtain ⟨p, l, e, R, s, m, args, below, meth, c, Q, H0, Wd, A, nL, cells, slots⟩ := X
  obtain ⟨⟨hx, hb, hml, hown, hts⟩, hlocks⟩ := ok
  obtain ⟨hWd, hA, ⟨hK, -⟩, -, -⟩ := hG
  subst he; subst hWd; subst hA
  intro H locs ls hW hS hl
  exact va_iald hx hb hK hW (oROLES i1 i2) 0 (wC_get (ky_ROLES i1 h1 i2 h2)) rfl hin d (k H locs ls hW hS hl)
theorem as_ROLES (he : pc + 1 = n) (ok : Ok X cc own) (hG : GC X G) {i1 : Nat} (h1 : i1 < 9) {i2 : Nat} (h2 : i2 < 4) {x : Int32} {v : Int32} (hin : vp_in x 4) (d : decode cc pc = .ok (.iastore, 1)) (k : Wt X (wI M 41 i1 i2 (tN x) v) n lv st) : Wt X M pc lv (.int v :: .int x :: .ref (G.1 + oROLES i1 i2) :: st) := by
  obtain ⟨p, l, e, R, s, m, args, below, meth, c, Q, H0, Wd, A, nL, cells, slots⟩ := X
  obtain ⟨⟨hx, hb, hml, hown, hts⟩, hlocks⟩ := ok
  obtain ⟨hWd, hA, ⟨hK, -⟩, -, -⟩ := hG
  subst he; subst hWd; subst hA
  intro H locs ls hW hS hl
  have hset := wC_set (G := G) (M := M) (M' := wI M 41 i1 i2 (tN x) v) (f := 41) (ky_ROLES i1 h1 i2 h2) rfl (fun _ => by decide) (wI_1a rfl) (fun _ _ _ _ _ => rfl)
  have e : ce G (wI M 41 i1 i2 (tN x) v) 13 i1 i2 0 = .inl (G.2.2 0, 4, .inl (upd (fun k => M.1 41 i1 i2 k) (tN x) v)) := by
    show Sum.inl _ = Sum.inl _
    refine congrArg (fun g => Sum.inl (G.2.2 0, 4, Sum.inl g)) (funext fun k => ?_)
    simp [wI, upd]
  rw [e] at hset
  refine va_iast hx hb hK hW (wC_D G M) hS (oROLES i1 i2) 0 (wC_get (ky_ROLES i1 h1 i2 h2)) rfl hin d (fun H1 locs1 hP1 _ hS1 => k H1 locs1 ls ?_ hS1 hl)
  show va_P _ _ _ _
  rw [← hset]
  exact hP1
theorem cp_ROLES (he : pc + 3 = n) (ok : Ok X cc own) (hG : GC X G) {i1 : Nat} (h1 : i1 < 9) {i2 : Nat} (h2 : i2 < 4) {q0 n0 : Nat} {f : Nat → Int32} (hsrc : (wC G M)[q0]? = some (G.1 + q0, .inl (G.2.2 0, n0, .inl f))) {sp dp z : Int32} {sn dn zn : Nat} (c1 : tN sp = sn) (c2 : tN dp = dn) (c3 : tN z = zn) (h1' : ¬ sp < 0) (h2' : ¬ dp < 0) (h3' : ¬ z < 0) (h4 : sn + zn ≤ n0) (h5 : dn + zn ≤ 4) {ix : Nat} (hw : Cond.methodLink own ix arraycopyName ∈ gw) (hw2 : Cond.native arraycopyName ∈ gw) (hw3 : Cond.static arraycopyName ∈ gw) (hw4 : Cond.initialized "java/lang/System" ∈ gw) (hR : 1 ≤ X.R.frames ∧ (st.map fun v => v.category).sum + (nativeFrameWords "java/lang/System" "arraycopy" 5 + 11) ≤ X.R.locals) (d : decode cc pc = .ok (.invokestatic ix, 3)) (k : Wt X (cI M 41 i1 i2 f sn dn zn) n lv st) : Wt X M pc lv (.int z :: .int dp :: .ref (G.1 + oROLES i1 i2) :: .int sp :: .ref (G.1 + q0) :: st) := by
  obtain ⟨p, l, e, R, s, m, args, below, meth, c, Q, H0, Wd, A, nL, cells, slots⟩ := X
  obtain ⟨⟨hx, hb, hml, hown, hts⟩, hlocks⟩ := ok
  obtain ⟨hWd, hA, ⟨hK, -⟩, -, -⟩ := hG
  subst he; subst hWd; subst hA
  intro H locs ls hW hS hl
  subst c1; subst c2; subst c3
  have hset := wC_set (G := G) (M := M) (M' := cI M 41 i1 i2 f (tN sp) (tN dp) (tN z)) (f := 41) (ky_ROLES i1 h1 i2 h2) rfl (fun _ => by decide) (cI_1 rfl) (fun _ _ _ _ _ => rfl)
  have e : ce G (cI M 41 i1 i2 f (tN sp) (tN dp) (tN z)) 13 i1 i2 0 = .inl (G.2.2 0, 4, .inl (va_cpy f (fun k => M.1 41 i1 i2 k) (tN sp) (tN dp) (tN z))) := by
    show Sum.inl _ = Sum.inl _
    refine congrArg (fun g => Sum.inl (G.2.2 0, 4, Sum.inl g)) (funext fun k => ?_)
    simp [cI]
  rw [e] at hset
  refine va_copyi hx hb (hml.trans hl.1.symm) hown (hts _ hw) (hts _ hw2) (hts _ hw3) (hts _ hw4) hK hW (wC_D G M) hS q0 (oROLES i1 i2) 0 0 hsrc (wC_get (ky_ROLES i1 h1 i2 h2)) rfl rfl rfl h1' h2' h3' h4 h5 (fun _ _ => rfl) hR.1 hR.2 d (fun H1 locs1 hP1 _ hS1 => k H1 locs1 ls ?_ hS1 hl)
  show va_P _ _ _ _
  rw [← hset]
  exact hP1
theorem al_REFS (he : pc + 1 = n) (ok : Ok X cc own) (hG : GC X G) {i1 : Nat} (h1 : i1 < 9) {i2 : Nat} (h2 : i2 < 4) {x : Int32} (hin : vp_in x 3) (d : decode cc pc = .ok (.iaload, 1)) (k : Wt X M n lv (.int (M.1 42 i1 i2 (tN x)) :: st)) : Wt X M pc lv (.int x :: .ref (G.1 + oREFS i1 i2) :: st) := by
  obtain ⟨p, l, e, R, s, m, args, below, meth, c, Q, H0, Wd, A, nL, cells, slots⟩ := X
  obtain ⟨⟨hx, hb, hml, hown, hts⟩, hlocks⟩ := ok
  obtain ⟨hWd, hA, ⟨hK, -⟩, -, -⟩ := hG
  subst he; subst hWd; subst hA
  intro H locs ls hW hS hl
  exact va_iald hx hb hK hW (oREFS i1 i2) 0 (wC_get (ky_REFS i1 h1 i2 h2)) rfl hin d (k H locs ls hW hS hl)
theorem as_REFS (he : pc + 1 = n) (ok : Ok X cc own) (hG : GC X G) {i1 : Nat} (h1 : i1 < 9) {i2 : Nat} (h2 : i2 < 4) {x : Int32} {v : Int32} (hin : vp_in x 3) (d : decode cc pc = .ok (.iastore, 1)) (k : Wt X (wI M 42 i1 i2 (tN x) v) n lv st) : Wt X M pc lv (.int v :: .int x :: .ref (G.1 + oREFS i1 i2) :: st) := by
  obtain ⟨p, l, e, R, s, m, args, below, meth, c, Q, H0, Wd, A, nL, cells, slots⟩ := X
  obtain ⟨⟨hx, hb, hml, hown, hts⟩, hlocks⟩ := ok
  obtain ⟨hWd, hA, ⟨hK, -⟩, -, -⟩ := hG
  subst he; subst hWd; subst hA
  intro H locs ls hW hS hl
  have hset := wC_set (G := G) (M := M) (M' := wI M 42 i1 i2 (tN x) v) (f := 42) (ky_REFS i1 h1 i2 h2) rfl (fun _ => by decide) (wI_1a rfl) (fun _ _ _ _ _ => rfl)
  have e : ce G (wI M 42 i1 i2 (tN x) v) 14 i1 i2 0 = .inl (G.2.2 0, 3, .inl (upd (fun k => M.1 42 i1 i2 k) (tN x) v)) := by
    show Sum.inl _ = Sum.inl _
    refine congrArg (fun g => Sum.inl (G.2.2 0, 3, Sum.inl g)) (funext fun k => ?_)
    simp [wI, upd]
  rw [e] at hset
  refine va_iast hx hb hK hW (wC_D G M) hS (oREFS i1 i2) 0 (wC_get (ky_REFS i1 h1 i2 h2)) rfl hin d (fun H1 locs1 hP1 _ hS1 => k H1 locs1 ls ?_ hS1 hl)
  show va_P _ _ _ _
  rw [← hset]
  exact hP1
theorem cp_REFS (he : pc + 3 = n) (ok : Ok X cc own) (hG : GC X G) {i1 : Nat} (h1 : i1 < 9) {i2 : Nat} (h2 : i2 < 4) {q0 n0 : Nat} {f : Nat → Int32} (hsrc : (wC G M)[q0]? = some (G.1 + q0, .inl (G.2.2 0, n0, .inl f))) {sp dp z : Int32} {sn dn zn : Nat} (c1 : tN sp = sn) (c2 : tN dp = dn) (c3 : tN z = zn) (h1' : ¬ sp < 0) (h2' : ¬ dp < 0) (h3' : ¬ z < 0) (h4 : sn + zn ≤ n0) (h5 : dn + zn ≤ 3) {ix : Nat} (hw : Cond.methodLink own ix arraycopyName ∈ gw) (hw2 : Cond.native arraycopyName ∈ gw) (hw3 : Cond.static arraycopyName ∈ gw) (hw4 : Cond.initialized "java/lang/System" ∈ gw) (hR : 1 ≤ X.R.frames ∧ (st.map fun v => v.category).sum + (nativeFrameWords "java/lang/System" "arraycopy" 5 + 11) ≤ X.R.locals) (d : decode cc pc = .ok (.invokestatic ix, 3)) (k : Wt X (cI M 42 i1 i2 f sn dn zn) n lv st) : Wt X M pc lv (.int z :: .int dp :: .ref (G.1 + oREFS i1 i2) :: .int sp :: .ref (G.1 + q0) :: st) := by
  obtain ⟨p, l, e, R, s, m, args, below, meth, c, Q, H0, Wd, A, nL, cells, slots⟩ := X
  obtain ⟨⟨hx, hb, hml, hown, hts⟩, hlocks⟩ := ok
  obtain ⟨hWd, hA, ⟨hK, -⟩, -, -⟩ := hG
  subst he; subst hWd; subst hA
  intro H locs ls hW hS hl
  subst c1; subst c2; subst c3
  have hset := wC_set (G := G) (M := M) (M' := cI M 42 i1 i2 f (tN sp) (tN dp) (tN z)) (f := 42) (ky_REFS i1 h1 i2 h2) rfl (fun _ => by decide) (cI_1 rfl) (fun _ _ _ _ _ => rfl)
  have e : ce G (cI M 42 i1 i2 f (tN sp) (tN dp) (tN z)) 14 i1 i2 0 = .inl (G.2.2 0, 3, .inl (va_cpy f (fun k => M.1 42 i1 i2 k) (tN sp) (tN dp) (tN z))) := by
    show Sum.inl _ = Sum.inl _
    refine congrArg (fun g => Sum.inl (G.2.2 0, 3, Sum.inl g)) (funext fun k => ?_)
    simp [cI]
  rw [e] at hset
  refine va_copyi hx hb (hml.trans hl.1.symm) hown (hts _ hw) (hts _ hw2) (hts _ hw3) (hts _ hw4) hK hW (wC_D G M) hS q0 (oREFS i1 i2) 0 0 hsrc (wC_get (ky_REFS i1 h1 i2 h2)) rfl rfl rfl h1' h2' h3' h4 h5 (fun _ _ => rfl) hR.1 hR.2 d (fun H1 locs1 hP1 _ hS1 => k H1 locs1 ls ?_ hS1 hl)
  show va_P _ _ _ _
  rw [← hset]
  exact hP1
theorem al_QUEUE (he : pc + 1 = n) (ok : Ok X cc own) (hG : GC X G) {i1 : Nat} (h1 : i1 < 9) {i2 : Nat} (h2 : i2 < 4) {x : Int32} (hin : vp_in x 8) (d : decode cc pc = .ok (.iaload, 1)) (k : Wt X M n lv (.int (M.1 43 i1 i2 (tN x)) :: st)) : Wt X M pc lv (.int x :: .ref (G.1 + oQUEUE i1 i2) :: st) := by
  obtain ⟨p, l, e, R, s, m, args, below, meth, c, Q, H0, Wd, A, nL, cells, slots⟩ := X
  obtain ⟨⟨hx, hb, hml, hown, hts⟩, hlocks⟩ := ok
  obtain ⟨hWd, hA, ⟨hK, -⟩, -, -⟩ := hG
  subst he; subst hWd; subst hA
  intro H locs ls hW hS hl
  exact va_iald hx hb hK hW (oQUEUE i1 i2) 0 (wC_get (ky_QUEUE i1 h1 i2 h2)) rfl hin d (k H locs ls hW hS hl)
theorem as_QUEUE (he : pc + 1 = n) (ok : Ok X cc own) (hG : GC X G) {i1 : Nat} (h1 : i1 < 9) {i2 : Nat} (h2 : i2 < 4) {x : Int32} {v : Int32} (hin : vp_in x 8) (d : decode cc pc = .ok (.iastore, 1)) (k : Wt X (wI M 43 i1 i2 (tN x) v) n lv st) : Wt X M pc lv (.int v :: .int x :: .ref (G.1 + oQUEUE i1 i2) :: st) := by
  obtain ⟨p, l, e, R, s, m, args, below, meth, c, Q, H0, Wd, A, nL, cells, slots⟩ := X
  obtain ⟨⟨hx, hb, hml, hown, hts⟩, hlocks⟩ := ok
  obtain ⟨hWd, hA, ⟨hK, -⟩, -, -⟩ := hG
  subst he; subst hWd; subst hA
  intro H locs ls hW hS hl
  have hset := wC_set (G := G) (M := M) (M' := wI M 43 i1 i2 (tN x) v) (f := 43) (ky_QUEUE i1 h1 i2 h2) rfl (fun _ => by decide) (wI_1a rfl) (fun _ _ _ _ _ => rfl)
  have e : ce G (wI M 43 i1 i2 (tN x) v) 15 i1 i2 0 = .inl (G.2.2 0, 8, .inl (upd (fun k => M.1 43 i1 i2 k) (tN x) v)) := by
    show Sum.inl _ = Sum.inl _
    refine congrArg (fun g => Sum.inl (G.2.2 0, 8, Sum.inl g)) (funext fun k => ?_)
    simp [wI, upd]
  rw [e] at hset
  refine va_iast hx hb hK hW (wC_D G M) hS (oQUEUE i1 i2) 0 (wC_get (ky_QUEUE i1 h1 i2 h2)) rfl hin d (fun H1 locs1 hP1 _ hS1 => k H1 locs1 ls ?_ hS1 hl)
  show va_P _ _ _ _
  rw [← hset]
  exact hP1
theorem cp_QUEUE (he : pc + 3 = n) (ok : Ok X cc own) (hG : GC X G) {i1 : Nat} (h1 : i1 < 9) {i2 : Nat} (h2 : i2 < 4) {q0 n0 : Nat} {f : Nat → Int32} (hsrc : (wC G M)[q0]? = some (G.1 + q0, .inl (G.2.2 0, n0, .inl f))) {sp dp z : Int32} {sn dn zn : Nat} (c1 : tN sp = sn) (c2 : tN dp = dn) (c3 : tN z = zn) (h1' : ¬ sp < 0) (h2' : ¬ dp < 0) (h3' : ¬ z < 0) (h4 : sn + zn ≤ n0) (h5 : dn + zn ≤ 8) {ix : Nat} (hw : Cond.methodLink own ix arraycopyName ∈ gw) (hw2 : Cond.native arraycopyName ∈ gw) (hw3 : Cond.static arraycopyName ∈ gw) (hw4 : Cond.initialized "java/lang/System" ∈ gw) (hR : 1 ≤ X.R.frames ∧ (st.map fun v => v.category).sum + (nativeFrameWords "java/lang/System" "arraycopy" 5 + 11) ≤ X.R.locals) (d : decode cc pc = .ok (.invokestatic ix, 3)) (k : Wt X (cI M 43 i1 i2 f sn dn zn) n lv st) : Wt X M pc lv (.int z :: .int dp :: .ref (G.1 + oQUEUE i1 i2) :: .int sp :: .ref (G.1 + q0) :: st) := by
  obtain ⟨p, l, e, R, s, m, args, below, meth, c, Q, H0, Wd, A, nL, cells, slots⟩ := X
  obtain ⟨⟨hx, hb, hml, hown, hts⟩, hlocks⟩ := ok
  obtain ⟨hWd, hA, ⟨hK, -⟩, -, -⟩ := hG
  subst he; subst hWd; subst hA
  intro H locs ls hW hS hl
  subst c1; subst c2; subst c3
  have hset := wC_set (G := G) (M := M) (M' := cI M 43 i1 i2 f (tN sp) (tN dp) (tN z)) (f := 43) (ky_QUEUE i1 h1 i2 h2) rfl (fun _ => by decide) (cI_1 rfl) (fun _ _ _ _ _ => rfl)
  have e : ce G (cI M 43 i1 i2 f (tN sp) (tN dp) (tN z)) 15 i1 i2 0 = .inl (G.2.2 0, 8, .inl (va_cpy f (fun k => M.1 43 i1 i2 k) (tN sp) (tN dp) (tN z))) := by
    show Sum.inl _ = Sum.inl _
    refine congrArg (fun g => Sum.inl (G.2.2 0, 8, Sum.inl g)) (funext fun k => ?_)
    simp [cI]
  rw [e] at hset
  refine va_copyi hx hb (hml.trans hl.1.symm) hown (hts _ hw) (hts _ hw2) (hts _ hw3) (hts _ hw4) hK hW (wC_D G M) hS q0 (oQUEUE i1 i2) 0 0 hsrc (wC_get (ky_QUEUE i1 h1 i2 h2)) rfl rfl rfl h1' h2' h3' h4 h5 (fun _ _ => rfl) hR.1 hR.2 d (fun H1 locs1 hP1 _ hS1 => k H1 locs1 ls ?_ hS1 hl)
  show va_P _ _ _ _
  rw [← hset]
  exact hP1
theorem al_CRATES (he : pc + 1 = n) (ok : Ok X cc own) (hG : GC X G) {i1 : Nat} (h1 : i1 < 9) {i2 : Nat} (h2 : i2 < 6) {x : Int32} (hin : vp_in x 4) (d : decode cc pc = .ok (.iaload, 1)) (k : Wt X M n lv (.int (M.1 55 i1 i2 (tN x)) :: st)) : Wt X M pc lv (.int x :: .ref (G.1 + oCRATES i1 i2) :: st) := by
  obtain ⟨p, l, e, R, s, m, args, below, meth, c, Q, H0, Wd, A, nL, cells, slots⟩ := X
  obtain ⟨⟨hx, hb, hml, hown, hts⟩, hlocks⟩ := ok
  obtain ⟨hWd, hA, ⟨hK, -⟩, -, -⟩ := hG
  subst he; subst hWd; subst hA
  intro H locs ls hW hS hl
  exact va_iald hx hb hK hW (oCRATES i1 i2) 0 (wC_get (ky_CRATES i1 h1 i2 h2)) rfl hin d (k H locs ls hW hS hl)
theorem as_CRATES (he : pc + 1 = n) (ok : Ok X cc own) (hG : GC X G) {i1 : Nat} (h1 : i1 < 9) {i2 : Nat} (h2 : i2 < 6) {x : Int32} {v : Int32} (hin : vp_in x 4) (d : decode cc pc = .ok (.iastore, 1)) (k : Wt X (wI M 55 i1 i2 (tN x) v) n lv st) : Wt X M pc lv (.int v :: .int x :: .ref (G.1 + oCRATES i1 i2) :: st) := by
  obtain ⟨p, l, e, R, s, m, args, below, meth, c, Q, H0, Wd, A, nL, cells, slots⟩ := X
  obtain ⟨⟨hx, hb, hml, hown, hts⟩, hlocks⟩ := ok
  obtain ⟨hWd, hA, ⟨hK, -⟩, -, -⟩ := hG
  subst he; subst hWd; subst hA
  intro H locs ls hW hS hl
  have hset := wC_set (G := G) (M := M) (M' := wI M 55 i1 i2 (tN x) v) (f := 55) (ky_CRATES i1 h1 i2 h2) rfl (fun _ => by decide) (wI_1a rfl) (fun _ _ _ _ _ => rfl)
  have e : ce G (wI M 55 i1 i2 (tN x) v) 18 i1 i2 0 = .inl (G.2.2 0, 4, .inl (upd (fun k => M.1 55 i1 i2 k) (tN x) v)) := by
    show Sum.inl _ = Sum.inl _
    refine congrArg (fun g => Sum.inl (G.2.2 0, 4, Sum.inl g)) (funext fun k => ?_)
    simp [wI, upd]
  rw [e] at hset
  refine va_iast hx hb hK hW (wC_D G M) hS (oCRATES i1 i2) 0 (wC_get (ky_CRATES i1 h1 i2 h2)) rfl hin d (fun H1 locs1 hP1 _ hS1 => k H1 locs1 ls ?_ hS1 hl)
  show va_P _ _ _ _
  rw [← hset]
  exact hP1
theorem cp_CRATES (he : pc + 3 = n) (ok : Ok X cc own) (hG : GC X G) {i1 : Nat} (h1 : i1 < 9) {i2 : Nat} (h2 : i2 < 6) {q0 n0 : Nat} {f : Nat → Int32} (hsrc : (wC G M)[q0]? = some (G.1 + q0, .inl (G.2.2 0, n0, .inl f))) {sp dp z : Int32} {sn dn zn : Nat} (c1 : tN sp = sn) (c2 : tN dp = dn) (c3 : tN z = zn) (h1' : ¬ sp < 0) (h2' : ¬ dp < 0) (h3' : ¬ z < 0) (h4 : sn + zn ≤ n0) (h5 : dn + zn ≤ 4) {ix : Nat} (hw : Cond.methodLink own ix arraycopyName ∈ gw) (hw2 : Cond.native arraycopyName ∈ gw) (hw3 : Cond.static arraycopyName ∈ gw) (hw4 : Cond.initialized "java/lang/System" ∈ gw) (hR : 1 ≤ X.R.frames ∧ (st.map fun v => v.category).sum + (nativeFrameWords "java/lang/System" "arraycopy" 5 + 11) ≤ X.R.locals) (d : decode cc pc = .ok (.invokestatic ix, 3)) (k : Wt X (cI M 55 i1 i2 f sn dn zn) n lv st) : Wt X M pc lv (.int z :: .int dp :: .ref (G.1 + oCRATES i1 i2) :: .int sp :: .ref (G.1 + q0) :: st) := by
  obtain ⟨p, l, e, R, s, m, args, below, meth, c, Q, H0, Wd, A, nL, cells, slots⟩ := X
  obtain ⟨⟨hx, hb, hml, hown, hts⟩, hlocks⟩ := ok
  obtain ⟨hWd, hA, ⟨hK, -⟩, -, -⟩ := hG
  subst he; subst hWd; subst hA
  intro H locs ls hW hS hl
  subst c1; subst c2; subst c3
  have hset := wC_set (G := G) (M := M) (M' := cI M 55 i1 i2 f (tN sp) (tN dp) (tN z)) (f := 55) (ky_CRATES i1 h1 i2 h2) rfl (fun _ => by decide) (cI_1 rfl) (fun _ _ _ _ _ => rfl)
  have e : ce G (cI M 55 i1 i2 f (tN sp) (tN dp) (tN z)) 18 i1 i2 0 = .inl (G.2.2 0, 4, .inl (va_cpy f (fun k => M.1 55 i1 i2 k) (tN sp) (tN dp) (tN z))) := by
    show Sum.inl _ = Sum.inl _
    refine congrArg (fun g => Sum.inl (G.2.2 0, 4, Sum.inl g)) (funext fun k => ?_)
    simp [cI]
  rw [e] at hset
  refine va_copyi hx hb (hml.trans hl.1.symm) hown (hts _ hw) (hts _ hw2) (hts _ hw3) (hts _ hw4) hK hW (wC_D G M) hS q0 (oCRATES i1 i2) 0 0 hsrc (wC_get (ky_CRATES i1 h1 i2 h2)) rfl rfl rfl h1' h2' h3' h4 h5 (fun _ _ => rfl) hR.1 hR.2 d (fun H1 locs1 hP1 _ hS1 => k H1 locs1 ls ?_ hS1 hl)
  show va_P _ _ _ _
  rw [← hset]
  exact hP1
theorem al_CTRIES (he : pc + 1 = n) (ok : Ok X cc own) (hG : GC X G) {i1 : Nat} (h1 : i1 < 9) {i2 : Nat} (h2 : i2 < 6) {x : Int32} (hin : vp_in x 4) (d : decode cc pc = .ok (.iaload, 1)) (k : Wt X M n lv (.int (M.1 56 i1 i2 (tN x)) :: st)) : Wt X M pc lv (.int x :: .ref (G.1 + oCTRIES i1 i2) :: st) := by
  obtain ⟨p, l, e, R, s, m, args, below, meth, c, Q, H0, Wd, A, nL, cells, slots⟩ := X
  obtain ⟨⟨hx, hb, hml, hown, hts⟩, hlocks⟩ := ok
  obtain ⟨hWd, hA, ⟨hK, -⟩, -, -⟩ := hG
  subst he; subst hWd; subst hA
  intro H locs ls hW hS hl
  exact va_iald hx hb hK hW (oCTRIES i1 i2) 0 (wC_get (ky_CTRIES i1 h1 i2 h2)) rfl hin d (k H locs ls hW hS hl)
theorem as_CTRIES (he : pc + 1 = n) (ok : Ok X cc own) (hG : GC X G) {i1 : Nat} (h1 : i1 < 9) {i2 : Nat} (h2 : i2 < 6) {x : Int32} {v : Int32} (hin : vp_in x 4) (d : decode cc pc = .ok (.iastore, 1)) (k : Wt X (wI M 56 i1 i2 (tN x) v) n lv st) : Wt X M pc lv (.int v :: .int x :: .ref (G.1 + oCTRIES i1 i2) :: st) := by
  obtain ⟨p, l, e, R, s, m, args, below, meth, c, Q, H0, Wd, A, nL, cells, slots⟩ := X
  obtain ⟨⟨hx, hb, hml, hown, hts⟩, hlocks⟩ := ok
  obtain ⟨hWd, hA, ⟨hK, -⟩, -, -⟩ := hG
  subst he; subst hWd; subst hA
  intro H locs ls hW hS hl
  have hset := wC_set (G := G) (M := M) (M' := wI M 56 i1 i2 (tN x) v) (f := 56) (ky_CTRIES i1 h1 i2 h2) rfl (fun _ => by decide) (wI_1a rfl) (fun _ _ _ _ _ => rfl)
  have e : ce G (wI M 56 i1 i2 (tN x) v) 19 i1 i2 0 = .inl (G.2.2 0, 4, .inl (upd (fun k => M.1 56 i1 i2 k) (tN x) v)) := by
    show Sum.inl _ = Sum.inl _
    refine congrArg (fun g => Sum.inl (G.2.2 0, 4, Sum.inl g)) (funext fun k => ?_)
    simp [wI, upd]
  rw [e] at hset
  refine va_iast hx hb hK hW (wC_D G M) hS (oCTRIES i1 i2) 0 (wC_get (ky_CTRIES i1 h1 i2 h2)) rfl hin d (fun H1 locs1 hP1 _ hS1 => k H1 locs1 ls ?_ hS1 hl)
  show va_P _ _ _ _
  rw [← hset]
  exact hP1
theorem cp_CTRIES (he : pc + 3 = n) (ok : Ok X cc own) (hG : GC X G) {i1 : Nat} (h1 : i1 < 9) {i2 : Nat} (h2 : i2 < 6) {q0 n0 : Nat} {f : Nat → Int32} (hsrc : (wC G M)[q0]? = some (G.1 + q0, .inl (G.2.2 0, n0, .inl f))) {sp dp z : Int32} {sn dn zn : Nat} (c1 : tN sp = sn) (c2 : tN dp = dn) (c3 : tN z = zn) (h1' : ¬ sp < 0) (h2' : ¬ dp < 0) (h3' : ¬ z < 0) (h4 : sn + zn ≤ n0) (h5 : dn + zn ≤ 4) {ix : Nat} (hw : Cond.methodLink own ix arraycopyName ∈ gw) (hw2 : Cond.native arraycopyName ∈ gw) (hw3 : Cond.static arraycopyName ∈ gw) (hw4 : Cond.initialized "java/lang/System" ∈ gw) (hR : 1 ≤ X.R.frames ∧ (st.map fun v => v.category).sum + (nativeFrameWords "java/lang/System" "arraycopy" 5 + 11) ≤ X.R.locals) (d : decode cc pc = .ok (.invokestatic ix, 3)) (k : Wt X (cI M 56 i1 i2 f sn dn zn) n lv st) : Wt X M pc lv (.int z :: .int dp :: .ref (G.1 + oCTRIES i1 i2) :: .int sp :: .ref (G.1 + q0) :: st) := by
  obtain ⟨p, l, e, R, s, m, args, below, meth, c, Q, H0, Wd, A, nL, cells, slots⟩ := X
  obtain ⟨⟨hx, hb, hml, hown, hts⟩, hlocks⟩ := ok
  obtain ⟨hWd, hA, ⟨hK, -⟩, -, -⟩ := hG
  subst he; subst hWd; subst hA
  intro H locs ls hW hS hl
  subst c1; subst c2; subst c3
  have hset := wC_set (G := G) (M := M) (M' := cI M 56 i1 i2 f (tN sp) (tN dp) (tN z)) (f := 56) (ky_CTRIES i1 h1 i2 h2) rfl (fun _ => by decide) (cI_1 rfl) (fun _ _ _ _ _ => rfl)
  have e : ce G (cI M 56 i1 i2 f (tN sp) (tN dp) (tN z)) 19 i1 i2 0 = .inl (G.2.2 0, 4, .inl (va_cpy f (fun k => M.1 56 i1 i2 k) (tN sp) (tN dp) (tN z))) := by
    show Sum.inl _ = Sum.inl _
    refine congrArg (fun g => Sum.inl (G.2.2 0, 4, Sum.inl g)) (funext fun k => ?_)
    simp [cI]
  rw [e] at hset
  refine va_copyi hx hb (hml.trans hl.1.symm) hown (hts _ hw) (hts _ hw2) (hts _ hw3) (hts _ hw4) hK hW (wC_D G M) hS q0 (oCTRIES i1 i2) 0 0 hsrc (wC_get (ky_CTRIES i1 h1 i2 h2)) rfl rfl rfl h1' h2' h3' h4 h5 (fun _ _ => rfl) hR.1 hR.2 d (fun H1 locs1 hP1 _ hS1 => k H1 locs1 ls ?_ hS1 hl)
  show va_P _ _ _ _
  rw [← hset]
  exact hP1
theorem al_LROW (he : pc + 1 = n) (ok : Ok X cc own) (hG : GC X G) {i1 : Nat} (h1 : i1 < 9) {i2 : Nat} (h2 : i2 < 4) {x : Int32} (hin : vp_in x 20) (d : decode cc pc = .ok (.iaload, 1)) (k : Wt X M n lv (.int (M.1 61 i1 i2 (tN x)) :: st)) : Wt X M pc lv (.int x :: .ref (G.1 + oLROW i1 i2) :: st) := by
  obtain ⟨p, l, e, R, s, m, args, below, meth, c, Q, H0, Wd, A, nL, cells, slots⟩ := X
  obtain ⟨⟨hx, hb, hml, hown, hts⟩, hlocks⟩ := ok
  obtain ⟨hWd, hA, ⟨hK, -⟩, -, -⟩ := hG
  subst he; subst hWd; subst hA
  intro H locs ls hW hS hl
  exact va_iald hx hb hK hW (oLROW i1 i2) 0 (wC_get (ky_LROW i1 h1 i2 h2)) rfl hin d (k H locs ls hW hS hl)
theorem as_LROW (he : pc + 1 = n) (ok : Ok X cc own) (hG : GC X G) {i1 : Nat} (h1 : i1 < 9) {i2 : Nat} (h2 : i2 < 4) {x : Int32} {v : Int32} (hin : vp_in x 20) (d : decode cc pc = .ok (.iastore, 1)) (k : Wt X (wI M 61 i1 i2 (tN x) v) n lv st) : Wt X M pc lv (.int v :: .int x :: .ref (G.1 + oLROW i1 i2) :: st) := by
  obtain ⟨p, l, e, R, s, m, args, below, meth, c, Q, H0, Wd, A, nL, cells, slots⟩ := X
  obtain ⟨⟨hx, hb, hml, hown, hts⟩, hlocks⟩ := ok
  obtain ⟨hWd, hA, ⟨hK, -⟩, -, -⟩ := hG
  subst he; subst hWd; subst hA
  intro H locs ls hW hS hl
  have hset := wC_set (G := G) (M := M) (M' := wI M 61 i1 i2 (tN x) v) (f := 61) (ky_LROW i1 h1 i2 h2) rfl (fun _ => by decide) (wI_1a rfl) (fun _ _ _ _ _ => rfl)
  have e : ce G (wI M 61 i1 i2 (tN x) v) 10 i1 i2 0 = .inl (G.2.2 0, 20, .inl (upd (fun k => M.1 61 i1 i2 k) (tN x) v)) := by
    show Sum.inl _ = Sum.inl _
    refine congrArg (fun g => Sum.inl (G.2.2 0, 20, Sum.inl g)) (funext fun k => ?_)
    simp [wI, upd]
  rw [e] at hset
  refine va_iast hx hb hK hW (wC_D G M) hS (oLROW i1 i2) 0 (wC_get (ky_LROW i1 h1 i2 h2)) rfl hin d (fun H1 locs1 hP1 _ hS1 => k H1 locs1 ls ?_ hS1 hl)
  show va_P _ _ _ _
  rw [← hset]
  exact hP1
theorem cp_LROW (he : pc + 3 = n) (ok : Ok X cc own) (hG : GC X G) {i1 : Nat} (h1 : i1 < 9) {i2 : Nat} (h2 : i2 < 4) {q0 n0 : Nat} {f : Nat → Int32} (hsrc : (wC G M)[q0]? = some (G.1 + q0, .inl (G.2.2 0, n0, .inl f))) {sp dp z : Int32} {sn dn zn : Nat} (c1 : tN sp = sn) (c2 : tN dp = dn) (c3 : tN z = zn) (h1' : ¬ sp < 0) (h2' : ¬ dp < 0) (h3' : ¬ z < 0) (h4 : sn + zn ≤ n0) (h5 : dn + zn ≤ 20) {ix : Nat} (hw : Cond.methodLink own ix arraycopyName ∈ gw) (hw2 : Cond.native arraycopyName ∈ gw) (hw3 : Cond.static arraycopyName ∈ gw) (hw4 : Cond.initialized "java/lang/System" ∈ gw) (hR : 1 ≤ X.R.frames ∧ (st.map fun v => v.category).sum + (nativeFrameWords "java/lang/System" "arraycopy" 5 + 11) ≤ X.R.locals) (d : decode cc pc = .ok (.invokestatic ix, 3)) (k : Wt X (cI M 61 i1 i2 f sn dn zn) n lv st) : Wt X M pc lv (.int z :: .int dp :: .ref (G.1 + oLROW i1 i2) :: .int sp :: .ref (G.1 + q0) :: st) := by
  obtain ⟨p, l, e, R, s, m, args, below, meth, c, Q, H0, Wd, A, nL, cells, slots⟩ := X
  obtain ⟨⟨hx, hb, hml, hown, hts⟩, hlocks⟩ := ok
  obtain ⟨hWd, hA, ⟨hK, -⟩, -, -⟩ := hG
  subst he; subst hWd; subst hA
  intro H locs ls hW hS hl
  subst c1; subst c2; subst c3
  have hset := wC_set (G := G) (M := M) (M' := cI M 61 i1 i2 f (tN sp) (tN dp) (tN z)) (f := 61) (ky_LROW i1 h1 i2 h2) rfl (fun _ => by decide) (cI_1 rfl) (fun _ _ _ _ _ => rfl)
  have e : ce G (cI M 61 i1 i2 f (tN sp) (tN dp) (tN z)) 10 i1 i2 0 = .inl (G.2.2 0, 20, .inl (va_cpy f (fun k => M.1 61 i1 i2 k) (tN sp) (tN dp) (tN z))) := by
    show Sum.inl _ = Sum.inl _
    refine congrArg (fun g => Sum.inl (G.2.2 0, 20, Sum.inl g)) (funext fun k => ?_)
    simp [cI]
  rw [e] at hset
  refine va_copyi hx hb (hml.trans hl.1.symm) hown (hts _ hw) (hts _ hw2) (hts _ hw3) (hts _ hw4) hK hW (wC_D G M) hS q0 (oLROW i1 i2) 0 0 hsrc (wC_get (ky_LROW i1 h1 i2 h2)) rfl rfl rfl h1' h2' h3' h4 h5 (fun _ _ => rfl) hR.1 hR.2 d (fun H1 locs1 hP1 _ hS1 => k H1 locs1 ls ?_ hS1 hl)
  show va_P _ _ _ _
  rw [← hset]
  exact hP1
theorem al_SRATES (he : pc + 1 = n) (ok : Ok X cc own) (hG : GC X G)  {x : Int32} (hin : vp_in x 8) (d : decode cc pc = .ok (.iaload, 1)) (k : Wt X M n lv (.int (M.1 81 0 0 (tN x)) :: st)) : Wt X M pc lv (.int x :: .ref (G.1 + oSRATES) :: st) := by
  obtain ⟨p, l, e, R, s, m, args, below, meth, c, Q, H0, Wd, A, nL, cells, slots⟩ := X
  obtain ⟨⟨hx, hb, hml, hown, hts⟩, hlocks⟩ := ok
  obtain ⟨hWd, hA, ⟨hK, -⟩, -, -⟩ := hG
  subst he; subst hWd; subst hA
  intro H locs ls hW hS hl
  exact va_iald hx hb hK hW (oSRATES) 0 (wC_get (ky_SRATES)) rfl hin d (k H locs ls hW hS hl)
theorem as_SRATES (he : pc + 1 = n) (ok : Ok X cc own) (hG : GC X G)  {x : Int32} {v : Int32} (hin : vp_in x 8) (d : decode cc pc = .ok (.iastore, 1)) (k : Wt X (wI M 81 0 0 (tN x) v) n lv st) : Wt X M pc lv (.int v :: .int x :: .ref (G.1 + oSRATES) :: st) := by
  obtain ⟨p, l, e, R, s, m, args, below, meth, c, Q, H0, Wd, A, nL, cells, slots⟩ := X
  obtain ⟨⟨hx, hb, hml, hown, hts⟩, hlocks⟩ := ok
  obtain ⟨hWd, hA, ⟨hK, -⟩, -, -⟩ := hG
  subst he; subst hWd; subst hA
  intro H locs ls hW hS hl
  have hset := wC_set (G := G) (M := M) (M' := wI M 81 0 0 (tN x) v) (f := 81) (ky_SRATES) rfl (fun _ => by decide) (wI_1a rfl) (fun _ _ _ _ _ => rfl)
  have e : ce G (wI M 81 0 0 (tN x) v) 25 0 0 0 = .inl (G.2.2 0, 8, .inl (upd (fun k => M.1 81 0 0 k) (tN x) v)) := by
    show Sum.inl _ = Sum.inl _
    refine congrArg (fun g => Sum.inl (G.2.2 0, 8, Sum.inl g)) (funext fun k => ?_)
    simp [wI, upd]
  rw [e] at hset
  refine va_iast hx hb hK hW (wC_D G M) hS (oSRATES) 0 (wC_get (ky_SRATES)) rfl hin d (fun H1 locs1 hP1 _ hS1 => k H1 locs1 ls ?_ hS1 hl)
  show va_P _ _ _ _
  rw [← hset]
  exact hP1
theorem al_SMISS (he : pc + 1 = n) (ok : Ok X cc own) (hG : GC X G)  {x : Int32} (hin : vp_in x 8) (d : decode cc pc = .ok (.iaload, 1)) (k : Wt X M n lv (.int (M.1 82 0 0 (tN x)) :: st)) : Wt X M pc lv (.int x :: .ref (G.1 + oSMISS) :: st) := by
  obtain ⟨p, l, e, R, s, m, args, below, meth, c, Q, H0, Wd, A, nL, cells, slots⟩ := X
  obtain ⟨⟨hx, hb, hml, hown, hts⟩, hlocks⟩ := ok
  obtain ⟨hWd, hA, ⟨hK, -⟩, -, -⟩ := hG
  subst he; subst hWd; subst hA
  intro H locs ls hW hS hl
  exact va_iald hx hb hK hW (oSMISS) 0 (wC_get (ky_SMISS)) rfl hin d (k H locs ls hW hS hl)
theorem as_SMISS (he : pc + 1 = n) (ok : Ok X cc own) (hG : GC X G)  {x : Int32} {v : Int32} (hin : vp_in x 8) (d : decode cc pc = .ok (.iastore, 1)) (k : Wt X (wI M 82 0 0 (tN x) v) n lv st) : Wt X M pc lv (.int v :: .int x :: .ref (G.1 + oSMISS) :: st) := by
  obtain ⟨p, l, e, R, s, m, args, below, meth, c, Q, H0, Wd, A, nL, cells, slots⟩ := X
  obtain ⟨⟨hx, hb, hml, hown, hts⟩, hlocks⟩ := ok
  obtain ⟨hWd, hA, ⟨hK, -⟩, -, -⟩ := hG
  subst he; subst hWd; subst hA
  intro H locs ls hW hS hl
  have hset := wC_set (G := G) (M := M) (M' := wI M 82 0 0 (tN x) v) (f := 82) (ky_SMISS) rfl (fun _ => by decide) (wI_1a rfl) (fun _ _ _ _ _ => rfl)
  have e : ce G (wI M 82 0 0 (tN x) v) 26 0 0 0 = .inl (G.2.2 0, 8, .inl (upd (fun k => M.1 82 0 0 k) (tN x) v)) := by
    show Sum.inl _ = Sum.inl _
    refine congrArg (fun g => Sum.inl (G.2.2 0, 8, Sum.inl g)) (funext fun k => ?_)
    simp [wI, upd]
  rw [e] at hset
  refine va_iast hx hb hK hW (wC_D G M) hS (oSMISS) 0 (wC_get (ky_SMISS)) rfl hin d (fun H1 locs1 hP1 _ hS1 => k H1 locs1 ls ?_ hS1 hl)
  show va_P _ _ _ _
  rw [← hset]
  exact hP1
theorem al_STRIES (he : pc + 1 = n) (ok : Ok X cc own) (hG : GC X G)  {x : Int32} (hin : vp_in x 8) (d : decode cc pc = .ok (.iaload, 1)) (k : Wt X M n lv (.int (M.1 83 0 0 (tN x)) :: st)) : Wt X M pc lv (.int x :: .ref (G.1 + oSTRIES) :: st) := by
  obtain ⟨p, l, e, R, s, m, args, below, meth, c, Q, H0, Wd, A, nL, cells, slots⟩ := X
  obtain ⟨⟨hx, hb, hml, hown, hts⟩, hlocks⟩ := ok
  obtain ⟨hWd, hA, ⟨hK, -⟩, -, -⟩ := hG
  subst he; subst hWd; subst hA
  intro H locs ls hW hS hl
  exact va_iald hx hb hK hW (oSTRIES) 0 (wC_get (ky_STRIES)) rfl hin d (k H locs ls hW hS hl)
theorem as_STRIES (he : pc + 1 = n) (ok : Ok X cc own) (hG : GC X G)  {x : Int32} {v : Int32} (hin : vp_in x 8) (d : decode cc pc = .ok (.iastore, 1)) (k : Wt X (wI M 83 0 0 (tN x) v) n lv st) : Wt X M pc lv (.int v :: .int x :: .ref (G.1 + oSTRIES) :: st) := by
  obtain ⟨p, l, e, R, s, m, args, below, meth, c, Q, H0, Wd, A, nL, cells, slots⟩ := X
  obtain ⟨⟨hx, hb, hml, hown, hts⟩, hlocks⟩ := ok
  obtain ⟨hWd, hA, ⟨hK, -⟩, -, -⟩ := hG
  subst he; subst hWd; subst hA
  intro H locs ls hW hS hl
  have hset := wC_set (G := G) (M := M) (M' := wI M 83 0 0 (tN x) v) (f := 83) (ky_STRIES) rfl (fun _ => by decide) (wI_1a rfl) (fun _ _ _ _ _ => rfl)
  have e : ce G (wI M 83 0 0 (tN x) v) 27 0 0 0 = .inl (G.2.2 0, 8, .inl (upd (fun k => M.1 83 0 0 k) (tN x) v)) := by
    show Sum.inl _ = Sum.inl _
    refine congrArg (fun g => Sum.inl (G.2.2 0, 8, Sum.inl g)) (funext fun k => ?_)
    simp [wI, upd]
  rw [e] at hset
  refine va_iast hx hb hK hW (wC_D G M) hS (oSTRIES) 0 (wC_get (ky_STRIES)) rfl hin d (fun H1 locs1 hP1 _ hS1 => k H1 locs1 ls ?_ hS1 hl)
  show va_P _ _ _ _
  rw [← hset]
  exact hP1
theorem al_STROW (he : pc + 1 = n) (ok : Ok X cc own) (hG : GC X G) {i2 : Nat} (h2 : i2 < 8) {x : Int32} (hin : vp_in x 7) (d : decode cc pc = .ok (.iaload, 1)) (k : Wt X M n lv (.int (M.1 84 0 i2 (tN x)) :: st)) : Wt X M pc lv (.int x :: .ref (G.1 + oSTROW i2) :: st) := by
  obtain ⟨p, l, e, R, s, m, args, below, meth, c, Q, H0, Wd, A, nL, cells, slots⟩ := X
  obtain ⟨⟨hx, hb, hml, hown, hts⟩, hlocks⟩ := ok
  obtain ⟨hWd, hA, ⟨hK, -⟩, -, -⟩ := hG
  subst he; subst hWd; subst hA
  intro H locs ls hW hS hl
  exact va_iald hx hb hK hW (oSTROW i2) 0 (wC_get (ky_STROW i2 h2)) rfl hin d (k H locs ls hW hS hl)
theorem as_STROW (he : pc + 1 = n) (ok : Ok X cc own) (hG : GC X G) {i2 : Nat} (h2 : i2 < 8) {x : Int32} {v : Int32} (hin : vp_in x 7) (d : decode cc pc = .ok (.iastore, 1)) (k : Wt X (wI M 84 0 i2 (tN x) v) n lv st) : Wt X M pc lv (.int v :: .int x :: .ref (G.1 + oSTROW i2) :: st) := by
  obtain ⟨p, l, e, R, s, m, args, below, meth, c, Q, H0, Wd, A, nL, cells, slots⟩ := X
  obtain ⟨⟨hx, hb, hml, hown, hts⟩, hlocks⟩ := ok
  obtain ⟨hWd, hA, ⟨hK, -⟩, -, -⟩ := hG
  subst he; subst hWd; subst hA
  intro H locs ls hW hS hl
  have hset := wC_set (G := G) (M := M) (M' := wI M 84 0 i2 (tN x) v) (f := 84) (ky_STROW i2 h2) rfl (fun _ => by decide) (wI_1a rfl) (fun _ _ _ _ _ => rfl)
  have e : ce G (wI M 84 0 i2 (tN x) v) 29 0 i2 0 = .inl (G.2.2 0, 7, .inl (upd (fun k => M.1 84 0 i2 k) (tN x) v)) := by
    show Sum.inl _ = Sum.inl _
    refine congrArg (fun g => Sum.inl (G.2.2 0, 7, Sum.inl g)) (funext fun k => ?_)
    simp [wI, upd]
  rw [e] at hset
  refine va_iast hx hb hK hW (wC_D G M) hS (oSTROW i2) 0 (wC_get (ky_STROW i2 h2)) rfl hin d (fun H1 locs1 hP1 _ hS1 => k H1 locs1 ls ?_ hS1 hl)
  show va_P _ _ _ _
  rw [← hset]
  exact hP1
theorem al_SREACH (he : pc + 1 = n) (ok : Ok X cc own) (hG : GC X G)  {x : Int32} (hin : vp_in x 5) (d : decode cc pc = .ok (.laload, 1)) (k : Wt X M n lv (.long (M.2 85 0 0 (tN x)) :: st)) : Wt X M pc lv (.int x :: .ref (G.1 + oSREACH) :: st) := by
  obtain ⟨p, l, e, R, s, m, args, below, meth, c, Q, H0, Wd, A, nL, cells, slots⟩ := X
  obtain ⟨⟨hx, hb, hml, hown, hts⟩, hlocks⟩ := ok
  obtain ⟨hWd, hA, ⟨hK, -⟩, -, -⟩ := hG
  subst he; subst hWd; subst hA
  intro H locs ls hW hS hl
  exact va_lald hx hb hK hW (oSREACH) 1 (wC_get (ky_SREACH)) rfl hin d (k H locs ls hW hS hl)
theorem as_SREACH (he : pc + 1 = n) (ok : Ok X cc own) (hG : GC X G)  {x : Int32} {v : Int64} (hin : vp_in x 5) (d : decode cc pc = .ok (.lastore, 1)) (k : Wt X (wL M 85 0 0 (tN x) v) n lv st) : Wt X M pc lv (.long v :: .int x :: .ref (G.1 + oSREACH) :: st) := by
  obtain ⟨p, l, e, R, s, m, args, below, meth, c, Q, H0, Wd, A, nL, cells, slots⟩ := X
  obtain ⟨⟨hx, hb, hml, hown, hts⟩, hlocks⟩ := ok
  obtain ⟨hWd, hA, ⟨hK, -⟩, -, -⟩ := hG
  subst he; subst hWd; subst hA
  intro H locs ls hW hS hl
  have hset := wC_set (G := G) (M := M) (M' := wL M 85 0 0 (tN x) v) (f := 85) (ky_SREACH) rfl (fun _ => by decide) (fun _ _ _ _ _ => rfl) (wL_2a rfl)
  have e : ce G (wL M 85 0 0 (tN x) v) 30 0 0 0 = .inl (G.2.2 1, 5, .inr (.inl (vp_updL (fun k => M.2 85 0 0 k) (tN x) v))) := by
    show Sum.inl _ = Sum.inl _
    refine congrArg (fun g => Sum.inl (G.2.2 1, 5, Sum.inr (Sum.inl g))) (funext fun k => ?_)
    simp [wL, vp_updL]
  rw [e] at hset
  refine va_last hx hb hK hW (wC_D G M) hS (oSREACH) 1 (wC_get (ky_SREACH)) rfl hin d (fun H1 locs1 hP1 _ hS1 => k H1 locs1 ls ?_ hS1 hl)
  show va_P _ _ _ _
  rw [← hset]
  exact hP1
theorem al_SSUMS (he : pc + 1 = n) (ok : Ok X cc own) (hG : GC X G)  {x : Int32} (hin : vp_in x 5) (d : decode cc pc = .ok (.laload, 1)) (k : Wt X M n lv (.long (M.2 86 0 0 (tN x)) :: st)) : Wt X M pc lv (.int x :: .ref (G.1 + oSSUMS) :: st) := by
  obtain ⟨p, l, e, R, s, m, args, below, meth, c, Q, H0, Wd, A, nL, cells, slots⟩ := X
  obtain ⟨⟨hx, hb, hml, hown, hts⟩, hlocks⟩ := ok
  obtain ⟨hWd, hA, ⟨hK, -⟩, -, -⟩ := hG
  subst he; subst hWd; subst hA
  intro H locs ls hW hS hl
  exact va_lald hx hb hK hW (oSSUMS) 1 (wC_get (ky_SSUMS)) rfl hin d (k H locs ls hW hS hl)
theorem as_SSUMS (he : pc + 1 = n) (ok : Ok X cc own) (hG : GC X G)  {x : Int32} {v : Int64} (hin : vp_in x 5) (d : decode cc pc = .ok (.lastore, 1)) (k : Wt X (wL M 86 0 0 (tN x) v) n lv st) : Wt X M pc lv (.long v :: .int x :: .ref (G.1 + oSSUMS) :: st) := by
  obtain ⟨p, l, e, R, s, m, args, below, meth, c, Q, H0, Wd, A, nL, cells, slots⟩ := X
  obtain ⟨⟨hx, hb, hml, hown, hts⟩, hlocks⟩ := ok
  obtain ⟨hWd, hA, ⟨hK, -⟩, -, -⟩ := hG
  subst he; subst hWd; subst hA
  intro H locs ls hW hS hl
  have hset := wC_set (G := G) (M := M) (M' := wL M 86 0 0 (tN x) v) (f := 86) (ky_SSUMS) rfl (fun _ => by decide) (fun _ _ _ _ _ => rfl) (wL_2a rfl)
  have e : ce G (wL M 86 0 0 (tN x) v) 31 0 0 0 = .inl (G.2.2 1, 5, .inr (.inl (vp_updL (fun k => M.2 86 0 0 k) (tN x) v))) := by
    show Sum.inl _ = Sum.inl _
    refine congrArg (fun g => Sum.inl (G.2.2 1, 5, Sum.inr (Sum.inl g))) (funext fun k => ?_)
    simp [wL, vp_updL]
  rw [e] at hset
  refine va_last hx hb hK hW (wC_D G M) hS (oSSUMS) 1 (wC_get (ky_SSUMS)) rfl hin d (fun H1 locs1 hP1 _ hS1 => k H1 locs1 ls ?_ hS1 hl)
  show va_P _ _ _ _
  rw [← hset]
  exact hP1
theorem al_SENT (he : pc + 1 = n) (ok : Ok X cc own) (hG : GC X G)  {x : Int32} (hin : vp_in x 4) (d : decode cc pc = .ok (.iaload, 1)) (k : Wt X M n lv (.int (M.1 87 0 0 (tN x)) :: st)) : Wt X M pc lv (.int x :: .ref (G.1 + oSENT) :: st) := by
  obtain ⟨p, l, e, R, s, m, args, below, meth, c, Q, H0, Wd, A, nL, cells, slots⟩ := X
  obtain ⟨⟨hx, hb, hml, hown, hts⟩, hlocks⟩ := ok
  obtain ⟨hWd, hA, ⟨hK, -⟩, -, -⟩ := hG
  subst he; subst hWd; subst hA
  intro H locs ls hW hS hl
  exact va_iald hx hb hK hW (oSENT) 0 (wC_get (ky_SENT)) rfl hin d (k H locs ls hW hS hl)
theorem as_SENT (he : pc + 1 = n) (ok : Ok X cc own) (hG : GC X G)  {x : Int32} {v : Int32} (hin : vp_in x 4) (d : decode cc pc = .ok (.iastore, 1)) (k : Wt X (wI M 87 0 0 (tN x) v) n lv st) : Wt X M pc lv (.int v :: .int x :: .ref (G.1 + oSENT) :: st) := by
  obtain ⟨p, l, e, R, s, m, args, below, meth, c, Q, H0, Wd, A, nL, cells, slots⟩ := X
  obtain ⟨⟨hx, hb, hml, hown, hts⟩, hlocks⟩ := ok
  obtain ⟨hWd, hA, ⟨hK, -⟩, -, -⟩ := hG
  subst he; subst hWd; subst hA
  intro H locs ls hW hS hl
  have hset := wC_set (G := G) (M := M) (M' := wI M 87 0 0 (tN x) v) (f := 87) (ky_SENT) rfl (fun _ => by decide) (wI_1a rfl) (fun _ _ _ _ _ => rfl)
  have e : ce G (wI M 87 0 0 (tN x) v) 32 0 0 0 = .inl (G.2.2 0, 4, .inl (upd (fun k => M.1 87 0 0 k) (tN x) v)) := by
    show Sum.inl _ = Sum.inl _
    refine congrArg (fun g => Sum.inl (G.2.2 0, 4, Sum.inl g)) (funext fun k => ?_)
    simp [wI, upd]
  rw [e] at hset
  refine va_iast hx hb hK hW (wC_D G M) hS (oSENT) 0 (wC_get (ky_SENT)) rfl hin d (fun H1 locs1 hP1 _ hS1 => k H1 locs1 ls ?_ hS1 hl)
  show va_P _ _ _ _
  rw [← hset]
  exact hP1
theorem al_SBEST (he : pc + 1 = n) (ok : Ok X cc own) (hG : GC X G)  {x : Int32} (hin : vp_in x 4) (d : decode cc pc = .ok (.iaload, 1)) (k : Wt X M n lv (.int (M.1 88 0 0 (tN x)) :: st)) : Wt X M pc lv (.int x :: .ref (G.1 + oSBEST) :: st) := by
  obtain ⟨p, l, e, R, s, m, args, below, meth, c, Q, H0, Wd, A, nL, cells, slots⟩ := X
  obtain ⟨⟨hx, hb, hml, hown, hts⟩, hlocks⟩ := ok
  obtain ⟨hWd, hA, ⟨hK, -⟩, -, -⟩ := hG
  subst he; subst hWd; subst hA
  intro H locs ls hW hS hl
  exact va_iald hx hb hK hW (oSBEST) 0 (wC_get (ky_SBEST)) rfl hin d (k H locs ls hW hS hl)
theorem as_SBEST (he : pc + 1 = n) (ok : Ok X cc own) (hG : GC X G)  {x : Int32} {v : Int32} (hin : vp_in x 4) (d : decode cc pc = .ok (.iastore, 1)) (k : Wt X (wI M 88 0 0 (tN x) v) n lv st) : Wt X M pc lv (.int v :: .int x :: .ref (G.1 + oSBEST) :: st) := by
  obtain ⟨p, l, e, R, s, m, args, below, meth, c, Q, H0, Wd, A, nL, cells, slots⟩ := X
  obtain ⟨⟨hx, hb, hml, hown, hts⟩, hlocks⟩ := ok
  obtain ⟨hWd, hA, ⟨hK, -⟩, -, -⟩ := hG
  subst he; subst hWd; subst hA
  intro H locs ls hW hS hl
  have hset := wC_set (G := G) (M := M) (M' := wI M 88 0 0 (tN x) v) (f := 88) (ky_SBEST) rfl (fun _ => by decide) (wI_1a rfl) (fun _ _ _ _ _ => rfl)
  have e : ce G (wI M 88 0 0 (tN x) v) 33 0 0 0 = .inl (G.2.2 0, 4, .inl (upd (fun k => M.1 88 0 0 k) (tN x) v)) := by
    show Sum.inl _ = Sum.inl _
    refine congrArg (fun g => Sum.inl (G.2.2 0, 4, Sum.inl g)) (funext fun k => ?_)
    simp [wI, upd]
  rw [e] at hset
  refine va_iast hx hb hK hW (wC_D G M) hS (oSBEST) 0 (wC_get (ky_SBEST)) rfl hin d (fun H1 locs1 hP1 _ hS1 => k H1 locs1 ls ?_ hS1 hl)
  show va_P _ _ _ _
  rw [← hset]
  exact hP1
theorem cp_SBEST (he : pc + 3 = n) (ok : Ok X cc own) (hG : GC X G)  {q0 n0 : Nat} {f : Nat → Int32} (hsrc : (wC G M)[q0]? = some (G.1 + q0, .inl (G.2.2 0, n0, .inl f))) {sp dp z : Int32} {sn dn zn : Nat} (c1 : tN sp = sn) (c2 : tN dp = dn) (c3 : tN z = zn) (h1' : ¬ sp < 0) (h2' : ¬ dp < 0) (h3' : ¬ z < 0) (h4 : sn + zn ≤ n0) (h5 : dn + zn ≤ 4) {ix : Nat} (hw : Cond.methodLink own ix arraycopyName ∈ gw) (hw2 : Cond.native arraycopyName ∈ gw) (hw3 : Cond.static arraycopyName ∈ gw) (hw4 : Cond.initialized "java/lang/System" ∈ gw) (hR : 1 ≤ X.R.frames ∧ (st.map fun v => v.category).sum + (nativeFrameWords "java/lang/System" "arraycopy" 5 + 11) ≤ X.R.locals) (d : decode cc pc = .ok (.invokestatic ix, 3)) (k : Wt X (cI M 88 0 0 f sn dn zn) n lv st) : Wt X M pc lv (.int z :: .int dp :: .ref (G.1 + oSBEST) :: .int sp :: .ref (G.1 + q0) :: st) := by
  obtain ⟨p, l, e, R, s, m, args, below, meth, c, Q, H0, Wd, A, nL, cells, slots⟩ := X
  obtain ⟨⟨hx, hb, hml, hown, hts⟩, hlocks⟩ := ok
  obtain ⟨hWd, hA, ⟨hK, -⟩, -, -⟩ := hG
  subst he; subst hWd; subst hA
  intro H locs ls hW hS hl
  subst c1; subst c2; subst c3
  have hset := wC_set (G := G) (M := M) (M' := cI M 88 0 0 f (tN sp) (tN dp) (tN z)) (f := 88) (ky_SBEST) rfl (fun _ => by decide) (cI_1 rfl) (fun _ _ _ _ _ => rfl)
  have e : ce G (cI M 88 0 0 f (tN sp) (tN dp) (tN z)) 33 0 0 0 = .inl (G.2.2 0, 4, .inl (va_cpy f (fun k => M.1 88 0 0 k) (tN sp) (tN dp) (tN z))) := by
    show Sum.inl _ = Sum.inl _
    refine congrArg (fun g => Sum.inl (G.2.2 0, 4, Sum.inl g)) (funext fun k => ?_)
    simp [cI]
  rw [e] at hset
  refine va_copyi hx hb (hml.trans hl.1.symm) hown (hts _ hw) (hts _ hw2) (hts _ hw3) (hts _ hw4) hK hW (wC_D G M) hS q0 (oSBEST) 0 0 hsrc (wC_get (ky_SBEST)) rfl rfl rfl h1' h2' h3' h4 h5 (fun _ _ => rfl) hR.1 hR.2 d (fun H1 locs1 hP1 _ hS1 => k H1 locs1 ls ?_ hS1 hl)
  show va_P _ _ _ _
  rw [← hset]
  exact hP1
theorem al_ISSAVED (he : pc + 1 = n) (ok : Ok X cc own) (hG : GC X G)  {x : Int32} (hin : vp_in x 2) (d : decode cc pc = .ok (.baload, 1)) (k : Wt X M n lv (.int (M.1 91 0 0 (tN x)) :: st)) : Wt X M pc lv (.int x :: .ref (G.1 + oISSAVED) :: st) := by
  obtain ⟨p, l, e, R, s, m, args, below, meth, c, Q, H0, Wd, A, nL, cells, slots⟩ := X
  obtain ⟨⟨hx, hb, hml, hown, hts⟩, hlocks⟩ := ok
  obtain ⟨hWd, hA, ⟨hK, -⟩, -, -⟩ := hG
  subst he; subst hWd; subst hA
  intro H locs ls hW hS hl
  exact va_zald hx hb hK hW (oISSAVED) 2 (wC_get (ky_ISSAVED)) rfl hin d (k H locs ls hW hS hl)
theorem as_ISSAVED (he : pc + 1 = n) (ok : Ok X cc own) (hG : GC X G)  {x : Int32} {v : Int32} (hz : v = 0 ∨ v = 1) (hin : vp_in x 2) (d : decode cc pc = .ok (.bastore, 1)) (k : Wt X (wI M 91 0 0 (tN x) v) n lv st) : Wt X M pc lv (.int v :: .int x :: .ref (G.1 + oISSAVED) :: st) := by
  obtain ⟨p, l, e, R, s, m, args, below, meth, c, Q, H0, Wd, A, nL, cells, slots⟩ := X
  obtain ⟨⟨hx, hb, hml, hown, hts⟩, hlocks⟩ := ok
  obtain ⟨hWd, hA, ⟨hK, -⟩, -, -⟩ := hG
  subst he; subst hWd; subst hA
  intro H locs ls hW hS hl
  have hset := wC_set (G := G) (M := M) (M' := wI M 91 0 0 (tN x) v) (f := 91) (ky_ISSAVED) rfl (fun _ => by decide) (wI_1a rfl) (fun _ _ _ _ _ => rfl)
  have e : ce G (wI M 91 0 0 (tN x) v) 21 0 0 0 = .inl (G.2.2 2, 2, .inl (upd (fun k => M.1 91 0 0 k) (tN x) v)) := by
    show Sum.inl _ = Sum.inl _
    refine congrArg (fun g => Sum.inl (G.2.2 2, 2, Sum.inl g)) (funext fun k => ?_)
    simp [wI, upd]
  rw [e] at hset
  refine va_zast hx hb hK hW (wC_D G M) hS (oISSAVED) 2 (wC_get (ky_ISSAVED)) rfl hin d (fun H1 locs1 hP1 _ hS1 => k H1 locs1 ls ?_ hS1 hl)
  show va_P _ _ _ _
  rw [← hset]
  rw [show vp_nar .boolean v = v by rcases hz with rfl | rfl <;> rfl] at hP1
  exact hP1
theorem al_STAS (he : pc + 1 = n) (ok : Ok X cc own) (hG : GC X G) {i1 : Nat} (h1 : i1 < 9) {x : Int32} (hin : vp_in x 4) (d : decode cc pc = .ok (.aaload, 1)) (k : Wt X M n lv (.ref (G.1 + oSTA i1 (tN x)) :: st)) : Wt X M pc lv (.int x :: .ref (G.1 + oSTAS i1) :: st) := by
  obtain ⟨p, l, e, R, s, m, args, below, meth, c, Q, H0, Wd, A, nL, cells, slots⟩ := X
  obtain ⟨⟨hx, hb, hml, hown, hts⟩, hlocks⟩ := ok
  obtain ⟨hWd, hA, ⟨hK, -⟩, -, -⟩ := hG
  subst he; subst hWd; subst hA
  intro H locs ls hW hS hl
  exact va_aldq hx hb hK hW (oSTAS i1) 4 (wC_get (ky_STAS i1 h1)) rfl hin d (k H locs ls hW hS hl)
theorem al_OPENS (he : pc + 1 = n) (ok : Ok X cc own) (hG : GC X G) {i1 : Nat} (h1 : i1 < 9) {x : Int32} (hin : vp_in x 6) (d : decode cc pc = .ok (.aaload, 1)) (k : Wt X M n lv (.ref (G.1 + oCHN i1 (tN x)) :: st)) : Wt X M pc lv (.int x :: .ref (G.1 + oOPENS i1) :: st) := by
  obtain ⟨p, l, e, R, s, m, args, below, meth, c, Q, H0, Wd, A, nL, cells, slots⟩ := X
  obtain ⟨⟨hx, hb, hml, hown, hts⟩, hlocks⟩ := ok
  obtain ⟨hWd, hA, ⟨hK, -⟩, -, -⟩ := hG
  subst he; subst hWd; subst hA
  intro H locs ls hW hS hl
  exact va_aldq hx hb hK hW (oOPENS i1) 5 (wC_get (ky_OPENS i1 h1)) rfl hin d (k H locs ls hW hS hl)
theorem al_LINKS (he : pc + 1 = n) (ok : Ok X cc own) (hG : GC X G) {i1 : Nat} (h1 : i1 < 9) {i2 : Nat} (h2 : i2 < 4) {x : Int32} (hin : vp_in x 8) (d : decode cc pc = .ok (.aaload, 1)) (k : Wt X M n lv (.ref (G.1 + oLNK i1 i2 (tN x)) :: st)) : Wt X M pc lv (.int x :: .ref (G.1 + oLINKS i1 i2) :: st) := by
  obtain ⟨p, l, e, R, s, m, args, below, meth, c, Q, H0, Wd, A, nL, cells, slots⟩ := X
  obtain ⟨⟨hx, hb, hml, hown, hts⟩, hlocks⟩ := ok
  obtain ⟨hWd, hA, ⟨hK, -⟩, -, -⟩ := hG
  subst he; subst hWd; subst hA
  intro H locs ls hW hS hl
  exact va_aldq hx hb hK hW (oLINKS i1 i2) 6 (wC_get (ky_LINKS i1 h1 i2 h2)) rfl hin d (k H locs ls hW hS hl)
theorem al_SLOTS (he : pc + 1 = n) (ok : Ok X cc own) (hG : GC X G)  {x : Int32} (hin : vp_in x 2) (d : decode cc pc = .ok (.aaload, 1)) (k : Wt X M n lv (.ref (G.1 + oNET (2 + tN x)) :: st)) : Wt X M pc lv (.int x :: .ref (G.1 + oSLOTS) :: st) := by
  obtain ⟨p, l, e, R, s, m, args, below, meth, c, Q, H0, Wd, A, nL, cells, slots⟩ := X
  obtain ⟨⟨hx, hb, hml, hown, hts⟩, hlocks⟩ := ok
  obtain ⟨hWd, hA, ⟨hK, -⟩, -, -⟩ := hG
  subst he; subst hWd; subst hA
  intro H locs ls hW hS hl
  exact va_aldq hx hb hK hW (oSLOTS) 3 (wC_get (ky_SLOTS)) rfl hin d (k H locs ls hW hS hl)
theorem al_STATES (he : pc + 1 = n) (ok : Ok X cc own) (hG : GC X G)  {x : Int32} (hin : vp_in x 5) (d : decode cc pc = .ok (.aaload, 1)) (k : Wt X M n lv (.ref (G.1 + oNET (4 + tN x)) :: st)) : Wt X M pc lv (.int x :: .ref (G.1 + oSTATES) :: st) := by
  obtain ⟨p, l, e, R, s, m, args, below, meth, c, Q, H0, Wd, A, nL, cells, slots⟩ := X
  obtain ⟨⟨hx, hb, hml, hown, hts⟩, hlocks⟩ := ok
  obtain ⟨hWd, hA, ⟨hK, -⟩, -, -⟩ := hG
  subst he; subst hWd; subst hA
  intro H locs ls hW hS hl
  exact va_aldq hx hb hK hW (oSTATES) 3 (wC_get (ky_STATES)) rfl hin d (k H locs ls hW hS hl)
theorem al_ROWS (he : pc + 1 = n) (ok : Ok X cc own) (hG : GC X G) {i1 : Nat} (h1 : i1 < 9) {x : Int32} (hin : vp_in x 4) (d : decode cc pc = .ok (.aaload, 1)) (k : Wt X M n lv (.ref (G.1 + oLROW i1 (tN x)) :: st)) : Wt X M pc lv (.int x :: .ref (G.1 + oROWS i1) :: st) := by
  obtain ⟨p, l, e, R, s, m, args, below, meth, c, Q, H0, Wd, A, nL, cells, slots⟩ := X
  obtain ⟨⟨hx, hb, hml, hown, hts⟩, hlocks⟩ := ok
  obtain ⟨hWd, hA, ⟨hK, -⟩, -, -⟩ := hG
  subst he; subst hWd; subst hA
  intro H locs ls hW hS hl
  exact va_aldA hx hb hK hW (oROWS i1) 7 (wC_get (ky_ROWS i1 h1)) rfl hin d (k H locs ls hW hS hl)
theorem al_STIMES (he : pc + 1 = n) (ok : Ok X cc own) (hG : GC X G)  {x : Int32} (hin : vp_in x 8) (d : decode cc pc = .ok (.aaload, 1)) (k : Wt X M n lv (.ref (G.1 + oSTROW (tN x)) :: st)) : Wt X M pc lv (.int x :: .ref (G.1 + oSTIMES) :: st) := by
  obtain ⟨p, l, e, R, s, m, args, below, meth, c, Q, H0, Wd, A, nL, cells, slots⟩ := X
  obtain ⟨⟨hx, hb, hml, hown, hts⟩, hlocks⟩ := ok
  obtain ⟨hWd, hA, ⟨hK, -⟩, -, -⟩ := hG
  subst he; subst hWd; subst hA
  intro H locs ls hW hS hl
  exact va_aldA hx hb hK hW (oSTIMES) 7 (wC_get (ky_STIMES)) rfl hin d (k H locs ls hW hS hl)
theorem g_MOD_v (he : pc + 3 = n) (ok : Ok X cc own) (hG : GM X G) {ix : Nat} (hw : Cond.fieldLink own ix "RetryChainsModel" "v" "[I" ∈ gw) (d : decode cc pc = .ok (.getfield ix, 3)) (k : Wt X M n lv (.ref (G.1 + 1) :: st)) : Wt X M pc lv (.ref (G.1 + 0) :: st) := by
  obtain ⟨p, l, e, R, s, m, args, below, meth, c, Q, H0, Wd, A, nL, cells, slots⟩ := X
  obtain ⟨⟨hx, hb, hml, hown, hts⟩, hlocks⟩ := ok
  obtain ⟨hWd, hA, ⟨hK, -⟩, -, -⟩ := hG
  subst he; subst hWd; subst hA
  intro H locs ls hW hS hl
  exact va_get (ci := 9) hx hb hts i_MOD hown hK hW 0 rfl rfl 0 (by decide) (hts _ hw) (fun _ h => h) rfl d (k H locs ls hW hS hl)
theorem g_MOD_saved (he : pc + 3 = n) (ok : Ok X cc own) (hG : GM X G) {ix : Nat} (hw : Cond.fieldLink own ix "RetryChainsModel" "saved" "[I" ∈ gw) (d : decode cc pc = .ok (.getfield ix, 3)) (k : Wt X M n lv (.ref (G.1 + 2) :: st)) : Wt X M pc lv (.ref (G.1 + 0) :: st) := by
  obtain ⟨p, l, e, R, s, m, args, below, meth, c, Q, H0, Wd, A, nL, cells, slots⟩ := X
  obtain ⟨⟨hx, hb, hml, hown, hts⟩, hlocks⟩ := ok
  obtain ⟨hWd, hA, ⟨hK, -⟩, -, -⟩ := hG
  subst he; subst hWd; subst hA
  intro H locs ls hW hS hl
  exact va_get (ci := 9) hx hb hts i_MOD hown hK hW 0 rfl rfl 1 (by decide) (hts _ hw) (fun _ h => h) rfl d (k H locs ls hW hS hl)
theorem g_MOD_isSaved (he : pc + 3 = n) (ok : Ok X cc own) (hG : GM X G) {ix : Nat} (hw : Cond.fieldLink own ix "RetryChainsModel" "isSaved" "[Z" ∈ gw) (d : decode cc pc = .ok (.getfield ix, 3)) (k : Wt X M n lv (.ref (G.1 + 3) :: st)) : Wt X M pc lv (.ref (G.1 + 0) :: st) := by
  obtain ⟨p, l, e, R, s, m, args, below, meth, c, Q, H0, Wd, A, nL, cells, slots⟩ := X
  obtain ⟨⟨hx, hb, hml, hown, hts⟩, hlocks⟩ := ok
  obtain ⟨hWd, hA, ⟨hK, -⟩, -, -⟩ := hG
  subst he; subst hWd; subst hA
  intro H locs ls hW hS hl
  exact va_get (ci := 9) hx hb hts i_MOD hown hK hW 0 rfl rfl 2 (by decide) (hts _ hw) (fun _ h => h) rfl d (k H locs ls hW hS hl)
theorem g_MOD_past (he : pc + 3 = n) (ok : Ok X cc own) (hG : GM X G) {ix : Nat} (hw : Cond.fieldLink own ix "RetryChainsModel" "past" "[I" ∈ gw) (d : decode cc pc = .ok (.getfield ix, 3)) (k : Wt X M n lv (.ref (G.1 + 4) :: st)) : Wt X M pc lv (.ref (G.1 + 0) :: st) := by
  obtain ⟨p, l, e, R, s, m, args, below, meth, c, Q, H0, Wd, A, nL, cells, slots⟩ := X
  obtain ⟨⟨hx, hb, hml, hown, hts⟩, hlocks⟩ := ok
  obtain ⟨hWd, hA, ⟨hK, -⟩, -, -⟩ := hG
  subst he; subst hWd; subst hA
  intro H locs ls hW hS hl
  exact va_get (ci := 9) hx hb hts i_MOD hown hK hW 0 rfl rfl 3 (by decide) (hts _ hw) (fun _ h => h) rfl d (k H locs ls hW hS hl)
theorem g_MOD_aside (he : pc + 3 = n) (ok : Ok X cc own) (hG : GM X G) {ix : Nat} (hw : Cond.fieldLink own ix "RetryChainsModel" "aside" "[I" ∈ gw) (d : decode cc pc = .ok (.getfield ix, 3)) (k : Wt X M n lv (.ref (G.1 + 5) :: st)) : Wt X M pc lv (.ref (G.1 + 0) :: st) := by
  obtain ⟨p, l, e, R, s, m, args, below, meth, c, Q, H0, Wd, A, nL, cells, slots⟩ := X
  obtain ⟨⟨hx, hb, hml, hown, hts⟩, hlocks⟩ := ok
  obtain ⟨hWd, hA, ⟨hK, -⟩, -, -⟩ := hG
  subst he; subst hWd; subst hA
  intro H locs ls hW hS hl
  exact va_get (ci := 9) hx hb hts i_MOD hown hK hW 0 rfl rfl 4 (by decide) (hts _ hw) (fun _ h => h) rfl d (k H locs ls hW hS hl)
theorem g_MOD_pastMany (he : pc + 3 = n) (ok : Ok X cc own) (hG : GM X G) {ix : Nat} (hw : Cond.fieldLink own ix "RetryChainsModel" "pastMany" "I" ∈ gw) (d : decode cc pc = .ok (.getfield ix, 3)) (k : Wt X M n lv (.int (M.1 105 0 0 0) :: st)) : Wt X M pc lv (.ref (G.1 + 0) :: st) := by
  obtain ⟨p, l, e, R, s, m, args, below, meth, c, Q, H0, Wd, A, nL, cells, slots⟩ := X
  obtain ⟨⟨hx, hb, hml, hown, hts⟩, hlocks⟩ := ok
  obtain ⟨hWd, hA, ⟨hK, -⟩, -, -⟩ := hG
  subst he; subst hWd; subst hA
  intro H locs ls hW hS hl
  exact va_get (ci := 9) hx hb hts i_MOD hown hK hW 0 rfl rfl 5 (by decide) (hts _ hw) (fun _ h => h) rfl d (k H locs ls hW hS hl)
theorem p_MOD_pastMany (he : pc + 3 = n) (ok : Ok X cc own) (hG : GM X G) {v : Int32} {ix : Nat} (hw : Cond.fieldLink own ix "RetryChainsModel" "pastMany" "I" ∈ gw) (d : decode cc pc = .ok (.putfield ix, 3)) (k : Wt X (wI M 105 0 0 0 v) n lv st) : Wt X M pc lv (.int v :: .ref (G.1 + 0) :: st) := by
  obtain ⟨p, l, e, R, s, m, args, below, meth, c, Q, H0, Wd, A, nL, cells, slots⟩ := X
  obtain ⟨⟨hx, hb, hml, hown, hts⟩, hlocks⟩ := ok
  obtain ⟨hWd, hA, ⟨hK, -⟩, -, -⟩ := hG
  subst he; subst hWd; subst hA
  intro H locs ls hW hS hl
  refine va_put (ci := 9) hx hb hts i_MOD t_MOD t_MOD_ok n_MOD hown hK hW (wM_D G M) hS 0 rfl rfl 5 (by decide) (hts _ hw) (fun _ h => h) rfl (ty := .int) rfl rfl rfl (Nat.le_of_ble_eq_true rfl) d (fun H1 locs1 hP1 _ hS1 => k H1 locs1 ls ?_ hS1 hl)
  show va_P _ _ _ _
  have e : wM G (wI M 105 0 0 0 v) = (wM G M).set 0 (G.1 + 0, .inr (9, List.set [.ref (G.1 + 1), .ref (G.1 + 2), .ref (G.1 + 3), .ref (G.1 + 4), .ref (G.1 + 5), .int (M.1 105 0 0 0), .long (M.2 106 0 0 0), .long (M.2 107 0 0 0)] 5 (.int v))) := by
    simp [wM, wI]
  rw [e]
  exact hP1
theorem g_MOD_tryReach (he : pc + 3 = n) (ok : Ok X cc own) (hG : GM X G) {ix : Nat} (hw : Cond.fieldLink own ix "RetryChainsModel" "tryReach" "J" ∈ gw) (d : decode cc pc = .ok (.getfield ix, 3)) (k : Wt X M n lv (.long (M.2 106 0 0 0) :: st)) : Wt X M pc lv (.ref (G.1 + 0) :: st) := by
  obtain ⟨p, l, e, R, s, m, args, below, meth, c, Q, H0, Wd, A, nL, cells, slots⟩ := X
  obtain ⟨⟨hx, hb, hml, hown, hts⟩, hlocks⟩ := ok
  obtain ⟨hWd, hA, ⟨hK, -⟩, -, -⟩ := hG
  subst he; subst hWd; subst hA
  intro H locs ls hW hS hl
  exact va_get (ci := 9) hx hb hts i_MOD hown hK hW 0 rfl rfl 6 (by decide) (hts _ hw) (fun _ h => h) rfl d (k H locs ls hW hS hl)
theorem p_MOD_tryReach (he : pc + 3 = n) (ok : Ok X cc own) (hG : GM X G) {v : Int64} {ix : Nat} (hw : Cond.fieldLink own ix "RetryChainsModel" "tryReach" "J" ∈ gw) (d : decode cc pc = .ok (.putfield ix, 3)) (k : Wt X (wL M 106 0 0 0 v) n lv st) : Wt X M pc lv (.long v :: .ref (G.1 + 0) :: st) := by
  obtain ⟨p, l, e, R, s, m, args, below, meth, c, Q, H0, Wd, A, nL, cells, slots⟩ := X
  obtain ⟨⟨hx, hb, hml, hown, hts⟩, hlocks⟩ := ok
  obtain ⟨hWd, hA, ⟨hK, -⟩, -, -⟩ := hG
  subst he; subst hWd; subst hA
  intro H locs ls hW hS hl
  refine va_put (ci := 9) hx hb hts i_MOD t_MOD t_MOD_ok n_MOD hown hK hW (wM_D G M) hS 0 rfl rfl 6 (by decide) (hts _ hw) (fun _ h => h) rfl (ty := .long) rfl rfl rfl (Nat.le_of_ble_eq_true rfl) d (fun H1 locs1 hP1 _ hS1 => k H1 locs1 ls ?_ hS1 hl)
  show va_P _ _ _ _
  have e : wM G (wL M 106 0 0 0 v) = (wM G M).set 0 (G.1 + 0, .inr (9, List.set [.ref (G.1 + 1), .ref (G.1 + 2), .ref (G.1 + 3), .ref (G.1 + 4), .ref (G.1 + 5), .int (M.1 105 0 0 0), .long (M.2 106 0 0 0), .long (M.2 107 0 0 0)] 6 (.long v))) := by
    simp [wM, wL]
  rw [e]
  exact hP1
theorem g_MOD_trySum (he : pc + 3 = n) (ok : Ok X cc own) (hG : GM X G) {ix : Nat} (hw : Cond.fieldLink own ix "RetryChainsModel" "trySum" "J" ∈ gw) (d : decode cc pc = .ok (.getfield ix, 3)) (k : Wt X M n lv (.long (M.2 107 0 0 0) :: st)) : Wt X M pc lv (.ref (G.1 + 0) :: st) := by
  obtain ⟨p, l, e, R, s, m, args, below, meth, c, Q, H0, Wd, A, nL, cells, slots⟩ := X
  obtain ⟨⟨hx, hb, hml, hown, hts⟩, hlocks⟩ := ok
  obtain ⟨hWd, hA, ⟨hK, -⟩, -, -⟩ := hG
  subst he; subst hWd; subst hA
  intro H locs ls hW hS hl
  exact va_get (ci := 9) hx hb hts i_MOD hown hK hW 0 rfl rfl 7 (by decide) (hts _ hw) (fun _ h => h) rfl d (k H locs ls hW hS hl)
theorem p_MOD_trySum (he : pc + 3 = n) (ok : Ok X cc own) (hG : GM X G) {v : Int64} {ix : Nat} (hw : Cond.fieldLink own ix "RetryChainsModel" "trySum" "J" ∈ gw) (d : decode cc pc = .ok (.putfield ix, 3)) (k : Wt X (wL M 107 0 0 0 v) n lv st) : Wt X M pc lv (.long v :: .ref (G.1 + 0) :: st) := by
  obtain ⟨p, l, e, R, s, m, args, below, meth, c, Q, H0, Wd, A, nL, cells, slots⟩ := X
  obtain ⟨⟨hx, hb, hml, hown, hts⟩, hlocks⟩ := ok
  obtain ⟨hWd, hA, ⟨hK, -⟩, -, -⟩ := hG
  subst he; subst hWd; subst hA
  intro H locs ls hW hS hl
  refine va_put (ci := 9) hx hb hts i_MOD t_MOD t_MOD_ok n_MOD hown hK hW (wM_D G M) hS 0 rfl rfl 7 (by decide) (hts _ hw) (fun _ h => h) rfl (ty := .long) rfl rfl rfl (Nat.le_of_ble_eq_true rfl) d (fun H1 locs1 hP1 _ hS1 => k H1 locs1 ls ?_ hS1 hl)
  show va_P _ _ _ _
  have e : wM G (wL M 107 0 0 0 v) = (wM G M).set 0 (G.1 + 0, .inr (9, List.set [.ref (G.1 + 1), .ref (G.1 + 2), .ref (G.1 + 3), .ref (G.1 + 4), .ref (G.1 + 5), .int (M.1 105 0 0 0), .long (M.2 106 0 0 0), .long (M.2 107 0 0 0)] 7 (.long v))) := by
    simp [wM, wL]
  rw [e]
  exact hP1
theorem al_V (he : pc + 1 = n) (ok : Ok X cc own) (hG : GM X G) {x : Int32} (hin : vp_in x 600) (d : decode cc pc = .ok (.iaload, 1)) (k : Wt X M n lv (.int (M.1 100 0 0 (tN x)) :: st)) : Wt X M pc lv (.int x :: .ref (G.1 + 1) :: st) := by
  obtain ⟨p, l, e, R, s, m, args, below, meth, c, Q, H0, Wd, A, nL, cells, slots⟩ := X
  obtain ⟨⟨hx, hb, hml, hown, hts⟩, hlocks⟩ := ok
  obtain ⟨hWd, hA, ⟨hK, -⟩, -, -⟩ := hG
  subst he; subst hWd; subst hA
  intro H locs ls hW hS hl
  exact va_iald hx hb hK hW 1 0 rfl rfl hin d (k H locs ls hW hS hl)
theorem as_V (he : pc + 1 = n) (ok : Ok X cc own) (hG : GM X G) {x : Int32} {v : Int32} (hin : vp_in x 600) (d : decode cc pc = .ok (.iastore, 1)) (k : Wt X (wI M 100 0 0 (tN x) v) n lv st) : Wt X M pc lv (.int v :: .int x :: .ref (G.1 + 1) :: st) := by
  obtain ⟨p, l, e, R, s, m, args, below, meth, c, Q, H0, Wd, A, nL, cells, slots⟩ := X
  obtain ⟨⟨hx, hb, hml, hown, hts⟩, hlocks⟩ := ok
  obtain ⟨hWd, hA, ⟨hK, -⟩, -, -⟩ := hG
  subst he; subst hWd; subst hA
  intro H locs ls hW hS hl
  have e1 : (fun k => (wI M 100 0 0 (tN x) v).1 100 0 0 k) = upd (fun k => M.1 100 0 0 k) (tN x) v := funext fun k => by simp [wI, upd]
  have e : wM G (wI M 100 0 0 (tN x) v) = (wM G M).set 1 (G.1 + 1, .inl (G.2.2 0, 600, .inl (upd (fun k => M.1 100 0 0 k) (tN x) v))) := by
    rw [← e1]
    simp [wM, wI]
  refine va_iast hx hb hK hW (wM_D G M) hS 1 0 rfl rfl hin d (fun H1 locs1 hP1 _ hS1 => k H1 locs1 ls ?_ hS1 hl)
  show va_P _ _ _ _
  rw [e]
  exact hP1
theorem al_SAVED (he : pc + 1 = n) (ok : Ok X cc own) (hG : GM X G) {x : Int32} (hin : vp_in x 1200) (d : decode cc pc = .ok (.iaload, 1)) (k : Wt X M n lv (.int (M.1 101 0 0 (tN x)) :: st)) : Wt X M pc lv (.int x :: .ref (G.1 + 2) :: st) := by
  obtain ⟨p, l, e, R, s, m, args, below, meth, c, Q, H0, Wd, A, nL, cells, slots⟩ := X
  obtain ⟨⟨hx, hb, hml, hown, hts⟩, hlocks⟩ := ok
  obtain ⟨hWd, hA, ⟨hK, -⟩, -, -⟩ := hG
  subst he; subst hWd; subst hA
  intro H locs ls hW hS hl
  exact va_iald hx hb hK hW 2 0 rfl rfl hin d (k H locs ls hW hS hl)
theorem as_SAVED (he : pc + 1 = n) (ok : Ok X cc own) (hG : GM X G) {x : Int32} {v : Int32} (hin : vp_in x 1200) (d : decode cc pc = .ok (.iastore, 1)) (k : Wt X (wI M 101 0 0 (tN x) v) n lv st) : Wt X M pc lv (.int v :: .int x :: .ref (G.1 + 2) :: st) := by
  obtain ⟨p, l, e, R, s, m, args, below, meth, c, Q, H0, Wd, A, nL, cells, slots⟩ := X
  obtain ⟨⟨hx, hb, hml, hown, hts⟩, hlocks⟩ := ok
  obtain ⟨hWd, hA, ⟨hK, -⟩, -, -⟩ := hG
  subst he; subst hWd; subst hA
  intro H locs ls hW hS hl
  have e1 : (fun k => (wI M 101 0 0 (tN x) v).1 101 0 0 k) = upd (fun k => M.1 101 0 0 k) (tN x) v := funext fun k => by simp [wI, upd]
  have e : wM G (wI M 101 0 0 (tN x) v) = (wM G M).set 2 (G.1 + 2, .inl (G.2.2 0, 1200, .inl (upd (fun k => M.1 101 0 0 k) (tN x) v))) := by
    rw [← e1]
    simp [wM, wI]
  refine va_iast hx hb hK hW (wM_D G M) hS 2 0 rfl rfl hin d (fun H1 locs1 hP1 _ hS1 => k H1 locs1 ls ?_ hS1 hl)
  show va_P _ _ _ _
  rw [e]
  exact hP1
theorem al_MSAVED (he : pc + 1 = n) (ok : Ok X cc own) (hG : GM X G) {x : Int32} (hin : vp_in x 2) (d : decode cc pc = .ok (.baload, 1)) (k : Wt X M n lv (.int (M.1 102 0 0 (tN x)) :: st)) : Wt X M pc lv (.int x :: .ref (G.1 + 3) :: st) := by
  obtain ⟨p, l, e, R, s, m, args, below, meth, c, Q, H0, Wd, A, nL, cells, slots⟩ := X
  obtain ⟨⟨hx, hb, hml, hown, hts⟩, hlocks⟩ := ok
  obtain ⟨hWd, hA, ⟨hK, -⟩, -, -⟩ := hG
  subst he; subst hWd; subst hA
  intro H locs ls hW hS hl
  exact va_zald hx hb hK hW 3 2 rfl rfl hin d (k H locs ls hW hS hl)
theorem as_MSAVED (he : pc + 1 = n) (ok : Ok X cc own) (hG : GM X G) {x : Int32} {v : Int32} (hz : v = 0 ∨ v = 1) (hin : vp_in x 2) (d : decode cc pc = .ok (.bastore, 1)) (k : Wt X (wI M 102 0 0 (tN x) v) n lv st) : Wt X M pc lv (.int v :: .int x :: .ref (G.1 + 3) :: st) := by
  obtain ⟨p, l, e, R, s, m, args, below, meth, c, Q, H0, Wd, A, nL, cells, slots⟩ := X
  obtain ⟨⟨hx, hb, hml, hown, hts⟩, hlocks⟩ := ok
  obtain ⟨hWd, hA, ⟨hK, -⟩, -, -⟩ := hG
  subst he; subst hWd; subst hA
  intro H locs ls hW hS hl
  have e1 : (fun k => (wI M 102 0 0 (tN x) v).1 102 0 0 k) = upd (fun k => M.1 102 0 0 k) (tN x) v := funext fun k => by simp [wI, upd]
  have e : wM G (wI M 102 0 0 (tN x) v) = (wM G M).set 3 (G.1 + 3, .inl (G.2.2 2, 2, .inl (upd (fun k => M.1 102 0 0 k) (tN x) v))) := by
    rw [← e1]
    simp [wM, wI]
  refine va_zast hx hb hK hW (wM_D G M) hS 3 2 rfl rfl hin d (fun H1 locs1 hP1 _ hS1 => k H1 locs1 ls ?_ hS1 hl)
  show va_P _ _ _ _
  rw [e]
  rw [show vp_nar .boolean v = v by rcases hz with rfl | rfl <;> rfl] at hP1
  exact hP1
theorem al_PAST (he : pc + 1 = n) (ok : Ok X cc own) (hG : GM X G) {x : Int32} (hin : vp_in x 3000) (d : decode cc pc = .ok (.iaload, 1)) (k : Wt X M n lv (.int (M.1 103 0 0 (tN x)) :: st)) : Wt X M pc lv (.int x :: .ref (G.1 + 4) :: st) := by
  obtain ⟨p, l, e, R, s, m, args, below, meth, c, Q, H0, Wd, A, nL, cells, slots⟩ := X
  obtain ⟨⟨hx, hb, hml, hown, hts⟩, hlocks⟩ := ok
  obtain ⟨hWd, hA, ⟨hK, -⟩, -, -⟩ := hG
  subst he; subst hWd; subst hA
  intro H locs ls hW hS hl
  exact va_iald hx hb hK hW 4 0 rfl rfl hin d (k H locs ls hW hS hl)
theorem as_PAST (he : pc + 1 = n) (ok : Ok X cc own) (hG : GM X G) {x : Int32} {v : Int32} (hin : vp_in x 3000) (d : decode cc pc = .ok (.iastore, 1)) (k : Wt X (wI M 103 0 0 (tN x) v) n lv st) : Wt X M pc lv (.int v :: .int x :: .ref (G.1 + 4) :: st) := by
  obtain ⟨p, l, e, R, s, m, args, below, meth, c, Q, H0, Wd, A, nL, cells, slots⟩ := X
  obtain ⟨⟨hx, hb, hml, hown, hts⟩, hlocks⟩ := ok
  obtain ⟨hWd, hA, ⟨hK, -⟩, -, -⟩ := hG
  subst he; subst hWd; subst hA
  intro H locs ls hW hS hl
  have e1 : (fun k => (wI M 103 0 0 (tN x) v).1 103 0 0 k) = upd (fun k => M.1 103 0 0 k) (tN x) v := funext fun k => by simp [wI, upd]
  have e : wM G (wI M 103 0 0 (tN x) v) = (wM G M).set 4 (G.1 + 4, .inl (G.2.2 0, 3000, .inl (upd (fun k => M.1 103 0 0 k) (tN x) v))) := by
    rw [← e1]
    simp [wM, wI]
  refine va_iast hx hb hK hW (wM_D G M) hS 4 0 rfl rfl hin d (fun H1 locs1 hP1 _ hS1 => k H1 locs1 ls ?_ hS1 hl)
  show va_P _ _ _ _
  rw [e]
  exact hP1
theorem al_ASIDE (he : pc + 1 = n) (ok : Ok X cc own) (hG : GM X G) {x : Int32} (hin : vp_in x 600) (d : decode cc pc = .ok (.iaload, 1)) (k : Wt X M n lv (.int (M.1 104 0 0 (tN x)) :: st)) : Wt X M pc lv (.int x :: .ref (G.1 + 5) :: st) := by
  obtain ⟨p, l, e, R, s, m, args, below, meth, c, Q, H0, Wd, A, nL, cells, slots⟩ := X
  obtain ⟨⟨hx, hb, hml, hown, hts⟩, hlocks⟩ := ok
  obtain ⟨hWd, hA, ⟨hK, -⟩, -, -⟩ := hG
  subst he; subst hWd; subst hA
  intro H locs ls hW hS hl
  exact va_iald hx hb hK hW 5 0 rfl rfl hin d (k H locs ls hW hS hl)
theorem as_ASIDE (he : pc + 1 = n) (ok : Ok X cc own) (hG : GM X G) {x : Int32} {v : Int32} (hin : vp_in x 600) (d : decode cc pc = .ok (.iastore, 1)) (k : Wt X (wI M 104 0 0 (tN x) v) n lv st) : Wt X M pc lv (.int v :: .int x :: .ref (G.1 + 5) :: st) := by
  obtain ⟨p, l, e, R, s, m, args, below, meth, c, Q, H0, Wd, A, nL, cells, slots⟩ := X
  obtain ⟨⟨hx, hb, hml, hown, hts⟩, hlocks⟩ := ok
  obtain ⟨hWd, hA, ⟨hK, -⟩, -, -⟩ := hG
  subst he; subst hWd; subst hA
  intro H locs ls hW hS hl
  have e1 : (fun k => (wI M 104 0 0 (tN x) v).1 104 0 0 k) = upd (fun k => M.1 104 0 0 k) (tN x) v := funext fun k => by simp [wI, upd]
  have e : wM G (wI M 104 0 0 (tN x) v) = (wM G M).set 5 (G.1 + 5, .inl (G.2.2 0, 600, .inl (upd (fun k => M.1 104 0 0 k) (tN x) v))) := by
    rw [← e1]
    simp [wM, wI]
  refine va_iast hx hb hK hW (wM_D G M) hS 5 0 rfl rfl hin d (fun H1 locs1 hP1 _ hS1 => k H1 locs1 ls ?_ hS1 hl)
  show va_P _ _ _ _
  rw [e]
  exact hP1
end RA
