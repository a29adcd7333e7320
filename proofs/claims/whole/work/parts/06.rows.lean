def gw : List Cond := lw_tbl.filter goodWord
/-! The judgement Wt: from the frame at pc with locals lv and stack st, over any heap of which Wd says M, the machine comes to Q -/
abbrev Cx (μ : Type) : Type := Program × Launch × Env × Room × State × MethodId × Array Value × List Frame × Method × Code × (State → Prop) × Heap × (μ → Heap → Prop) × (Nat → Prop) × Nat × Nat × Nat
def Wt {μ : Type} (X : Cx μ) (M : μ) (pc : Nat) (lv : List (Nat × Value)) (st : List Value) : Prop :=
  match X with
  | (p, l, e, R, s, m, args, below, meth, c, Q, H0, Wd, A, nL, cells, slots) => ∀ (H : Heap) (locs : List Loc) (ls : Array Slot), Wd M H → va_S A H0 H locs → lv_has ls nL lv → W p l e R s m args below meth c H locs cells slots Q (F0 m pc ls st)
def Ok {μ : Type} (X : Cx μ) (cc : ByteArray) (own : String) : Prop :=
  match X with
  | (p, _, _, _, s, m, args, _, meth, c, _, _, _, _, nL, _, _) => (p.tables.exec = Jvm.exec ∧ c.code = cc ∧ c.maxLocals = nL ∧ s.vm.findClass own = some m.cls ∧ ∀ w ∈ gw, w.before args s = true) ∧ meth.locks = false
def Cx.nL {μ : Type} (X : Cx μ) : Nat := X.2.2.2.2.2.2.2.2.2.2.2.2.2.2.1
def Cx.R {μ : Type} (X : Cx μ) : Room := X.2.2.2.1
theorem bd_ok {α β : Type} {a : Option α} {f : α → Option β} {o : β} (h : a.bind f = some o) : ∃ x, a = some x ∧ f x = some o := by
  cases a with
  | none => cases h
  | some x => exact ⟨x, rfl, h⟩
theorem gd_ok {α : Type} {c : Prop} [Decidable c] {a : Option α} {o : α} (h : (if c then a else none) = some o) : c ∧ a = some o := by
  by_cases hc : c
  · rw [if_pos hc] at h
    exact ⟨hc, h⟩
  · rw [if_neg hc] at h
    cases h
def lp {σ τ : Type} : Nat → (σ → Option (σ ⊕ τ)) → σ → Option τ
  | 0, _, _ => none
  | n + 1, b, x => (b x).bind fun r => match r with
    | .inl y => lp n b y
    | .inr t => some t
theorem lp_W {σ τ : Type} {b : σ → Option (σ ⊕ τ)} {P : σ → Prop} {Z : τ → Prop} (hs : ∀ x r, b x = some r → (∀ y, r = .inl y → P y) → (∀ t, r = .inr t → Z t) → P x) : ∀ (n : Nat) (x : σ) (t : τ), lp n b x = some t → Z t → P x
  | 0, x, t, h, _ => by cases h
  | n + 1, x, t, h, hz => by
    obtain ⟨r, h1, h2⟩ := bd_ok h
    refine hs x r h1 (fun y hy => ?_) (fun t' ht => ?_)
    · subst hy
      exact lp_W hs n y t h2 hz
    · subst ht
      cases h2
      exact hz
section RW
variable {μ : Type} {X : Cx μ} {cc : ByteArray} {own : String} {M : μ} {pc n : Nat} {lv : List (Nat × Value)} {st : List Value}
theorem r_sub {lv' : List (Nat × Value)} (ks : List Nat) (h : lv_pick lv ks = lv') (k : Wt X M pc lv' st) : Wt X M pc lv st := by
  obtain ⟨p, l, e, R, s, m, args, below, meth, c, Q, H0, Wd, A, nL, cells, slots⟩ := X
  intro H locs ls hW hS hl
  exact k H locs ls hW hS (lv_sub hl ks h)
theorem r_ti {x y : Int32} (h : y = x) (k : Wt X M pc lv (.int y :: st)) : Wt X M pc lv (.int x :: st) := h ▸ k
theorem r_tl {x y : Int64} (h : y = x) (k : Wt X M pc lv (.long y :: st)) : Wt X M pc lv (.long x :: st) := h ▸ k
theorem r_st {st' : List Value} (h : st' = st) (k : Wt X M pc lv st') : Wt X M pc lv st := h ▸ k
theorem r_pc {pc' : Nat} (h : pc' = pc) (k : Wt X M pc' lv st) : Wt X M pc lv st := h ▸ k
theorem r_iconst (he : pc + 1 = n) (ok : Ok X cc own) {i : Int} {v : Int32} (d : decode cc pc = .ok (.iconst i, 1)) (hv : Int32.ofInt i = v) (k : Wt X M n lv (.int v :: st)) : Wt X M pc lv (st) := by
  obtain ⟨p, l, e, R, s, m, args, below, meth, c, Q, H0, Wd, A, nL, cells, slots⟩ := X
  obtain ⟨⟨hx, hb, hml, hown, hts⟩, hlocks⟩ := ok
  subst he
  intro H locs ls hW hS hl
  exact lv_iconst hx hb d hv (k H locs ls hW hS hl)
theorem r_bipush (he : pc + 2 = n) (ok : Ok X cc own) {i : Int} {v : Int32} (d : decode cc pc = .ok (.bipush i, 2)) (hv : (Int8.ofInt i).toInt32 = v) (k : Wt X M n lv (.int v :: st)) : Wt X M pc lv (st) := by
  obtain ⟨p, l, e, R, s, m, args, below, meth, c, Q, H0, Wd, A, nL, cells, slots⟩ := X
  obtain ⟨⟨hx, hb, hml, hown, hts⟩, hlocks⟩ := ok
  subst he
  intro H locs ls hW hS hl
  exact lv_bipush hx hb d hv (k H locs ls hW hS hl)
theorem r_sipush (he : pc + 3 = n) (ok : Ok X cc own) {i : Int} {v : Int32} (d : decode cc pc = .ok (.sipush i, 3)) (hv : (Int16.ofInt i).toInt32 = v) (k : Wt X M n lv (.int v :: st)) : Wt X M pc lv (st) := by
  obtain ⟨p, l, e, R, s, m, args, below, meth, c, Q, H0, Wd, A, nL, cells, slots⟩ := X
  obtain ⟨⟨hx, hb, hml, hown, hts⟩, hlocks⟩ := ok
  subst he
  intro H locs ls hW hS hl
  exact lv_sipush hx hb d hv (k H locs ls hW hS hl)
theorem r_lconst (he : pc + 1 = n) (ok : Ok X cc own) {i : Fin 2} {v : Int64} (d : decode cc pc = .ok (.lconst i, 1)) (hv : Int64.ofNat (i : Nat) = v) (k : Wt X M n lv (.long v :: st)) : Wt X M pc lv (st) := by
  obtain ⟨p, l, e, R, s, m, args, below, meth, c, Q, H0, Wd, A, nL, cells, slots⟩ := X
  obtain ⟨⟨hx, hb, hml, hown, hts⟩, hlocks⟩ := ok
  subst he
  intro H locs ls hW hS hl
  exact lv_lconst hx hb d hv (k H locs ls hW hS hl)
theorem r_null (he : pc + 1 = n) (ok : Ok X cc own) (d : decode cc pc = .ok (.aconst_null, 1)) (k : Wt X M n lv (.null :: st)) : Wt X M pc lv (st) := by
  obtain ⟨p, l, e, R, s, m, args, below, meth, c, Q, H0, Wd, A, nL, cells, slots⟩ := X
  obtain ⟨⟨hx, hb, hml, hown, hts⟩, hlocks⟩ := ok
  subst he
  intro H locs ls hW hS hl
  exact lv_null hx hb d (k H locs ls hW hS hl)
theorem r_ldc (he : pc + 2 = n) (ok : Ok X cc own) {i : Nat} {v : Int32} (d : decode cc pc = .ok (.ldc i, 2)) (hw : Cond.constant own i v ∈ gw) (k : Wt X M n lv (.int v :: st)) : Wt X M pc lv (st) := by
  obtain ⟨p, l, e, R, s, m, args, below, meth, c, Q, H0, Wd, A, nL, cells, slots⟩ := X
  obtain ⟨⟨hx, hb, hml, hown, hts⟩, hlocks⟩ := ok
  subst he
  intro H locs ls hW hS hl
  exact lv_ldc hx hb hown (hts _ hw) d (k H locs ls hW hS hl)
theorem r_ldcw (he : pc + 3 = n) (ok : Ok X cc own) {i : Nat} {v : Int32} (d : decode cc pc = .ok (.ldc_w i, 3)) (hw : Cond.constant own i v ∈ gw) (k : Wt X M n lv (.int v :: st)) : Wt X M pc lv (st) := by
  obtain ⟨p, l, e, R, s, m, args, below, meth, c, Q, H0, Wd, A, nL, cells, slots⟩ := X
  obtain ⟨⟨hx, hb, hml, hown, hts⟩, hlocks⟩ := ok
  subst he
  intro H locs ls hW hS hl
  exact lv_ldcw hx hb hown (hts _ hw) d (k H locs ls hW hS hl)
theorem r_ldc2 (he : pc + 3 = n) (ok : Ok X cc own) {i : Nat} {v : Int64} (d : decode cc pc = .ok (.ldc2_w i, 3)) (hw : Cond.constantLong own i v ∈ gw) (k : Wt X M n lv (.long v :: st)) : Wt X M pc lv (st) := by
  obtain ⟨p, l, e, R, s, m, args, below, meth, c, Q, H0, Wd, A, nL, cells, slots⟩ := X
  obtain ⟨⟨hx, hb, hml, hown, hts⟩, hlocks⟩ := ok
  subst he
  intro H locs ls hW hS hl
  exact lv_ldc2 hx hb hown (hts _ hw) d (k H locs ls hW hS hl)
theorem r_iload_n (he : pc + 1 = n) (ok : Ok X cc own) {i : Fin 4} {j : Nat} {x : Int32} (d : decode cc pc = .ok (.iload_n i, 1)) (hi : (i : Nat) = j) (q : Nat) (h : lv[q]? = some (j, .int x)) (k : Wt X M n lv (.int x :: st)) : Wt X M pc lv (st) := by
  obtain ⟨p, l, e, R, s, m, args, below, meth, c, Q, H0, Wd, A, nL, cells, slots⟩ := X
  obtain ⟨⟨hx, hb, hml, hown, hts⟩, hlocks⟩ := ok
  subst he
  intro H locs ls hW hS hl
  exact lv_iload_n hx hb d hi (lv_at hl q h) (k H locs ls hW hS hl)
theorem r_iload (he : pc + 2 = n) (ok : Ok X cc own) {i : Nat} {x : Int32} (d : decode cc pc = .ok (.iload i, 2)) (q : Nat) (h : lv[q]? = some (i, .int x)) (k : Wt X M n lv (.int x :: st)) : Wt X M pc lv (st) := by
  obtain ⟨p, l, e, R, s, m, args, below, meth, c, Q, H0, Wd, A, nL, cells, slots⟩ := X
  obtain ⟨⟨hx, hb, hml, hown, hts⟩, hlocks⟩ := ok
  subst he
  intro H locs ls hW hS hl
  exact lv_iload hx hb d (lv_at hl q h) (k H locs ls hW hS hl)
theorem r_lload_n (he : pc + 1 = n) (ok : Ok X cc own) {i : Fin 4} {j : Nat} {x : Int64} (d : decode cc pc = .ok (.lload_n i, 1)) (hi : (i : Nat) = j) (q : Nat) (h : lv[q]? = some (j, .long x)) (k : Wt X M n lv (.long x :: st)) : Wt X M pc lv (st) := by
  obtain ⟨p, l, e, R, s, m, args, below, meth, c, Q, H0, Wd, A, nL, cells, slots⟩ := X
  obtain ⟨⟨hx, hb, hml, hown, hts⟩, hlocks⟩ := ok
  subst he
  intro H locs ls hW hS hl
  exact lv_lload_n hx hb d hi (lv_at hl q h) (k H locs ls hW hS hl)
theorem r_lload (he : pc + 2 = n) (ok : Ok X cc own) {i : Nat} {x : Int64} (d : decode cc pc = .ok (.lload i, 2)) (q : Nat) (h : lv[q]? = some (i, .long x)) (k : Wt X M n lv (.long x :: st)) : Wt X M pc lv (st) := by
  obtain ⟨p, l, e, R, s, m, args, below, meth, c, Q, H0, Wd, A, nL, cells, slots⟩ := X
  obtain ⟨⟨hx, hb, hml, hown, hts⟩, hlocks⟩ := ok
  subst he
  intro H locs ls hW hS hl
  exact lv_lload hx hb d (lv_at hl q h) (k H locs ls hW hS hl)
theorem r_aload_n (he : pc + 1 = n) (ok : Ok X cc own) {i : Fin 4} {j : Nat} {x : Nat} (d : decode cc pc = .ok (.aload_n i, 1)) (hi : (i : Nat) = j) (q : Nat) (h : lv[q]? = some (j, .ref x)) (k : Wt X M n lv (.ref x :: st)) : Wt X M pc lv (st) := by
  obtain ⟨p, l, e, R, s, m, args, below, meth, c, Q, H0, Wd, A, nL, cells, slots⟩ := X
  obtain ⟨⟨hx, hb, hml, hown, hts⟩, hlocks⟩ := ok
  subst he
  intro H locs ls hW hS hl
  exact lv_aload_n hx hb d hi (lv_at hl q h) (k H locs ls hW hS hl)
theorem r_aload (he : pc + 2 = n) (ok : Ok X cc own) {i : Nat} {x : Nat} (d : decode cc pc = .ok (.aload i, 2)) (q : Nat) (h : lv[q]? = some (i, .ref x)) (k : Wt X M n lv (.ref x :: st)) : Wt X M pc lv (st) := by
  obtain ⟨p, l, e, R, s, m, args, below, meth, c, Q, H0, Wd, A, nL, cells, slots⟩ := X
  obtain ⟨⟨hx, hb, hml, hown, hts⟩, hlocks⟩ := ok
  subst he
  intro H locs ls hW hS hl
  exact lv_aload hx hb d (lv_at hl q h) (k H locs ls hW hS hl)
theorem r_aload_nN (he : pc + 1 = n) (ok : Ok X cc own) {i : Fin 4} {j : Nat} (d : decode cc pc = .ok (.aload_n i, 1)) (hi : (i : Nat) = j) (q : Nat) (h : lv[q]? = some (j, .null)) (k : Wt X M n lv (.null :: st)) : Wt X M pc lv (st) := by
  obtain ⟨p, l, e, R, s, m, args, below, meth, c, Q, H0, Wd, A, nL, cells, slots⟩ := X
  obtain ⟨⟨hx, hb, hml, hown, hts⟩, hlocks⟩ := ok
  subst he
  intro H locs ls hW hS hl
  exact lv_aload_nN hx hb d hi (lv_at hl q h) (k H locs ls hW hS hl)
theorem r_aloadN (he : pc + 2 = n) (ok : Ok X cc own) {i : Nat} (d : decode cc pc = .ok (.aload i, 2)) (q : Nat) (h : lv[q]? = some (i, .null)) (k : Wt X M n lv (.null :: st)) : Wt X M pc lv (st) := by
  obtain ⟨p, l, e, R, s, m, args, below, meth, c, Q, H0, Wd, A, nL, cells, slots⟩ := X
  obtain ⟨⟨hx, hb, hml, hown, hts⟩, hlocks⟩ := ok
  subst he
  intro H locs ls hW hS hl
  exact lv_aloadN hx hb d (lv_at hl q h) (k H locs ls hW hS hl)
theorem r_istore_n (he : pc + 1 = n) (ok : Ok X cc own) {k0 : Fin 4} {i : Nat} {x : Int32} {lv' : List (Nat × Value)} (d : decode cc pc = .ok (.istore_n k0, 1)) (hi : (k0 : Nat) = i) (hn : i < X.nL) (hl' : (i, Value.int x) :: lv.filter (fun q => !(q.1 == i) && !(q.1 + 1 == i && q.2.category == 2)) = lv') (k : Wt X M n lv' st) : Wt X M pc lv (Value.int x :: st) := by
  obtain ⟨p, l, e, R, s, m, args, below, meth, c, Q, H0, Wd, A, nL, cells, slots⟩ := X
  obtain ⟨⟨hx, hb, hml, hown, hts⟩, hlocks⟩ := ok
  subst he
  intro H locs ls hW hS hl
  exact lv_istore_n hx hb d hi hl hn hl' (fun ls' h2 => k H locs ls' hW hS h2)
theorem r_istore (he : pc + 2 = n) (ok : Ok X cc own) {i : Nat} {x : Int32} {lv' : List (Nat × Value)} (d : decode cc pc = .ok (.istore i, 2)) (hn : i < X.nL) (hl' : (i, Value.int x) :: lv.filter (fun q => !(q.1 == i) && !(q.1 + 1 == i && q.2.category == 2)) = lv') (k : Wt X M n lv' st) : Wt X M pc lv (Value.int x :: st) := by
  obtain ⟨p, l, e, R, s, m, args, below, meth, c, Q, H0, Wd, A, nL, cells, slots⟩ := X
  obtain ⟨⟨hx, hb, hml, hown, hts⟩, hlocks⟩ := ok
  subst he
  intro H locs ls hW hS hl
  exact lv_istore hx hb d hl hn hl' (fun ls' h2 => k H locs ls' hW hS h2)
theorem r_lstore_n (he : pc + 1 = n) (ok : Ok X cc own) {k0 : Fin 4} {i : Nat} {x : Int64} {lv' : List (Nat × Value)} (d : decode cc pc = .ok (.lstore_n k0, 1)) (hi : (k0 : Nat) = i) (hn : i + 1 < X.nL) (hl' : (i, Value.long x) :: lv.filter (fun q => !(q.1 == i) && (!(q.1 == i + 1) && !(q.1 + 1 == i && q.2.category == 2))) = lv') (k : Wt X M n lv' st) : Wt X M pc lv (Value.long x :: st) := by
  obtain ⟨p, l, e, R, s, m, args, below, meth, c, Q, H0, Wd, A, nL, cells, slots⟩ := X
  obtain ⟨⟨hx, hb, hml, hown, hts⟩, hlocks⟩ := ok
  subst he
  intro H locs ls hW hS hl
  exact lv_lstore_n hx hb d hi hl hn hl' (fun ls' h2 => k H locs ls' hW hS h2)
theorem r_lstore (he : pc + 2 = n) (ok : Ok X cc own) {i : Nat} {x : Int64} {lv' : List (Nat × Value)} (d : decode cc pc = .ok (.lstore i, 2)) (hn : i + 1 < X.nL) (hl' : (i, Value.long x) :: lv.filter (fun q => !(q.1 == i) && (!(q.1 == i + 1) && !(q.1 + 1 == i && q.2.category == 2))) = lv') (k : Wt X M n lv' st) : Wt X M pc lv (Value.long x :: st) := by
  obtain ⟨p, l, e, R, s, m, args, below, meth, c, Q, H0, Wd, A, nL, cells, slots⟩ := X
  obtain ⟨⟨hx, hb, hml, hown, hts⟩, hlocks⟩ := ok
  subst he
  intro H locs ls hW hS hl
  exact lv_lstore hx hb d hl hn hl' (fun ls' h2 => k H locs ls' hW hS h2)
theorem r_astore_n (he : pc + 1 = n) (ok : Ok X cc own) {k0 : Fin 4} {i : Nat} {x : Nat} {lv' : List (Nat × Value)} (d : decode cc pc = .ok (.astore_n k0, 1)) (hi : (k0 : Nat) = i) (hn : i < X.nL) (hl' : (i, Value.ref x) :: lv.filter (fun q => !(q.1 == i) && !(q.1 + 1 == i && q.2.category == 2)) = lv') (k : Wt X M n lv' st) : Wt X M pc lv (Value.ref x :: st) := by
  obtain ⟨p, l, e, R, s, m, args, below, meth, c, Q, H0, Wd, A, nL, cells, slots⟩ := X
  obtain ⟨⟨hx, hb, hml, hown, hts⟩, hlocks⟩ := ok
  subst he
  intro H locs ls hW hS hl
  exact lv_astore_n hx hb d hi hl hn hl' (fun ls' h2 => k H locs ls' hW hS h2)
theorem r_astore (he : pc + 2 = n) (ok : Ok X cc own) {i : Nat} {x : Nat} {lv' : List (Nat × Value)} (d : decode cc pc = .ok (.astore i, 2)) (hn : i < X.nL) (hl' : (i, Value.ref x) :: lv.filter (fun q => !(q.1 == i) && !(q.1 + 1 == i && q.2.category == 2)) = lv') (k : Wt X M n lv' st) : Wt X M pc lv (Value.ref x :: st) := by
  obtain ⟨p, l, e, R, s, m, args, below, meth, c, Q, H0, Wd, A, nL, cells, slots⟩ := X
  obtain ⟨⟨hx, hb, hml, hown, hts⟩, hlocks⟩ := ok
  subst he
  intro H locs ls hW hS hl
  exact lv_astore hx hb d hl hn hl' (fun ls' h2 => k H locs ls' hW hS h2)
theorem r_astore_nN (he : pc + 1 = n) (ok : Ok X cc own) {k0 : Fin 4} {i : Nat} {lv' : List (Nat × Value)} (d : decode cc pc = .ok (.astore_n k0, 1)) (hi : (k0 : Nat) = i) (hn : i < X.nL) (hl' : (i, Value.null) :: lv.filter (fun q => !(q.1 == i) && !(q.1 + 1 == i && q.2.category == 2)) = lv') (k : Wt X M n lv' st) : Wt X M pc lv (Value.null :: st) := by
  obtain ⟨p, l, e, R, s, m, args, below, meth, c, Q, H0, Wd, A, nL, cells, slots⟩ := X
  obtain ⟨⟨hx, hb, hml, hown, hts⟩, hlocks⟩ := ok
  subst he
  intro H locs ls hW hS hl
  exact lv_astore_nN hx hb d hi hl hn hl' (fun ls' h2 => k H locs ls' hW hS h2)
theorem r_astoreN (he : pc + 2 = n) (ok : Ok X cc own) {i : Nat} {lv' : List (Nat × Value)} (d : decode cc pc = .ok (.astore i, 2)) (hn : i < X.nL) (hl' : (i, Value.null) :: lv.filter (fun q => !(q.1 == i) && !(q.1 + 1 == i && q.2.category == 2)) = lv') (k : Wt X M n lv' st) : Wt X M pc lv (Value.null :: st) := by
  obtain ⟨p, l, e, R, s, m, args, below, meth, c, Q, H0, Wd, A, nL, cells, slots⟩ := X
  obtain ⟨⟨hx, hb, hml, hown, hts⟩, hlocks⟩ := ok
  subst he
  intro H locs ls hW hS hl
  exact lv_astoreN hx hb d hl hn hl' (fun ls' h2 => k H locs ls' hW hS h2)
theorem r_iinc (he : pc + 3 = n) (ok : Ok X cc own) {i : Nat} {z : Int} {x v : Int32} {lv' : List (Nat × Value)} (d : decode cc pc = .ok (.iinc i z, 3)) (q : Nat) (h : lv[q]? = some (i, .int x)) (hv : x + Int32.ofInt z = v) (hn : i < X.nL) (hl' : (i, Value.int v) :: lv.filter (fun q => !(q.1 == i) && !(q.1 + 1 == i && q.2.category == 2)) = lv') (k : Wt X M n lv' st) : Wt X M pc lv st := by
  obtain ⟨p, l, e, R, s, m, args, below, meth, c, Q, H0, Wd, A, nL, cells, slots⟩ := X
  obtain ⟨⟨hx, hb, hml, hown, hts⟩, hlocks⟩ := ok
  subst he
  intro H locs ls hW hS hl
  exact lv_iinc hx hb d hl h hv hn hl' (fun ls' h2 => k H locs ls' hW hS h2)
theorem r_iadd (he : pc + 1 = n) (ok : Ok X cc own) {x y : Int32} (d : decode cc pc = .ok (.iadd, 1)) (k : Wt X M n lv (.int (x + y) :: st)) : Wt X M pc lv (.int y :: .int x :: st) := by
  obtain ⟨p, l, e, R, s, m, args, below, meth, c, Q, H0, Wd, A, nL, cells, slots⟩ := X
  obtain ⟨⟨hx, hb, hml, hown, hts⟩, hlocks⟩ := ok
  subst he
  intro H locs ls hW hS hl
  exact lv_iadd hx hb d (k H locs ls hW hS hl)
theorem r_isub (he : pc + 1 = n) (ok : Ok X cc own) {x y : Int32} (d : decode cc pc = .ok (.isub, 1)) (k : Wt X M n lv (.int (x - y) :: st)) : Wt X M pc lv (.int y :: .int x :: st) := by
  obtain ⟨p, l, e, R, s, m, args, below, meth, c, Q, H0, Wd, A, nL, cells, slots⟩ := X
  obtain ⟨⟨hx, hb, hml, hown, hts⟩, hlocks⟩ := ok
  subst he
  intro H locs ls hW hS hl
  exact lv_isub hx hb d (k H locs ls hW hS hl)
theorem r_imul (he : pc + 1 = n) (ok : Ok X cc own) {x y : Int32} (d : decode cc pc = .ok (.imul, 1)) (k : Wt X M n lv (.int (x * y) :: st)) : Wt X M pc lv (.int y :: .int x :: st) := by
  obtain ⟨p, l, e, R, s, m, args, below, meth, c, Q, H0, Wd, A, nL, cells, slots⟩ := X
  obtain ⟨⟨hx, hb, hml, hown, hts⟩, hlocks⟩ := ok
  subst he
  intro H locs ls hW hS hl
  exact lv_imul hx hb d (k H locs ls hW hS hl)
theorem r_iand (he : pc + 1 = n) (ok : Ok X cc own) {x y : Int32} (d : decode cc pc = .ok (.iand, 1)) (k : Wt X M n lv (.int (x &&& y) :: st)) : Wt X M pc lv (.int y :: .int x :: st) := by
  obtain ⟨p, l, e, R, s, m, args, below, meth, c, Q, H0, Wd, A, nL, cells, slots⟩ := X
  obtain ⟨⟨hx, hb, hml, hown, hts⟩, hlocks⟩ := ok
  subst he
  intro H locs ls hW hS hl
  exact lv_iand hx hb d (k H locs ls hW hS hl)
theorem r_ixor (he : pc + 1 = n) (ok : Ok X cc own) {x y : Int32} (d : decode cc pc = .ok (.ixor, 1)) (k : Wt X M n lv (.int (x ^^^ y) :: st)) : Wt X M pc lv (.int y :: .int x :: st) := by
  obtain ⟨p, l, e, R, s, m, args, below, meth, c, Q, H0, Wd, A, nL, cells, slots⟩ := X
  obtain ⟨⟨hx, hb, hml, hown, hts⟩, hlocks⟩ := ok
  subst he
  intro H locs ls hW hS hl
  exact lv_ixor hx hb d (k H locs ls hW hS hl)
theorem r_ishl (he : pc + 1 = n) (ok : Ok X cc own) {x y : Int32} (d : decode cc pc = .ok (.ishl, 1)) (k : Wt X M n lv (.int (x <<< (y &&& 31)) :: st)) : Wt X M pc lv (.int y :: .int x :: st) := by
  obtain ⟨p, l, e, R, s, m, args, below, meth, c, Q, H0, Wd, A, nL, cells, slots⟩ := X
  obtain ⟨⟨hx, hb, hml, hown, hts⟩, hlocks⟩ := ok
  subst he
  intro H locs ls hW hS hl
  exact lv_ishl hx hb d (k H locs ls hW hS hl)
theorem r_ishr (he : pc + 1 = n) (ok : Ok X cc own) {x y : Int32} (d : decode cc pc = .ok (.ishr, 1)) (k : Wt X M n lv (.int (x >>> (y &&& 31)) :: st)) : Wt X M pc lv (.int y :: .int x :: st) := by
  obtain ⟨p, l, e, R, s, m, args, below, meth, c, Q, H0, Wd, A, nL, cells, slots⟩ := X
  obtain ⟨⟨hx, hb, hml, hown, hts⟩, hlocks⟩ := ok
  subst he
  intro H locs ls hW hS hl
  exact lv_ishr hx hb d (k H locs ls hW hS hl)
theorem r_idiv (he : pc + 1 = n) (ok : Ok X cc own) {x y : Int32} (d : decode cc pc = .ok (.idiv, 1)) (hne : ¬ y = 0) (k : Wt X M n lv (.int (x / y) :: st)) : Wt X M pc lv (.int y :: .int x :: st) := by
  obtain ⟨p, l, e, R, s, m, args, below, meth, c, Q, H0, Wd, A, nL, cells, slots⟩ := X
  obtain ⟨⟨hx, hb, hml, hown, hts⟩, hlocks⟩ := ok
  subst he
  intro H locs ls hW hS hl
  exact lv_idiv hx hb d hne (k H locs ls hW hS hl)
theorem r_irem (he : pc + 1 = n) (ok : Ok X cc own) {x y : Int32} (d : decode cc pc = .ok (.irem, 1)) (hne : ¬ y = 0) (k : Wt X M n lv (.int (x - x / y * y) :: st)) : Wt X M pc lv (.int y :: .int x :: st) := by
  obtain ⟨p, l, e, R, s, m, args, below, meth, c, Q, H0, Wd, A, nL, cells, slots⟩ := X
  obtain ⟨⟨hx, hb, hml, hown, hts⟩, hlocks⟩ := ok
  subst he
  intro H locs ls hW hS hl
  exact lv_irem hx hb d hne (k H locs ls hW hS hl)
theorem r_iushr (he : pc + 1 = n) (ok : Ok X cc own) {x y : Int32} (d : decode cc pc = .ok (.iushr, 1)) (k : Wt X M n lv (.int ((x.toUInt32 >>> (y.toUInt32 &&& Int32.toUInt32 31)).toInt32) :: st)) : Wt X M pc lv (.int y :: .int x :: st) := by
  obtain ⟨p, l, e, R, s, m, args, below, meth, c, Q, H0, Wd, A, nL, cells, slots⟩ := X
  obtain ⟨⟨hx, hb, hml, hown, hts⟩, hlocks⟩ := ok
  subst he
  intro H locs ls hW hS hl
  exact lv_iushr hx hb d rfl (k H locs ls hW hS hl)
theorem r_ladd (he : pc + 1 = n) (ok : Ok X cc own) {x y : Int64} (d : decode cc pc = .ok (.ladd, 1)) (k : Wt X M n lv (.long (x + y) :: st)) : Wt X M pc lv (.long y :: .long x :: st) := by
  obtain ⟨p, l, e, R, s, m, args, below, meth, c, Q, H0, Wd, A, nL, cells, slots⟩ := X
  obtain ⟨⟨hx, hb, hml, hown, hts⟩, hlocks⟩ := ok
  subst he
  intro H locs ls hW hS hl
  exact lv_ladd hx hb d (k H locs ls hW hS hl)
theorem r_lsub (he : pc + 1 = n) (ok : Ok X cc own) {x y : Int64} (d : decode cc pc = .ok (.lsub, 1)) (k : Wt X M n lv (.long (x - y) :: st)) : Wt X M pc lv (.long y :: .long x :: st) := by
  obtain ⟨p, l, e, R, s, m, args, below, meth, c, Q, H0, Wd, A, nL, cells, slots⟩ := X
  obtain ⟨⟨hx, hb, hml, hown, hts⟩, hlocks⟩ := ok
  subst he
  intro H locs ls hW hS hl
  exact lv_lsub hx hb d (k H locs ls hW hS hl)
theorem r_lmul (he : pc + 1 = n) (ok : Ok X cc own) {x y : Int64} (d : decode cc pc = .ok (.lmul, 1)) (k : Wt X M n lv (.long (x * y) :: st)) : Wt X M pc lv (.long y :: .long x :: st) := by
  obtain ⟨p, l, e, R, s, m, args, below, meth, c, Q, H0, Wd, A, nL, cells, slots⟩ := X
  obtain ⟨⟨hx, hb, hml, hown, hts⟩, hlocks⟩ := ok
  subst he
  intro H locs ls hW hS hl
  exact lv_lmul hx hb d (k H locs ls hW hS hl)
theorem r_ldiv (he : pc + 1 = n) (ok : Ok X cc own) {x y : Int64} (d : decode cc pc = .ok (.ldiv, 1)) (hne : ¬ y = 0) (k : Wt X M n lv (.long (x / y) :: st)) : Wt X M pc lv (.long y :: .long x :: st) := by
  obtain ⟨p, l, e, R, s, m, args, below, meth, c, Q, H0, Wd, A, nL, cells, slots⟩ := X
  obtain ⟨⟨hx, hb, hml, hown, hts⟩, hlocks⟩ := ok
  subst he
  intro H locs ls hW hS hl
  exact lv_ldiv hx hb d hne (k H locs ls hW hS hl)
theorem r_lshl (he : pc + 1 = n) (ok : Ok X cc own) {x : Int64} {y : Int32} (d : decode cc pc = .ok (.lshl, 1)) (k : Wt X M n lv (.long (x <<< (y.toInt64 &&& 63)) :: st)) : Wt X M pc lv (.int y :: .long x :: st) := by
  obtain ⟨p, l, e, R, s, m, args, below, meth, c, Q, H0, Wd, A, nL, cells, slots⟩ := X
  obtain ⟨⟨hx, hb, hml, hown, hts⟩, hlocks⟩ := ok
  subst he
  intro H locs ls hW hS hl
  exact lv_lshl hx hb d rfl (k H locs ls hW hS hl)
theorem r_i2l (he : pc + 1 = n) (ok : Ok X cc own) {x : Int32} (d : decode cc pc = .ok (.i2l, 1)) (k : Wt X M n lv (.long x.toInt64 :: st)) : Wt X M pc lv (.int x :: st) := by
  obtain ⟨p, l, e, R, s, m, args, below, meth, c, Q, H0, Wd, A, nL, cells, slots⟩ := X
  obtain ⟨⟨hx, hb, hml, hown, hts⟩, hlocks⟩ := ok
  subst he
  intro H locs ls hW hS hl
  exact lv_i2l hx hb d rfl (k H locs ls hW hS hl)
theorem r_l2i (he : pc + 1 = n) (ok : Ok X cc own) {x : Int64} (d : decode cc pc = .ok (.l2i, 1)) (k : Wt X M n lv (.int x.toInt32 :: st)) : Wt X M pc lv (.long x :: st) := by
  obtain ⟨p, l, e, R, s, m, args, below, meth, c, Q, H0, Wd, A, nL, cells, slots⟩ := X
  obtain ⟨⟨hx, hb, hml, hown, hts⟩, hlocks⟩ := ok
  subst he
  intro H locs ls hW hS hl
  exact lv_l2i hx hb d rfl (k H locs ls hW hS hl)
theorem r_lcmp (he : pc + 1 = n) (ok : Ok X cc own) {x y : Int64} (d : decode cc pc = .ok (.lcmp, 1)) (k : Wt X M n lv (.int (lg_cmp x y) :: st)) : Wt X M pc lv (.long y :: .long x :: st) := by
  obtain ⟨p, l, e, R, s, m, args, below, meth, c, Q, H0, Wd, A, nL, cells, slots⟩ := X
  obtain ⟨⟨hx, hb, hml, hown, hts⟩, hlocks⟩ := ok
  subst he
  intro H locs ls hW hS hl
  exact W.lcmp hx hb d (k H locs ls hW hS hl)
theorem r_dup (he : pc + 1 = n) (ok : Ok X cc own) {v : Value} (d : decode cc pc = .ok (.dup, 1)) (hv : v.category = 1) (k : Wt X M n lv (v :: v :: st)) : Wt X M pc lv (v :: st) := by
  obtain ⟨p, l, e, R, s, m, args, below, meth, c, Q, H0, Wd, A, nL, cells, slots⟩ := X
  obtain ⟨⟨hx, hb, hml, hown, hts⟩, hlocks⟩ := ok
  subst he
  intro H locs ls hW hS hl
  exact lv_dup hx hb d hv (k H locs ls hW hS hl)
theorem r_dup2 (he : pc + 1 = n) (ok : Ok X cc own) {v w : Value} (d : decode cc pc = .ok (.dup2, 1)) (hv : v.category = 1) (hw : w.category = 1) (k : Wt X M n lv (v :: w :: v :: w :: st)) : Wt X M pc lv (v :: w :: st) := by
  obtain ⟨p, l, e, R, s, m, args, below, meth, c, Q, H0, Wd, A, nL, cells, slots⟩ := X
  obtain ⟨⟨hx, hb, hml, hown, hts⟩, hlocks⟩ := ok
  subst he
  intro H locs ls hW hS hl
  exact lv_dup2_11 hx hb d hv hw (k H locs ls hW hS hl)
theorem r_pop (he : pc + 1 = n) (ok : Ok X cc own) {v : Value} (d : decode cc pc = .ok (.pop, 1)) (hv : v.category = 1) (k : Wt X M n lv (st)) : Wt X M pc lv (v :: st) := by
  obtain ⟨p, l, e, R, s, m, args, below, meth, c, Q, H0, Wd, A, nL, cells, slots⟩ := X
  obtain ⟨⟨hx, hb, hml, hown, hts⟩, hlocks⟩ := ok
  subst he
  intro H locs ls hW hS hl
  exact lv_pop hx hb d hv (k H locs ls hW hS hl)
theorem r_if_eq {tgt : Nat} (he : pc + 3 = n) (ok : Ok X cc own) {x : Int32} {off : Int} (d : decode cc pc = .ok (.ifCond .eq off, 3)) (ht : (pc : Int) + off = (tgt : Int)) (kt : x = 0 → Wt X M tgt lv st) (kf : ¬ x = 0 → Wt X M n lv st) : Wt X M pc lv (.int x :: st) := by
  obtain ⟨p, l, e, R, s, m, args, below, meth, c, Q, H0, Wd, A, nL, cells, slots⟩ := X
  obtain ⟨⟨hx, hb, hml, hown, hts⟩, hlocks⟩ := ok
  subst he
  intro H locs ls hW hS hl
  exact lv_if_eq hx hb d ht (fun h => kt h H locs ls hW hS hl) (fun h => kf h H locs ls hW hS hl)
theorem r_icmp_eq {tgt : Nat} (he : pc + 3 = n) (ok : Ok X cc own) {x y : Int32} {off : Int} (d : decode cc pc = .ok (.if_icmp .eq off, 3)) (ht : (pc : Int) + off = (tgt : Int)) (kt : x = y → Wt X M tgt lv st) (kf : ¬ x = y → Wt X M n lv st) : Wt X M pc lv (.int y :: .int x :: st) := by
  obtain ⟨p, l, e, R, s, m, args, below, meth, c, Q, H0, Wd, A, nL, cells, slots⟩ := X
  obtain ⟨⟨hx, hb, hml, hown, hts⟩, hlocks⟩ := ok
  subst he
  intro H locs ls hW hS hl
  exact lv_icmp_eq hx hb d ht (fun h => kt h H locs ls hW hS hl) (fun h => kf h H locs ls hW hS hl)
theorem r_if_ne {tgt : Nat} (he : pc + 3 = n) (ok : Ok X cc own) {x : Int32} {off : Int} (d : decode cc pc = .ok (.ifCond .ne off, 3)) (ht : (pc : Int) + off = (tgt : Int)) (kt : ¬ x = 0 → Wt X M tgt lv st) (kf : x = 0 → Wt X M n lv st) : Wt X M pc lv (.int x :: st) := by
  obtain ⟨p, l, e, R, s, m, args, below, meth, c, Q, H0, Wd, A, nL, cells, slots⟩ := X
  obtain ⟨⟨hx, hb, hml, hown, hts⟩, hlocks⟩ := ok
  subst he
  intro H locs ls hW hS hl
  exact lv_if_ne hx hb d ht (fun h => kt h H locs ls hW hS hl) (fun h => kf h H locs ls hW hS hl)
theorem r_icmp_ne {tgt : Nat} (he : pc + 3 = n) (ok : Ok X cc own) {x y : Int32} {off : Int} (d : decode cc pc = .ok (.if_icmp .ne off, 3)) (ht : (pc : Int) + off = (tgt : Int)) (kt : ¬ x = y → Wt X M tgt lv st) (kf : x = y → Wt X M n lv st) : Wt X M pc lv (.int y :: .int x :: st) := by
  obtain ⟨p, l, e, R, s, m, args, below, meth, c, Q, H0, Wd, A, nL, cells, slots⟩ := X
  obtain ⟨⟨hx, hb, hml, hown, hts⟩, hlocks⟩ := ok
  subst he
  intro H locs ls hW hS hl
  exact lv_icmp_ne hx hb d ht (fun h => kt h H locs ls hW hS hl) (fun h => kf h H locs ls hW hS hl)
theorem r_if_lt {tgt : Nat} (he : pc + 3 = n) (ok : Ok X cc own) {x : Int32} {off : Int} (d : decode cc pc = .ok (.ifCond .lt off, 3)) (ht : (pc : Int) + off = (tgt : Int)) (kt : x < 0 → Wt X M tgt lv st) (kf : ¬ x < 0 → Wt X M n lv st) : Wt X M pc lv (.int x :: st) := by
  obtain ⟨p, l, e, R, s, m, args, below, meth, c, Q, H0, Wd, A, nL, cells, slots⟩ := X
  obtain ⟨⟨hx, hb, hml, hown, hts⟩, hlocks⟩ := ok
  subst he
  intro H locs ls hW hS hl
  exact lv_if_lt hx hb d ht (fun h => kt h H locs ls hW hS hl) (fun h => kf h H locs ls hW hS hl)
theorem r_icmp_lt {tgt : Nat} (he : pc + 3 = n) (ok : Ok X cc own) {x y : Int32} {off : Int} (d : decode cc pc = .ok (.if_icmp .lt off, 3)) (ht : (pc : Int) + off = (tgt : Int)) (kt : x < y → Wt X M tgt lv st) (kf : ¬ x < y → Wt X M n lv st) : Wt X M pc lv (.int y :: .int x :: st) := by
  obtain ⟨p, l, e, R, s, m, args, below, meth, c, Q, H0, Wd, A, nL, cells, slots⟩ := X
  obtain ⟨⟨hx, hb, hml, hown, hts⟩, hlocks⟩ := ok
  subst he
  intro H locs ls hW hS hl
  exact lv_icmp_lt hx hb d ht (fun h => kt h H locs ls hW hS hl) (fun h => kf h H locs ls hW hS hl)
theorem r_if_ge {tgt : Nat} (he : pc + 3 = n) (ok : Ok X cc own) {x : Int32} {off : Int} (d : decode cc pc = .ok (.ifCond .ge off, 3)) (ht : (pc : Int) + off = (tgt : Int)) (kt : 0 ≤ x → Wt X M tgt lv st) (kf : ¬ 0 ≤ x → Wt X M n lv st) : Wt X M pc lv (.int x :: st) := by
  obtain ⟨p, l, e, R, s, m, args, below, meth, c, Q, H0, Wd, A, nL, cells, slots⟩ := X
  obtain ⟨⟨hx, hb, hml, hown, hts⟩, hlocks⟩ := ok
  subst he
  intro H locs ls hW hS hl
  exact lv_if_ge hx hb d ht (fun h => kt h H locs ls hW hS hl) (fun h => kf h H locs ls hW hS hl)
theorem r_icmp_ge {tgt : Nat} (he : pc + 3 = n) (ok : Ok X cc own) {x y : Int32} {off : Int} (d : decode cc pc = .ok (.if_icmp .ge off, 3)) (ht : (pc : Int) + off = (tgt : Int)) (kt : y ≤ x → Wt X M tgt lv st) (kf : ¬ y ≤ x → Wt X M n lv st) : Wt X M pc lv (.int y :: .int x :: st) := by
  obtain ⟨p, l, e, R, s, m, args, below, meth, c, Q, H0, Wd, A, nL, cells, slots⟩ := X
  obtain ⟨⟨hx, hb, hml, hown, hts⟩, hlocks⟩ := ok
  subst he
  intro H locs ls hW hS hl
  exact lv_icmp_ge hx hb d ht (fun h => kt h H locs ls hW hS hl) (fun h => kf h H locs ls hW hS hl)
theorem r_if_gt {tgt : Nat} (he : pc + 3 = n) (ok : Ok X cc own) {x : Int32} {off : Int} (d : decode cc pc = .ok (.ifCond .gt off, 3)) (ht : (pc : Int) + off = (tgt : Int)) (kt : 0 < x → Wt X M tgt lv st) (kf : ¬ 0 < x → Wt X M n lv st) : Wt X M pc lv (.int x :: st) := by
  obtain ⟨p, l, e, R, s, m, args, below, meth, c, Q, H0, Wd, A, nL, cells, slots⟩ := X
  obtain ⟨⟨hx, hb, hml, hown, hts⟩, hlocks⟩ := ok
  subst he
  intro H locs ls hW hS hl
  exact lv_if_gt hx hb d ht (fun h => kt h H locs ls hW hS hl) (fun h => kf h H locs ls hW hS hl)
theorem r_icmp_gt {tgt : Nat} (he : pc + 3 = n) (ok : Ok X cc own) {x y : Int32} {off : Int} (d : decode cc pc = .ok (.if_icmp .gt off, 3)) (ht : (pc : Int) + off = (tgt : Int)) (kt : y < x → Wt X M tgt lv st) (kf : ¬ y < x → Wt X M n lv st) : Wt X M pc lv (.int y :: .int x :: st) := by
  obtain ⟨p, l, e, R, s, m, args, below, meth, c, Q, H0, Wd, A, nL, cells, slots⟩ := X
  obtain ⟨⟨hx, hb, hml, hown, hts⟩, hlocks⟩ := ok
  subst he
  intro H locs ls hW hS hl
  exact lv_icmp_gt hx hb d ht (fun h => kt h H locs ls hW hS hl) (fun h => kf h H locs ls hW hS hl)
theorem r_if_le {tgt : Nat} (he : pc + 3 = n) (ok : Ok X cc own) {x : Int32} {off : Int} (d : decode cc pc = .ok (.ifCond .le off, 3)) (ht : (pc : Int) + off = (tgt : Int)) (kt : x ≤ 0 → Wt X M tgt lv st) (kf : ¬ x ≤ 0 → Wt X M n lv st) : Wt X M pc lv (.int x :: st) := by
  obtain ⟨p, l, e, R, s, m, args, below, meth, c, Q, H0, Wd, A, nL, cells, slots⟩ := X
  obtain ⟨⟨hx, hb, hml, hown, hts⟩, hlocks⟩ := ok
  subst he
  intro H locs ls hW hS hl
  exact lv_if_le hx hb d ht (fun h => kt h H locs ls hW hS hl) (fun h => kf h H locs ls hW hS hl)
theorem r_icmp_le {tgt : Nat} (he : pc + 3 = n) (ok : Ok X cc own) {x y : Int32} {off : Int} (d : decode cc pc = .ok (.if_icmp .le off, 3)) (ht : (pc : Int) + off = (tgt : Int)) (kt : x ≤ y → Wt X M tgt lv st) (kf : ¬ x ≤ y → Wt X M n lv st) : Wt X M pc lv (.int y :: .int x :: st) := by
  obtain ⟨p, l, e, R, s, m, args, below, meth, c, Q, H0, Wd, A, nL, cells, slots⟩ := X
  obtain ⟨⟨hx, hb, hml, hown, hts⟩, hlocks⟩ := ok
  subst he
  intro H locs ls hW hS hl
  exact lv_icmp_le hx hb d ht (fun h => kt h H locs ls hW hS hl) (fun h => kf h H locs ls hW hS hl)
theorem r_goto {off : Int} {tgt : Nat} (ok : Ok X cc own) (d : decode cc pc = .ok (.goto off, 3)) (ht : (pc : Int) + off = (tgt : Int)) (k : Wt X M tgt lv (st)) : Wt X M pc lv (st) := by
  obtain ⟨p, l, e, R, s, m, args, below, meth, c, Q, H0, Wd, A, nL, cells, slots⟩ := X
  obtain ⟨⟨hx, hb, hml, hown, hts⟩, hlocks⟩ := ok
  intro H locs ls hW hS hl
  exact lv_goto hx hb d ht (k H locs ls hW hS hl)
theorem r_ifnonnull {x : Nat} {off : Int} {tgt : Nat} (ok : Ok X cc own) (d : decode cc pc = .ok (.ifnonnull off, 3)) (ht : (pc : Int) + off = (tgt : Int)) (k : Wt X M tgt lv (st)) : Wt X M pc lv (.ref x :: st) := by
  obtain ⟨p, l, e, R, s, m, args, below, meth, c, Q, H0, Wd, A, nL, cells, slots⟩ := X
  obtain ⟨⟨hx, hb, hml, hown, hts⟩, hlocks⟩ := ok
  intro H locs ls hW hS hl
  exact lv_ifnonnull hx hb d ht (k H locs ls hW hS hl)
theorem r_ifnullN {off : Int} {tgt : Nat} (ok : Ok X cc own) (d : decode cc pc = .ok (.ifnull off, 3)) (ht : (pc : Int) + off = (tgt : Int)) (k : Wt X M tgt lv (st)) : Wt X M pc lv (.null :: st) := by
  obtain ⟨p, l, e, R, s, m, args, below, meth, c, Q, H0, Wd, A, nL, cells, slots⟩ := X
  obtain ⟨⟨hx, hb, hml, hown, hts⟩, hlocks⟩ := ok
  intro H locs ls hW hS hl
  exact lv_ifnullN hx hb d ht (k H locs ls hW hS hl)
theorem r_ifnull (he : pc + 3 = n) (ok : Ok X cc own) {x : Nat} {off : Int} (d : decode cc pc = .ok (.ifnull off, 3)) (k : Wt X M n lv (st)) : Wt X M pc lv (.ref x :: st) := by
  obtain ⟨p, l, e, R, s, m, args, below, meth, c, Q, H0, Wd, A, nL, cells, slots⟩ := X
  obtain ⟨⟨hx, hb, hml, hown, hts⟩, hlocks⟩ := ok
  subst he
  intro H locs ls hW hS hl
  exact lv_ifnull hx hb d (k H locs ls hW hS hl)
theorem r_ifnonnullN (he : pc + 3 = n) (ok : Ok X cc own) {off : Int} (d : decode cc pc = .ok (.ifnonnull off, 3)) (k : Wt X M n lv (st)) : Wt X M pc lv (.null :: st) := by
  obtain ⟨p, l, e, R, s, m, args, below, meth, c, Q, H0, Wd, A, nL, cells, slots⟩ := X
  obtain ⟨⟨hx, hb, hml, hown, hts⟩, hlocks⟩ := ok
  subst he
  intro H locs ls hW hS hl
  exact lv_ifnonnullN hx hb d (k H locs ls hW hS hl)
end RW
