/-! what is being made: a constructor's contract -/
/-- the words that tie the private constructors, and the classes of arrays -/
def Nao (U : State) : Prop := va_AO "RetryChains$Network" U ∧ va_AO "RetryChains$Station" U ∧ va_AO "RetryChains$Chain" U ∧ va_AO "RetryChains$Link" U ∧ (Cond.arrayOver (.array .int)).before #[] U = true
theorem Nao.moved {u U : State} (hvm : u.vm.Alike U.vm) (h : Nao u) : Nao U := ⟨va_AO.moved hvm h.1, va_AO.moved hvm h.2.1, va_AO.moved hvm h.2.2.1, va_AO.moved hvm h.2.2.2.1, over_moved hvm h.2.2.2.2⟩
def Nst (U : State) : Prop := Nao U ∧ va_Nw (.methodLinkNest "RetryChains" 36 ⟨"RetryChains$ChainSearch", "<init>", "()V"⟩ "RetryChains") U ∧ va_Nw (.methodLinkNest "RetryChains$Network" 11 ⟨"RetryChains$RateTable", "<init>", "()V"⟩ "RetryChains") U ∧ va_Nw (.methodLinkNest "RetryChains$Network" 32 ⟨"RetryChains$EventLog", "<init>", "()V"⟩ "RetryChains") U ∧ va_Nw (.methodLinkNest "RetryChains$Network" 54 ⟨"RetryChains$Chain", "<init>", "()V"⟩ "RetryChains") U ∧ va_Nw (.methodLinkNest "RetryChains$Station" 34 ⟨"RetryChains$Link", "<init>", "()V"⟩ "RetryChains") U
theorem Nst.warm {s U : State} (hW : s.WarmedH U.vm) (h : Nst s) : Nst U := ⟨Nao.moved hW.alike h.1, va_Nw.warmM hW h.2.1, va_Nw.warmM hW h.2.2.1, va_Nw.warmM hW h.2.2.2.1, va_Nw.warmM hW h.2.2.2.2.1, va_Nw.warmM hW h.2.2.2.2.2⟩
theorem Nst.same {u U : State} (e : u.vm = U.vm) (h : Nst u) : Nst U := ⟨Nao.moved (by rw [e]; exact Vm.Alike.refl _) h.1, va_Nw.same rfl e h.2.1, va_Nw.same rfl e h.2.2.1, va_Nw.same rfl e h.2.2.2.1, va_Nw.same rfl e h.2.2.2.2.1, va_Nw.same rfl e h.2.2.2.2.2⟩
def Nx {μ : Type} (X : Cx μ) : Prop := match X with
  | (_, _, _, _, s, _, _, _, _, _, _, _, _, _, _, _, _) => Nst s
theorem Nx.more {μ : Type} {X : Cx μ} {k N : Nat} (h : Nx X) : Nx (X.more k N) := by
  obtain ⟨p, l, e, R, s, m, args, below, meth, c, Q, H0, Wd, A, nL, cells, slots⟩ := X
  have h' : Nst s := h
  show Nst s
  exact h'
def QcV (G : Gt) (M' : Mv) : Array Value → State → Outcome → State → Prop := fun _ st oc t => oc = .returned none ∧ WV G M' t.heap ∧ va_F (rV G) st t
def Cn (l : Launch) (G : Gt) (y : MethodName) (b : ByteArray) (n : Nat) (rm : Room) (av : List Value) (M M' : Mv) (mc ms : Nat) : Prop :=
  Met l y (.code y b n none :: gw) rm (va_Pc av (fun U => WV G M U.heap ∧ Kn G U ∧ Nst U)) (QcV G M') mc ms (rV G)
def FinV (X : Cx Mv) (cc : ByteArray) (M' : Mv) : Prop := ∀ pc lv, decode cc pc = .ok (.return_, 1) → Wt X M' pc lv []
def Zr {μ : Type} (X : Cx μ) : Prop := match X with
  | (_, _, _, _, _, _, _, _, _, _, _, _, _, _, _, cells, slots) => cells = 0 ∧ slots = 0
theorem Cn.mk {l : Launch} {G : Gt} {y : MethodName} {b : ByteArray} {n : Nat} {rm : Room} {av : List Value} {M M' : Mv} {mc ms : Nat} {own : String} (hown : own = y.cls) (hy : plainName y.cls = true) (hi : y.name = "<init>") (hlen : (lg_sl av).length ≤ n)
    (body : ∀ X : Cx Mv, X.l = l → X.R = rm → X.nL = n → Zr X → Ok X b own → GV X G → Nm X → Nx X → FinV (X.more mc ms) b M' → Wt X M 0 (lv_args 0 av) []) : Cn l G y b n rm av M M' mc ms := by
  subst hown
  refine Met.ofW (cc := b) (maxL := n) (ret := none) hy rfl ?_
  intro p e s m args below meth c s₁ B hml hv
  obtain ⟨rfl, hW, hK, hNs⟩ := hv
  have hts : ∀ w ∈ (Cond.code y b n none :: gw), w.before av.toArray s = true := atoms_spec (ws := .code y b n none :: gw) B.pre
  have hown : s.vm.findClass y.cls = some m.cls := findClass_of_methodNamed B.named
  have hret := B.returns
  have hlk := B.notSynchronized
  have hin : meth.name = "<init>" := (name_of_methodNamed B.named B.method).1.trans hi
  rw [lg_entry_eq]
  refine body (p, l, e, rm, s, m, av.toArray, below, meth, c, MQ below (QcV G M') av.toArray s mc ms (rV G), s.heap, WV G, rV G, n, 0, 0) rfl rfl rfl ⟨rfl, rfl⟩ ⟨⟨B.exec, B.bytes, hml, hown, fun w hw => hts w (List.mem_cons_of_mem _ hw)⟩, hlk⟩ ⟨rfl, rfl, hK, Nat.zero_le _, Nat.zero_le _⟩ hin hNs ?_ s.heap [] _ hW va_S.rf (lv_entry av hlen)
  have hx := B.exec
  have hb := B.bytes
  intro pc lv hd H locs ls hW' hS hl
  rw [Nat.zero_add, Nat.zero_add]
  exact W.vret hx hb hret (fun t ht _ => ⟨rfl, by rw [ht]; exact hW', hS.F ht⟩) hS.2.2 hd
theorem Cn.mkS {l : Launch} {G : Gt} {y : MethodName} {b : ByteArray} {n : Nat} {rm : Room} {av : List Value} {M M' : Mv} {mc ms : Nat} {own : String} (hown : own = y.cls) (hy : plainName y.cls = true) (hlen : (lg_sl av).length ≤ n)
    (body : ∀ X : Cx Mv, X.l = l → X.R = rm → X.nL = n → Zr X → Ok X b own → GV X G → Nx X → FinV (X.more mc ms) b M' → Wt X M 0 (lv_args 0 av) []) : Cn l G y b n rm av M M' mc ms := by
  subst hown
  refine Met.ofW (cc := b) (maxL := n) (ret := none) hy rfl ?_
  intro p e s m args below meth c s₁ B hml hv
  obtain ⟨rfl, hW, hK, hNs⟩ := hv
  have hts : ∀ w ∈ (Cond.code y b n none :: gw), w.before av.toArray s = true := atoms_spec (ws := .code y b n none :: gw) B.pre
  have hown : s.vm.findClass y.cls = some m.cls := findClass_of_methodNamed B.named
  have hret := B.returns
  have hlk := B.notSynchronized
  rw [lg_entry_eq]
  refine body (p, l, e, rm, s, m, av.toArray, below, meth, c, MQ below (QcV G M') av.toArray s mc ms (rV G), s.heap, WV G, rV G, n, 0, 0) rfl rfl rfl ⟨rfl, rfl⟩ ⟨⟨B.exec, B.bytes, hml, hown, fun w hw => hts w (List.mem_cons_of_mem _ hw)⟩, hlk⟩ ⟨rfl, rfl, hK, Nat.zero_le _, Nat.zero_le _⟩ hNs ?_ s.heap [] _ hW va_S.rf (lv_entry av hlen)
  have hx := B.exec
  have hb := B.bytes
  intro pc lv hd H locs ls hW' hS hl
  rw [Nat.zero_add, Nat.zero_add]
  exact W.vret hx hb hret (fun t ht _ => ⟨rfl, by rw [ht]; exact hW', hS.F ht⟩) hS.2.2 hd
theorem more_more {μ : Type} {X : Cx μ} {a b c d : Nat} : (X.more a b).more c d = X.more (a + c) (b + d) := by
  obtain ⟨p, l, e, R, s, m, args, below, meth, c0, Q, H0, Wd, A, nL, cells, slots⟩ := X
  unfold Cx.more
  simp only [Nat.add_assoc]
theorem fits_more {μ : Type} {X : Cx μ} {a b c d : Nat} (h : X.fits (a + c) (b + d)) : (X.more a b).fits c d := by
  obtain ⟨p, l, e, R, s, m, args, below, meth, c0, Q, H0, Wd, A, nL, cells, slots⟩ := X
  obtain ⟨h1, h2⟩ := h
  have g1 : cells + a + c ≤ R.cells := by rw [Nat.add_assoc]; exact h1
  have g2 : slots + b + d ≤ R.slots := by rw [Nat.add_assoc]; exact h2
  exact ⟨g1, g2⟩
