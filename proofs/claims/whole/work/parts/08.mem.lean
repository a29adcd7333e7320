def Kn (G : Gt) (U : State) : Prop := va_K G.2.1 cls (tyl G) U ∧ va_Nw (.methodLinkNest "RetryChains$Network" 157 ⟨"RetryChains", "nextDraw", "(I)I"⟩ "RetryChains") U
theorem Kn.warm {G : Gt} {s U : State} (hW : s.WarmedH U.vm) (h : Kn G s) : Kn G U := ⟨va_K.moved hW.alike h.1, va_Nw.warmM hW h.2⟩
theorem Kn.same {G : Gt} {u U : State} (e : u.vm = U.vm) (h : Kn G u) : Kn G U := ⟨va_K.moved (by rw [e]; exact Vm.Alike.refl _) h.1, va_Nw.same rfl e h.2⟩
def Gx {μ : Type} (X : Cx μ) (G : Gt) (W0 : μ → Heap → Prop) (A0 : Nat → Prop) : Prop :=
  match X with
  | (_, _, _, R, s, _, _, _, _, _, _, _, Wd, A, _, cells, slots) => Wd = W0 ∧ A = A0 ∧ Kn G s ∧ cells ≤ R.cells ∧ slots ≤ R.slots
abbrev GC (X : Cx Me) (G : Gt) : Prop := Gx X G (WC G) (rC G)
def wM (G : Gt) (M : Me) : va_W := [(G.1 + 0, .inr (9, [.ref (G.1 + 1), .ref (G.1 + 2), .ref (G.1 + 3), .ref (G.1 + 4), .ref (G.1 + 5), .int (M.1 105 0 0 0), .long (M.2 106 0 0 0), .long (M.2 107 0 0 0)])),
  (G.1 + 1, .inl (G.2.2 0, 600, .inl (fun k => M.1 100 0 0 k))), (G.1 + 2, .inl (G.2.2 0, 1200, .inl (fun k => M.1 101 0 0 k))), (G.1 + 3, .inl (G.2.2 2, 2, .inl (fun k => M.1 102 0 0 k))), (G.1 + 4, .inl (G.2.2 0, 3000, .inl (fun k => M.1 103 0 0 k))), (G.1 + 5, .inl (G.2.2 0, 600, .inl (fun k => M.1 104 0 0 k)))]
def WM (G : Gt) (M : Me) (H : Heap) : Prop := va_P G.2.1 cls (wM G M) H
def rM (G : Gt) (q : Nat) : Prop := G.1 ≤ q ∧ q < G.1 + 6
abbrev GM (X : Cx Me) (G : Gt) : Prop := Gx X G (WM G) (rM G)
theorem wM_D (G : Gt) (M : Me) : va_D (rM G) (wM G M) := by
  have key : ∀ (k : Nat) (p : Nat × va_E), (wM G M)[k]? = some p → k < 6 ∧ p.1 = G.1 + k := by
    intro k p h
    match k, h with
    | 0, h => cases h; exact ⟨by decide, rfl⟩
    | 1, h => cases h; exact ⟨by decide, rfl⟩
    | 2, h => cases h; exact ⟨by decide, rfl⟩
    | 3, h => cases h; exact ⟨by decide, rfl⟩
    | 4, h => cases h; exact ⟨by decide, rfl⟩
    | 5, h => cases h; exact ⟨by decide, rfl⟩
    | k + 6, h => simp [wM] at h
  refine ⟨fun i j p q hi hj e => ?_, fun k q hk => ?_⟩
  · have h1 := (key i p hi).2
    have h2 := (key j q hj).2
    omega
  · obtain ⟨h1, h2⟩ := key k q hk
    rw [h2]
    exact ⟨by omega, by omega⟩
section RG
variable {X : Cx Me} {cc : ByteArray} {own : String} {M : Me} {pc n : Nat} {lv : List (Nat × Value)} {st : List Value} {G : Gt}
theorem g_RC_now (he : pc + 3 = n) (ok : Ok X cc own) (hG : GC X G)  {ix : Nat} (hw : Cond.fieldLink own ix "RetryChains" "now" "LRetryChains$Network;" ∈ gw) (d : decode cc pc = .ok (.getfield ix, 3)) (k : Wt X M n lv (.ref (G.1 + oNET 0) :: st)) : Wt X M pc lv (.ref (G.1 + oRC) :: st) := by
  obtain ⟨p, l, e, R, s, m, args, below, meth, c, Q, H0, Wd, A, nL, cells, slots⟩ := X
  obtain ⟨⟨hx, hb, hml, hown, hts⟩, hlocks⟩ := ok
  obtain ⟨hWd, hA, ⟨hK, -⟩, -, -⟩ := hG
  subst he; subst hWd; subst hA
  intro H locs ls hW hS hl
  exact va_get (ci := 0) hx hb hts i_RC hown hK hW (oRC) (wC_get (ky_RC)) rfl 0 (by decide) (hts _ hw) (fun _ h => h) rfl d (k H locs ls hW hS hl)
theorem g_RC_trial (he : pc + 3 = n) (ok : Ok X cc own) (hG : GC X G)  {ix : Nat} (hw : Cond.fieldLink own ix "RetryChains" "trial" "LRetryChains$Network;" ∈ gw) (d : decode cc pc = .ok (.getfield ix, 3)) (k : Wt X M n lv (.ref (G.1 + oNET 1) :: st)) : Wt X M pc lv (.ref (G.1 + oRC) :: st) := by
  obtain ⟨p, l, e, R, s, m, args, below, meth, c, Q, H0, Wd, A, nL, cells, slots⟩ := X
  obtain ⟨⟨hx, hb, hml, hown, hts⟩, hlocks⟩ := ok
  obtain ⟨hWd, hA, ⟨hK, -⟩, -, -⟩ := hG
  subst he; subst hWd; subst hA
  intro H locs ls hW hS hl
  exact va_get (ci := 0) hx hb hts i_RC hown hK hW (oRC) (wC_get (ky_RC)) rfl 1 (by decide) (hts _ hw) (fun _ h => h) rfl d (k H locs ls hW hS hl)
theorem g_RC_slots (he : pc + 3 = n) (ok : Ok X cc own) (hG : GC X G)  {ix : Nat} (hw : Cond.fieldLink own ix "RetryChains" "slots" "[LRetryChains$Network;" ∈ gw) (d : decode cc pc = .ok (.getfield ix, 3)) (k : Wt X M n lv (.ref (G.1 + oSLOTS) :: st)) : Wt X M pc lv (.ref (G.1 + oRC) :: st) := by
  obtain ⟨p, l, e, R, s, m, args, below, meth, c, Q, H0, Wd, A, nL, cells, slots⟩ := X
  obtain ⟨⟨hx, hb, hml, hown, hts⟩, hlocks⟩ := ok
  obtain ⟨hWd, hA, ⟨hK, -⟩, -, -⟩ := hG
  subst he; subst hWd; subst hA
  intro H locs ls hW hS hl
  exact va_get (ci := 0) hx hb hts i_RC hown hK hW (oRC) (wC_get (ky_RC)) rfl 2 (by decide) (hts _ hw) (fun _ h => h) rfl d (k H locs ls hW hS hl)
theorem g_RC_isSaved (he : pc + 3 = n) (ok : Ok X cc own) (hG : GC X G)  {ix : Nat} (hw : Cond.fieldLink own ix "RetryChains" "isSaved" "[Z" ∈ gw) (d : decode cc pc = .ok (.getfield ix, 3)) (k : Wt X M n lv (.ref (G.1 + oISSAVED) :: st)) : Wt X M pc lv (.ref (G.1 + oRC) :: st) := by
  obtain ⟨p, l, e, R, s, m, args, below, meth, c, Q, H0, Wd, A, nL, cells, slots⟩ := X
  obtain ⟨⟨hx, hb, hml, hown, hts⟩, hlocks⟩ := ok
  obtain ⟨hWd, hA, ⟨hK, -⟩, -, -⟩ := hG
  subst he; subst hWd; subst hA
  intro H locs ls hW hS hl
  exact va_get (ci := 0) hx hb hts i_RC hown hK hW (oRC) (wC_get (ky_RC)) rfl 3 (by decide) (hts _ hw) (fun _ h => h) rfl d (k H locs ls hW hS hl)
theorem g_RC_history (he : pc + 3 = n) (ok : Ok X cc own) (hG : GC X G)  {ix : Nat} (hw : Cond.fieldLink own ix "RetryChains" "history" "LRetryChains$History;" ∈ gw) (d : decode cc pc = .ok (.getfield ix, 3)) (k : Wt X M n lv (.ref (G.1 + oHIS) :: st)) : Wt X M pc lv (.ref (G.1 + oRC) :: st) := by
  obtain ⟨p, l, e, R, s, m, args, below, meth, c, Q, H0, Wd, A, nL, cells, slots⟩ := X
  obtain ⟨⟨hx, hb, hml, hown, hts⟩, hlocks⟩ := ok
  obtain ⟨hWd, hA, ⟨hK, -⟩, -, -⟩ := hG
  subst he; subst hWd; subst hA
  intro H locs ls hW hS hl
  exact va_get (ci := 0) hx hb hts i_RC hown hK hW (oRC) (wC_get (ky_RC)) rfl 4 (by decide) (hts _ hw) (fun _ h => h) rfl d (k H locs ls hW hS hl)
theorem g_RC_search (he : pc + 3 = n) (ok : Ok X cc own) (hG : GC X G)  {ix : Nat} (hw : Cond.fieldLink own ix "RetryChains" "search" "LRetryChains$ChainSearch;" ∈ gw) (d : decode cc pc = .ok (.getfield ix, 3)) (k : Wt X M n lv (.ref (G.1 + oSEA) :: st)) : Wt X M pc lv (.ref (G.1 + oRC) :: st) := by
  obtain ⟨p, l, e, R, s, m, args, below, meth, c, Q, H0, Wd, A, nL, cells, slots⟩ := X
  obtain ⟨⟨hx, hb, hml, hown, hts⟩, hlocks⟩ := ok
  obtain ⟨hWd, hA, ⟨hK, -⟩, -, -⟩ := hG
  subst he; subst hWd; subst hA
  intro H locs ls hW hS hl
  exact va_get (ci := 0) hx hb hts i_RC hown hK hW (oRC) (wC_get (ky_RC)) rfl 5 (by decide) (hts _ hw) (fun _ h => h) rfl d (k H locs ls hW hS hl)
theorem g_NET_rates (he : pc + 3 = n) (ok : Ok X cc own) (hG : GC X G) {i1 : Nat} (h1 : i1 < 9) {ix : Nat} (hw : Cond.fieldLink own ix "RetryChains$Network" "rates" "LRetryChains$RateTable;" ∈ gw) (d : decode cc pc = .ok (.getfield ix, 3)) (k : Wt X M n lv (.ref (G.1 + oTAB i1) :: st)) : Wt X M pc lv (.ref (G.1 + oNET i1) :: st) := by
  obtain ⟨p, l, e, R, s, m, args, below, meth, c, Q, H0, Wd, A, nL, cells, slots⟩ := X
  obtain ⟨⟨hx, hb, hml, hown, hts⟩, hlocks⟩ := ok
  obtain ⟨hWd, hA, ⟨hK, -⟩, -, -⟩ := hG
  subst he; subst hWd; subst hA
  intro H locs ls hW hS hl
  exact va_get (ci := 1) hx hb hts i_NET hown hK hW (oNET i1) (wC_get (ky_NET i1 h1)) rfl 0 (by decide) (hts _ hw) (fun _ h => h) rfl d (k H locs ls hW hS hl)
theorem g_NET_stations (he : pc + 3 = n) (ok : Ok X cc own) (hG : GC X G) {i1 : Nat} (h1 : i1 < 9) {ix : Nat} (hw : Cond.fieldLink own ix "RetryChains$Network" "stations" "[LRetryChains$Station;" ∈ gw) (d : decode cc pc = .ok (.getfield ix, 3)) (k : Wt X M n lv (.ref (G.1 + oSTAS i1) :: st)) : Wt X M pc lv (.ref (G.1 + oNET i1) :: st) := by
  obtain ⟨p, l, e, R, s, m, args, below, meth, c, Q, H0, Wd, A, nL, cells, slots⟩ := X
  obtain ⟨⟨hx, hb, hml, hown, hts⟩, hlocks⟩ := ok
  obtain ⟨hWd, hA, ⟨hK, -⟩, -, -⟩ := hG
  subst he; subst hWd; subst hA
  intro H locs ls hW hS hl
  exact va_get (ci := 1) hx hb hts i_NET hown hK hW (oNET i1) (wC_get (ky_NET i1 h1)) rfl 1 (by decide) (hts _ hw) (fun _ h => h) rfl d (k H locs ls hW hS hl)
theorem g_NET_open (he : pc + 3 = n) (ok : Ok X cc own) (hG : GC X G) {i1 : Nat} (h1 : i1 < 9) {ix : Nat} (hw : Cond.fieldLink own ix "RetryChains$Network" "open" "[LRetryChains$Chain;" ∈ gw) (d : decode cc pc = .ok (.getfield ix, 3)) (k : Wt X M n lv (.ref (G.1 + oOPENS i1) :: st)) : Wt X M pc lv (.ref (G.1 + oNET i1) :: st) := by
  obtain ⟨p, l, e, R, s, m, args, below, meth, c, Q, H0, Wd, A, nL, cells, slots⟩ := X
  obtain ⟨⟨hx, hb, hml, hown, hts⟩, hlocks⟩ := ok
  obtain ⟨hWd, hA, ⟨hK, -⟩, -, -⟩ := hG
  subst he; subst hWd; subst hA
  intro H locs ls hW hS hl
  exact va_get (ci := 1) hx hb hts i_NET hown hK hW (oNET i1) (wC_get (ky_NET i1 h1)) rfl 2 (by decide) (hts _ hw) (fun _ h => h) rfl d (k H locs ls hW hS hl)
theorem g_NET_log (he : pc + 3 = n) (ok : Ok X cc own) (hG : GC X G) {i1 : Nat} (h1 : i1 < 9) {ix : Nat} (hw : Cond.fieldLink own ix "RetryChains$Network" "log" "LRetryChains$EventLog;" ∈ gw) (d : decode cc pc = .ok (.getfield ix, 3)) (k : Wt X M n lv (.ref (G.1 + oLOG i1) :: st)) : Wt X M pc lv (.ref (G.1 + oNET i1) :: st) := by
  obtain ⟨p, l, e, R, s, m, args, below, meth, c, Q, H0, Wd, A, nL, cells, slots⟩ := X
  obtain ⟨⟨hx, hb, hml, hown, hts⟩, hlocks⟩ := ok
  obtain ⟨hWd, hA, ⟨hK, -⟩, -, -⟩ := hG
  subst he; subst hWd; subst hA
  intro H locs ls hW hS hl
  exact va_get (ci := 1) hx hb hts i_NET hown hK hW (oNET i1) (wC_get (ky_NET i1 h1)) rfl 3 (by decide) (hts _ hw) (fun _ h => h) rfl d (k H locs ls hW hS hl)
theorem g_NET_stationCount (he : pc + 3 = n) (ok : Ok X cc own) (hG : GC X G) {i1 : Nat} (h1 : i1 < 9) {ix : Nat} (hw : Cond.fieldLink own ix "RetryChains$Network" "stationCount" "I" ∈ gw) (d : decode cc pc = .ok (.getfield ix, 3)) (k : Wt X M n lv (.int (M.1 0 i1 0 0) :: st)) : Wt X M pc lv (.ref (G.1 + oNET i1) :: st) := by
  obtain ⟨p, l, e, R, s, m, args, below, meth, c, Q, H0, Wd, A, nL, cells, slots⟩ := X
  obtain ⟨⟨hx, hb, hml, hown, hts⟩, hlocks⟩ := ok
  obtain ⟨hWd, hA, ⟨hK, -⟩, -, -⟩ := hG
  subst he; subst hWd; subst hA
  intro H locs ls hW hS hl
  exact va_get (ci := 1) hx hb hts i_NET hown hK hW (oNET i1) (wC_get (ky_NET i1 h1)) rfl 4 (by decide) (hts _ hw) (fun _ h => h) rfl d (k H locs ls hW hS hl)
theorem p_NET_stationCount (he : pc + 3 = n) (ok : Ok X cc own) (hG : GC X G) {i1 : Nat} (h1 : i1 < 9) {v : Int32} {ix : Nat} (hw : Cond.fieldLink own ix "RetryChains$Network" "stationCount" "I" ∈ gw) (d : decode cc pc = .ok (.putfield ix, 3)) (k : Wt X (wI M 0 i1 0 0 v) n lv st) : Wt X M pc lv (.int v :: .ref (G.1 + oNET i1) :: st) := by
  obtain ⟨p, l, e, R, s, m, args, below, meth, c, Q, H0, Wd, A, nL, cells, slots⟩ := X
  obtain ⟨⟨hx, hb, hml, hown, hts⟩, hlocks⟩ := ok
  obtain ⟨hWd, hA, ⟨hK, -⟩, -, -⟩ := hG
  subst he; subst hWd; subst hA
  intro H locs ls hW hS hl
  have hset := wC_set (G := G) (M := M) (M' := wI M 0 i1 0 0 v) (f := 0) (ky_NET i1 h1) rfl (fun h => by cases h) wI_1 (fun _ _ _ _ _ => rfl)
  refine va_put (ci := 1) hx hb hts i_NET t_NET t_NET_ok n_NET hown hK hW (wC_D G M) hS (oNET i1) (wC_get (ky_NET i1 h1)) rfl 4 (by decide) (hts _ hw) (fun _ h => h) rfl (ty := .int) rfl rfl rfl (Nat.le_of_ble_eq_true rfl) d (fun H1 locs1 hP1 _ hS1 => k H1 locs1 ls ?_ hS1 hl)
  show va_P _ _ _ _
  rw [← hset]
  simp only [ce, wI, and_self, if_true] at hP1 ⊢
  simpa using hP1
theorem g_NET_time (he : pc + 3 = n) (ok : Ok X cc own) (hG : GC X G) {i1 : Nat} (h1 : i1 < 9) {ix : Nat} (hw : Cond.fieldLink own ix "RetryChains$Network" "time" "I" ∈ gw) (d : decode cc pc = .ok (.getfield ix, 3)) (k : Wt X M n lv (.int (M.1 1 i1 0 0) :: st)) : Wt X M pc lv (.ref (G.1 + oNET i1) :: st) := by
  obtain ⟨p, l, e, R, s, m, args, below, meth, c, Q, H0, Wd, A, nL, cells, slots⟩ := X
  obtain ⟨⟨hx, hb, hml, hown, hts⟩, hlocks⟩ := ok
  obtain ⟨hWd, hA, ⟨hK, -⟩, -, -⟩ := hG
  subst he; subst hWd; subst hA
  intro H locs ls hW hS hl
  exact va_get (ci := 1) hx hb hts i_NET hown hK hW (oNET i1) (wC_get (ky_NET i1 h1)) rfl 5 (by decide) (hts _ hw) (fun _ h => h) rfl d (k H locs ls hW hS hl)
theorem p_NET_time (he : pc + 3 = n) (ok : Ok X cc own) (hG : GC X G) {i1 : Nat} (h1 : i1 < 9) {v : Int32} {ix : Nat} (hw : Cond.fieldLink own ix "RetryChains$Network" "time" "I" ∈ gw) (d : decode cc pc = .ok (.putfield ix, 3)) (k : Wt X (wI M 1 i1 0 0 v) n lv st) : Wt X M pc lv (.int v :: .ref (G.1 + oNET i1) :: st) := by
  obtain ⟨p, l, e, R, s, m, args, below, meth, c, Q, H0, Wd, A, nL, cells, slots⟩ := X
  obtain ⟨⟨hx, hb, hml, hown, hts⟩, hlocks⟩ := ok
  obtain ⟨hWd, hA, ⟨hK, -⟩, -, -⟩ := hG
  subst he; subst hWd; subst hA
  intro H locs ls hW hS hl
  have hset := wC_set (G := G) (M := M) (M' := wI M 1 i1 0 0 v) (f := 1) (ky_NET i1 h1) rfl (fun h => by cases h) wI_1 (fun _ _ _ _ _ => rfl)
  refine va_put (ci := 1) hx hb hts i_NET t_NET t_NET_ok n_NET hown hK hW (wC_D G M) hS (oNET i1) (wC_get (ky_NET i1 h1)) rfl 5 (by decide) (hts _ hw) (fun _ h => h) rfl (ty := .int) rfl rfl rfl (Nat.le_of_ble_eq_true rfl) d (fun H1 locs1 hP1 _ hS1 => k H1 locs1 ls ?_ hS1 hl)
  show va_P _ _ _ _
  rw [← hset]
  simp only [ce, wI, and_self, if_true] at hP1 ⊢
  simpa using hP1
theorem g_NET_share (he : pc + 3 = n) (ok : Ok X cc own) (hG : GC X G) {i1 : Nat} (h1 : i1 < 9) {ix : Nat} (hw : Cond.fieldLink own ix "RetryChains$Network" "share" "I" ∈ gw) (d : decode cc pc = .ok (.getfield ix, 3)) (k : Wt X M n lv (.int (M.1 2 i1 0 0) :: st)) : Wt X M pc lv (.ref (G.1 + oNET i1) :: st) := by
  obtain ⟨p, l, e, R, s, m, args, below, meth, c, Q, H0, Wd, A, nL, cells, slots⟩ := X
  obtain ⟨⟨hx, hb, hml, hown, hts⟩, hlocks⟩ := ok
  obtain ⟨hWd, hA, ⟨hK, -⟩, -, -⟩ := hG
  subst he; subst hWd; subst hA
  intro H locs ls hW hS hl
  exact va_get (ci := 1) hx hb hts i_NET hown hK hW (oNET i1) (wC_get (ky_NET i1 h1)) rfl 6 (by decide) (hts _ hw) (fun _ h => h) rfl d (k H locs ls hW hS hl)
theorem p_NET_share (he : pc + 3 = n) (ok : Ok X cc own) (hG : GC X G) {i1 : Nat} (h1 : i1 < 9) {v : Int32} {ix : Nat} (hw : Cond.fieldLink own ix "RetryChains$Network" "share" "I" ∈ gw) (d : decode cc pc = .ok (.putfield ix, 3)) (k : Wt X (wI M 2 i1 0 0 v) n lv st) : Wt X M pc lv (.int v :: .ref (G.1 + oNET i1) :: st) := by
  obtain ⟨p, l, e, R, s, m, args, below, meth, c, Q, H0, Wd, A, nL, cells, slots⟩ := X
  obtain ⟨⟨hx, hb, hml, hown, hts⟩, hlocks⟩ := ok
  obtain ⟨hWd, hA, ⟨hK, -⟩, -, -⟩ := hG
  subst he; subst hWd; subst hA
  intro H locs ls hW hS hl
  have hset := wC_set (G := G) (M := M) (M' := wI M 2 i1 0 0 v) (f := 2) (ky_NET i1 h1) rfl (fun h => by cases h) wI_1 (fun _ _ _ _ _ => rfl)
  refine va_put (ci := 1) hx hb hts i_NET t_NET t_NET_ok n_NET hown hK hW (wC_D G M) hS (oNET i1) (wC_get (ky_NET i1 h1)) rfl 6 (by decide) (hts _ hw) (fun _ h => h) rfl (ty := .int) rfl rfl rfl (Nat.le_of_ble_eq_true rfl) d (fun H1 locs1 hP1 _ hS1 => k H1 locs1 ls ?_ hS1 hl)
  show va_P _ _ _ _
  rw [← hset]
  simp only [ce, wI, and_self, if_true] at hP1 ⊢
  simpa using hP1
theorem g_NET_weight (he : pc + 3 = n) (ok : Ok X cc own) (hG : GC X G) {i1 : Nat} (h1 : i1 < 9) {ix : Nat} (hw : Cond.fieldLink own ix "RetryChains$Network" "weight" "I" ∈ gw) (d : decode cc pc = .ok (.getfield ix, 3)) (k : Wt X M n lv (.int (M.1 3 i1 0 0) :: st)) : Wt X M pc lv (.ref (G.1 + oNET i1) :: st) := by
  obtain ⟨p, l, e, R, s, m, args, below, meth, c, Q, H0, Wd, A, nL, cells, slots⟩ := X
  obtain ⟨⟨hx, hb, hml, hown, hts⟩, hlocks⟩ := ok
  obtain ⟨hWd, hA, ⟨hK, -⟩, -, -⟩ := hG
  subst he; subst hWd; subst hA
  intro H locs ls hW hS hl
  exact va_get (ci := 1) hx hb hts i_NET hown hK hW (oNET i1) (wC_get (ky_NET i1 h1)) rfl 7 (by decide) (hts _ hw) (fun _ h => h) rfl d (k H locs ls hW hS hl)
theorem p_NET_weight (he : pc + 3 = n) (ok : Ok X cc own) (hG : GC X G) {i1 : Nat} (h1 : i1 < 9) {v : Int32} {ix : Nat} (hw : Cond.fieldLink own ix "RetryChains$Network" "weight" "I" ∈ gw) (d : decode cc pc = .ok (.putfield ix, 3)) (k : Wt X (wI M 3 i1 0 0 v) n lv st) : Wt X M pc lv (.int v :: .ref (G.1 + oNET i1) :: st) := by
  obtain ⟨p, l, e, R, s, m, args, below, meth, c, Q, H0, Wd, A, nL, cells, slots⟩ := X
  obtain ⟨⟨hx, hb, hml, hown, hts⟩, hlocks⟩ := ok
  obtain ⟨hWd, hA, ⟨hK, -⟩, -, -⟩ := hG
  subst he; subst hWd; subst hA
  intro H locs ls hW hS hl
  have hset := wC_set (G := G) (M := M) (M' := wI M 3 i1 0 0 v) (f := 3) (ky_NET i1 h1) rfl (fun h => by cases h) wI_1 (fun _ _ _ _ _ => rfl)
  refine va_put (ci := 1) hx hb hts i_NET t_NET t_NET_ok n_NET hown hK hW (wC_D G M) hS (oNET i1) (wC_get (ky_NET i1 h1)) rfl 7 (by decide) (hts _ hw) (fun _ h => h) rfl (ty := .int) rfl rfl rfl (Nat.le_of_ble_eq_true rfl) d (fun H1 locs1 hP1 _ hS1 => k H1 locs1 ls ?_ hS1 hl)
  show va_P _ _ _ _
  rw [← hset]
  simp only [ce, wI, and_self, if_true] at hP1 ⊢
  simpa using hP1
theorem g_NET_interval (he : pc + 3 = n) (ok : Ok X cc own) (hG : GC X G) {i1 : Nat} (h1 : i1 < 9) {ix : Nat} (hw : Cond.fieldLink own ix "RetryChains$Network" "interval" "I" ∈ gw) (d : decode cc pc = .ok (.getfield ix, 3)) (k : Wt X M n lv (.int (M.1 4 i1 0 0) :: st)) : Wt X M pc lv (.ref (G.1 + oNET i1) :: st) := by
  obtain ⟨p, l, e, R, s, m, args, below, meth, c, Q, H0, Wd, A, nL, cells, slots⟩ := X
  obtain ⟨⟨hx, hb, hml, hown, hts⟩, hlocks⟩ := ok
  obtain ⟨hWd, hA, ⟨hK, -⟩, -, -⟩ := hG
  subst he; subst hWd; subst hA
  intro H locs ls hW hS hl
  exact va_get (ci := 1) hx hb hts i_NET hown hK hW (oNET i1) (wC_get (ky_NET i1 h1)) rfl 8 (by decide) (hts _ hw) (fun _ h => h) rfl d (k H locs ls hW hS hl)
theorem p_NET_interval (he : pc + 3 = n) (ok : Ok X cc own) (hG : GC X G) {i1 : Nat} (h1 : i1 < 9) {v : Int32} {ix : Nat} (hw : Cond.fieldLink own ix "RetryChains$Network" "interval" "I" ∈ gw) (d : decode cc pc = .ok (.putfield ix, 3)) (k : Wt X (wI M 4 i1 0 0 v) n lv st) : Wt X M pc lv (.int v :: .ref (G.1 + oNET i1) :: st) := by
  obtain ⟨p, l, e, R, s, m, args, below, meth, c, Q, H0, Wd, A, nL, cells, slots⟩ := X
  obtain ⟨⟨hx, hb, hml, hown, hts⟩, hlocks⟩ := ok
  obtain ⟨hWd, hA, ⟨hK, -⟩, -, -⟩ := hG
  subst he; subst hWd; subst hA
  intro H locs ls hW hS hl
  have hset := wC_set (G := G) (M := M) (M' := wI M 4 i1 0 0 v) (f := 4) (ky_NET i1 h1) rfl (fun h => by cases h) wI_1 (fun _ _ _ _ _ => rfl)
  refine va_put (ci := 1) hx hb hts i_NET t_NET t_NET_ok n_NET hown hK hW (wC_D G M) hS (oNET i1) (wC_get (ky_NET i1 h1)) rfl 8 (by decide) (hts _ hw) (fun _ h => h) rfl (ty := .int) rfl rfl rfl (Nat.le_of_ble_eq_true rfl) d (fun H1 locs1 hP1 _ hS1 => k H1 locs1 ls ?_ hS1 hl)
  show va_P _ _ _ _
  rw [← hset]
  simp only [ce, wI, and_self, if_true] at hP1 ⊢
  simpa using hP1
theorem g_NET_budget (he : pc + 3 = n) (ok : Ok X cc own) (hG : GC X G) {i1 : Nat} (h1 : i1 < 9) {ix : Nat} (hw : Cond.fieldLink own ix "RetryChains$Network" "budget" "I" ∈ gw) (d : decode cc pc = .ok (.getfield ix, 3)) (k : Wt X M n lv (.int (M.1 5 i1 0 0) :: st)) : Wt X M pc lv (.ref (G.1 + oNET i1) :: st) := by
  obtain ⟨p, l, e, R, s, m, args, below, meth, c, Q, H0, Wd, A, nL, cells, slots⟩ := X
  obtain ⟨⟨hx, hb, hml, hown, hts⟩, hlocks⟩ := ok
  obtain ⟨hWd, hA, ⟨hK, -⟩, -, -⟩ := hG
  subst he; subst hWd; subst hA
  intro H locs ls hW hS hl
  exact va_get (ci := 1) hx hb hts i_NET hown hK hW (oNET i1) (wC_get (ky_NET i1 h1)) rfl 9 (by decide) (hts _ hw) (fun _ h => h) rfl d (k H locs ls hW hS hl)
theorem p_NET_budget (he : pc + 3 = n) (ok : Ok X cc own) (hG : GC X G) {i1 : Nat} (h1 : i1 < 9) {v : Int32} {ix : Nat} (hw : Cond.fieldLink own ix "RetryChains$Network" "budget" "I" ∈ gw) (d : decode cc pc = .ok (.putfield ix, 3)) (k : Wt X (wI M 5 i1 0 0 v) n lv st) : Wt X M pc lv (.int v :: .ref (G.1 + oNET i1) :: st) := by
  obtain ⟨p, l, e, R, s, m, args, below, meth, c, Q, H0, Wd, A, nL, cells, slots⟩ := X
  obtain ⟨⟨hx, hb, hml, hown, hts⟩, hlocks⟩ := ok
  obtain ⟨hWd, hA, ⟨hK, -⟩, -, -⟩ := hG
  subst he; subst hWd; subst hA
  intro H locs ls hW hS hl
  have hset := wC_set (G := G) (M := M) (M' := wI M 5 i1 0 0 v) (f := 5) (ky_NET i1 h1) rfl (fun h => by cases h) wI_1 (fun _ _ _ _ _ => rfl)
  refine va_put (ci := 1) hx hb hts i_NET t_NET t_NET_ok n_NET hown hK hW (wC_D G M) hS (oNET i1) (wC_get (ky_NET i1 h1)) rfl 9 (by decide) (hts _ hw) (fun _ h => h) rfl (ty := .int) rfl rfl rfl (Nat.le_of_ble_eq_true rfl) d (fun H1 locs1 hP1 _ hS1 => k H1 locs1 ls ?_ hS1 hl)
  show va_P _ _ _ _
  rw [← hset]
  simp only [ce, wI, and_self, if_true] at hP1 ⊢
  simpa using hP1
theorem g_NET_turn (he : pc + 3 = n) (ok : Ok X cc own) (hG : GC X G) {i1 : Nat} (h1 : i1 < 9) {ix : Nat} (hw : Cond.fieldLink own ix "RetryChains$Network" "turn" "I" ∈ gw) (d : decode cc pc = .ok (.getfield ix, 3)) (k : Wt X M n lv (.int (M.1 6 i1 0 0) :: st)) : Wt X M pc lv (.ref (G.1 + oNET i1) :: st) := by
  obtain ⟨p, l, e, R, s, m, args, below, meth, c, Q, H0, Wd, A, nL, cells, slots⟩ := X
  obtain ⟨⟨hx, hb, hml, hown, hts⟩, hlocks⟩ := ok
  obtain ⟨hWd, hA, ⟨hK, -⟩, -, -⟩ := hG
  subst he; subst hWd; subst hA
  intro H locs ls hW hS hl
  exact va_get (ci := 1) hx hb hts i_NET hown hK hW (oNET i1) (wC_get (ky_NET i1 h1)) rfl 10 (by decide) (hts _ hw) (fun _ h => h) rfl d (k H locs ls hW hS hl)
theorem p_NET_turn (he : pc + 3 = n) (ok : Ok X cc own) (hG : GC X G) {i1 : Nat} (h1 : i1 < 9) {v : Int32} {ix : Nat} (hw : Cond.fieldLink own ix "RetryChains$Network" "turn" "I" ∈ gw) (d : decode cc pc = .ok (.putfield ix, 3)) (k : Wt X (wI M 6 i1 0 0 v) n lv st) : Wt X M pc lv (.int v :: .ref (G.1 + oNET i1) :: st) := by
  obtain ⟨p, l, e, R, s, m, args, below, meth, c, Q, H0, Wd, A, nL, cells, slots⟩ := X
  obtain ⟨⟨hx, hb, hml, hown, hts⟩, hlocks⟩ := ok
  obtain ⟨hWd, hA, ⟨hK, -⟩, -, -⟩ := hG
  subst he; subst hWd; subst hA
  intro H locs ls hW hS hl
  have hset := wC_set (G := G) (M := M) (M' := wI M 6 i1 0 0 v) (f := 6) (ky_NET i1 h1) rfl (fun h => by cases h) wI_1 (fun _ _ _ _ _ => rfl)
  refine va_put (ci := 1) hx hb hts i_NET t_NET t_NET_ok n_NET hown hK hW (wC_D G M) hS (oNET i1) (wC_get (ky_NET i1 h1)) rfl 10 (by decide) (hts _ hw) (fun _ h => h) rfl (ty := .int) rfl rfl rfl (Nat.le_of_ble_eq_true rfl) d (fun H1 locs1 hP1 _ hS1 => k H1 locs1 ls ?_ hS1 hl)
  show va_P _ _ _ _
  rw [← hset]
  simp only [ce, wI, and_self, if_true] at hP1 ⊢
  simpa using hP1
theorem g_TAB_count (he : pc + 3 = n) (ok : Ok X cc own) (hG : GC X G) {i1 : Nat} (h1 : i1 < 9) {ix : Nat} (hw : Cond.fieldLink own ix "RetryChains$RateTable" "count" "I" ∈ gw) (d : decode cc pc = .ok (.getfield ix, 3)) (k : Wt X M n lv (.int (M.1 10 i1 0 0) :: st)) : Wt X M pc lv (.ref (G.1 + oTAB i1) :: st) := by
  obtain ⟨p, l, e, R, s, m, args, below, meth, c, Q, H0, Wd, A, nL, cells, slots⟩ := X
  obtain ⟨⟨hx, hb, hml, hown, hts⟩, hlocks⟩ := ok
  obtain ⟨hWd, hA, ⟨hK, -⟩, -, -⟩ := hG
  subst he; subst hWd; subst hA
  intro H locs ls hW hS hl
  exact va_get (ci := 2) hx hb hts i_TAB hown hK hW (oTAB i1) (wC_get (ky_TAB i1 h1)) rfl 0 (by decide) (hts _ hw) (fun _ h => h) rfl d (k H locs ls hW hS hl)
theorem p_TAB_count (he : pc + 3 = n) (ok : Ok X cc own) (hG : GC X G) {i1 : Nat} (h1 : i1 < 9) {v : Int32} {ix : Nat} (hw : Cond.fieldLink own ix "RetryChains$RateTable" "count" "I" ∈ gw) (d : decode cc pc = .ok (.putfield ix, 3)) (k : Wt X (wI M 10 i1 0 0 v) n lv st) : Wt X M pc lv (.int v :: .ref (G.1 + oTAB i1) :: st) := by
  obtain ⟨p, l, e, R, s, m, args, below, meth, c, Q, H0, Wd, A, nL, cells, slots⟩ := X
  obtain ⟨⟨hx, hb, hml, hown, hts⟩, hlocks⟩ := ok
  obtain ⟨hWd, hA, ⟨hK, -⟩, -, -⟩ := hG
  subst he; subst hWd; subst hA
  intro H locs ls hW hS hl
  have hset := wC_set (G := G) (M := M) (M' := wI M 10 i1 0 0 v) (f := 10) (ky_TAB i1 h1) rfl (fun h => by cases h) wI_1 (fun _ _ _ _ _ => rfl)
  refine va_put (ci := 2) hx hb hts i_TAB t_TAB t_TAB_ok n_TAB hown hK hW (wC_D G M) hS (oTAB i1) (wC_get (ky_TAB i1 h1)) rfl 0 (by decide) (hts _ hw) (fun _ h => h) rfl (ty := .int) rfl rfl rfl (Nat.le_of_ble_eq_true rfl) d (fun H1 locs1 hP1 _ hS1 => k H1 locs1 ls ?_ hS1 hl)
  show va_P _ _ _ _
  rw [← hset]
  simp only [ce, wI, and_self, if_true] at hP1 ⊢
  simpa using hP1
theorem g_TAB_modes (he : pc + 3 = n) (ok : Ok X cc own) (hG : GC X G) {i1 : Nat} (h1 : i1 < 9) {ix : Nat} (hw : Cond.fieldLink own ix "RetryChains$RateTable" "modes" "[I" ∈ gw) (d : decode cc pc = .ok (.getfield ix, 3)) (k : Wt X M n lv (.ref (G.1 + oMODES i1) :: st)) : Wt X M pc lv (.ref (G.1 + oTAB i1) :: st) := by
  obtain ⟨p, l, e, R, s, m, args, below, meth, c, Q, H0, Wd, A, nL, cells, slots⟩ := X
  obtain ⟨⟨hx, hb, hml, hown, hts⟩, hlocks⟩ := ok
  obtain ⟨hWd, hA, ⟨hK, -⟩, -, -⟩ := hG
  subst he; subst hWd; subst hA
  intro H locs ls hW hS hl
  exact va_get (ci := 2) hx hb hts i_TAB hown hK hW (oTAB i1) (wC_get (ky_TAB i1 h1)) rfl 1 (by decide) (hts _ hw) (fun _ h => h) rfl d (k H locs ls hW hS hl)
theorem g_TAB_speeds (he : pc + 3 = n) (ok : Ok X cc own) (hG : GC X G) {i1 : Nat} (h1 : i1 < 9) {ix : Nat} (hw : Cond.fieldLink own ix "RetryChains$RateTable" "speeds" "[I" ∈ gw) (d : decode cc pc = .ok (.getfield ix, 3)) (k : Wt X M n lv (.ref (G.1 + oSPEEDS i1) :: st)) : Wt X M pc lv (.ref (G.1 + oTAB i1) :: st) := by
  obtain ⟨p, l, e, R, s, m, args, below, meth, c, Q, H0, Wd, A, nL, cells, slots⟩ := X
  obtain ⟨⟨hx, hb, hml, hown, hts⟩, hlocks⟩ := ok
  obtain ⟨hWd, hA, ⟨hK, -⟩, -, -⟩ := hG
  subst he; subst hWd; subst hA
  intro H locs ls hW hS hl
  exact va_get (ci := 2) hx hb hts i_TAB hown hK hW (oTAB i1) (wC_get (ky_TAB i1 h1)) rfl 2 (by decide) (hts _ hw) (fun _ h => h) rfl d (k H locs ls hW hS hl)
theorem g_TAB_nominals (he : pc + 3 = n) (ok : Ok X cc own) (hG : GC X G) {i1 : Nat} (h1 : i1 < 9) {ix : Nat} (hw : Cond.fieldLink own ix "RetryChains$RateTable" "nominals" "[I" ∈ gw) (d : decode cc pc = .ok (.getfield ix, 3)) (k : Wt X M n lv (.ref (G.1 + oNOMS i1) :: st)) : Wt X M pc lv (.ref (G.1 + oTAB i1) :: st) := by
  obtain ⟨p, l, e, R, s, m, args, below, meth, c, Q, H0, Wd, A, nL, cells, slots⟩ := X
  obtain ⟨⟨hx, hb, hml, hown, hts⟩, hlocks⟩ := ok
  obtain ⟨hWd, hA, ⟨hK, -⟩, -, -⟩ := hG
  subst he; subst hWd; subst hA
  intro H locs ls hW hS hl
  exact va_get (ci := 2) hx hb hts i_TAB hown hK hW (oTAB i1) (wC_get (ky_TAB i1 h1)) rfl 3 (by decide) (hts _ hw) (fun _ h => h) rfl d (k H locs ls hW hS hl)
theorem g_LOG_total (he : pc + 3 = n) (ok : Ok X cc own) (hG : GC X G) {i1 : Nat} (h1 : i1 < 9) {ix : Nat} (hw : Cond.fieldLink own ix "RetryChains$EventLog" "total" "I" ∈ gw) (d : decode cc pc = .ok (.getfield ix, 3)) (k : Wt X M n lv (.int (M.1 60 i1 0 0) :: st)) : Wt X M pc lv (.ref (G.1 + oLOG i1) :: st) := by
  obtain ⟨p, l, e, R, s, m, args, below, meth, c, Q, H0, Wd, A, nL, cells, slots⟩ := X
  obtain ⟨⟨hx, hb, hml, hown, hts⟩, hlocks⟩ := ok
  obtain ⟨hWd, hA, ⟨hK, -⟩, -, -⟩ := hG
  subst he; subst hWd; subst hA
  intro H locs ls hW hS hl
  exact va_get (ci := 3) hx hb hts i_LOG hown hK hW (oLOG i1) (wC_get (ky_LOG i1 h1)) rfl 0 (by decide) (hts _ hw) (fun _ h => h) rfl d (k H locs ls hW hS hl)
theorem p_LOG_total (he : pc + 3 = n) (ok : Ok X cc own) (hG : GC X G) {i1 : Nat} (h1 : i1 < 9) {v : Int32} {ix : Nat} (hw : Cond.fieldLink own ix "RetryChains$EventLog" "total" "I" ∈ gw) (d : decode cc pc = .ok (.putfield ix, 3)) (k : Wt X (wI M 60 i1 0 0 v) n lv st) : Wt X M pc lv (.int v :: .ref (G.1 + oLOG i1) :: st) := by
  obtain ⟨p, l, e, R, s, m, args, below, meth, c, Q, H0, Wd, A, nL, cells, slots⟩ := X
  obtain ⟨⟨hx, hb, hml, hown, hts⟩, hlocks⟩ := ok
  obtain ⟨hWd, hA, ⟨hK, -⟩, -, -⟩ := hG
  subst he; subst hWd; subst hA
  intro H locs ls hW hS hl
  have hset := wC_set (G := G) (M := M) (M' := wI M 60 i1 0 0 v) (f := 60) (ky_LOG i1 h1) rfl (fun h => by cases h) wI_1 (fun _ _ _ _ _ => rfl)
  refine va_put (ci := 3) hx hb hts i_LOG t_LOG t_LOG_ok n_LOG hown hK hW (wC_D G M) hS (oLOG i1) (wC_get (ky_LOG i1 h1)) rfl 0 (by decide) (hts _ hw) (fun _ h => h) rfl (ty := .int) rfl rfl rfl (Nat.le_of_ble_eq_true rfl) d (fun H1 locs1 hP1 _ hS1 => k H1 locs1 ls ?_ hS1 hl)
  show va_P _ _ _ _
  rw [← hset]
  simp only [ce, wI, and_self, if_true] at hP1 ⊢
  simpa using hP1
theorem g_LOG_rows (he : pc + 3 = n) (ok : Ok X cc own) (hG : GC X G) {i1 : Nat} (h1 : i1 < 9) {ix : Nat} (hw : Cond.fieldLink own ix "RetryChains$EventLog" "rows" "[[I" ∈ gw) (d : decode cc pc = .ok (.getfield ix, 3)) (k : Wt X M n lv (.ref (G.1 + oROWS i1) :: st)) : Wt X M pc lv (.ref (G.1 + oLOG i1) :: st) := by
  obtain ⟨p, l, e, R, s, m, args, below, meth, c, Q, H0, Wd, A, nL, cells, slots⟩ := X
  obtain ⟨⟨hx, hb, hml, hown, hts⟩, hlocks⟩ := ok
  obtain ⟨hWd, hA, ⟨hK, -⟩, -, -⟩ := hG
  subst he; subst hWd; subst hA
  intro H locs ls hW hS hl
  exact va_get (ci := 3) hx hb hts i_LOG hown hK hW (oLOG i1) (wC_get (ky_LOG i1 h1)) rfl 1 (by decide) (hts _ hw) (fun _ h => h) rfl d (k H locs ls hW hS hl)
theorem g_STA_number (he : pc + 3 = n) (ok : Ok X cc own) (hG : GC X G) {i1 : Nat} (h1 : i1 < 9) {i2 : Nat} (h2 : i2 < 4) {ix : Nat} (hw : Cond.fieldLink own ix "RetryChains$Station" "number" "I" ∈ gw) (d : decode cc pc = .ok (.getfield ix, 3)) (k : Wt X M n lv (.int (nI i2) :: st)) : Wt X M pc lv (.ref (G.1 + oSTA i1 i2) :: st) := by
  obtain ⟨p, l, e, R, s, m, args, below, meth, c, Q, H0, Wd, A, nL, cells, slots⟩ := X
  obtain ⟨⟨hx, hb, hml, hown, hts⟩, hlocks⟩ := ok
  obtain ⟨hWd, hA, ⟨hK, -⟩, -, -⟩ := hG
  subst he; subst hWd; subst hA
  intro H locs ls hW hS hl
  exact va_get (ci := 4) hx hb hts i_STA hown hK hW (oSTA i1 i2) (wC_get (ky_STA i1 h1 i2 h2)) rfl 0 (by decide) (hts _ hw) (fun _ h => h) rfl d (k H locs ls hW hS hl)
theorem g_STA_links (he : pc + 3 = n) (ok : Ok X cc own) (hG : GC X G) {i1 : Nat} (h1 : i1 < 9) {i2 : Nat} (h2 : i2 < 4) {ix : Nat} (hw : Cond.fieldLink own ix "RetryChains$Station" "links" "[LRetryChains$Link;" ∈ gw) (d : decode cc pc = .ok (.getfield ix, 3)) (k : Wt X M n lv (.ref (G.1 + oLINKS i1 i2) :: st)) : Wt X M pc lv (.ref (G.1 + oSTA i1 i2) :: st) := by
  obtain ⟨p, l, e, R, s, m, args, below, meth, c, Q, H0, Wd, A, nL, cells, slots⟩ := X
  obtain ⟨⟨hx, hb, hml, hown, hts⟩, hlocks⟩ := ok
  obtain ⟨hWd, hA, ⟨hK, -⟩, -, -⟩ := hG
  subst he; subst hWd; subst hA
  intro H locs ls hW hS hl
  exact va_get (ci := 4) hx hb hts i_STA hown hK hW (oSTA i1 i2) (wC_get (ky_STA i1 h1 i2 h2)) rfl 1 (by decide) (hts _ hw) (fun _ h => h) rfl d (k H locs ls hW hS hl)
theorem g_STA_roles (he : pc + 3 = n) (ok : Ok X cc own) (hG : GC X G) {i1 : Nat} (h1 : i1 < 9) {i2 : Nat} (h2 : i2 < 4) {ix : Nat} (hw : Cond.fieldLink own ix "RetryChains$Station" "roles" "[I" ∈ gw) (d : decode cc pc = .ok (.getfield ix, 3)) (k : Wt X M n lv (.ref (G.1 + oROLES i1 i2) :: st)) : Wt X M pc lv (.ref (G.1 + oSTA i1 i2) :: st) := by
  obtain ⟨p, l, e, R, s, m, args, below, meth, c, Q, H0, Wd, A, nL, cells, slots⟩ := X
  obtain ⟨⟨hx, hb, hml, hown, hts⟩, hlocks⟩ := ok
  obtain ⟨hWd, hA, ⟨hK, -⟩, -, -⟩ := hG
  subst he; subst hWd; subst hA
  intro H locs ls hW hS hl
  exact va_get (ci := 4) hx hb hts i_STA hown hK hW (oSTA i1 i2) (wC_get (ky_STA i1 h1 i2 h2)) rfl 2 (by decide) (hts _ hw) (fun _ h => h) rfl d (k H locs ls hW hS hl)
theorem g_STA_refusals (he : pc + 3 = n) (ok : Ok X cc own) (hG : GC X G) {i1 : Nat} (h1 : i1 < 9) {i2 : Nat} (h2 : i2 < 4) {ix : Nat} (hw : Cond.fieldLink own ix "RetryChains$Station" "refusals" "[I" ∈ gw) (d : decode cc pc = .ok (.getfield ix, 3)) (k : Wt X M n lv (.ref (G.1 + oREFS i1 i2) :: st)) : Wt X M pc lv (.ref (G.1 + oSTA i1 i2) :: st) := by
  obtain ⟨p, l, e, R, s, m, args, below, meth, c, Q, H0, Wd, A, nL, cells, slots⟩ := X
  obtain ⟨⟨hx, hb, hml, hown, hts⟩, hlocks⟩ := ok
  obtain ⟨hWd, hA, ⟨hK, -⟩, -, -⟩ := hG
  subst he; subst hWd; subst hA
  intro H locs ls hW hS hl
  exact va_get (ci := 4) hx hb hts i_STA hown hK hW (oSTA i1 i2) (wC_get (ky_STA i1 h1 i2 h2)) rfl 3 (by decide) (hts _ hw) (fun _ h => h) rfl d (k H locs ls hW hS hl)
theorem g_STA_queue (he : pc + 3 = n) (ok : Ok X cc own) (hG : GC X G) {i1 : Nat} (h1 : i1 < 9) {i2 : Nat} (h2 : i2 < 4) {ix : Nat} (hw : Cond.fieldLink own ix "RetryChains$Station" "queue" "[I" ∈ gw) (d : decode cc pc = .ok (.getfield ix, 3)) (k : Wt X M n lv (.ref (G.1 + oQUEUE i1 i2) :: st)) : Wt X M pc lv (.ref (G.1 + oSTA i1 i2) :: st) := by
  obtain ⟨p, l, e, R, s, m, args, below, meth, c, Q, H0, Wd, A, nL, cells, slots⟩ := X
  obtain ⟨⟨hx, hb, hml, hown, hts⟩, hlocks⟩ := ok
  obtain ⟨hWd, hA, ⟨hK, -⟩, -, -⟩ := hG
  subst he; subst hWd; subst hA
  intro H locs ls hW hS hl
  exact va_get (ci := 4) hx hb hts i_STA hown hK hW (oSTA i1 i2) (wC_get (ky_STA i1 h1 i2 h2)) rfl 4 (by decide) (hts _ hw) (fun _ h => h) rfl d (k H locs ls hW hS hl)
theorem g_STA_queueLength (he : pc + 3 = n) (ok : Ok X cc own) (hG : GC X G) {i1 : Nat} (h1 : i1 < 9) {i2 : Nat} (h2 : i2 < 4) {ix : Nat} (hw : Cond.fieldLink own ix "RetryChains$Station" "queueLength" "I" ∈ gw) (d : decode cc pc = .ok (.getfield ix, 3)) (k : Wt X M n lv (.int (M.1 31 i1 i2 0) :: st)) : Wt X M pc lv (.ref (G.1 + oSTA i1 i2) :: st) := by
  obtain ⟨p, l, e, R, s, m, args, below, meth, c, Q, H0, Wd, A, nL, cells, slots⟩ := X
  obtain ⟨⟨hx, hb, hml, hown, hts⟩, hlocks⟩ := ok
  obtain ⟨hWd, hA, ⟨hK, -⟩, -, -⟩ := hG
  subst he; subst hWd; subst hA
  intro H locs ls hW hS hl
  exact va_get (ci := 4) hx hb hts i_STA hown hK hW (oSTA i1 i2) (wC_get (ky_STA i1 h1 i2 h2)) rfl 5 (by decide) (hts _ hw) (fun _ h => h) rfl d (k H locs ls hW hS hl)
theorem p_STA_queueLength (he : pc + 3 = n) (ok : Ok X cc own) (hG : GC X G) {i1 : Nat} (h1 : i1 < 9) {i2 : Nat} (h2 : i2 < 4) {v : Int32} {ix : Nat} (hw : Cond.fieldLink own ix "RetryChains$Station" "queueLength" "I" ∈ gw) (d : decode cc pc = .ok (.putfield ix, 3)) (k : Wt X (wI M 31 i1 i2 0 v) n lv st) : Wt X M pc lv (.int v :: .ref (G.1 + oSTA i1 i2) :: st) := by
  obtain ⟨p, l, e, R, s, m, args, below, meth, c, Q, H0, Wd, A, nL, cells, slots⟩ := X
  obtain ⟨⟨hx, hb, hml, hown, hts⟩, hlocks⟩ := ok
  obtain ⟨hWd, hA, ⟨hK, -⟩, -, -⟩ := hG
  subst he; subst hWd; subst hA
  intro H locs ls hW hS hl
  have hset := wC_set (G := G) (M := M) (M' := wI M 31 i1 i2 0 v) (f := 31) (ky_STA i1 h1 i2 h2) rfl (fun h => by cases h) wI_1 (fun _ _ _ _ _ => rfl)
  refine va_put (ci := 4) hx hb hts i_STA t_STA t_STA_ok n_STA hown hK hW (wC_D G M) hS (oSTA i1 i2) (wC_get (ky_STA i1 h1 i2 h2)) rfl 5 (by decide) (hts _ hw) (fun _ h => h) rfl (ty := .int) rfl rfl rfl (Nat.le_of_ble_eq_true rfl) d (fun H1 locs1 hP1 _ hS1 => k H1 locs1 ls ?_ hS1 hl)
  show va_P _ _ _ _
  rw [← hset]
  simp only [ce, wI, and_self, if_true] at hP1 ⊢
  simpa using hP1
theorem g_STA_chains (he : pc + 3 = n) (ok : Ok X cc own) (hG : GC X G) {i1 : Nat} (h1 : i1 < 9) {i2 : Nat} (h2 : i2 < 4) {ix : Nat} (hw : Cond.fieldLink own ix "RetryChains$Station" "chains" "I" ∈ gw) (d : decode cc pc = .ok (.getfield ix, 3)) (k : Wt X M n lv (.int (M.1 32 i1 i2 0) :: st)) : Wt X M pc lv (.ref (G.1 + oSTA i1 i2) :: st) := by
  obtain ⟨p, l, e, R, s, m, args, below, meth, c, Q, H0, Wd, A, nL, cells, slots⟩ := X
  obtain ⟨⟨hx, hb, hml, hown, hts⟩, hlocks⟩ := ok
  obtain ⟨hWd, hA, ⟨hK, -⟩, -, -⟩ := hG
  subst he; subst hWd; subst hA
  intro H locs ls hW hS hl
  exact va_get (ci := 4) hx hb hts i_STA hown hK hW (oSTA i1 i2) (wC_get (ky_STA i1 h1 i2 h2)) rfl 6 (by decide) (hts _ hw) (fun _ h => h) rfl d (k H locs ls hW hS hl)
theorem p_STA_chains (he : pc + 3 = n) (ok : Ok X cc own) (hG : GC X G) {i1 : Nat} (h1 : i1 < 9) {i2 : Nat} (h2 : i2 < 4) {v : Int32} {ix : Nat} (hw : Cond.fieldLink own ix "RetryChains$Station" "chains" "I" ∈ gw) (d : decode cc pc = .ok (.putfield ix, 3)) (k : Wt X (wI M 32 i1 i2 0 v) n lv st) : Wt X M pc lv (.int v :: .ref (G.1 + oSTA i1 i2) :: st) := by
  obtain ⟨p, l, e, R, s, m, args, below, meth, c, Q, H0, Wd, A, nL, cells, slots⟩ := X
  obtain ⟨⟨hx, hb, hml, hown, hts⟩, hlocks⟩ := ok
  obtain ⟨hWd, hA, ⟨hK, -⟩, -, -⟩ := hG
  subst he; subst hWd; subst hA
  intro H locs ls hW hS hl
  have hset := wC_set (G := G) (M := M) (M' := wI M 32 i1 i2 0 v) (f := 32) (ky_STA i1 h1 i2 h2) rfl (fun h => by cases h) wI_1 (fun _ _ _ _ _ => rfl)
  refine va_put (ci := 4) hx hb hts i_STA t_STA t_STA_ok n_STA hown hK hW (wC_D G M) hS (oSTA i1 i2) (wC_get (ky_STA i1 h1 i2 h2)) rfl 6 (by decide) (hts _ hw) (fun _ h => h) rfl (ty := .int) rfl rfl rfl (Nat.le_of_ble_eq_true rfl) d (fun H1 locs1 hP1 _ hS1 => k H1 locs1 ls ?_ hS1 hl)
  show va_P _ _ _ _
  rw [← hset]
  simp only [ce, wI, and_self, if_true] at hP1 ⊢
  simpa using hP1
theorem g_STA_sampled (he : pc + 3 = n) (ok : Ok X cc own) (hG : GC X G) {i1 : Nat} (h1 : i1 < 9) {i2 : Nat} (h2 : i2 < 4) {ix : Nat} (hw : Cond.fieldLink own ix "RetryChains$Station" "sampled" "I" ∈ gw) (d : decode cc pc = .ok (.getfield ix, 3)) (k : Wt X M n lv (.int (M.1 33 i1 i2 0) :: st)) : Wt X M pc lv (.ref (G.1 + oSTA i1 i2) :: st) := by
  obtain ⟨p, l, e, R, s, m, args, below, meth, c, Q, H0, Wd, A, nL, cells, slots⟩ := X
  obtain ⟨⟨hx, hb, hml, hown, hts⟩, hlocks⟩ := ok
  obtain ⟨hWd, hA, ⟨hK, -⟩, -, -⟩ := hG
  subst he; subst hWd; subst hA
  intro H locs ls hW hS hl
  exact va_get (ci := 4) hx hb hts i_STA hown hK hW (oSTA i1 i2) (wC_get (ky_STA i1 h1 i2 h2)) rfl 7 (by decide) (hts _ hw) (fun _ h => h) rfl d (k H locs ls hW hS hl)
theorem p_STA_sampled (he : pc + 3 = n) (ok : Ok X cc own) (hG : GC X G) {i1 : Nat} (h1 : i1 < 9) {i2 : Nat} (h2 : i2 < 4) {v : Int32} {ix : Nat} (hw : Cond.fieldLink own ix "RetryChains$Station" "sampled" "I" ∈ gw) (d : decode cc pc = .ok (.putfield ix, 3)) (k : Wt X (wI M 33 i1 i2 0 v) n lv st) : Wt X M pc lv (.int v :: .ref (G.1 + oSTA i1 i2) :: st) := by
  obtain ⟨p, l, e, R, s, m, args, below, meth, c, Q, H0, Wd, A, nL, cells, slots⟩ := X
  obtain ⟨⟨hx, hb, hml, hown, hts⟩, hlocks⟩ := ok
  obtain ⟨hWd, hA, ⟨hK, -⟩, -, -⟩ := hG
  subst he; subst hWd; subst hA
  intro H locs ls hW hS hl
  have hset := wC_set (G := G) (M := M) (M' := wI M 33 i1 i2 0 v) (f := 33) (ky_STA i1 h1 i2 h2) rfl (fun h => by cases h) wI_1 (fun _ _ _ _ _ => rfl)
  refine va_put (ci := 4) hx hb hts i_STA t_STA t_STA_ok n_STA hown hK hW (wC_D G M) hS (oSTA i1 i2) (wC_get (ky_STA i1 h1 i2 h2)) rfl 7 (by decide) (hts _ hw) (fun _ h => h) rfl (ty := .int) rfl rfl rfl (Nat.le_of_ble_eq_true rfl) d (fun H1 locs1 hP1 _ hS1 => k H1 locs1 ls ?_ hS1 hl)
  show va_P _ _ _ _
  rw [← hset]
  simp only [ce, wI, and_self, if_true] at hP1 ⊢
  simpa using hP1
theorem g_STA_delivered (he : pc + 3 = n) (ok : Ok X cc own) (hG : GC X G) {i1 : Nat} (h1 : i1 < 9) {i2 : Nat} (h2 : i2 < 4) {ix : Nat} (hw : Cond.fieldLink own ix "RetryChains$Station" "delivered" "I" ∈ gw) (d : decode cc pc = .ok (.getfield ix, 3)) (k : Wt X M n lv (.int (M.1 34 i1 i2 0) :: st)) : Wt X M pc lv (.ref (G.1 + oSTA i1 i2) :: st) := by
  obtain ⟨p, l, e, R, s, m, args, below, meth, c, Q, H0, Wd, A, nL, cells, slots⟩ := X
  obtain ⟨⟨hx, hb, hml, hown, hts⟩, hlocks⟩ := ok
  obtain ⟨hWd, hA, ⟨hK, -⟩, -, -⟩ := hG
  subst he; subst hWd; subst hA
  intro H locs ls hW hS hl
  exact va_get (ci := 4) hx hb hts i_STA hown hK hW (oSTA i1 i2) (wC_get (ky_STA i1 h1 i2 h2)) rfl 8 (by decide) (hts _ hw) (fun _ h => h) rfl d (k H locs ls hW hS hl)
theorem p_STA_delivered (he : pc + 3 = n) (ok : Ok X cc own) (hG : GC X G) {i1 : Nat} (h1 : i1 < 9) {i2 : Nat} (h2 : i2 < 4) {v : Int32} {ix : Nat} (hw : Cond.fieldLink own ix "RetryChains$Station" "delivered" "I" ∈ gw) (d : decode cc pc = .ok (.putfield ix, 3)) (k : Wt X (wI M 34 i1 i2 0 v) n lv st) : Wt X M pc lv (.int v :: .ref (G.1 + oSTA i1 i2) :: st) := by
  obtain ⟨p, l, e, R, s, m, args, below, meth, c, Q, H0, Wd, A, nL, cells, slots⟩ := X
  obtain ⟨⟨hx, hb, hml, hown, hts⟩, hlocks⟩ := ok
  obtain ⟨hWd, hA, ⟨hK, -⟩, -, -⟩ := hG
  subst he; subst hWd; subst hA
  intro H locs ls hW hS hl
  have hset := wC_set (G := G) (M := M) (M' := wI M 34 i1 i2 0 v) (f := 34) (ky_STA i1 h1 i2 h2) rfl (fun h => by cases h) wI_1 (fun _ _ _ _ _ => rfl)
  refine va_put (ci := 4) hx hb hts i_STA t_STA t_STA_ok n_STA hown hK hW (wC_D G M) hS (oSTA i1 i2) (wC_get (ky_STA i1 h1 i2 h2)) rfl 8 (by decide) (hts _ hw) (fun _ h => h) rfl (ty := .int) rfl rfl rfl (Nat.le_of_ble_eq_true rfl) d (fun H1 locs1 hP1 _ hS1 => k H1 locs1 ls ?_ hS1 hl)
  show va_P _ _ _ _
  rw [← hset]
  simp only [ce, wI, and_self, if_true] at hP1 ⊢
  simpa using hP1
theorem g_STA_lost (he : pc + 3 = n) (ok : Ok X cc own) (hG : GC X G) {i1 : Nat} (h1 : i1 < 9) {i2 : Nat} (h2 : i2 < 4) {ix : Nat} (hw : Cond.fieldLink own ix "RetryChains$Station" "lost" "I" ∈ gw) (d : decode cc pc = .ok (.getfield ix, 3)) (k : Wt X M n lv (.int (M.1 35 i1 i2 0) :: st)) : Wt X M pc lv (.ref (G.1 + oSTA i1 i2) :: st) := by
  obtain ⟨p, l, e, R, s, m, args, below, meth, c, Q, H0, Wd, A, nL, cells, slots⟩ := X
  obtain ⟨⟨hx, hb, hml, hown, hts⟩, hlocks⟩ := ok
  obtain ⟨hWd, hA, ⟨hK, -⟩, -, -⟩ := hG
  subst he; subst hWd; subst hA
  intro H locs ls hW hS hl
  exact va_get (ci := 4) hx hb hts i_STA hown hK hW (oSTA i1 i2) (wC_get (ky_STA i1 h1 i2 h2)) rfl 9 (by decide) (hts _ hw) (fun _ h => h) rfl d (k H locs ls hW hS hl)
theorem p_STA_lost (he : pc + 3 = n) (ok : Ok X cc own) (hG : GC X G) {i1 : Nat} (h1 : i1 < 9) {i2 : Nat} (h2 : i2 < 4) {v : Int32} {ix : Nat} (hw : Cond.fieldLink own ix "RetryChains$Station" "lost" "I" ∈ gw) (d : decode cc pc = .ok (.putfield ix, 3)) (k : Wt X (wI M 35 i1 i2 0 v) n lv st) : Wt X M pc lv (.int v :: .ref (G.1 + oSTA i1 i2) :: st) := by
  obtain ⟨p, l, e, R, s, m, args, below, meth, c, Q, H0, Wd, A, nL, cells, slots⟩ := X
  obtain ⟨⟨hx, hb, hml, hown, hts⟩, hlocks⟩ := ok
  obtain ⟨hWd, hA, ⟨hK, -⟩, -, -⟩ := hG
  subst he; subst hWd; subst hA
  intro H locs ls hW hS hl
  have hset := wC_set (G := G) (M := M) (M' := wI M 35 i1 i2 0 v) (f := 35) (ky_STA i1 h1 i2 h2) rfl (fun h => by cases h) wI_1 (fun _ _ _ _ _ => rfl)
  refine va_put (ci := 4) hx hb hts i_STA t_STA t_STA_ok n_STA hown hK hW (wC_D G M) hS (oSTA i1 i2) (wC_get (ky_STA i1 h1 i2 h2)) rfl 9 (by decide) (hts _ hw) (fun _ h => h) rfl (ty := .int) rfl rfl rfl (Nat.le_of_ble_eq_true rfl) d (fun H1 locs1 hP1 _ hS1 => k H1 locs1 ls ?_ hS1 hl)
  show va_P _ _ _ _
  rw [← hset]
  simp only [ce, wI, and_self, if_true] at hP1 ⊢
  simpa using hP1
theorem g_STA_losses (he : pc + 3 = n) (ok : Ok X cc own) (hG : GC X G) {i1 : Nat} (h1 : i1 < 9) {i2 : Nat} (h2 : i2 < 4) {ix : Nat} (hw : Cond.fieldLink own ix "RetryChains$Station" "losses" "I" ∈ gw) (d : decode cc pc = .ok (.getfield ix, 3)) (k : Wt X M n lv (.int (M.1 36 i1 i2 0) :: st)) : Wt X M pc lv (.ref (G.1 + oSTA i1 i2) :: st) := by
  obtain ⟨p, l, e, R, s, m, args, below, meth, c, Q, H0, Wd, A, nL, cells, slots⟩ := X
  obtain ⟨⟨hx, hb, hml, hown, hts⟩, hlocks⟩ := ok
  obtain ⟨hWd, hA, ⟨hK, -⟩, -, -⟩ := hG
  subst he; subst hWd; subst hA
  intro H locs ls hW hS hl
  exact va_get (ci := 4) hx hb hts i_STA hown hK hW (oSTA i1 i2) (wC_get (ky_STA i1 h1 i2 h2)) rfl 10 (by decide) (hts _ hw) (fun _ h => h) rfl d (k H locs ls hW hS hl)
theorem p_STA_losses (he : pc + 3 = n) (ok : Ok X cc own) (hG : GC X G) {i1 : Nat} (h1 : i1 < 9) {i2 : Nat} (h2 : i2 < 4) {v : Int32} {ix : Nat} (hw : Cond.fieldLink own ix "RetryChains$Station" "losses" "I" ∈ gw) (d : decode cc pc = .ok (.putfield ix, 3)) (k : Wt X (wI M 36 i1 i2 0 v) n lv st) : Wt X M pc lv (.int v :: .ref (G.1 + oSTA i1 i2) :: st) := by
  obtain ⟨p, l, e, R, s, m, args, below, meth, c, Q, H0, Wd, A, nL, cells, slots⟩ := X
  obtain ⟨⟨hx, hb, hml, hown, hts⟩, hlocks⟩ := ok
  obtain ⟨hWd, hA, ⟨hK, -⟩, -, -⟩ := hG
  subst he; subst hWd; subst hA
  intro H locs ls hW hS hl
  have hset := wC_set (G := G) (M := M) (M' := wI M 36 i1 i2 0 v) (f := 36) (ky_STA i1 h1 i2 h2) rfl (fun h => by cases h) wI_1 (fun _ _ _ _ _ => rfl)
  refine va_put (ci := 4) hx hb hts i_STA t_STA t_STA_ok n_STA hown hK hW (wC_D G M) hS (oSTA i1 i2) (wC_get (ky_STA i1 h1 i2 h2)) rfl 10 (by decide) (hts _ hw) (fun _ h => h) rfl (ty := .int) rfl rfl rfl (Nat.le_of_ble_eq_true rfl) d (fun H1 locs1 hP1 _ hS1 => k H1 locs1 ls ?_ hS1 hl)
  show va_P _ _ _ _
  rw [← hset]
  simp only [ce, wI, and_self, if_true] at hP1 ⊢
  simpa using hP1
theorem g_STA_inFallback (he : pc + 3 = n) (ok : Ok X cc own) (hG : GC X G) {i1 : Nat} (h1 : i1 < 9) {i2 : Nat} (h2 : i2 < 4) {ix : Nat} (hw : Cond.fieldLink own ix "RetryChains$Station" "inFallback" "Z" ∈ gw) (d : decode cc pc = .ok (.getfield ix, 3)) (k : Wt X M n lv (.int (M.1 37 i1 i2 0) :: st)) : Wt X M pc lv (.ref (G.1 + oSTA i1 i2) :: st) := by
  obtain ⟨p, l, e, R, s, m, args, below, meth, c, Q, H0, Wd, A, nL, cells, slots⟩ := X
  obtain ⟨⟨hx, hb, hml, hown, hts⟩, hlocks⟩ := ok
  obtain ⟨hWd, hA, ⟨hK, -⟩, -, -⟩ := hG
  subst he; subst hWd; subst hA
  intro H locs ls hW hS hl
  exact va_get (ci := 4) hx hb hts i_STA hown hK hW (oSTA i1 i2) (wC_get (ky_STA i1 h1 i2 h2)) rfl 11 (by decide) (hts _ hw) (fun _ h => h) rfl d (k H locs ls hW hS hl)
theorem p_STA_inFallback (he : pc + 3 = n) (ok : Ok X cc own) (hG : GC X G) {i1 : Nat} (h1 : i1 < 9) {i2 : Nat} (h2 : i2 < 4) {v : Int32} (hz : v = 0 ∨ v = 1) {ix : Nat} (hw : Cond.fieldLink own ix "RetryChains$Station" "inFallback" "Z" ∈ gw) (d : decode cc pc = .ok (.putfield ix, 3)) (k : Wt X (wI M 37 i1 i2 0 v) n lv st) : Wt X M pc lv (.int v :: .ref (G.1 + oSTA i1 i2) :: st) := by
  obtain ⟨p, l, e, R, s, m, args, below, meth, c, Q, H0, Wd, A, nL, cells, slots⟩ := X
  obtain ⟨⟨hx, hb, hml, hown, hts⟩, hlocks⟩ := ok
  obtain ⟨hWd, hA, ⟨hK, -⟩, -, -⟩ := hG
  subst he; subst hWd; subst hA
  intro H locs ls hW hS hl
  rcases hz with rfl | rfl
  · have hset := wC_set (G := G) (M := M) (M' := wI M 37 i1 i2 0 0) (f := 37) (ky_STA i1 h1 i2 h2) rfl (fun h => by cases h) wI_1 (fun _ _ _ _ _ => rfl)
    refine va_put (ci := 4) hx hb hts i_STA t_STA t_STA_ok n_STA hown hK hW (wC_D G M) hS (oSTA i1 i2) (wC_get (ky_STA i1 h1 i2 h2)) rfl 11 (by decide) (hts _ hw) (fun _ h => h) rfl (ty := .boolean) rfl rfl rfl (Nat.le_of_ble_eq_true rfl) d (fun H1 locs1 hP1 _ hS1 => k H1 locs1 ls ?_ hS1 hl)
    show va_P _ _ _ _
    rw [← hset]
    simp only [ce, wI, and_self, if_true] at hP1 ⊢
    simpa using hP1
  · have hset := wC_set (G := G) (M := M) (M' := wI M 37 i1 i2 0 1) (f := 37) (ky_STA i1 h1 i2 h2) rfl (fun h => by cases h) wI_1 (fun _ _ _ _ _ => rfl)
    refine va_put (ci := 4) hx hb hts i_STA t_STA t_STA_ok n_STA hown hK hW (wC_D G M) hS (oSTA i1 i2) (wC_get (ky_STA i1 h1 i2 h2)) rfl 11 (by decide) (hts _ hw) (fun _ h => h) rfl (ty := .boolean) rfl rfl rfl (Nat.le_of_ble_eq_true rfl) d (fun H1 locs1 hP1 _ hS1 => k H1 locs1 ls ?_ hS1 hl)
    show va_P _ _ _ _
    rw [← hset]
    simp only [ce, wI, and_self, if_true] at hP1 ⊢
    simpa using hP1

theorem g_STA_deficit (he : pc + 3 = n) (ok : Ok X cc own) (hG : GC X G) {i1 : Nat} (h1 : i1 < 9) {i2 : Nat} (h2 : i2 < 4) {ix : Nat} (hw : Cond.fieldLink own ix "RetryChains$Station" "deficit" "I" ∈ gw) (d : decode cc pc = .ok (.getfield ix, 3)) (k : Wt X M n lv (.int (M.1 38 i1 i2 0) :: st)) : Wt X M pc lv (.ref (G.1 + oSTA i1 i2) :: st) := by
  obtain ⟨p, l, e, R, s, m, args, below, meth, c, Q, H0, Wd, A, nL, cells, slots⟩ := X
  obtain ⟨⟨hx, hb, hml, hown, hts⟩, hlocks⟩ := ok
  obtain ⟨hWd, hA, ⟨hK, -⟩, -, -⟩ := hG
  subst he; subst hWd; subst hA
  intro H locs ls hW hS hl
  exact va_get (ci := 4) hx hb hts i_STA hown hK hW (oSTA i1 i2) (wC_get (ky_STA i1 h1 i2 h2)) rfl 12 (by decide) (hts _ hw) (fun _ h => h) rfl d (k H locs ls hW hS hl)
theorem p_STA_deficit (he : pc + 3 = n) (ok : Ok X cc own) (hG : GC X G) {i1 : Nat} (h1 : i1 < 9) {i2 : Nat} (h2 : i2 < 4) {v : Int32} {ix : Nat} (hw : Cond.fieldLink own ix "RetryChains$Station" "deficit" "I" ∈ gw) (d : decode cc pc = .ok (.putfield ix, 3)) (k : Wt X (wI M 38 i1 i2 0 v) n lv st) : Wt X M pc lv (.int v :: .ref (G.1 + oSTA i1 i2) :: st) := by
  obtain ⟨p, l, e, R, s, m, args, below, meth, c, Q, H0, Wd, A, nL, cells, slots⟩ := X
  obtain ⟨⟨hx, hb, hml, hown, hts⟩, hlocks⟩ := ok
  obtain ⟨hWd, hA, ⟨hK, -⟩, -, -⟩ := hG
  subst he; subst hWd; subst hA
  intro H locs ls hW hS hl
  have hset := wC_set (G := G) (M := M) (M' := wI M 38 i1 i2 0 v) (f := 38) (ky_STA i1 h1 i2 h2) rfl (fun h => by cases h) wI_1 (fun _ _ _ _ _ => rfl)
  refine va_put (ci := 4) hx hb hts i_STA t_STA t_STA_ok n_STA hown hK hW (wC_D G M) hS (oSTA i1 i2) (wC_get (ky_STA i1 h1 i2 h2)) rfl 12 (by decide) (hts _ hw) (fun _ h => h) rfl (ty := .int) rfl rfl rfl (Nat.le_of_ble_eq_true rfl) d (fun H1 locs1 hP1 _ hS1 => k H1 locs1 ls ?_ hS1 hl)
  show va_P _ _ _ _
  rw [← hset]
  simp only [ce, wI, and_self, if_true] at hP1 ⊢
  simpa using hP1
theorem g_STA_intervalEnd (he : pc + 3 = n) (ok : Ok X cc own) (hG : GC X G) {i1 : Nat} (h1 : i1 < 9) {i2 : Nat} (h2 : i2 < 4) {ix : Nat} (hw : Cond.fieldLink own ix "RetryChains$Station" "intervalEnd" "J" ∈ gw) (d : decode cc pc = .ok (.getfield ix, 3)) (k : Wt X M n lv (.long (M.2 39 i1 i2 0) :: st)) : Wt X M pc lv (.ref (G.1 + oSTA i1 i2) :: st) := by
  obtain ⟨p, l, e, R, s, m, args, below, meth, c, Q, H0, Wd, A, nL, cells, slots⟩ := X
  obtain ⟨⟨hx, hb, hml, hown, hts⟩, hlocks⟩ := ok
  obtain ⟨hWd, hA, ⟨hK, -⟩, -, -⟩ := hG
  subst he; subst hWd; subst hA
  intro H locs ls hW hS hl
  exact va_get (ci := 4) hx hb hts i_STA hown hK hW (oSTA i1 i2) (wC_get (ky_STA i1 h1 i2 h2)) rfl 13 (by decide) (hts _ hw) (fun _ h => h) rfl d (k H locs ls hW hS hl)
theorem p_STA_intervalEnd (he : pc + 3 = n) (ok : Ok X cc own) (hG : GC X G) {i1 : Nat} (h1 : i1 < 9) {i2 : Nat} (h2 : i2 < 4) {v : Int64} {ix : Nat} (hw : Cond.fieldLink own ix "RetryChains$Station" "intervalEnd" "J" ∈ gw) (d : decode cc pc = .ok (.putfield ix, 3)) (k : Wt X (wL M 39 i1 i2 0 v) n lv st) : Wt X M pc lv (.long v :: .ref (G.1 + oSTA i1 i2) :: st) := by
  obtain ⟨p, l, e, R, s, m, args, below, meth, c, Q, H0, Wd, A, nL, cells, slots⟩ := X
  obtain ⟨⟨hx, hb, hml, hown, hts⟩, hlocks⟩ := ok
  obtain ⟨hWd, hA, ⟨hK, -⟩, -, -⟩ := hG
  subst he; subst hWd; subst hA
  intro H locs ls hW hS hl
  have hset := wC_set (G := G) (M := M) (M' := wL M 39 i1 i2 0 v) (f := 39) (ky_STA i1 h1 i2 h2) rfl (fun h => by cases h) (fun _ _ _ _ _ => rfl) wL_2
  refine va_put (ci := 4) hx hb hts i_STA t_STA t_STA_ok n_STA hown hK hW (wC_D G M) hS (oSTA i1 i2) (wC_get (ky_STA i1 h1 i2 h2)) rfl 13 (by decide) (hts _ hw) (fun _ h => h) rfl (ty := .long) rfl rfl rfl (Nat.le_of_ble_eq_true rfl) d (fun H1 locs1 hP1 _ hS1 => k H1 locs1 ls ?_ hS1 hl)
  show va_P _ _ _ _
  rw [← hset]
  simp only [ce, wL, and_self, if_true] at hP1 ⊢
  simpa using hP1
theorem g_STA_draw (he : pc + 3 = n) (ok : Ok X cc own) (hG : GC X G) {i1 : Nat} (h1 : i1 < 9) {i2 : Nat} (h2 : i2 < 4) {ix : Nat} (hw : Cond.fieldLink own ix "RetryChains$Station" "draw" "I" ∈ gw) (d : decode cc pc = .ok (.getfield ix, 3)) (k : Wt X M n lv (.int (M.1 40 i1 i2 0) :: st)) : Wt X M pc lv (.ref (G.1 + oSTA i1 i2) :: st) := by
  obtain ⟨p, l, e, R, s, m, args, below, meth, c, Q, H0, Wd, A, nL, cells, slots⟩ := X
  obtain ⟨⟨hx, hb, hml, hown, hts⟩, hlocks⟩ := ok
  obtain ⟨hWd, hA, ⟨hK, -⟩, -, -⟩ := hG
  subst he; subst hWd; subst hA
  intro H locs ls hW hS hl
  exact va_get (ci := 4) hx hb hts i_STA hown hK hW (oSTA i1 i2) (wC_get (ky_STA i1 h1 i2 h2)) rfl 14 (by decide) (hts _ hw) (fun _ h => h) rfl d (k H locs ls hW hS hl)
theorem p_STA_draw (he : pc + 3 = n) (ok : Ok X cc own) (hG : GC X G) {i1 : Nat} (h1 : i1 < 9) {i2 : Nat} (h2 : i2 < 4) {v : Int32} {ix : Nat} (hw : Cond.fieldLink own ix "RetryChains$Station" "draw" "I" ∈ gw) (d : decode cc pc = .ok (.putfield ix, 3)) (k : Wt X (wI M 40 i1 i2 0 v) n lv st) : Wt X M pc lv (.int v :: .ref (G.1 + oSTA i1 i2) :: st) := by
  obtain ⟨p, l, e, R, s, m, args, below, meth, c, Q, H0, Wd, A, nL, cells, slots⟩ := X
  obtain ⟨⟨hx, hb, hml, hown, hts⟩, hlocks⟩ := ok
  obtain ⟨hWd, hA, ⟨hK, -⟩, -, -⟩ := hG
  subst he; subst hWd; subst hA
  intro H locs ls hW hS hl
  have hset := wC_set (G := G) (M := M) (M' := wI M 40 i1 i2 0 v) (f := 40) (ky_STA i1 h1 i2 h2) rfl (fun h => by cases h) wI_1 (fun _ _ _ _ _ => rfl)
  refine va_put (ci := 4) hx hb hts i_STA t_STA t_STA_ok n_STA hown hK hW (wC_D G M) hS (oSTA i1 i2) (wC_get (ky_STA i1 h1 i2 h2)) rfl 14 (by decide) (hts _ hw) (fun _ h => h) rfl (ty := .int) rfl rfl rfl (Nat.le_of_ble_eq_true rfl) d (fun H1 locs1 hP1 _ hS1 => k H1 locs1 ls ?_ hS1 hl)
  show va_P _ _ _ _
  rw [← hset]
  simp only [ce, wI, and_self, if_true] at hP1 ⊢
  simpa using hP1
theorem g_LNK_isAllowed (he : pc + 3 = n) (ok : Ok X cc own) (hG : GC X G) {i1 : Nat} (h1 : i1 < 9) {i2 : Nat} (h2 : i2 < 4) {i3 : Nat} (h3 : i3 < 8) {ix : Nat} (hw : Cond.fieldLink own ix "RetryChains$Link" "isAllowed" "Z" ∈ gw) (d : decode cc pc = .ok (.getfield ix, 3)) (k : Wt X M n lv (.int (M.1 20 i1 i2 i3) :: st)) : Wt X M pc lv (.ref (G.1 + oLNK i1 i2 i3) :: st) := by
  obtain ⟨p, l, e, R, s, m, args, below, meth, c, Q, H0, Wd, A, nL, cells, slots⟩ := X
  obtain ⟨⟨hx, hb, hml, hown, hts⟩, hlocks⟩ := ok
  obtain ⟨hWd, hA, ⟨hK, -⟩, -, -⟩ := hG
  subst he; subst hWd; subst hA
  intro H locs ls hW hS hl
  exact va_get (ci := 5) hx hb hts i_LNK hown hK hW (oLNK i1 i2 i3) (wC_get (ky_LNK i1 h1 i2 h2 i3 h3)) rfl 0 (by decide) (hts _ hw) (fun _ h => h) rfl d (k H locs ls hW hS hl)
theorem p_LNK_isAllowed (he : pc + 3 = n) (ok : Ok X cc own) (hG : GC X G) {i1 : Nat} (h1 : i1 < 9) {i2 : Nat} (h2 : i2 < 4) {i3 : Nat} (h3 : i3 < 8) {v : Int32} (hz : v = 0 ∨ v = 1) {ix : Nat} (hw : Cond.fieldLink own ix "RetryChains$Link" "isAllowed" "Z" ∈ gw) (d : decode cc pc = .ok (.putfield ix, 3)) (k : Wt X (wI M 20 i1 i2 i3 v) n lv st) : Wt X M pc lv (.int v :: .ref (G.1 + oLNK i1 i2 i3) :: st) := by
  obtain ⟨p, l, e, R, s, m, args, below, meth, c, Q, H0, Wd, A, nL, cells, slots⟩ := X
  obtain ⟨⟨hx, hb, hml, hown, hts⟩, hlocks⟩ := ok
  obtain ⟨hWd, hA, ⟨hK, -⟩, -, -⟩ := hG
  subst he; subst hWd; subst hA
  intro H locs ls hW hS hl
  rcases hz with rfl | rfl
  · have hset := wC_set (G := G) (M := M) (M' := wI M 20 i1 i2 i3 0) (f := 20) (ky_LNK i1 h1 i2 h2 i3 h3) rfl (fun h => by cases h) wI_1 (fun _ _ _ _ _ => rfl)
    refine va_put (ci := 5) hx hb hts i_LNK t_LNK t_LNK_ok n_LNK hown hK hW (wC_D G M) hS (oLNK i1 i2 i3) (wC_get (ky_LNK i1 h1 i2 h2 i3 h3)) rfl 0 (by decide) (hts _ hw) (fun _ h => h) rfl (ty := .boolean) rfl rfl rfl (Nat.le_of_ble_eq_true rfl) d (fun H1 locs1 hP1 _ hS1 => k H1 locs1 ls ?_ hS1 hl)
    show va_P _ _ _ _
    rw [← hset]
    simp only [ce, wI, and_self, if_true] at hP1 ⊢
    simpa using hP1
  · have hset := wC_set (G := G) (M := M) (M' := wI M 20 i1 i2 i3 1) (f := 20) (ky_LNK i1 h1 i2 h2 i3 h3) rfl (fun h => by cases h) wI_1 (fun _ _ _ _ _ => rfl)
    refine va_put (ci := 5) hx hb hts i_LNK t_LNK t_LNK_ok n_LNK hown hK hW (wC_D G M) hS (oLNK i1 i2 i3) (wC_get (ky_LNK i1 h1 i2 h2 i3 h3)) rfl 0 (by decide) (hts _ hw) (fun _ h => h) rfl (ty := .boolean) rfl rfl rfl (Nat.le_of_ble_eq_true rfl) d (fun H1 locs1 hP1 _ hS1 => k H1 locs1 ls ?_ hS1 hl)
    show va_P _ _ _ _
    rw [← hset]
    simp only [ce, wI, and_self, if_true] at hP1 ⊢
    simpa using hP1

theorem g_LNK_estimate (he : pc + 3 = n) (ok : Ok X cc own) (hG : GC X G) {i1 : Nat} (h1 : i1 < 9) {i2 : Nat} (h2 : i2 < 4) {i3 : Nat} (h3 : i3 < 8) {ix : Nat} (hw : Cond.fieldLink own ix "RetryChains$Link" "estimate" "I" ∈ gw) (d : decode cc pc = .ok (.getfield ix, 3)) (k : Wt X M n lv (.int (M.1 21 i1 i2 i3) :: st)) : Wt X M pc lv (.ref (G.1 + oLNK i1 i2 i3) :: st) := by
  obtain ⟨p, l, e, R, s, m, args, below, meth, c, Q, H0, Wd, A, nL, cells, slots⟩ := X
  obtain ⟨⟨hx, hb, hml, hown, hts⟩, hlocks⟩ := ok
  obtain ⟨hWd, hA, ⟨hK, -⟩, -, -⟩ := hG
  subst he; subst hWd; subst hA
  intro H locs ls hW hS hl
  exact va_get (ci := 5) hx hb hts i_LNK hown hK hW (oLNK i1 i2 i3) (wC_get (ky_LNK i1 h1 i2 h2 i3 h3)) rfl 1 (by decide) (hts _ hw) (fun _ h => h) rfl d (k H locs ls hW hS hl)
theorem p_LNK_estimate (he : pc + 3 = n) (ok : Ok X cc own) (hG : GC X G) {i1 : Nat} (h1 : i1 < 9) {i2 : Nat} (h2 : i2 < 4) {i3 : Nat} (h3 : i3 < 8) {v : Int32} {ix : Nat} (hw : Cond.fieldLink own ix "RetryChains$Link" "estimate" "I" ∈ gw) (d : decode cc pc = .ok (.putfield ix, 3)) (k : Wt X (wI M 21 i1 i2 i3 v) n lv st) : Wt X M pc lv (.int v :: .ref (G.1 + oLNK i1 i2 i3) :: st) := by
  obtain ⟨p, l, e, R, s, m, args, below, meth, c, Q, H0, Wd, A, nL, cells, slots⟩ := X
  obtain ⟨⟨hx, hb, hml, hown, hts⟩, hlocks⟩ := ok
  obtain ⟨hWd, hA, ⟨hK, -⟩, -, -⟩ := hG
  subst he; subst hWd; subst hA
  intro H locs ls hW hS hl
  have hset := wC_set (G := G) (M := M) (M' := wI M 21 i1 i2 i3 v) (f := 21) (ky_LNK i1 h1 i2 h2 i3 h3) rfl (fun h => by cases h) wI_1 (fun _ _ _ _ _ => rfl)
  refine va_put (ci := 5) hx hb hts i_LNK t_LNK t_LNK_ok n_LNK hown hK hW (wC_D G M) hS (oLNK i1 i2 i3) (wC_get (ky_LNK i1 h1 i2 h2 i3 h3)) rfl 1 (by decide) (hts _ hw) (fun _ h => h) rfl (ty := .int) rfl rfl rfl (Nat.le_of_ble_eq_true rfl) d (fun H1 locs1 hP1 _ hS1 => k H1 locs1 ls ?_ hS1 hl)
  show va_P _ _ _ _
  rw [← hset]
  simp only [ce, wI, and_self, if_true] at hP1 ⊢
  simpa using hP1
theorem g_LNK_tendency (he : pc + 3 = n) (ok : Ok X cc own) (hG : GC X G) {i1 : Nat} (h1 : i1 < 9) {i2 : Nat} (h2 : i2 < 4) {i3 : Nat} (h3 : i3 < 8) {ix : Nat} (hw : Cond.fieldLink own ix "RetryChains$Link" "tendency" "I" ∈ gw) (d : decode cc pc = .ok (.getfield ix, 3)) (k : Wt X M n lv (.int (M.1 22 i1 i2 i3) :: st)) : Wt X M pc lv (.ref (G.1 + oLNK i1 i2 i3) :: st) := by
  obtain ⟨p, l, e, R, s, m, args, below, meth, c, Q, H0, Wd, A, nL, cells, slots⟩ := X
  obtain ⟨⟨hx, hb, hml, hown, hts⟩, hlocks⟩ := ok
  obtain ⟨hWd, hA, ⟨hK, -⟩, -, -⟩ := hG
  subst he; subst hWd; subst hA
  intro H locs ls hW hS hl
  exact va_get (ci := 5) hx hb hts i_LNK hown hK hW (oLNK i1 i2 i3) (wC_get (ky_LNK i1 h1 i2 h2 i3 h3)) rfl 2 (by decide) (hts _ hw) (fun _ h => h) rfl d (k H locs ls hW hS hl)
theorem p_LNK_tendency (he : pc + 3 = n) (ok : Ok X cc own) (hG : GC X G) {i1 : Nat} (h1 : i1 < 9) {i2 : Nat} (h2 : i2 < 4) {i3 : Nat} (h3 : i3 < 8) {v : Int32} {ix : Nat} (hw : Cond.fieldLink own ix "RetryChains$Link" "tendency" "I" ∈ gw) (d : decode cc pc = .ok (.putfield ix, 3)) (k : Wt X (wI M 22 i1 i2 i3 v) n lv st) : Wt X M pc lv (.int v :: .ref (G.1 + oLNK i1 i2 i3) :: st) := by
  obtain ⟨p, l, e, R, s, m, args, below, meth, c, Q, H0, Wd, A, nL, cells, slots⟩ := X
  obtain ⟨⟨hx, hb, hml, hown, hts⟩, hlocks⟩ := ok
  obtain ⟨hWd, hA, ⟨hK, -⟩, -, -⟩ := hG
  subst he; subst hWd; subst hA
  intro H locs ls hW hS hl
  have hset := wC_set (G := G) (M := M) (M' := wI M 22 i1 i2 i3 v) (f := 22) (ky_LNK i1 h1 i2 h2 i3 h3) rfl (fun h => by cases h) wI_1 (fun _ _ _ _ _ => rfl)
  refine va_put (ci := 5) hx hb hts i_LNK t_LNK t_LNK_ok n_LNK hown hK hW (wC_D G M) hS (oLNK i1 i2 i3) (wC_get (ky_LNK i1 h1 i2 h2 i3 h3)) rfl 2 (by decide) (hts _ hw) (fun _ h => h) rfl (ty := .int) rfl rfl rfl (Nat.le_of_ble_eq_true rfl) d (fun H1 locs1 hP1 _ hS1 => k H1 locs1 ls ?_ hS1 hl)
  show va_P _ _ _ _
  rw [← hset]
  simp only [ce, wI, and_self, if_true] at hP1 ⊢
  simpa using hP1
theorem g_LNK_tries (he : pc + 3 = n) (ok : Ok X cc own) (hG : GC X G) {i1 : Nat} (h1 : i1 < 9) {i2 : Nat} (h2 : i2 < 4) {i3 : Nat} (h3 : i3 < 8) {ix : Nat} (hw : Cond.fieldLink own ix "RetryChains$Link" "tries" "I" ∈ gw) (d : decode cc pc = .ok (.getfield ix, 3)) (k : Wt X M n lv (.int (M.1 23 i1 i2 i3) :: st)) : Wt X M pc lv (.ref (G.1 + oLNK i1 i2 i3) :: st) := by
  obtain ⟨p, l, e, R, s, m, args, below, meth, c, Q, H0, Wd, A, nL, cells, slots⟩ := X
  obtain ⟨⟨hx, hb, hml, hown, hts⟩, hlocks⟩ := ok
  obtain ⟨hWd, hA, ⟨hK, -⟩, -, -⟩ := hG
  subst he; subst hWd; subst hA
  intro H locs ls hW hS hl
  exact va_get (ci := 5) hx hb hts i_LNK hown hK hW (oLNK i1 i2 i3) (wC_get (ky_LNK i1 h1 i2 h2 i3 h3)) rfl 3 (by decide) (hts _ hw) (fun _ h => h) rfl d (k H locs ls hW hS hl)
theorem p_LNK_tries (he : pc + 3 = n) (ok : Ok X cc own) (hG : GC X G) {i1 : Nat} (h1 : i1 < 9) {i2 : Nat} (h2 : i2 < 4) {i3 : Nat} (h3 : i3 < 8) {v : Int32} {ix : Nat} (hw : Cond.fieldLink own ix "RetryChains$Link" "tries" "I" ∈ gw) (d : decode cc pc = .ok (.putfield ix, 3)) (k : Wt X (wI M 23 i1 i2 i3 v) n lv st) : Wt X M pc lv (.int v :: .ref (G.1 + oLNK i1 i2 i3) :: st) := by
  obtain ⟨p, l, e, R, s, m, args, below, meth, c, Q, H0, Wd, A, nL, cells, slots⟩ := X
  obtain ⟨⟨hx, hb, hml, hown, hts⟩, hlocks⟩ := ok
  obtain ⟨hWd, hA, ⟨hK, -⟩, -, -⟩ := hG
  subst he; subst hWd; subst hA
  intro H locs ls hW hS hl
  have hset := wC_set (G := G) (M := M) (M' := wI M 23 i1 i2 i3 v) (f := 23) (ky_LNK i1 h1 i2 h2 i3 h3) rfl (fun h => by cases h) wI_1 (fun _ _ _ _ _ => rfl)
  refine va_put (ci := 5) hx hb hts i_LNK t_LNK t_LNK_ok n_LNK hown hK hW (wC_D G M) hS (oLNK i1 i2 i3) (wC_get (ky_LNK i1 h1 i2 h2 i3 h3)) rfl 3 (by decide) (hts _ hw) (fun _ h => h) rfl (ty := .int) rfl rfl rfl (Nat.le_of_ble_eq_true rfl) d (fun H1 locs1 hP1 _ hS1 => k H1 locs1 ls ?_ hS1 hl)
  show va_P _ _ _ _
  rw [← hset]
  simp only [ce, wI, and_self, if_true] at hP1 ⊢
  simpa using hP1
theorem g_LNK_successes (he : pc + 3 = n) (ok : Ok X cc own) (hG : GC X G) {i1 : Nat} (h1 : i1 < 9) {i2 : Nat} (h2 : i2 < 4) {i3 : Nat} (h3 : i3 < 8) {ix : Nat} (hw : Cond.fieldLink own ix "RetryChains$Link" "successes" "I" ∈ gw) (d : decode cc pc = .ok (.getfield ix, 3)) (k : Wt X M n lv (.int (M.1 24 i1 i2 i3) :: st)) : Wt X M pc lv (.ref (G.1 + oLNK i1 i2 i3) :: st) := by
  obtain ⟨p, l, e, R, s, m, args, below, meth, c, Q, H0, Wd, A, nL, cells, slots⟩ := X
  obtain ⟨⟨hx, hb, hml, hown, hts⟩, hlocks⟩ := ok
  obtain ⟨hWd, hA, ⟨hK, -⟩, -, -⟩ := hG
  subst he; subst hWd; subst hA
  intro H locs ls hW hS hl
  exact va_get (ci := 5) hx hb hts i_LNK hown hK hW (oLNK i1 i2 i3) (wC_get (ky_LNK i1 h1 i2 h2 i3 h3)) rfl 4 (by decide) (hts _ hw) (fun _ h => h) rfl d (k H locs ls hW hS hl)
theorem p_LNK_successes (he : pc + 3 = n) (ok : Ok X cc own) (hG : GC X G) {i1 : Nat} (h1 : i1 < 9) {i2 : Nat} (h2 : i2 < 4) {i3 : Nat} (h3 : i3 < 8) {v : Int32} {ix : Nat} (hw : Cond.fieldLink own ix "RetryChains$Link" "successes" "I" ∈ gw) (d : decode cc pc = .ok (.putfield ix, 3)) (k : Wt X (wI M 24 i1 i2 i3 v) n lv st) : Wt X M pc lv (.int v :: .ref (G.1 + oLNK i1 i2 i3) :: st) := by
  obtain ⟨p, l, e, R, s, m, args, below, meth, c, Q, H0, Wd, A, nL, cells, slots⟩ := X
  obtain ⟨⟨hx, hb, hml, hown, hts⟩, hlocks⟩ := ok
  obtain ⟨hWd, hA, ⟨hK, -⟩, -, -⟩ := hG
  subst he; subst hWd; subst hA
  intro H locs ls hW hS hl
  have hset := wC_set (G := G) (M := M) (M' := wI M 24 i1 i2 i3 v) (f := 24) (ky_LNK i1 h1 i2 h2 i3 h3) rfl (fun h => by cases h) wI_1 (fun _ _ _ _ _ => rfl)
  refine va_put (ci := 5) hx hb hts i_LNK t_LNK t_LNK_ok n_LNK hown hK hW (wC_D G M) hS (oLNK i1 i2 i3) (wC_get (ky_LNK i1 h1 i2 h2 i3 h3)) rfl 4 (by decide) (hts _ hw) (fun _ h => h) rfl (ty := .int) rfl rfl rfl (Nat.le_of_ble_eq_true rfl) d (fun H1 locs1 hP1 _ hS1 => k H1 locs1 ls ?_ hS1 hl)
  show va_P _ _ _ _
  rw [← hset]
  simp only [ce, wI, and_self, if_true] at hP1 ⊢
  simpa using hP1
theorem g_LNK_allTries (he : pc + 3 = n) (ok : Ok X cc own) (hG : GC X G) {i1 : Nat} (h1 : i1 < 9) {i2 : Nat} (h2 : i2 < 4) {i3 : Nat} (h3 : i3 < 8) {ix : Nat} (hw : Cond.fieldLink own ix "RetryChains$Link" "allTries" "I" ∈ gw) (d : decode cc pc = .ok (.getfield ix, 3)) (k : Wt X M n lv (.int (M.1 25 i1 i2 i3) :: st)) : Wt X M pc lv (.ref (G.1 + oLNK i1 i2 i3) :: st) := by
  obtain ⟨p, l, e, R, s, m, args, below, meth, c, Q, H0, Wd, A, nL, cells, slots⟩ := X
  obtain ⟨⟨hx, hb, hml, hown, hts⟩, hlocks⟩ := ok
  obtain ⟨hWd, hA, ⟨hK, -⟩, -, -⟩ := hG
  subst he; subst hWd; subst hA
  intro H locs ls hW hS hl
  exact va_get (ci := 5) hx hb hts i_LNK hown hK hW (oLNK i1 i2 i3) (wC_get (ky_LNK i1 h1 i2 h2 i3 h3)) rfl 5 (by decide) (hts _ hw) (fun _ h => h) rfl d (k H locs ls hW hS hl)
theorem p_LNK_allTries (he : pc + 3 = n) (ok : Ok X cc own) (hG : GC X G) {i1 : Nat} (h1 : i1 < 9) {i2 : Nat} (h2 : i2 < 4) {i3 : Nat} (h3 : i3 < 8) {v : Int32} {ix : Nat} (hw : Cond.fieldLink own ix "RetryChains$Link" "allTries" "I" ∈ gw) (d : decode cc pc = .ok (.putfield ix, 3)) (k : Wt X (wI M 25 i1 i2 i3 v) n lv st) : Wt X M pc lv (.int v :: .ref (G.1 + oLNK i1 i2 i3) :: st) := by
  obtain ⟨p, l, e, R, s, m, args, below, meth, c, Q, H0, Wd, A, nL, cells, slots⟩ := X
  obtain ⟨⟨hx, hb, hml, hown, hts⟩, hlocks⟩ := ok
  obtain ⟨hWd, hA, ⟨hK, -⟩, -, -⟩ := hG
  subst he; subst hWd; subst hA
  intro H locs ls hW hS hl
  have hset := wC_set (G := G) (M := M) (M' := wI M 25 i1 i2 i3 v) (f := 25) (ky_LNK i1 h1 i2 h2 i3 h3) rfl (fun h => by cases h) wI_1 (fun _ _ _ _ _ => rfl)
  refine va_put (ci := 5) hx hb hts i_LNK t_LNK t_LNK_ok n_LNK hown hK hW (wC_D G M) hS (oLNK i1 i2 i3) (wC_get (ky_LNK i1 h1 i2 h2 i3 h3)) rfl 5 (by decide) (hts _ hw) (fun _ h => h) rfl (ty := .int) rfl rfl rfl (Nat.le_of_ble_eq_true rfl) d (fun H1 locs1 hP1 _ hS1 => k H1 locs1 ls ?_ hS1 hl)
  show va_P _ _ _ _
  rw [← hset]
  simp only [ce, wI, and_self, if_true] at hP1 ⊢
  simpa using hP1
theorem g_LNK_allSuccesses (he : pc + 3 = n) (ok : Ok X cc own) (hG : GC X G) {i1 : Nat} (h1 : i1 < 9) {i2 : Nat} (h2 : i2 < 4) {i3 : Nat} (h3 : i3 < 8) {ix : Nat} (hw : Cond.fieldLink own ix "RetryChains$Link" "allSuccesses" "I" ∈ gw) (d : decode cc pc = .ok (.getfield ix, 3)) (k : Wt X M n lv (.int (M.1 26 i1 i2 i3) :: st)) : Wt X M pc lv (.ref (G.1 + oLNK i1 i2 i3) :: st) := by
  obtain ⟨p, l, e, R, s, m, args, below, meth, c, Q, H0, Wd, A, nL, cells, slots⟩ := X
  obtain ⟨⟨hx, hb, hml, hown, hts⟩, hlocks⟩ := ok
  obtain ⟨hWd, hA, ⟨hK, -⟩, -, -⟩ := hG
  subst he; subst hWd; subst hA
  intro H locs ls hW hS hl
  exact va_get (ci := 5) hx hb hts i_LNK hown hK hW (oLNK i1 i2 i3) (wC_get (ky_LNK i1 h1 i2 h2 i3 h3)) rfl 6 (by decide) (hts _ hw) (fun _ h => h) rfl d (k H locs ls hW hS hl)
theorem p_LNK_allSuccesses (he : pc + 3 = n) (ok : Ok X cc own) (hG : GC X G) {i1 : Nat} (h1 : i1 < 9) {i2 : Nat} (h2 : i2 < 4) {i3 : Nat} (h3 : i3 < 8) {v : Int32} {ix : Nat} (hw : Cond.fieldLink own ix "RetryChains$Link" "allSuccesses" "I" ∈ gw) (d : decode cc pc = .ok (.putfield ix, 3)) (k : Wt X (wI M 26 i1 i2 i3 v) n lv st) : Wt X M pc lv (.int v :: .ref (G.1 + oLNK i1 i2 i3) :: st) := by
  obtain ⟨p, l, e, R, s, m, args, below, meth, c, Q, H0, Wd, A, nL, cells, slots⟩ := X
  obtain ⟨⟨hx, hb, hml, hown, hts⟩, hlocks⟩ := ok
  obtain ⟨hWd, hA, ⟨hK, -⟩, -, -⟩ := hG
  subst he; subst hWd; subst hA
  intro H locs ls hW hS hl
  have hset := wC_set (G := G) (M := M) (M' := wI M 26 i1 i2 i3 v) (f := 26) (ky_LNK i1 h1 i2 h2 i3 h3) rfl (fun h => by cases h) wI_1 (fun _ _ _ _ _ => rfl)
  refine va_put (ci := 5) hx hb hts i_LNK t_LNK t_LNK_ok n_LNK hown hK hW (wC_D G M) hS (oLNK i1 i2 i3) (wC_get (ky_LNK i1 h1 i2 h2 i3 h3)) rfl 6 (by decide) (hts _ hw) (fun _ h => h) rfl (ty := .int) rfl rfl rfl (Nat.le_of_ble_eq_true rfl) d (fun H1 locs1 hP1 _ hS1 => k H1 locs1 ls ?_ hS1 hl)
  show va_P _ _ _ _
  rw [← hset]
  simp only [ce, wI, and_self, if_true] at hP1 ⊢
  simpa using hP1
theorem g_LNK_quality (he : pc + 3 = n) (ok : Ok X cc own) (hG : GC X G) {i1 : Nat} (h1 : i1 < 9) {i2 : Nat} (h2 : i2 < 4) {i3 : Nat} (h3 : i3 < 8) {ix : Nat} (hw : Cond.fieldLink own ix "RetryChains$Link" "quality" "I" ∈ gw) (d : decode cc pc = .ok (.getfield ix, 3)) (k : Wt X M n lv (.int (M.1 27 i1 i2 i3) :: st)) : Wt X M pc lv (.ref (G.1 + oLNK i1 i2 i3) :: st) := by
  obtain ⟨p, l, e, R, s, m, args, below, meth, c, Q, H0, Wd, A, nL, cells, slots⟩ := X
  obtain ⟨⟨hx, hb, hml, hown, hts⟩, hlocks⟩ := ok
  obtain ⟨hWd, hA, ⟨hK, -⟩, -, -⟩ := hG
  subst he; subst hWd; subst hA
  intro H locs ls hW hS hl
  exact va_get (ci := 5) hx hb hts i_LNK hown hK hW (oLNK i1 i2 i3) (wC_get (ky_LNK i1 h1 i2 h2 i3 h3)) rfl 7 (by decide) (hts _ hw) (fun _ h => h) rfl d (k H locs ls hW hS hl)
theorem p_LNK_quality (he : pc + 3 = n) (ok : Ok X cc own) (hG : GC X G) {i1 : Nat} (h1 : i1 < 9) {i2 : Nat} (h2 : i2 < 4) {i3 : Nat} (h3 : i3 < 8) {v : Int32} {ix : Nat} (hw : Cond.fieldLink own ix "RetryChains$Link" "quality" "I" ∈ gw) (d : decode cc pc = .ok (.putfield ix, 3)) (k : Wt X (wI M 27 i1 i2 i3 v) n lv st) : Wt X M pc lv (.int v :: .ref (G.1 + oLNK i1 i2 i3) :: st) := by
  obtain ⟨p, l, e, R, s, m, args, below, meth, c, Q, H0, Wd, A, nL, cells, slots⟩ := X
  obtain ⟨⟨hx, hb, hml, hown, hts⟩, hlocks⟩ := ok
  obtain ⟨hWd, hA, ⟨hK, -⟩, -, -⟩ := hG
  subst he; subst hWd; subst hA
  intro H locs ls hW hS hl
  have hset := wC_set (G := G) (M := M) (M' := wI M 27 i1 i2 i3 v) (f := 27) (ky_LNK i1 h1 i2 h2 i3 h3) rfl (fun h => by cases h) wI_1 (fun _ _ _ _ _ => rfl)
  refine va_put (ci := 5) hx hb hts i_LNK t_LNK t_LNK_ok n_LNK hown hK hW (wC_D G M) hS (oLNK i1 i2 i3) (wC_get (ky_LNK i1 h1 i2 h2 i3 h3)) rfl 7 (by decide) (hts _ hw) (fun _ h => h) rfl (ty := .int) rfl rfl rfl (Nat.le_of_ble_eq_true rfl) d (fun H1 locs1 hP1 _ hS1 => k H1 locs1 ls ?_ hS1 hl)
  show va_P _ _ _ _
  rw [← hset]
  simp only [ce, wI, and_self, if_true] at hP1 ⊢
  simpa using hP1
theorem g_CHN_isOpen (he : pc + 3 = n) (ok : Ok X cc own) (hG : GC X G) {i1 : Nat} (h1 : i1 < 9) {i2 : Nat} (h2 : i2 < 6) {ix : Nat} (hw : Cond.fieldLink own ix "RetryChains$Chain" "isOpen" "Z" ∈ gw) (d : decode cc pc = .ok (.getfield ix, 3)) (k : Wt X M n lv (.int (M.1 50 i1 i2 0) :: st)) : Wt X M pc lv (.ref (G.1 + oCHN i1 i2) :: st) := by
  obtain ⟨p, l, e, R, s, m, args, below, meth, c, Q, H0, Wd, A, nL, cells, slots⟩ := X
  obtain ⟨⟨hx, hb, hml, hown, hts⟩, hlocks⟩ := ok
  obtain ⟨hWd, hA, ⟨hK, -⟩, -, -⟩ := hG
  subst he; subst hWd; subst hA
  intro H locs ls hW hS hl
  exact va_get (ci := 6) hx hb hts i_CHN hown hK hW (oCHN i1 i2) (wC_get (ky_CHN i1 h1 i2 h2)) rfl 0 (by decide) (hts _ hw) (fun _ h => h) rfl d (k H locs ls hW hS hl)
theorem p_CHN_isOpen (he : pc + 3 = n) (ok : Ok X cc own) (hG : GC X G) {i1 : Nat} (h1 : i1 < 9) {i2 : Nat} (h2 : i2 < 6) {v : Int32} (hz : v = 0 ∨ v = 1) {ix : Nat} (hw : Cond.fieldLink own ix "RetryChains$Chain" "isOpen" "Z" ∈ gw) (d : decode cc pc = .ok (.putfield ix, 3)) (k : Wt X (wI M 50 i1 i2 0 v) n lv st) : Wt X M pc lv (.int v :: .ref (G.1 + oCHN i1 i2) :: st) := by
  obtain ⟨p, l, e, R, s, m, args, below, meth, c, Q, H0, Wd, A, nL, cells, slots⟩ := X
  obtain ⟨⟨hx, hb, hml, hown, hts⟩, hlocks⟩ := ok
  obtain ⟨hWd, hA, ⟨hK, -⟩, -, -⟩ := hG
  subst he; subst hWd; subst hA
  intro H locs ls hW hS hl
  rcases hz with rfl | rfl
  · have hset := wC_set (G := G) (M := M) (M' := wI M 50 i1 i2 0 0) (f := 50) (ky_CHN i1 h1 i2 h2) rfl (fun h => by cases h) wI_1 (fun _ _ _ _ _ => rfl)
    refine va_put (ci := 6) hx hb hts i_CHN t_CHN t_CHN_ok n_CHN hown hK hW (wC_D G M) hS (oCHN i1 i2) (wC_get (ky_CHN i1 h1 i2 h2)) rfl 0 (by decide) (hts _ hw) (fun _ h => h) rfl (ty := .boolean) rfl rfl rfl (Nat.le_of_ble_eq_true rfl) d (fun H1 locs1 hP1 _ hS1 => k H1 locs1 ls ?_ hS1 hl)
    show va_P _ _ _ _
    rw [← hset]
    simp only [ce, wI, and_self, if_true] at hP1 ⊢
    simpa using hP1
  · have hset := wC_set (G := G) (M := M) (M' := wI M 50 i1 i2 0 1) (f := 50) (ky_CHN i1 h1 i2 h2) rfl (fun h => by cases h) wI_1 (fun _ _ _ _ _ => rfl)
    refine va_put (ci := 6) hx hb hts i_CHN t_CHN t_CHN_ok n_CHN hown hK hW (wC_D G M) hS (oCHN i1 i2) (wC_get (ky_CHN i1 h1 i2 h2)) rfl 0 (by decide) (hts _ hw) (fun _ h => h) rfl (ty := .boolean) rfl rfl rfl (Nat.le_of_ble_eq_true rfl) d (fun H1 locs1 hP1 _ hS1 => k H1 locs1 ls ?_ hS1 hl)
    show va_P _ _ _ _
    rw [← hset]
    simp only [ce, wI, and_self, if_true] at hP1 ⊢
    simpa using hP1

theorem g_CHN_station (he : pc + 3 = n) (ok : Ok X cc own) (hG : GC X G) {i1 : Nat} (h1 : i1 < 9) {i2 : Nat} (h2 : i2 < 6) {ix : Nat} (hw : Cond.fieldLink own ix "RetryChains$Chain" "station" "I" ∈ gw) (d : decode cc pc = .ok (.getfield ix, 3)) (k : Wt X M n lv (.int (M.1 51 i1 i2 0) :: st)) : Wt X M pc lv (.ref (G.1 + oCHN i1 i2) :: st) := by
  obtain ⟨p, l, e, R, s, m, args, below, meth, c, Q, H0, Wd, A, nL, cells, slots⟩ := X
  obtain ⟨⟨hx, hb, hml, hown, hts⟩, hlocks⟩ := ok
  obtain ⟨hWd, hA, ⟨hK, -⟩, -, -⟩ := hG
  subst he; subst hWd; subst hA
  intro H locs ls hW hS hl
  exact va_get (ci := 6) hx hb hts i_CHN hown hK hW (oCHN i1 i2) (wC_get (ky_CHN i1 h1 i2 h2)) rfl 1 (by decide) (hts _ hw) (fun _ h => h) rfl d (k H locs ls hW hS hl)
theorem p_CHN_station (he : pc + 3 = n) (ok : Ok X cc own) (hG : GC X G) {i1 : Nat} (h1 : i1 < 9) {i2 : Nat} (h2 : i2 < 6) {v : Int32} {ix : Nat} (hw : Cond.fieldLink own ix "RetryChains$Chain" "station" "I" ∈ gw) (d : decode cc pc = .ok (.putfield ix, 3)) (k : Wt X (wI M 51 i1 i2 0 v) n lv st) : Wt X M pc lv (.int v :: .ref (G.1 + oCHN i1 i2) :: st) := by
  obtain ⟨p, l, e, R, s, m, args, below, meth, c, Q, H0, Wd, A, nL, cells, slots⟩ := X
  obtain ⟨⟨hx, hb, hml, hown, hts⟩, hlocks⟩ := ok
  obtain ⟨hWd, hA, ⟨hK, -⟩, -, -⟩ := hG
  subst he; subst hWd; subst hA
  intro H locs ls hW hS hl
  have hset := wC_set (G := G) (M := M) (M' := wI M 51 i1 i2 0 v) (f := 51) (ky_CHN i1 h1 i2 h2) rfl (fun h => by cases h) wI_1 (fun _ _ _ _ _ => rfl)
  refine va_put (ci := 6) hx hb hts i_CHN t_CHN t_CHN_ok n_CHN hown hK hW (wC_D G M) hS (oCHN i1 i2) (wC_get (ky_CHN i1 h1 i2 h2)) rfl 1 (by decide) (hts _ hw) (fun _ h => h) rfl (ty := .int) rfl rfl rfl (Nat.le_of_ble_eq_true rfl) d (fun H1 locs1 hP1 _ hS1 => k H1 locs1 ls ?_ hS1 hl)
  show va_P _ _ _ _
  rw [← hset]
  simp only [ce, wI, and_self, if_true] at hP1 ⊢
  simpa using hP1
theorem g_CHN_size (he : pc + 3 = n) (ok : Ok X cc own) (hG : GC X G) {i1 : Nat} (h1 : i1 < 9) {i2 : Nat} (h2 : i2 < 6) {ix : Nat} (hw : Cond.fieldLink own ix "RetryChains$Chain" "size" "I" ∈ gw) (d : decode cc pc = .ok (.getfield ix, 3)) (k : Wt X M n lv (.int (M.1 52 i1 i2 0) :: st)) : Wt X M pc lv (.ref (G.1 + oCHN i1 i2) :: st) := by
  obtain ⟨p, l, e, R, s, m, args, below, meth, c, Q, H0, Wd, A, nL, cells, slots⟩ := X
  obtain ⟨⟨hx, hb, hml, hown, hts⟩, hlocks⟩ := ok
  obtain ⟨hWd, hA, ⟨hK, -⟩, -, -⟩ := hG
  subst he; subst hWd; subst hA
  intro H locs ls hW hS hl
  exact va_get (ci := 6) hx hb hts i_CHN hown hK hW (oCHN i1 i2) (wC_get (ky_CHN i1 h1 i2 h2)) rfl 2 (by decide) (hts _ hw) (fun _ h => h) rfl d (k H locs ls hW hS hl)
theorem p_CHN_size (he : pc + 3 = n) (ok : Ok X cc own) (hG : GC X G) {i1 : Nat} (h1 : i1 < 9) {i2 : Nat} (h2 : i2 < 6) {v : Int32} {ix : Nat} (hw : Cond.fieldLink own ix "RetryChains$Chain" "size" "I" ∈ gw) (d : decode cc pc = .ok (.putfield ix, 3)) (k : Wt X (wI M 52 i1 i2 0 v) n lv st) : Wt X M pc lv (.int v :: .ref (G.1 + oCHN i1 i2) :: st) := by
  obtain ⟨p, l, e, R, s, m, args, below, meth, c, Q, H0, Wd, A, nL, cells, slots⟩ := X
  obtain ⟨⟨hx, hb, hml, hown, hts⟩, hlocks⟩ := ok
  obtain ⟨hWd, hA, ⟨hK, -⟩, -, -⟩ := hG
  subst he; subst hWd; subst hA
  intro H locs ls hW hS hl
  have hset := wC_set (G := G) (M := M) (M' := wI M 52 i1 i2 0 v) (f := 52) (ky_CHN i1 h1 i2 h2) rfl (fun h => by cases h) wI_1 (fun _ _ _ _ _ => rfl)
  refine va_put (ci := 6) hx hb hts i_CHN t_CHN t_CHN_ok n_CHN hown hK hW (wC_D G M) hS (oCHN i1 i2) (wC_get (ky_CHN i1 h1 i2 h2)) rfl 2 (by decide) (hts _ hw) (fun _ h => h) rfl (ty := .int) rfl rfl rfl (Nat.le_of_ble_eq_true rfl) d (fun H1 locs1 hP1 _ hS1 => k H1 locs1 ls ?_ hS1 hl)
  show va_P _ _ _ _
  rw [← hset]
  simp only [ce, wI, and_self, if_true] at hP1 ⊢
  simpa using hP1
theorem g_CHN_kind (he : pc + 3 = n) (ok : Ok X cc own) (hG : GC X G) {i1 : Nat} (h1 : i1 < 9) {i2 : Nat} (h2 : i2 < 6) {ix : Nat} (hw : Cond.fieldLink own ix "RetryChains$Chain" "kind" "I" ∈ gw) (d : decode cc pc = .ok (.getfield ix, 3)) (k : Wt X M n lv (.int (M.1 53 i1 i2 0) :: st)) : Wt X M pc lv (.ref (G.1 + oCHN i1 i2) :: st) := by
  obtain ⟨p, l, e, R, s, m, args, below, meth, c, Q, H0, Wd, A, nL, cells, slots⟩ := X
  obtain ⟨⟨hx, hb, hml, hown, hts⟩, hlocks⟩ := ok
  obtain ⟨hWd, hA, ⟨hK, -⟩, -, -⟩ := hG
  subst he; subst hWd; subst hA
  intro H locs ls hW hS hl
  exact va_get (ci := 6) hx hb hts i_CHN hown hK hW (oCHN i1 i2) (wC_get (ky_CHN i1 h1 i2 h2)) rfl 3 (by decide) (hts _ hw) (fun _ h => h) rfl d (k H locs ls hW hS hl)
theorem p_CHN_kind (he : pc + 3 = n) (ok : Ok X cc own) (hG : GC X G) {i1 : Nat} (h1 : i1 < 9) {i2 : Nat} (h2 : i2 < 6) {v : Int32} {ix : Nat} (hw : Cond.fieldLink own ix "RetryChains$Chain" "kind" "I" ∈ gw) (d : decode cc pc = .ok (.putfield ix, 3)) (k : Wt X (wI M 53 i1 i2 0 v) n lv st) : Wt X M pc lv (.int v :: .ref (G.1 + oCHN i1 i2) :: st) := by
  obtain ⟨p, l, e, R, s, m, args, below, meth, c, Q, H0, Wd, A, nL, cells, slots⟩ := X
  obtain ⟨⟨hx, hb, hml, hown, hts⟩, hlocks⟩ := ok
  obtain ⟨hWd, hA, ⟨hK, -⟩, -, -⟩ := hG
  subst he; subst hWd; subst hA
  intro H locs ls hW hS hl
  have hset := wC_set (G := G) (M := M) (M' := wI M 53 i1 i2 0 v) (f := 53) (ky_CHN i1 h1 i2 h2) rfl (fun h => by cases h) wI_1 (fun _ _ _ _ _ => rfl)
  refine va_put (ci := 6) hx hb hts i_CHN t_CHN t_CHN_ok n_CHN hown hK hW (wC_D G M) hS (oCHN i1 i2) (wC_get (ky_CHN i1 h1 i2 h2)) rfl 3 (by decide) (hts _ hw) (fun _ h => h) rfl (ty := .int) rfl rfl rfl (Nat.le_of_ble_eq_true rfl) d (fun H1 locs1 hP1 _ hS1 => k H1 locs1 ls ?_ hS1 hl)
  show va_P _ _ _ _
  rw [← hset]
  simp only [ce, wI, and_self, if_true] at hP1 ⊢
  simpa using hP1
theorem g_CHN_sampleEntry (he : pc + 3 = n) (ok : Ok X cc own) (hG : GC X G) {i1 : Nat} (h1 : i1 < 9) {i2 : Nat} (h2 : i2 < 6) {ix : Nat} (hw : Cond.fieldLink own ix "RetryChains$Chain" "sampleEntry" "I" ∈ gw) (d : decode cc pc = .ok (.getfield ix, 3)) (k : Wt X M n lv (.int (M.1 54 i1 i2 0) :: st)) : Wt X M pc lv (.ref (G.1 + oCHN i1 i2) :: st) := by
  obtain ⟨p, l, e, R, s, m, args, below, meth, c, Q, H0, Wd, A, nL, cells, slots⟩ := X
  obtain ⟨⟨hx, hb, hml, hown, hts⟩, hlocks⟩ := ok
  obtain ⟨hWd, hA, ⟨hK, -⟩, -, -⟩ := hG
  subst he; subst hWd; subst hA
  intro H locs ls hW hS hl
  exact va_get (ci := 6) hx hb hts i_CHN hown hK hW (oCHN i1 i2) (wC_get (ky_CHN i1 h1 i2 h2)) rfl 4 (by decide) (hts _ hw) (fun _ h => h) rfl d (k H locs ls hW hS hl)
theorem p_CHN_sampleEntry (he : pc + 3 = n) (ok : Ok X cc own) (hG : GC X G) {i1 : Nat} (h1 : i1 < 9) {i2 : Nat} (h2 : i2 < 6) {v : Int32} {ix : Nat} (hw : Cond.fieldLink own ix "RetryChains$Chain" "sampleEntry" "I" ∈ gw) (d : decode cc pc = .ok (.putfield ix, 3)) (k : Wt X (wI M 54 i1 i2 0 v) n lv st) : Wt X M pc lv (.int v :: .ref (G.1 + oCHN i1 i2) :: st) := by
  obtain ⟨p, l, e, R, s, m, args, below, meth, c, Q, H0, Wd, A, nL, cells, slots⟩ := X
  obtain ⟨⟨hx, hb, hml, hown, hts⟩, hlocks⟩ := ok
  obtain ⟨hWd, hA, ⟨hK, -⟩, -, -⟩ := hG
  subst he; subst hWd; subst hA
  intro H locs ls hW hS hl
  have hset := wC_set (G := G) (M := M) (M' := wI M 54 i1 i2 0 v) (f := 54) (ky_CHN i1 h1 i2 h2) rfl (fun h => by cases h) wI_1 (fun _ _ _ _ _ => rfl)
  refine va_put (ci := 6) hx hb hts i_CHN t_CHN t_CHN_ok n_CHN hown hK hW (wC_D G M) hS (oCHN i1 i2) (wC_get (ky_CHN i1 h1 i2 h2)) rfl 4 (by decide) (hts _ hw) (fun _ h => h) rfl (ty := .int) rfl rfl rfl (Nat.le_of_ble_eq_true rfl) d (fun H1 locs1 hP1 _ hS1 => k H1 locs1 ls ?_ hS1 hl)
  show va_P _ _ _ _
  rw [← hset]
  simp only [ce, wI, and_self, if_true] at hP1 ⊢
  simpa using hP1
theorem g_CHN_rates (he : pc + 3 = n) (ok : Ok X cc own) (hG : GC X G) {i1 : Nat} (h1 : i1 < 9) {i2 : Nat} (h2 : i2 < 6) {ix : Nat} (hw : Cond.fieldLink own ix "RetryChains$Chain" "rates" "[I" ∈ gw) (d : decode cc pc = .ok (.getfield ix, 3)) (k : Wt X M n lv (.ref (G.1 + oCRATES i1 i2) :: st)) : Wt X M pc lv (.ref (G.1 + oCHN i1 i2) :: st) := by
  obtain ⟨p, l, e, R, s, m, args, below, meth, c, Q, H0, Wd, A, nL, cells, slots⟩ := X
  obtain ⟨⟨hx, hb, hml, hown, hts⟩, hlocks⟩ := ok
  obtain ⟨hWd, hA, ⟨hK, -⟩, -, -⟩ := hG
  subst he; subst hWd; subst hA
  intro H locs ls hW hS hl
  exact va_get (ci := 6) hx hb hts i_CHN hown hK hW (oCHN i1 i2) (wC_get (ky_CHN i1 h1 i2 h2)) rfl 5 (by decide) (hts _ hw) (fun _ h => h) rfl d (k H locs ls hW hS hl)
theorem g_CHN_tries (he : pc + 3 = n) (ok : Ok X cc own) (hG : GC X G) {i1 : Nat} (h1 : i1 < 9) {i2 : Nat} (h2 : i2 < 6) {ix : Nat} (hw : Cond.fieldLink own ix "RetryChains$Chain" "tries" "[I" ∈ gw) (d : decode cc pc = .ok (.getfield ix, 3)) (k : Wt X M n lv (.ref (G.1 + oCTRIES i1 i2) :: st)) : Wt X M pc lv (.ref (G.1 + oCHN i1 i2) :: st) := by
  obtain ⟨p, l, e, R, s, m, args, below, meth, c, Q, H0, Wd, A, nL, cells, slots⟩ := X
  obtain ⟨⟨hx, hb, hml, hown, hts⟩, hlocks⟩ := ok
  obtain ⟨hWd, hA, ⟨hK, -⟩, -, -⟩ := hG
  subst he; subst hWd; subst hA
  intro H locs ls hW hS hl
  exact va_get (ci := 6) hx hb hts i_CHN hown hK hW (oCHN i1 i2) (wC_get (ky_CHN i1 h1 i2 h2)) rfl 6 (by decide) (hts _ hw) (fun _ h => h) rfl d (k H locs ls hW hS hl)
theorem g_HIS_states (he : pc + 3 = n) (ok : Ok X cc own) (hG : GC X G)  {ix : Nat} (hw : Cond.fieldLink own ix "RetryChains$History" "states" "[LRetryChains$Network;" ∈ gw) (d : decode cc pc = .ok (.getfield ix, 3)) (k : Wt X M n lv (.ref (G.1 + oSTATES) :: st)) : Wt X M pc lv (.ref (G.1 + oHIS) :: st) := by
  obtain ⟨p, l, e, R, s, m, args, below, meth, c, Q, H0, Wd, A, nL, cells, slots⟩ := X
  obtain ⟨⟨hx, hb, hml, hown, hts⟩, hlocks⟩ := ok
  obtain ⟨hWd, hA, ⟨hK, -⟩, -, -⟩ := hG
  subst he; subst hWd; subst hA
  intro H locs ls hW hS hl
  exact va_get (ci := 7) hx hb hts i_HIS hown hK hW (oHIS) (wC_get (ky_HIS)) rfl 0 (by decide) (hts _ hw) (fun _ h => h) rfl d (k H locs ls hW hS hl)
theorem g_HIS_oldest (he : pc + 3 = n) (ok : Ok X cc own) (hG : GC X G)  {ix : Nat} (hw : Cond.fieldLink own ix "RetryChains$History" "oldest" "I" ∈ gw) (d : decode cc pc = .ok (.getfield ix, 3)) (k : Wt X M n lv (.int (M.1 70 0 0 0) :: st)) : Wt X M pc lv (.ref (G.1 + oHIS) :: st) := by
  obtain ⟨p, l, e, R, s, m, args, below, meth, c, Q, H0, Wd, A, nL, cells, slots⟩ := X
  obtain ⟨⟨hx, hb, hml, hown, hts⟩, hlocks⟩ := ok
  obtain ⟨hWd, hA, ⟨hK, -⟩, -, -⟩ := hG
  subst he; subst hWd; subst hA
  intro H locs ls hW hS hl
  exact va_get (ci := 7) hx hb hts i_HIS hown hK hW (oHIS) (wC_get (ky_HIS)) rfl 1 (by decide) (hts _ hw) (fun _ h => h) rfl d (k H locs ls hW hS hl)
theorem p_HIS_oldest (he : pc + 3 = n) (ok : Ok X cc own) (hG : GC X G)  {v : Int32} {ix : Nat} (hw : Cond.fieldLink own ix "RetryChains$History" "oldest" "I" ∈ gw) (d : decode cc pc = .ok (.putfield ix, 3)) (k : Wt X (wI M 70 0 0 0 v) n lv st) : Wt X M pc lv (.int v :: .ref (G.1 + oHIS) :: st) := by
  obtain ⟨p, l, e, R, s, m, args, below, meth, c, Q, H0, Wd, A, nL, cells, slots⟩ := X
  obtain ⟨⟨hx, hb, hml, hown, hts⟩, hlocks⟩ := ok
  obtain ⟨hWd, hA, ⟨hK, -⟩, -, -⟩ := hG
  subst he; subst hWd; subst hA
  intro H locs ls hW hS hl
  have hset := wC_set (G := G) (M := M) (M' := wI M 70 0 0 0 v) (f := 70) (ky_HIS) rfl (fun h => by cases h) wI_1 (fun _ _ _ _ _ => rfl)
  refine va_put (ci := 7) hx hb hts i_HIS t_HIS t_HIS_ok n_HIS hown hK hW (wC_D G M) hS (oHIS) (wC_get (ky_HIS)) rfl 1 (by decide) (hts _ hw) (fun _ h => h) rfl (ty := .int) rfl rfl rfl (Nat.le_of_ble_eq_true rfl) d (fun H1 locs1 hP1 _ hS1 => k H1 locs1 ls ?_ hS1 hl)
  show va_P _ _ _ _
  rw [← hset]
  simp only [ce, wI, and_self, if_true] at hP1 ⊢
  simpa using hP1
theorem g_HIS_count (he : pc + 3 = n) (ok : Ok X cc own) (hG : GC X G)  {ix : Nat} (hw : Cond.fieldLink own ix "RetryChains$History" "count" "I" ∈ gw) (d : decode cc pc = .ok (.getfield ix, 3)) (k : Wt X M n lv (.int (M.1 71 0 0 0) :: st)) : Wt X M pc lv (.ref (G.1 + oHIS) :: st) := by
  obtain ⟨p, l, e, R, s, m, args, below, meth, c, Q, H0, Wd, A, nL, cells, slots⟩ := X
  obtain ⟨⟨hx, hb, hml, hown, hts⟩, hlocks⟩ := ok
  obtain ⟨hWd, hA, ⟨hK, -⟩, -, -⟩ := hG
  subst he; subst hWd; subst hA
  intro H locs ls hW hS hl
  exact va_get (ci := 7) hx hb hts i_HIS hown hK hW (oHIS) (wC_get (ky_HIS)) rfl 2 (by decide) (hts _ hw) (fun _ h => h) rfl d (k H locs ls hW hS hl)
theorem p_HIS_count (he : pc + 3 = n) (ok : Ok X cc own) (hG : GC X G)  {v : Int32} {ix : Nat} (hw : Cond.fieldLink own ix "RetryChains$History" "count" "I" ∈ gw) (d : decode cc pc = .ok (.putfield ix, 3)) (k : Wt X (wI M 71 0 0 0 v) n lv st) : Wt X M pc lv (.int v :: .ref (G.1 + oHIS) :: st) := by
  obtain ⟨p, l, e, R, s, m, args, below, meth, c, Q, H0, Wd, A, nL, cells, slots⟩ := X
  obtain ⟨⟨hx, hb, hml, hown, hts⟩, hlocks⟩ := ok
  obtain ⟨hWd, hA, ⟨hK, -⟩, -, -⟩ := hG
  subst he; subst hWd; subst hA
  intro H locs ls hW hS hl
  have hset := wC_set (G := G) (M := M) (M' := wI M 71 0 0 0 v) (f := 71) (ky_HIS) rfl (fun h => by cases h) wI_1 (fun _ _ _ _ _ => rfl)
  refine va_put (ci := 7) hx hb hts i_HIS t_HIS t_HIS_ok n_HIS hown hK hW (wC_D G M) hS (oHIS) (wC_get (ky_HIS)) rfl 2 (by decide) (hts _ hw) (fun _ h => h) rfl (ty := .int) rfl rfl rfl (Nat.le_of_ble_eq_true rfl) d (fun H1 locs1 hP1 _ hS1 => k H1 locs1 ls ?_ hS1 hl)
  show va_P _ _ _ _
  rw [← hset]
  simp only [ce, wI, and_self, if_true] at hP1 ⊢
  simpa using hP1
theorem g_SEA_count (he : pc + 3 = n) (ok : Ok X cc own) (hG : GC X G)  {ix : Nat} (hw : Cond.fieldLink own ix "RetryChains$ChainSearch" "count" "I" ∈ gw) (d : decode cc pc = .ok (.getfield ix, 3)) (k : Wt X M n lv (.int (M.1 80 0 0 0) :: st)) : Wt X M pc lv (.ref (G.1 + oSEA) :: st) := by
  obtain ⟨p, l, e, R, s, m, args, below, meth, c, Q, H0, Wd, A, nL, cells, slots⟩ := X
  obtain ⟨⟨hx, hb, hml, hown, hts⟩, hlocks⟩ := ok
  obtain ⟨hWd, hA, ⟨hK, -⟩, -, -⟩ := hG
  subst he; subst hWd; subst hA
  intro H locs ls hW hS hl
  exact va_get (ci := 8) hx hb hts i_SEA hown hK hW (oSEA) (wC_get (ky_SEA)) rfl 0 (by decide) (hts _ hw) (fun _ h => h) rfl d (k H locs ls hW hS hl)
theorem p_SEA_count (he : pc + 3 = n) (ok : Ok X cc own) (hG : GC X G)  {v : Int32} {ix : Nat} (hw : Cond.fieldLink own ix "RetryChains$ChainSearch" "count" "I" ∈ gw) (d : decode cc pc = .ok (.putfield ix, 3)) (k : Wt X (wI M 80 0 0 0 v) n lv st) : Wt X M pc lv (.int v :: .ref (G.1 + oSEA) :: st) := by
  obtain ⟨p, l, e, R, s, m, args, below, meth, c, Q, H0, Wd, A, nL, cells, slots⟩ := X
  obtain ⟨⟨hx, hb, hml, hown, hts⟩, hlocks⟩ := ok
  obtain ⟨hWd, hA, ⟨hK, -⟩, -, -⟩ := hG
  subst he; subst hWd; subst hA
  intro H locs ls hW hS hl
  have hset := wC_set (G := G) (M := M) (M' := wI M 80 0 0 0 v) (f := 80) (ky_SEA) rfl (fun h => by cases h) wI_1 (fun _ _ _ _ _ => rfl)
  refine va_put (ci := 8) hx hb hts i_SEA t_SEA t_SEA_ok n_SEA hown hK hW (wC_D G M) hS (oSEA) (wC_get (ky_SEA)) rfl 0 (by decide) (hts _ hw) (fun _ h => h) rfl (ty := .int) rfl rfl rfl (Nat.le_of_ble_eq_true rfl) d (fun H1 locs1 hP1 _ hS1 => k H1 locs1 ls ?_ hS1 hl)
  show va_P _ _ _ _
  rw [← hset]
  simp only [ce, wI, and_self, if_true] at hP1 ⊢
  simpa using hP1
theorem g_SEA_rates (he : pc + 3 = n) (ok : Ok X cc own) (hG : GC X G)  {ix : Nat} (hw : Cond.fieldLink own ix "RetryChains$ChainSearch" "rates" "[I" ∈ gw) (d : decode cc pc = .ok (.getfield ix, 3)) (k : Wt X M n lv (.ref (G.1 + oSRATES) :: st)) : Wt X M pc lv (.ref (G.1 + oSEA) :: st) := by
  obtain ⟨p, l, e, R, s, m, args, below, meth, c, Q, H0, Wd, A, nL, cells, slots⟩ := X
  obtain ⟨⟨hx, hb, hml, hown, hts⟩, hlocks⟩ := ok
  obtain ⟨hWd, hA, ⟨hK, -⟩, -, -⟩ := hG
  subst he; subst hWd; subst hA
  intro H locs ls hW hS hl
  exact va_get (ci := 8) hx hb hts i_SEA hown hK hW (oSEA) (wC_get (ky_SEA)) rfl 1 (by decide) (hts _ hw) (fun _ h => h) rfl d (k H locs ls hW hS hl)
theorem g_SEA_misses (he : pc + 3 = n) (ok : Ok X cc own) (hG : GC X G)  {ix : Nat} (hw : Cond.fieldLink own ix "RetryChains$ChainSearch" "misses" "[I" ∈ gw) (d : decode cc pc = .ok (.getfield ix, 3)) (k : Wt X M n lv (.ref (G.1 + oSMISS) :: st)) : Wt X M pc lv (.ref (G.1 + oSEA) :: st) := by
  obtain ⟨p, l, e, R, s, m, args, below, meth, c, Q, H0, Wd, A, nL, cells, slots⟩ := X
  obtain ⟨⟨hx, hb, hml, hown, hts⟩, hlocks⟩ := ok
  obtain ⟨hWd, hA, ⟨hK, -⟩, -, -⟩ := hG
  subst he; subst hWd; subst hA
  intro H locs ls hW hS hl
  exact va_get (ci := 8) hx hb hts i_SEA hown hK hW (oSEA) (wC_get (ky_SEA)) rfl 2 (by decide) (hts _ hw) (fun _ h => h) rfl d (k H locs ls hW hS hl)
theorem g_SEA_tries (he : pc + 3 = n) (ok : Ok X cc own) (hG : GC X G)  {ix : Nat} (hw : Cond.fieldLink own ix "RetryChains$ChainSearch" "tries" "[I" ∈ gw) (d : decode cc pc = .ok (.getfield ix, 3)) (k : Wt X M n lv (.ref (G.1 + oSTRIES) :: st)) : Wt X M pc lv (.ref (G.1 + oSEA) :: st) := by
  obtain ⟨p, l, e, R, s, m, args, below, meth, c, Q, H0, Wd, A, nL, cells, slots⟩ := X
  obtain ⟨⟨hx, hb, hml, hown, hts⟩, hlocks⟩ := ok
  obtain ⟨hWd, hA, ⟨hK, -⟩, -, -⟩ := hG
  subst he; subst hWd; subst hA
  intro H locs ls hW hS hl
  exact va_get (ci := 8) hx hb hts i_SEA hown hK hW (oSEA) (wC_get (ky_SEA)) rfl 3 (by decide) (hts _ hw) (fun _ h => h) rfl d (k H locs ls hW hS hl)
theorem g_SEA_times (he : pc + 3 = n) (ok : Ok X cc own) (hG : GC X G)  {ix : Nat} (hw : Cond.fieldLink own ix "RetryChains$ChainSearch" "times" "[[I" ∈ gw) (d : decode cc pc = .ok (.getfield ix, 3)) (k : Wt X M n lv (.ref (G.1 + oSTIMES) :: st)) : Wt X M pc lv (.ref (G.1 + oSEA) :: st) := by
  obtain ⟨p, l, e, R, s, m, args, below, meth, c, Q, H0, Wd, A, nL, cells, slots⟩ := X
  obtain ⟨⟨hx, hb, hml, hown, hts⟩, hlocks⟩ := ok
  obtain ⟨hWd, hA, ⟨hK, -⟩, -, -⟩ := hG
  subst he; subst hWd; subst hA
  intro H locs ls hW hS hl
  exact va_get (ci := 8) hx hb hts i_SEA hown hK hW (oSEA) (wC_get (ky_SEA)) rfl 4 (by decide) (hts _ hw) (fun _ h => h) rfl d (k H locs ls hW hS hl)
theorem g_SEA_reach (he : pc + 3 = n) (ok : Ok X cc own) (hG : GC X G)  {ix : Nat} (hw : Cond.fieldLink own ix "RetryChains$ChainSearch" "reach" "[J" ∈ gw) (d : decode cc pc = .ok (.getfield ix, 3)) (k : Wt X M n lv (.ref (G.1 + oSREACH) :: st)) : Wt X M pc lv (.ref (G.1 + oSEA) :: st) := by
  obtain ⟨p, l, e, R, s, m, args, below, meth, c, Q, H0, Wd, A, nL, cells, slots⟩ := X
  obtain ⟨⟨hx, hb, hml, hown, hts⟩, hlocks⟩ := ok
  obtain ⟨hWd, hA, ⟨hK, -⟩, -, -⟩ := hG
  subst he; subst hWd; subst hA
  intro H locs ls hW hS hl
  exact va_get (ci := 8) hx hb hts i_SEA hown hK hW (oSEA) (wC_get (ky_SEA)) rfl 5 (by decide) (hts _ hw) (fun _ h => h) rfl d (k H locs ls hW hS hl)
theorem g_SEA_sums (he : pc + 3 = n) (ok : Ok X cc own) (hG : GC X G)  {ix : Nat} (hw : Cond.fieldLink own ix "RetryChains$ChainSearch" "sums" "[J" ∈ gw) (d : decode cc pc = .ok (.getfield ix, 3)) (k : Wt X M n lv (.ref (G.1 + oSSUMS) :: st)) : Wt X M pc lv (.ref (G.1 + oSEA) :: st) := by
  obtain ⟨p, l, e, R, s, m, args, below, meth, c, Q, H0, Wd, A, nL, cells, slots⟩ := X
  obtain ⟨⟨hx, hb, hml, hown, hts⟩, hlocks⟩ := ok
  obtain ⟨hWd, hA, ⟨hK, -⟩, -, -⟩ := hG
  subst he; subst hWd; subst hA
  intro H locs ls hW hS hl
  exact va_get (ci := 8) hx hb hts i_SEA hown hK hW (oSEA) (wC_get (ky_SEA)) rfl 6 (by decide) (hts _ hw) (fun _ h => h) rfl d (k H locs ls hW hS hl)
theorem g_SEA_entries (he : pc + 3 = n) (ok : Ok X cc own) (hG : GC X G)  {ix : Nat} (hw : Cond.fieldLink own ix "RetryChains$ChainSearch" "entries" "[I" ∈ gw) (d : decode cc pc = .ok (.getfield ix, 3)) (k : Wt X M n lv (.ref (G.1 + oSENT) :: st)) : Wt X M pc lv (.ref (G.1 + oSEA) :: st) := by
  obtain ⟨p, l, e, R, s, m, args, below, meth, c, Q, H0, Wd, A, nL, cells, slots⟩ := X
  obtain ⟨⟨hx, hb, hml, hown, hts⟩, hlocks⟩ := ok
  obtain ⟨hWd, hA, ⟨hK, -⟩, -, -⟩ := hG
  subst he; subst hWd; subst hA
  intro H locs ls hW hS hl
  exact va_get (ci := 8) hx hb hts i_SEA hown hK hW (oSEA) (wC_get (ky_SEA)) rfl 7 (by decide) (hts _ hw) (fun _ h => h) rfl d (k H locs ls hW hS hl)
theorem g_SEA_best (he : pc + 3 = n) (ok : Ok X cc own) (hG : GC X G)  {ix : Nat} (hw : Cond.fieldLink own ix "RetryChains$ChainSearch" "best" "[I" ∈ gw) (d : decode cc pc = .ok (.getfield ix, 3)) (k : Wt X M n lv (.ref (G.1 + oSBEST) :: st)) : Wt X M pc lv (.ref (G.1 + oSEA) :: st) := by
  obtain ⟨p, l, e, R, s, m, args, below, meth, c, Q, H0, Wd, A, nL, cells, slots⟩ := X
  obtain ⟨⟨hx, hb, hml, hown, hts⟩, hlocks⟩ := ok
  obtain ⟨hWd, hA, ⟨hK, -⟩, -, -⟩ := hG
  subst he; subst hWd; subst hA
  intro H locs ls hW hS hl
  exact va_get (ci := 8) hx hb hts i_SEA hown hK hW (oSEA) (wC_get (ky_SEA)) rfl 8 (by decide) (hts _ hw) (fun _ h => h) rfl d (k H locs ls hW hS hl)
theorem g_SEA_bestChance (he : pc + 3 = n) (ok : Ok X cc own) (hG : GC X G)  {ix : Nat} (hw : Cond.fieldLink own ix "RetryChains$ChainSearch" "bestChance" "J" ∈ gw) (d : decode cc pc = .ok (.getfield ix, 3)) (k : Wt X M n lv (.long (M.2 89 0 0 0) :: st)) : Wt X M pc lv (.ref (G.1 + oSEA) :: st) := by
  obtain ⟨p, l, e, R, s, m, args, below, meth, c, Q, H0, Wd, A, nL, cells, slots⟩ := X
  obtain ⟨⟨hx, hb, hml, hown, hts⟩, hlocks⟩ := ok
  obtain ⟨hWd, hA, ⟨hK, -⟩, -, -⟩ := hG
  subst he; subst hWd; subst hA
  intro H locs ls hW hS hl
  exact va_get (ci := 8) hx hb hts i_SEA hown hK hW (oSEA) (wC_get (ky_SEA)) rfl 9 (by decide) (hts _ hw) (fun _ h => h) rfl d (k H locs ls hW hS hl)
theorem p_SEA_bestChance (he : pc + 3 = n) (ok : Ok X cc own) (hG : GC X G)  {v : Int64} {ix : Nat} (hw : Cond.fieldLink own ix "RetryChains$ChainSearch" "bestChance" "J" ∈ gw) (d : decode cc pc = .ok (.putfield ix, 3)) (k : Wt X (wL M 89 0 0 0 v) n lv st) : Wt X M pc lv (.long v :: .ref (G.1 + oSEA) :: st) := by
  obtain ⟨p, l, e, R, s, m, args, below, meth, c, Q, H0, Wd, A, nL, cells, slots⟩ := X
  obtain ⟨⟨hx, hb, hml, hown, hts⟩, hlocks⟩ := ok
  obtain ⟨hWd, hA, ⟨hK, -⟩, -, -⟩ := hG
  subst he; subst hWd; subst hA
  intro H locs ls hW hS hl
  have hset := wC_set (G := G) (M := M) (M' := wL M 89 0 0 0 v) (f := 89) (ky_SEA) rfl (fun h => by cases h) (fun _ _ _ _ _ => rfl) wL_2
  refine va_put (ci := 8) hx hb hts i_SEA t_SEA t_SEA_ok n_SEA hown hK hW (wC_D G M) hS (oSEA) (wC_get (ky_SEA)) rfl 9 (by decide) (hts _ hw) (fun _ h => h) rfl (ty := .long) rfl rfl rfl (Nat.le_of_ble_eq_true rfl) d (fun H1 locs1 hP1 _ hS1 => k H1 locs1 ls ?_ hS1 hl)
  show va_P _ _ _ _
  rw [← hset]
  simp only [ce, wL, and_self, if_true] at hP1 ⊢
  simpa using hP1
theorem g_SEA_bestTime (he : pc + 3 = n) (ok : Ok X cc own) (hG : GC X G)  {ix : Nat} (hw : Cond.fieldLink own ix "RetryChains$ChainSearch" "bestTime" "J" ∈ gw) (d : decode cc pc = .ok (.getfield ix, 3)) (k : Wt X M n lv (.long (M.2 90 0 0 0) :: st)) : Wt X M pc lv (.ref (G.1 + oSEA) :: st) := by
  obtain ⟨p, l, e, R, s, m, args, below, meth, c, Q, H0, Wd, A, nL, cells, slots⟩ := X
  obtain ⟨⟨hx, hb, hml, hown, hts⟩, hlocks⟩ := ok
  obtain ⟨hWd, hA, ⟨hK, -⟩, -, -⟩ := hG
  subst he; subst hWd; subst hA
  intro H locs ls hW hS hl
  exact va_get (ci := 8) hx hb hts i_SEA hown hK hW (oSEA) (wC_get (ky_SEA)) rfl 10 (by decide) (hts _ hw) (fun _ h => h) rfl d (k H locs ls hW hS hl)
theorem p_SEA_bestTime (he : pc + 3 = n) (ok : Ok X cc own) (hG : GC X G)  {v : Int64} {ix : Nat} (hw : Cond.fieldLink own ix "RetryChains$ChainSearch" "bestTime" "J" ∈ gw) (d : decode cc pc = .ok (.putfield ix, 3)) (k : Wt X (wL M 90 0 0 0 v) n lv st) : Wt X M pc lv (.long v :: .ref (G.1 + oSEA) :: st) := by
  obtain ⟨p, l, e, R, s, m, args, below, meth, c, Q, H0, Wd, A, nL, cells, slots⟩ := X
  obtain ⟨⟨hx, hb, hml, hown, hts⟩, hlocks⟩ := ok
  obtain ⟨hWd, hA, ⟨hK, -⟩, -, -⟩ := hG
  subst he; subst hWd; subst hA
  intro H locs ls hW hS hl
  have hset := wC_set (G := G) (M := M) (M' := wL M 90 0 0 0 v) (f := 90) (ky_SEA) rfl (fun h => by cases h) (fun _ _ _ _ _ => rfl) wL_2
  refine va_put (ci := 8) hx hb hts i_SEA t_SEA t_SEA_ok n_SEA hown hK hW (wC_D G M) hS (oSEA) (wC_get (ky_SEA)) rfl 10 (by decide) (hts _ hw) (fun _ h => h) rfl (ty := .long) rfl rfl rfl (Nat.le_of_ble_eq_true rfl) d (fun H1 locs1 hP1 _ hS1 => k H1 locs1 ls ?_ hS1 hl)
  show va_P _ _ _ _
  rw [← hset]
  simp only [ce, wL, and_self, if_true] at hP1 ⊢
  simpa using hP1
end RG
