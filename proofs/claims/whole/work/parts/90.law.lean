/-! the law: its world, its rows -/
abbrev Gm (G : Gt) : Gt := (G.1 + 769, G.2)
def WL (G : Gt) (P : Me × Me) (H : Heap) : Prop := WC G P.1 H ∧ WM (Gm G) P.2 H
section LW
variable {X : Cx (Me × Me)} {cc : ByteArray} {own : String} {C N : Me} {M : Me × Me} {pc n : Nat} {lv : List (Nat × Value)} {st st0 : List Value} {G : Gt} {b L : Nat} {xs : Nat → Int32}
theorem keepM {H H1 : Heap} (h : WM (Gm G) N H) (hk : ∀ q : Nat, q < H.size → ¬ rC G q → H1[q]? = H[q]?) : WM (Gm G) N H1 := by
  have hP : va_P G.2.1 cls (wM (Gm G) N) H := h
  refine hP.kept (fun k x hx => hk x.1 ((hP k x hx).lt) (fun z => ?_))
  have t : rM (Gm G) x.1 := (wM_D (Gm G) N).2 k x hx
  have t1 : G.1 + 769 ≤ x.1 := t.1
  have t2 : x.1 < G.1 + 769 := z.2
  omega
theorem keepC {H H1 : Heap} (h : WC G C H) (hk : ∀ q : Nat, q < H.size → ¬ rM (Gm G) q → H1[q]? = H[q]?) : WC G C H1 := by
  have hP : va_P G.2.1 cls (wC G C) H := h
  refine hP.kept (fun k x hx => hk x.1 ((hP k x hx).lt) (fun z => ?_))
  have t : rC G x.1 := (wC_D G C).2 k x hx
  have t1 : x.1 < G.1 + 769 := t.2
  have t2 : G.1 + 769 ≤ x.1 := z.1
  omega
theorem l_callC {y : MethodName} {bb : ByteArray} {nl : Nat} {ret : Option FieldType} {rm : Room} {av : List Value} {o : Option Value} {C' : Me} {na ix : Nat} {a : Nat} {As : List Value} (he : pc + 3 = n) (ok : Ok X cc own) (hG : Gx X G (WL G) (rV G)) (hF : MF y bb nl ret na) (hI : Cond.instanceMethod y ∈ gw) (hs : Cond.selects y.cls y y ∈ gw) (hw : Cond.methodLink own ix y ∈ gw) (hC : Ct X.l G (WC G) (rC G) y bb nl ret rm av C o C') (hrm : rm.cells = 0 ∧ rm.slots = 0) (hR : rm.frames + 1 ≤ X.R.frames ∧ 8 + (nl + 11) + rm.locals ≤ X.R.locals) (hav : av = .ref a :: As) (hn : As.length = na)
    (hrv : ∀ (s : State) (H : Heap), Kn G s → WC G C H → ∃ cell : Cell, H[a]? = some cell ∧ cell.vm.isStatics = false ∧ s.vm.findClass y.cls = some cell.cls) (hst : st0 = As.reverse ++ .ref a :: st) (hcat : (st.map fun v => v.category).sum ≤ 8) (d : decode cc pc = .ok (.invokevirtual ix, 3)) (k : Wt X (C', N) n lv (o.toList ++ st)) : Wt X (C, N) pc lv st0 := by
  obtain ⟨p, l, e, R, s, m, args, below, meth, c, Q, H0, Wd, A9, nL, cells, slots⟩ := X
  obtain ⟨⟨hx, hb, hml, hown, hts⟩, hlocks⟩ := ok
  obtain ⟨hWd, hA, hK, hcs, hss⟩ := hG
  subst he; subst hWd; subst hA
  obtain ⟨f1, f2, f3, f4, f5⟩ := hF
  intro H locs ls hW hS hl
  subst hav; subst hst
  obtain ⟨hW1, hW2⟩ := hW
  have hW1 : WC G C H := hW1
  have hW2 : WM (Gm G) N H := hW2
  have hcw := cwV (R := R) (s := s) (args := args) (own := own) (index := ix) (C := y.cls) (y := y) (bytes := bb) (maxL := nl) (ret := ret) (ws := .code y bb nl ret :: gw) (ws' := gw) (rm := rm) (mc := 0) (ms := 0) na hts (fun w hw' => by
    rcases List.mem_append.mp hw' with h | h
    · simp only [List.mem_cons, List.not_mem_nil, or_false] at h
      rcases h with rfl | rfl | rfl | rfl
      · exact ⟨hw, gd_all hw⟩
      · exact ⟨hI, gd_all hI⟩
      · exact ⟨hs, gd_all hs⟩
      · exact ⟨f2, gd_all f2⟩
    · exact gw_in f1 w h) rfl hrm.1 hrm.2 ⟨rfl, f3, f4, f5⟩ hR
  refine my_call (va_runV ⟨hx, hb, hml, hown, hts⟩ hC hcw ⟨va_blind, hrv s H hK hW1, fun U hU hw2 => ⟨rfl, by rw [hU]; exact hW1, Kn.warm hw2 hK⟩⟩ rfl hn hl.1 rfl (lv_room hcat) d ⟨hcs, hss⟩) hS (fun q h => h.1) (fun H1 locs1 hQ1 _ hk hS1 => k H1 locs1 ls ⟨hQ1, keepM hW2 hk⟩ hS1 hl)
theorem l_callM {y : MethodName} {bb : ByteArray} {nl : Nat} {ret : Option FieldType} {rm : Room} {av : List Value} {o : Option Value} {N' : Me} {na ix : Nat} {a : Nat} {As : List Value} (he : pc + 3 = n) (ok : Ok X cc own) (hG : Gx X G (WL G) (rV G)) (hF : MF y bb nl ret na) (hI : Cond.instanceMethod y ∈ gw) (hs : Cond.selects y.cls y y ∈ gw) (hw : Cond.methodLink own ix y ∈ gw) (hC : Ct X.l (Gm G) (WM (Gm G)) (rM (Gm G)) y bb nl ret rm av N o N') (hrm : rm.cells = 0 ∧ rm.slots = 0) (hR : rm.frames + 1 ≤ X.R.frames ∧ 8 + (nl + 11) + rm.locals ≤ X.R.locals) (hav : av = .ref a :: As) (hn : As.length = na)
    (hrv : ∀ (s : State) (H : Heap), Kn (Gm G) s → WM (Gm G) N H → ∃ cell : Cell, H[a]? = some cell ∧ cell.vm.isStatics = false ∧ s.vm.findClass y.cls = some cell.cls) (hst : st0 = As.reverse ++ .ref a :: st) (hcat : (st.map fun v => v.category).sum ≤ 8) (d : decode cc pc = .ok (.invokevirtual ix, 3)) (k : Wt X (C, N') n lv (o.toList ++ st)) : Wt X (C, N) pc lv st0 := by
  obtain ⟨p, l, e, R, s, m, args, below, meth, c, Q, H0, Wd, A9, nL, cells, slots⟩ := X
  obtain ⟨⟨hx, hb, hml, hown, hts⟩, hlocks⟩ := ok
  obtain ⟨hWd, hA, hK, hcs, hss⟩ := hG
  subst he; subst hWd; subst hA
  obtain ⟨f1, f2, f3, f4, f5⟩ := hF
  intro H locs ls hW hS hl
  subst hav; subst hst
  obtain ⟨hW1, hW2⟩ := hW
  have hW1 : WC G C H := hW1
  have hW2 : WM (Gm G) N H := hW2
  have hKm : Kn (Gm G) s := hK
  have hcw := cwV (R := R) (s := s) (args := args) (own := own) (index := ix) (C := y.cls) (y := y) (bytes := bb) (maxL := nl) (ret := ret) (ws := .code y bb nl ret :: gw) (ws' := gw) (rm := rm) (mc := 0) (ms := 0) na hts (fun w hw' => by
    rcases List.mem_append.mp hw' with h | h
    · simp only [List.mem_cons, List.not_mem_nil, or_false] at h
      rcases h with rfl | rfl | rfl | rfl
      · exact ⟨hw, gd_all hw⟩
      · exact ⟨hI, gd_all hI⟩
      · exact ⟨hs, gd_all hs⟩
      · exact ⟨f2, gd_all f2⟩
    · exact gw_in f1 w h) rfl hrm.1 hrm.2 ⟨rfl, f3, f4, f5⟩ hR
  refine my_call (va_runV ⟨hx, hb, hml, hown, hts⟩ hC hcw ⟨va_blind, hrv s H hKm hW2, fun U hU hw2 => ⟨rfl, by rw [hU]; exact hW2, Kn.warm hw2 hKm⟩⟩ rfl hn hl.1 rfl (lv_room hcat) d ⟨hcs, hss⟩) hS (fun q h => Nat.le_trans (Nat.le_add_right _ 769) h.1) (fun H1 locs1 hQ1 _ hk hS1 => k H1 locs1 ls ⟨keepC hW1 hk, hQ1⟩ hS1 hl)
def Sc (X : Cx (Me × Me)) (b L : Nat) (xs : Nat → Int32) : Prop := match X with
  | (_, _, _, _, s, _, _, _, _, _, _, H0, _, A, _, _, _) => va_X b L xs s H0 ∧ b < H0.size ∧ ¬ A b
theorem l_sld {i : Int32} {j : Nat} (he : pc + 1 = n) (ok : Ok X cc own) (hs : Sc X b L xs) (hin : vp_in i L) (hj : i.toNatClampNeg = j) (d : decode cc pc = .ok (.iaload, 1)) (k : Wt X M n lv (.int (xs j) :: st)) : Wt X M pc lv (.int i :: .ref b :: st) := by
  obtain ⟨p, l, e, R, s, m, args, below, meth, c, Q, H0, Wd, A, nL, cells, slots⟩ := X
  obtain ⟨⟨hx, hb, hml, hown, hts⟩, hlocks⟩ := ok
  obtain ⟨hX, hbl, hbA⟩ := hs
  subst he; subst hj
  intro H locs ls hW hS hl
  exact va_sld hx hb hX hbl hbA hS hin d (k H locs ls hW hS hl)
theorem l_slen (he : pc + 1 = n) (ok : Ok X cc own) (hs : Sc X b L xs) (d : decode cc pc = .ok (.arraylength, 1)) (k : Wt X M n lv (.int (nI L) :: st)) : Wt X M pc lv (.ref b :: st) := by
  obtain ⟨p, l, e, R, s, m, args, below, meth, c, Q, H0, Wd, A, nL, cells, slots⟩ := X
  obtain ⟨⟨hx, hb, hml, hown, hts⟩, hlocks⟩ := ok
  obtain ⟨hX, hbl, hbA⟩ := hs
  subst he
  intro H locs ls hW hS hl
  exact va_slen hx hb hX hbl hbA hS d (k H locs ls hW hS hl)
theorem l_tabIn {dflt lo hi off : Int} {offs : Array Int} {len tgt : Nat} {x : Int32} (ok : Ok X cc own) (d : decode cc pc = .ok (.tableswitch dflt lo hi offs, len)) (h1 : ¬ x.toInt < lo) (h2 : ¬ hi < x.toInt) (ho : offs[(x.toInt - lo).toNat]? = some off) (ht : (pc : Int) + off = (tgt : Int)) (k : Wt X M tgt lv st) : Wt X M pc lv (.int x :: st) := by
  obtain ⟨p, l, e, R, s, m, args, below, meth, c, Q, H0, Wd, A, nL, cells, slots⟩ := X
  obtain ⟨⟨hx, hb, hml, hown, hts⟩, hlocks⟩ := ok
  intro H locs ls hW hS hl
  exact lv_tableIn hx hb d h1 h2 ho ht (k H locs ls hW hS hl)
theorem l_tabOut {dflt lo hi : Int} {offs : Array Int} {len tgt : Nat} {x : Int32} (ok : Ok X cc own) (d : decode cc pc = .ok (.tableswitch dflt lo hi offs, len)) (h : x.toInt < lo ∨ hi < x.toInt) (ht : (pc : Int) + dflt = (tgt : Int)) (k : Wt X M tgt lv st) : Wt X M pc lv (.int x :: st) := by
  obtain ⟨p, l, e, R, s, m, args, below, meth, c, Q, H0, Wd, A, nL, cells, slots⟩ := X
  obtain ⟨⟨hx, hb, hml, hown, hts⟩, hlocks⟩ := ok
  intro H locs ls hW hS hl
  exact lv_tableOut hx hb d h ht (k H locs ls hW hS hl)

end LW
/-- what holds of the law's text all along its loop -/
def Lx (X : Cx (Me × Me)) (G : Gt) (b L : Nat) (xs : Nat → Int32) : Prop := Ok X b_law "RetryChainsLaw" ∧ Gx X G (WL G) (rV G) ∧ Sc X b L xs ∧ X.R = room_1 ∧ X.nL = 4 ∧ L ≤ 2560
abbrev LVs (G : Gt) (b i : Nat) : List (Nat × Value) := [(3, .int (nI i)), (2, .ref ((Gm G).1 + 0)), (1, .ref (G.1 + oRC)), (0, .ref b)]
section LX
variable {X : Cx (Me × Me)} {M : Me × Me} {pc n i : Nat} {st : List Value} {G : Gt} {b L : Nat} {xs : Nat → Int32}
theorem Lx.rm (h : Lx X G b L xs) {u v : Nat} (h2 : u ≤ room_1.frames ∧ v ≤ room_1.locals) : u ≤ X.R.frames ∧ v ≤ X.R.locals := by
  rw [h.2.2.2.1]
  exact h2
theorem l_arg (k : Nat) {z : Int} (he : pc + 5 = n) (h : Lx X G b L xs) (hi : i + 5 ≤ L) (hk : k < 5) (hz : Int32.ofInt z = nI k) (d1 : decode b_law pc = .ok (.aload_n 0, 1)) (d2 : decode b_law (pc + 1) = .ok (.iload_n 3, 1)) (d3 : decode b_law (pc + 2) = .ok (.iconst z, 1)) (d4 : decode b_law (pc + 3) = .ok (.iadd, 1)) (d5 : decode b_law (pc + 4) = .ok (.iaload, 1)) (kk : Wt X M n (LVs G b i) (.int (xs (i + k)) :: st)) : Wt X M pc (LVs G b i) st := by
  have hL := h.2.2.2.2.2
  refine r_aload_n rfl h.1 d1 rfl 3 rfl ?_
  refine r_iload_n rfl h.1 d2 rfl 0 rfl ?_
  refine r_iconst (v := nI k) rfl h.1 d3 hz ?_
  refine r_iadd rfl h.1 d4 ?_
  refine r_ti (y := nI (i + k)) (nI_add i k).symm ?_
  refine l_sld (j := i + k) he h.1 h.2.2.1 ?_ (nI_clamp (by omega)) d5 kk
  unfold vp_in
  rw [nI_clamp (by omega)]
  rintro (c | c)
  · rw [lt_int, nI_toInt (by omega)] at c
    have c1 : ((i + k : Nat) : Int) < 0 := c
    omega
  · omega
theorem l_ret {o : Int32} {t : Nat} {off : Int} (h : Lx X G b L xs) (d : decode b_law pc = .ok (.if_icmp .eq off, 3)) (ht : (pc : Int) + off = (t : Int)) (k : Wt X M t (LVs G b i) st) : Wt X M pc (LVs G b i) (.int o :: .int o :: st) :=
  r_icmp_eq rfl h.1 d ht (fun _ => k) (fun hc => absurd rfl hc)
theorem lg_self (x : Int64) : lg_cmp x x = 0 := by
  unfold lg_cmp
  rw [if_neg (Int64.lt_irrefl), if_pos rfl]
theorem and63 (x : Int32) : ∃ c, c < 64 ∧ x &&& 63 = nI c := by
  refine ⟨(x &&& 63).toBitVec.toNat, ?_, ?_⟩
  · show (x.toBitVec &&& (63 : Int32).toBitVec).toNat < 64
    rw [BitVec.toNat_and]
    exact Nat.lt_of_le_of_lt Nat.and_le_right (by decide)
  · apply Int32.toBitVec_inj.mp
    show (x &&& 63).toBitVec = BitVec.ofNat 32 _
    rw [BitVec.ofNat_toNat, BitVec.setWidth_eq]
theorem end_p {L i : Nat} (hL : L ≤ 2560) (hi : i ≤ 2560) (h : L < i + 5) : nI L - nI 5 < nI i := by
  by_cases c : 5 ≤ L
  · rw [nI_sb c, nI_lt' (by omega) (by omega)]
    omega
  · have t : ∀ L, L < 5 → (nI L - nI 5).toInt < 0 := by decide +kernel
    have t1 := t L (by omega)
    rw [lt_int, nI_i (by omega)]
    omega
theorem end_n {L i : Nat} (hL : L ≤ 2560) (hi : i ≤ 2560) (h : i + 5 ≤ L) : ¬ nI L - nI 5 < nI i := by
  rw [nI_sb (by omega), nI_lt' (by omega) (by omega)]
  omega
end LX
