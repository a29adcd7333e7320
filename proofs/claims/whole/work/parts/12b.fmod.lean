/-! Math.floorMod(int, int), a divisor that is not 0 -/
def fm_spec (a b r : Int32) : Spec := { pre := .and (.code y_jm_floorMod b_jm_floorMod 3 (some .int)) (.and (.and (.count 2) (.and (.isInt (.arg 0)) (.isInt (.arg 1)))) (.and (.eq (.arg 0) (.int a)) (.eq (.arg 1) (.int b)))), post := .and .returned (.eq .result (.int r)), changes := some [] }
theorem fm_noRow0 : (NativeRow.find? natives y_jm_floorMod.cls y_jm_floorMod.name y_jm_floorMod.desc).isNone = true := by decide +kernel
theorem fm_noRow (p : Program) : NativeRow.find? p.tables.natives y_jm_floorMod.cls y_jm_floorMod.name y_jm_floorMod.desc = none := by
  cases p <;> exact Option.isNone_iff_eq_none.mp fm_noRow0
set_option maxHeartbeats 4000000 in
theorem fm_meets (l : Launch) {a b : Int32} (hb : ¬ b = 0) : MeetsLoose l y_jm_floorMod (fm_spec a b (fmval a b)) := by
  refine MeetsLoose.of_body_ov (code := b_jm_floorMod) (maxLocals := 3) (ret := some .int) fm_noRow ?_ ?_
  · intro args s h
    simp only [fm_spec, Cond.before_and, Bool.and_eq_true] at h
    exact h.1
  · intro p e s m args below meth c s₁ B
    have hpre := B.pre
    simp only [fm_spec, Cond.before_and, Bool.and_eq_true] at hpre
    obtain ⟨a', b', rfl⟩ := Cond.two_ints hpre.2.1.1 hpre.2.1.2.1 hpre.2.1.2.2
    obtain rfl : a' = a := by simpa [Cond.before, Cond.holds, Cond.value, Term.eval] using hpre.2.2.1
    obtain rfl : b' = b := by simpa [Cond.before, Cond.holds, Cond.value, Term.eval] using hpre.2.2.2
    have hloc : argsToLocals #[.int a', .int b'] 3 = #[.val (.int a'), .val (.int b'), .unset] := rfl
    have hmn := B.method₁
    obtain ⟨fs, hfs⟩ := handOver_isSome (s := s₁) (some (.int (fmval a' b'))) B.hears₁
    refine ⟨s₁.setFrames fs, .returned (some (.int (fmval a' b'))), ?_, B.here.running, B.ended hfs (by intro h; cases h), ?_, State.sameBut_nil.mpr ?_⟩
    · unfold entryFrame; rw [hloc]
      refine Steps.instrAtOv (c := _) (by simpa using B.here) ?_
      simp [jvm, wpRun, exec, B.here.top, B.exec, B.bytes, d_jm_floorMod_0]
      refine Steps.instrAtOv (c := _) (by simpa using B.here) ?_
      simp [jvm, wpRun, exec, B.here.top, B.exec, B.bytes, d_jm_floorMod_1]
      refine Steps.instrAtOv (c := _) (by simpa using B.here) ?_
      simp [jvm, wpRun, exec, B.here.top, B.exec, B.bytes, d_jm_floorMod_2, hb]
      refine Steps.instrAtOv (c := _) (by simpa using B.here) ?_
      simp [jvm, wpRun, exec, B.here.top, B.exec, B.bytes, d_jm_floorMod_3]
      refine ⟨#[Slot.val (Value.int a'), Slot.val (Value.int b'), Slot.val (Value.int (a' - a' / b' * b'))], by first | rfl | simp [storeLocals, storeSelf, setAt, Value.category], ?_⟩
      refine Steps.instrAtOv (c := _) (by simpa using B.here) ?_
      simp [jvm, wpRun, exec, B.here.top, B.exec, B.bytes, d_jm_floorMod_4]
      refine Steps.instrAtOv (c := _) (by simpa using B.here) ?_
      simp [jvm, wpRun, exec, B.here.top, B.exec, B.bytes, d_jm_floorMod_5]
      refine Steps.instrAtOv (c := _) (by simpa using B.here) ?_
      simp [jvm, wpRun, exec, B.here.top, B.exec, B.bytes, d_jm_floorMod_6]
      by_cases h1 : 0 ≤ (a' ^^^ b')
      · have hv : fmval a' b' = a' - a' / b' * b' := if_pos h1
        refine Steps.instrAtOv (c := _) (by simpa using B.here) ?_
        simp [jvm, wpRun, exec, B.here.top, B.exec, B.bytes, d_jm_floorMod_7, ifCond.holds, h1]
        refine Steps.instrAtOv (c := _) (by simpa using B.here) ?_
        simp [jvm, wpRun, exec, B.here.top, B.exec, B.bytes, d_jm_floorMod_18]
        refine Steps.instrAtOv (c := _) (by simpa using B.here) ?_
        simp [jvm, wpRun, exec, B.here.top, B.exec, B.bytes, d_jm_floorMod_19, B.method₁, B.returns, narrow]
        intro acts
        rw [ret_to B.frames₁ B.method₁ B.notSynchronized rfl rfl (by rw [← hv]; exact hfs)]
        exact Steps.refl _
      · by_cases h2 : a' - a' / b' * b' = 0
        · have hv : fmval a' b' = 0 := by unfold fmval; rw [if_neg h1, if_pos h2]; exact h2
          refine Steps.instrAtOv (c := _) (by simpa using B.here) ?_
          simp [jvm, wpRun, exec, B.here.top, B.exec, B.bytes, d_jm_floorMod_7, ifCond.holds, h1]
          refine Steps.instrAtOv (c := _) (by simpa using B.here) ?_
          simp [jvm, wpRun, exec, B.here.top, B.exec, B.bytes, d_jm_floorMod_10]
          refine Steps.instrAtOv (c := _) (by simpa using B.here) ?_
          simp [jvm, wpRun, exec, B.here.top, B.exec, B.bytes, d_jm_floorMod_11, ifCond.holds, h2]
          refine Steps.instrAtOv (c := _) (by simpa using B.here) ?_
          simp [jvm, wpRun, exec, B.here.top, B.exec, B.bytes, d_jm_floorMod_18]
          refine Steps.instrAtOv (c := _) (by simpa using B.here) ?_
          simp [jvm, wpRun, exec, B.here.top, B.exec, B.bytes, d_jm_floorMod_19, B.method₁, B.returns, narrow]
          intro acts
          rw [ret_to B.frames₁ B.method₁ B.notSynchronized rfl rfl (by rw [← hv]; exact hfs)]
          exact Steps.refl _
        · have hv : fmval a' b' = a' - a' / b' * b' + b' := by unfold fmval; rw [if_neg h1, if_neg h2]
          refine Steps.instrAtOv (c := _) (by simpa using B.here) ?_
          simp [jvm, wpRun, exec, B.here.top, B.exec, B.bytes, d_jm_floorMod_7, ifCond.holds, h1]
          refine Steps.instrAtOv (c := _) (by simpa using B.here) ?_
          simp [jvm, wpRun, exec, B.here.top, B.exec, B.bytes, d_jm_floorMod_10]
          refine Steps.instrAtOv (c := _) (by simpa using B.here) ?_
          simp [jvm, wpRun, exec, B.here.top, B.exec, B.bytes, d_jm_floorMod_11, ifCond.holds, h2]
          refine Steps.instrAtOv (c := _) (by simpa using B.here) ?_
          simp [jvm, wpRun, exec, B.here.top, B.exec, B.bytes, d_jm_floorMod_14]
          refine Steps.instrAtOv (c := _) (by simpa using B.here) ?_
          simp [jvm, wpRun, exec, B.here.top, B.exec, B.bytes, d_jm_floorMod_15]
          refine Steps.instrAtOv (c := _) (by simpa using B.here) ?_
          simp [jvm, wpRun, exec, B.here.top, B.exec, B.bytes, d_jm_floorMod_16]
          refine Steps.instrAtOv (c := _) (by simpa using B.here) ?_
          simp [jvm, wpRun, exec, B.here.top, B.exec, B.bytes, d_jm_floorMod_17, B.method₁, B.returns, narrow]
          intro acts
          rw [ret_to B.frames₁ B.method₁ B.notSynchronized rfl rfl (by rw [← hv]; exact hfs)]
          exact Steps.refl _
    · simp [fm_spec, Cond.after, Cond.holds, Cond.value, Term.eval]
    · rw [State.frames_setFrames _ B.cur₁, B.back]

theorem r_fmod {X : Cx Me} {cc : ByteArray} {own : String} {M : Me} {pc n : Nat} {lv : List (Nat × Value)} {st : List Value} {G : Gt} {W0 : Me → Heap → Prop} {A : Nat → Prop} {a b : Int32} {ix : Nat} (hb0 : ¬ b = 0) (he : pc + 3 = n) (ok : Ok X cc own) (hG : Gx X G W0 A) (hw : Cond.methodLink own ix y_jm_floorMod ∈ gw) (hw2 : Cond.static y_jm_floorMod ∈ gw) (hw3 : Cond.initialized y_jm_floorMod.cls ∈ gw) (hw4 : Cond.code y_jm_floorMod b_jm_floorMod 3 (some .int) ∈ gw) (hR : 1 ≤ X.R.frames ∧ (st.map fun v => v.category).sum + 14 ≤ X.R.locals) (d : decode cc pc = .ok (.invokestatic ix, 3)) (k : Wt X M n lv (.int (fmval a b) :: st)) : Wt X M pc lv (.int b :: .int a :: st) := by
  obtain ⟨p, l, e, R, s, m, args, below, meth, c, Q, H0, Wd, A9, nL, cells, slots⟩ := X
  obtain ⟨⟨hx, hb, hml, hown, hts⟩, hlocks⟩ := ok
  obtain ⟨hWd, hA, hK, hcs, hss⟩ := hG
  subst he; subst hWd; subst hA
  intro H locs ls hW hS hl T hT Xs
  have hcode := hts _ hw4
  obtain ⟨v, vm', X', ⟨first, t, hpost⟩, hstep⟩ := Xs.staticByContractV hx hown (hts _ hw) (hts _ hw2) (hts _ hw3) hcode (by decide)
    (fm_meets l (a := a) (b := b) hb0) rfl rfl rfl rfl
    (fun args' first o s₂ h => by
      cases o with
      | returned r => exact ⟨r, rfl⟩
      | threw y =>
        have hz : (fm_spec a b (fmval a b)).post.value args' first (some (.threw y)) s₂ [] = some true := by simpa [Cond.after, Cond.holds] using h
        exact absurd hz va_nvRet)
    (g := F0 m pc ls (.int b :: .int a :: st)) rfl (hl.1.trans hml.symm) (argsL := [.int a, .int b]) (rest := st)
    (fun sig hs => by
      have h : parseMethodDescriptor "(II)I" = some { parameters := [.int, .int], returnType := some .int } := by decide +kernel
      rw [show y_jm_floorMod.desc = "(II)I" from rfl, h] at hs
      rw [← Option.some.inj hs]; rfl)
    rfl (by rw [hb]; exact d)
    (fun vm' hW => by
      simp only [fm_spec, Cond.before_and, Bool.and_eq_true]
      refine ⟨?_, ⟨rfl, rfl, rfl⟩, by simp [Cond.before, Cond.holds, Cond.value, Term.eval], by simp [Cond.before, Cond.holds, Cond.value, Term.eval]⟩
      have q := hcode
      rw [← Cond.code_setVm hW.alike] at q
      simp only [Cond.before, Cond.holds, Cond.value, State.methodNamed?, State.vm_setVm] at q ⊢
      exact q)
    (by show 0 + 1 ≤ R.frames; exact hR.1) (by have := hR.2; show 2 * 0 + (st.map fun v => v.category).sum + (3 + 11) + 0 ≤ R.locals; simp only [Cx.R] at this; omega) (by show cells + 0 ≤ R.cells; omega) (by show slots + 0 ≤ R.slots; omega)
  have hv : v = some (.int (fmval a b)) := by
    rcases v with _ | w
    · simp [fm_spec, Cond.after, Cond.holds, Cond.value, Term.eval] at hpost
    · cases w <;> simp [fm_spec, Cond.after, Cond.holds, Cond.value, Term.eval] at hpost
      first | (simp [hpost]; done) | (rename_i r; by_cases hr : r = fmval a b <;> simp [hr] at hpost ⊢)
  subst hv
  obtain ⟨t2, a1, b1⟩ := k H locs ls hW hS hl (T.setVm vm') hT X'
  exact ⟨t2, hstep t2 a1, b1⟩
