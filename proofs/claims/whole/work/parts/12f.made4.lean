/-! what is being made: arrays -/
section RV4
variable {X : Cx Mv} {cc : ByteArray} {own : String} {V : Nat → va_E} {pc n q : Nat} {lv : List (Nat × Value)} {st : List Value} {G : Gt}
theorem n_newa {atype : ArrayType} {x : Int32} {N' t0 cA : Nat} {a0 : vp_A} (he : pc + 2 = n) (ok : Ok X cc own) (hG : GV X G) (hw : Cond.arrayClass (newarray.typeOf atype) ∈ gw) (ht : (tyl G)[t0]? = some (cA, newarray.typeOf atype)) (hp : ∀ U : State, va_RA U cA (newarray.typeOf atype) → U.vm.findClass ("[" ++ (newarray.typeOf atype).toString) = some cA) (ha : ∀ cA : ClassId, vp_cell cA a0 = arrV cA N' (fun _ => defaultValue (newarray.typeOf atype))) (hn : ¬ x < 0) (hN : x.toNatClampNeg = N') (hbytes : N' * componentBytes (newarray.typeOf atype) ≤ 536870912) (hf : X.fits 1 N') (d : decode cc pc = .ok (.newarray atype, 2)) (k : Wt (X.more 1 N') (uV V q (.inl (cA, a0)), q + 1) n lv (.ref (G.1 + q) :: st)) : Wt X (V, q) pc lv (.int x :: st) := by
  obtain ⟨p, l, e, R, s, m, args, below, meth, c, Q, H0, Wd, A, nL, cells, slots⟩ := X
  obtain ⟨⟨hx, hb, hml, hown, hts⟩, hlocks⟩ := ok
  obtain ⟨hWd, hA, ⟨hK, -⟩, hcs, hss⟩ := hG
  subst he; subst hWd; subst hA
  intro H locs ls hW hS hl
  obtain ⟨hP, hz⟩ := hW
  have hz : H.size = G.1 + q := hz
  have hP : va_P G.2.1 cls (LV G.1 V q) H := hP
  refine va_newaK hx hb (hts _ hw) rfl d rfl hn hN hbytes hf.1 hf.2 hz fun H1 cA1 e1 z1 o1 hAr hNm => ?_
  have hcA : cA1 = cA := Option.some.inj (hNm.symm.trans (hp s (hK.2 t0 _ ht).2))
  subst hcA
  have hk : ∀ (k : Nat) (x : Nat × va_E), (LV G.1 V q)[k]? = some x → H1[x.1]? = H[x.1]? := fun k x hx => o1 x.1 (hz ▸ (hP k x hx).lt)
  have hP2 : va_P G.2.1 cls [(G.1 + q, .inl (cA1, a0))] H1 := fun k x hx => by
    have hz : k < 1 := (List.getElem?_eq_some_iff.mp hx).1
    rw [show k = 0 by omega] at hx
    cases hx
    show H1[G.1 + q]? = some (vp_cell _ _)
    rw [ha]
    exact e1
  have hP1 := (hP.kept hk).app hP2
  rw [LV_app] at hP1
  exact k H1 locs ls ⟨hP1, by show H1.size = G.1 + (q + 1); omega⟩ ⟨Nat.le_trans hS.1 (by omega), fun x h1 h2 => (o1 x (hz ▸ Nat.lt_of_lt_of_le h1 hS.1)).trans (hS.2.1 x h1 h2), hS.2.2⟩ hl
end RV4
