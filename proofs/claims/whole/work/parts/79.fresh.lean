/-! the memories of two new objects -/
section L79
variable {N : Nt}
def fcN (f s : Nat) : Int32 := match f with
  | 2 => 10 | 3 => 25 | 4 => 100000 | 5 => 6000 | 20 => 1 | 21 => -9 | 27 => 500 | 40 => nI (7 * s + 1) | 41 => -9 | 42 => -9 | 54 => -9 | _ => 0
def fvN (k : Nat) : Int32 := match k with
  | 3 => 10 | 4 => 25 | 5 => 100000 | 6 => 6000 | _ => 0
def C0m : Me := (fun f _ s _ => if f < 70 then fcN f s else 0, fun _ _ _ _ => 0)
def M0m : Me := (fun f _ _ r => if f = 100 then fvN r else 0, fun _ _ _ _ => 0)
theorem fvN_0 {k : Nat} (h : 7 ≤ k) : fvN k = 0 := by
  obtain ⟨j, rfl⟩ : ∃ j, k = j + 7 := ⟨k - 7, by omega⟩
  rfl
theorem fvP (s r j : Nat) : fvN (aP s r + j) = 0 := fvN_0 (by
  show 7 ≤ 30 + 8 * (8 * s + r) + j
  omega)
theorem fvP0 (s r : Nat) : fvN (aP s r) = 0 := fvP s r 0
theorem fvS (s j : Nat) : fvN (aS s + j) = 0 := fvN_0 (by
  show 7 ≤ 290 + 32 * s + j
  omega)
theorem fvO (s j : Nat) : fvN (aO s + j) = 0 := fvN_0 (by
  show 7 ≤ 420 + 16 * s + j
  omega)
theorem fvO0 (s : Nat) : fvN (aO s) = 0 := fvO s 0
theorem RE_0t : (List.range 62).all (fun f => (List.range 6).all (fun s => (List.range 20).all (fun r => !(uf f && dm f s r) || decide (fcN f s = fvN (ad f s r))))) = true := by decide +kernel
theorem RN_0 (h : ∀ f s r, f < 70 → N.1 f s r = fcN f s) : RN N fvN 0 0 0 := by
  refine ⟨⟨fun f s r hu hd => ?_, fun s r hs hr => ⟨fun q => absurd q.1 (by omega), fun _ => ⟨h 20 s r (by omega), h 27 s r (by omega), h 21 s r (by omega), fvP s r 6⟩⟩, fun s hs => ⟨fun q => absurd q (by omega), fun _ => ⟨h 40 s 0 (by omega), fun k _ => h 42 s k (by omega)⟩⟩, fun s k hs hk q => ?_, fun c hc q => ?_, fun r hr => absurd hr (by omega), ⟨by omega, rfl, fun r hr => absurd hr (by omega)⟩, ⟨by omega, rfl, by decide, by decide, by decide, by decide, by decide, by decide, Or.inl rfl, by decide⟩, fun s r hs hr => ?_, fun s hs => ?_, fun c hc => ⟨Or.inl (fvO0 c), fun q => ?_⟩⟩, fun s hs => absurd hs (by omega)⟩
  · obtain ⟨b1, b2, b3⟩ := dm_b hd
    rw [h f s r (by omega)]
    have t := RE_0t
    rw [List.all_eq_true] at t
    have t1 := t f (List.mem_range.mpr b1)
    rw [List.all_eq_true] at t1
    have t2 := t1 s (List.mem_range.mpr b2)
    rw [List.all_eq_true] at t2
    have t3 := t2 r (List.mem_range.mpr b3)
    rw [hu, hd] at t3
    exact of_decide_eq_true t3
  · rw [fvS s 6] at q
    exact absurd q (by rw [z_0]; omega)
  · rw [fvO c 3] at q
    exact absurd q (by decide)
  · rw [fvP s r 2, fvP s r 3, fvP s r 1, fvP0 s r, fvP s r 7]
    decide
  · rw [fvS s 5, fvS s 6, fvS s 15]
    refine ⟨Or.inl rfl, by decide, by decide, fun k hk q => ?_⟩
    exact absurd q (by rw [z_0]; omega)
  · rw [fvO0 c] at q
    exact absurd q (by decide)
theorem Rl_0 : Rl C0m M0m 0 := by
  have hn : ∀ i, RN (nN C0m i) fvN 0 0 0 := fun i => RN_0 (fun f s r hf => if_pos hf)
  refine ⟨⟨0, 0, hn 0⟩, fun k _ => ⟨rfl, Or.inl rfl⟩, 0, 0, by omega, by omega, rfl, rfl, rfl, fun k hk => absurd hk (by omega)⟩
end L79
