/-! behind fillRoles the relation holds, roles and all -/
theorem pk_some {p : Prop} {k : Nat} {o : Option Nat} (h : p ∨ ∃ b, o = some b) : ∃ b, pk p k o = some b := by
  by_cases c : p
  · exact ⟨k, pk_t c⟩
  · rw [pk_f c]
    exact h.resolve_left c
theorem bS_some {v : Vt} {s : Nat} : ∀ k, (∃ r, r < k ∧ al v s r) → ∃ b, bS v s none 0 k = some b
  | 0, ⟨r, h, _⟩ => absurd h (by omega)
  | k + 1, ⟨r, h1, h2⟩ => by
    refine pk_some ?_
    cases e : bS v s none 0 k with
    | some b => exact Or.inr ⟨b, rfl⟩
    | none =>
      refine Or.inl ⟨?_, by simp, Nat.zero_le _, fun b q => by cases q⟩
      by_cases hr : r < k
      · obtain ⟨b, q⟩ := bS_some k ⟨r, hr, h2⟩
        rw [e] at q
        cases q
      · rw [show k = r by omega]
        exact h2
theorem uS_some {v : Vt} {s : Nat} : ∀ k, (∃ r, r < k ∧ al v s r) → ∃ b, uS v s k = some b
  | 0, ⟨r, h, _⟩ => absurd h (by omega)
  | k + 1, ⟨r, h1, h2⟩ => by
    refine pk_some ?_
    cases e : uS v s k with
    | some b => exact Or.inr ⟨b, rfl⟩
    | none =>
      refine Or.inl ⟨?_, fun b q => by cases q⟩
      by_cases hr : r < k
      · obtain ⟨b, q⟩ := uS_some k ⟨r, hr, h2⟩
        rw [e] at q
        cases q
      · rw [show k = r by omega]
        exact h2
theorem wS_some {v : Vt} {s : Nat} : ∀ k, (∃ r, r < k ∧ al v s r) → ∃ b, wS v s k = some b
  | 0, ⟨r, h, _⟩ => absurd h (by omega)
  | k + 1, ⟨r, h1, h2⟩ => by
    refine pk_some ?_
    cases e : wS v s k with
    | some b => exact Or.inr ⟨b, rfl⟩
    | none =>
      refine Or.inl ⟨?_, fun b q => by cases q⟩
      by_cases hr : r < k
      · obtain ⟨b, q⟩ := wS_some k ⟨r, hr, h2⟩
        rw [e] at q
        cases q
      · rw [show k = r by omega]
        exact h2
theorem oI_in {o : Option Nat} {cnt : Nat} (h8 : cnt ≤ 8) (h : ∃ b, o = some b) (hb : ∀ b, o = some b → b < cnt) : 0 ≤ (oI o).toInt ∧ (oI o).toInt < cnt := by
  obtain ⟨b, rfl⟩ := h
  have := hb b rfl
  rw [oI_s, nI_i (by omega)]
  omega
theorem RB_fill {N : Nt} {v : Vt} {sc cnt w s : Nat} (h : RB N v sc cnt w) (hs : s < 4) : RB (gR N v s cnt) (fR v s cnt) sc cnt w := by
  unfold gR fR
  have h1 := RB_s (x := oI (bS v s none 0 cnt)) h (d41 hs (show 0 < 4 by decide)) (by omega)
  have h2 := RB_s (x := oI (sS v s cnt)) h1 (d41 hs (show 1 < 4 by decide)) (by omega)
  have h3 := RB_s (x := oI (zS v s cnt)) h2 (d41 hs (show 2 < 4 by decide)) (by omega)
  exact RB_s (x := oI (wS v s cnt)) h3 (d41 hs (show 3 < 4 by decide)) (by omega)
theorem fR_hi {v : Vt} {s cnt k : Nat} (hk : k < aS s + 18 ∨ aS s + 22 ≤ k) : fR v s cnt k = v k := by
  unfold fR
  rw [up_n (by omega), up_n (by omega), up_n (by omega), up_n (by omega)]
theorem fR_0 {v : Vt} {s cnt : Nat} : fR v s cnt (aS s + 18) = oI (bS v s none 0 cnt) := by
  unfold fR
  rw [up_n (by omega), up_n (by omega), up_n (by omega), up_s]
theorem fR_1 {v : Vt} {s cnt : Nat} : fR v s cnt (aS s + 18 + 1) = oI (sS v s cnt) := by
  unfold fR
  rw [up_n (by omega), up_n (by omega), up_s]
theorem fR_2 {v : Vt} {s cnt : Nat} : fR v s cnt (aS s + 18 + 2) = oI (zS v s cnt) := by
  unfold fR
  rw [up_n (by omega), up_s]
theorem fR_3 {v : Vt} {s cnt : Nat} : fR v s cnt (aS s + 18 + 3) = oI (wS v s cnt) := by
  unfold fR
  rw [up_s]
theorem RO_fill {N : Nt} {v : Vt} {cnt s : Nat} (hs : s < 4) (h8 : cnt ≤ 8) : RO (gR N v s cnt) (fR v s cnt) s cnt := by
  refine ⟨fun k hk => ?_, fun q k hk => ?_⟩
  · rcases (show k = 0 ∨ k = 1 ∨ k = 2 ∨ k = 3 by omega) with rfl | rfl | rfl | rfl
    · rw [Nat.add_zero, fR_0]
      unfold gR
      rw [uN_n (by omega), uN_n (by omega), uN_n (by omega), uN_s]
    · rw [fR_1]
      unfold gR
      rw [uN_n (by omega), uN_n (by omega), uN_s]
    · rw [fR_2]
      unfold gR
      rw [uN_n (by omega), uN_s]
    · rw [fR_3]
      unfold gR
      rw [uN_s]
  · have q' : ∃ r, r < cnt ∧ al v s r := by
      obtain ⟨r, q1, q2⟩ := q
      refine ⟨r, q1, ?_⟩
      have := aP_lt hs (show r < 8 by omega)
      unfold al at q2 ⊢
      rw [fR_hi (by left; show aP s r < 290 + 32 * s + 18; omega)] at q2
      exact q2
    rcases (show k = 0 ∨ k = 1 ∨ k = 2 ∨ k = 3 by omega) with rfl | rfl | rfl | rfl
    · rw [Nat.add_zero, fR_0]
      exact oI_in h8 (bS_some cnt q') (fun b e => bS_b _ _ e)
    · rw [fR_1]
      refine oI_in h8 ?_ (fun b e => sS_b e)
      unfold sS
      cases e : bS v s (bS v s none 0 cnt) 0 cnt with
      | none => exact bS_some cnt q'
      | some r => exact ⟨r, rfl⟩
    · rw [fR_2]
      refine oI_in h8 ?_ (fun b e => zS_b e)
      unfold zS
      cases e : bS v s none 62259 cnt with
      | none => exact uS_some cnt q'
      | some r => exact ⟨r, rfl⟩
    · rw [fR_3]
      exact oI_in h8 (wS_some cnt q') (fun b e => wS_b _ _ e)
theorem RO_fill' {N : Nt} {v : Vt} {cnt s t : Nat} (hs : s < 4) (ht : t < 4) (hts : t ≠ s) (h8 : cnt ≤ 8) (h : RO N v t cnt) : RO (gR N v s cnt) (fR v s cnt) t cnt := by
  unfold gR fR
  have h1 := RO_41 (x := oI (bS v s none 0 cnt)) ht hs (show 0 < 4 by decide) hts h8 h
  have h2 := RO_41 (x := oI (sS v s cnt)) ht hs (show 1 < 4 by decide) hts h8 h1
  have h3 := RO_41 (x := oI (zS v s cnt)) ht hs (show 2 < 4 by decide) hts h8 h2
  exact RO_41 (x := oI (wS v s cnt)) ht hs (show 3 < 4 by decide) hts h8 h3
/-- all stations but s have their roles: behind fillRoles of s all have -/
theorem RN_fill {N : Nt} {v : Vt} {sc cnt w s : Nat} (h : RB N v sc cnt w) (hs : s < 4) (ho : ∀ t, t < sc → t ≠ s → RO N v t cnt) : RN (gR N v s cnt) (fR v s cnt) sc cnt w := by
  have h4 := h.2.2.2.2.2.2.2.1.1
  have h8 := h.2.2.2.2.2.2.1.1
  refine ⟨RB_fill h hs, fun t ht => ?_⟩
  by_cases e : t = s
  · subst e
    exact RO_fill hs h8
  · exact RO_fill' hs (by omega) e h8 (ho t ht e)
