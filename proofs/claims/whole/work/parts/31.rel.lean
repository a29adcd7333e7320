/-! THE RELATION of a network of the class and the reference's array -/
abbrev aP (s r : Nat) : Nat := 30 + 8 * (8 * s + r)
abbrev aS (s : Nat) : Nat := 290 + 32 * s
abbrev aO (c : Nat) : Nat := 420 + 16 * c
def ad (f s r : Nat) : Nat := match f with
  | 0 => 2 | 1 => 0 | 2 => 3 | 3 => 4 | 4 => 5 | 5 => 6 | 6 => 7 | 10 => 1 | 60 => 8
  | 11 => 10 + r | 12 => 18 + r
  | 20 => aP s r | 21 => aP s r + 1 | 23 => aP s r + 2 | 24 => aP s r + 3 | 25 => aP s r + 4 | 26 => aP s r + 5 | 22 => aP s r + 6 | 27 => aP s r + 7
  | 32 => aS s | 33 => aS s + 1 | 34 => aS s + 2 | 35 => aS s + 3 | 36 => aS s + 4 | 37 => aS s + 5 | 31 => aS s + 6 | 43 => aS s + 7 + r | 38 => aS s + 15 | 39 => aS s + 16 | 40 => aS s + 17 | 41 => aS s + 18 + r | 42 => aS s + 22 + r
  | 50 => aO s | 51 => aO s + 1 | 52 => aO s + 2 | 53 => aO s + 3 | 54 => aO s + 4 | 55 => aO s + 5 + r | 56 => aO s + 9 + r
  | 61 => 516 + 4 * r + s
  | _ => 599
/-- the places that a field has -/
def dm (f s r : Nat) : Bool := match f with
  | 0 | 1 | 2 | 3 | 4 | 5 | 6 | 10 | 60 => s == 0 && r == 0
  | 11 | 12 => s == 0 && decide (r < 8)
  | 20 | 21 | 22 | 23 | 24 | 25 | 26 | 27 => decide (s < 4) && decide (r < 8)
  | 31 | 32 | 33 | 34 | 35 | 36 | 37 | 38 | 39 | 40 => decide (s < 4) && r == 0
  | 41 => decide (s < 4) && decide (r < 4)
  | 42 => decide (s < 4) && decide (r < 3)
  | 43 => decide (s < 4) && decide (r < 8)
  | 50 | 51 | 52 | 53 | 54 => decide (s < 6) && r == 0
  | 55 | 56 => decide (s < 6) && decide (r < 4)
  | 61 => decide (s < 4) && decide (r < 20)
  | _ => false
/-- fields that hold just what the array holds -/
def uf (f : Nat) : Bool := match f with
  | 20 | 21 | 27 | 39 | 40 | 41 | 42 | 43 | 54 => false
  | _ => true
def da (k : Nat) : Nat × Nat × Nat :=
  if k < 9 then ((match k with | 0 => 1 | 1 => 10 | 2 => 0 | 3 => 2 | 4 => 3 | 5 => 4 | 6 => 5 | 7 => 6 | _ => 60), 0, 0)
  else if k < 18 then (11, 0, k - 10) else if k < 26 then (12, 0, k - 18)
  else if k < 286 then ((match (k - 30) % 8 with | 0 => 20 | 1 => 21 | 2 => 23 | 3 => 24 | 4 => 25 | 5 => 26 | 6 => 22 | _ => 27), (k - 30) / 64, (k - 30) / 8 % 8)
  else if k < 418 then (if (k - 290) % 32 < 7 then ((match (k - 290) % 32 with | 0 => 32 | 1 => 33 | 2 => 34 | 3 => 35 | 4 => 36 | 5 => 37 | _ => 31), (k - 290) / 32, 0) else if (k - 290) % 32 < 15 then (43, (k - 290) / 32, (k - 290) % 32 - 7) else if (k - 290) % 32 < 18 then ((match (k - 290) % 32 with | 15 => 38 | 16 => 39 | _ => 40), (k - 290) / 32, 0) else if (k - 290) % 32 < 22 then (41, (k - 290) / 32, (k - 290) % 32 - 18) else (42, (k - 290) / 32, (k - 290) % 32 - 22))
  else if k < 516 then (if (k - 420) % 16 < 5 then (50 + (k - 420) % 16, (k - 420) / 16, 0) else if (k - 420) % 16 < 9 then (55, (k - 420) / 16, (k - 420) % 16 - 5) else (56, (k - 420) / 16, (k - 420) % 16 - 9))
  else (61, (k - 516) % 4, (k - 516) / 4)
theorem da_ad0 : (List.range 62).all (fun f => (List.range 6).all (fun s => (List.range 20).all (fun r => !dm f s r || decide (da (ad f s r) = (f, s, r) ∧ ad f s r < 600)))) = true := by decide +kernel
theorem dm_b {f s r : Nat} (h : dm f s r = true) : f < 62 ∧ s < 6 ∧ r < 20 := by
  unfold dm at h
  split at h <;> simp at h <;> omega
theorem da_ad {f s r : Nat} (h : dm f s r = true) : da (ad f s r) = (f, s, r) ∧ ad f s r < 600 := by
  obtain ⟨h1, h2, h3⟩ := dm_b h
  have q := List.all_eq_true.mp (List.all_eq_true.mp (List.all_eq_true.mp da_ad0 f (List.mem_range.mpr h1)) s (List.mem_range.mpr h2)) r (List.mem_range.mpr h3)
  rw [h] at q
  simpa using q
theorem ad_inj {f s r f' s' r' : Nat} (h : dm f s r = true) (h' : dm f' s' r' = true) (e : ad f s r = ad f' s' r') : f = f' ∧ s = s' ∧ r = r' := by
  have q := (da_ad h).1
  rw [e, (da_ad h').1] at q
  cases q
  exact ⟨rfl, rfl, rfl⟩
def RE (N : Nt) (v : Vt) : Prop := ∀ f s r, uf f = true → dm f s r = true → N.1 f s r = v (ad f s r)
/-- one field is set on both sides -/
theorem RE.set {N : Nt} {v : Vt} (h : RE N v) {f s r : Nat} {x : Int32} (hd : dm f s r = true) : RE (uN N f s r x) (upd v (ad f s r) x) := by
  intro f' s' r' h1 h2
  by_cases e : f' = f ∧ s' = s ∧ r' = r
  · obtain ⟨rfl, rfl, rfl⟩ := e
    rw [uN_s, up_s]
  · rw [uN_n e, up_n (fun q => e (ad_inj h2 hd q))]
    exact h f' s' r' h1 h2
theorem RE.setv {N : Nt} {v : Vt} (h : RE N v) {f s r : Nat} {x : Int32} (hd : dm f s r = true) (hu : uf f = false) : RE N (upd v (ad f s r) x) := by
  intro f' s' r' h1 h2
  rw [up_n (fun q => by rw [(ad_inj h2 hd q).1, hu] at h1; cases h1)]
  exact h f' s' r' h1 h2
theorem RE.setn {N : Nt} {v : Vt} (h : RE N v) {f s r : Nat} {x : Int32} (hu : uf f = false ∨ dm f s r = false) : RE (uN N f s r x) v := by
  intro f' s' r' h1 h2
  rw [uN_n]
  · exact h f' s' r' h1 h2
  · rintro ⟨rfl, rfl, rfl⟩
    rcases hu with hu | hu
    · rw [hu] at h1; cases h1
    · rw [hu] at h2; cases h2
theorem RE.setl {N : Nt} {v : Vt} (h : RE N v) {f s r : Nat} {x : Int64} : RE (uL N f s r x) v := h
/-! the other parts -/
def relEnd (l : Int64) (e : Int32) : Prop := (e = -9 ∧ 2147483647 < l.toInt) ∨ (0 ≤ e.toInt ∧ l.toInt = e.toInt)
def esC (x : Int32) : Int32 := if x < 0 then -9 else x
def RL (N : Nt) (v : Vt) (sc cnt : Nat) : Prop := ∀ s r, s < 4 → r < 8 →
  ((s < sc ∧ r < cnt) → N.1 20 s r = v (aP s r) ∧ N.1 27 s r = v (aP s r + 7) ∧ N.1 21 s r = esC (v (aP s r + 1)) ∧ (v (aP s r + 1) < 0 → v (aP s r + 6) = 0)) ∧ (¬ (s < sc ∧ r < cnt) → N.1 20 s r = 1 ∧ N.1 27 s r = 500 ∧ N.1 21 s r = -9 ∧ v (aP s r + 6) = 0)
def RT (N : Nt) (v : Vt) (sc : Nat) : Prop := ∀ s, s < 4 →
  (s < sc → N.1 40 s 0 = v (aS s + 17) ∧ (∀ k, k < 3 → N.1 42 s k = v (aS s + 22 + k)) ∧ relEnd (N.2 39 s 0) (v (aS s + 16))) ∧ (sc ≤ s → N.1 40 s 0 = nI (7 * s + 1) ∧ ∀ k, k < 3 → N.1 42 s k = -9)
def RQ (N : Nt) (v : Vt) : Prop := ∀ s k : Nat, s < 4 → k < 8 → (k : Int) < (v (aS s + 6)).toInt → N.1 43 s k = v (aS s + 7 + k)
def RK (N : Nt) (v : Vt) : Prop := ∀ c, c < 6 → v (aO c + 3) = 1 → (N.1 54 c 0 = 0 ∧ v (aO c + 4) = v (aO c + 5)) ∨ (N.1 54 c 0 = 1 ∧ v (aO c + 4) = v (aO c + 6))
def md (v : Vt) (r : Nat) : Nat := tN (v (10 + r))
def sp (v : Vt) (r : Nat) : Nat := tN (v (18 + r))
def airN (m p z : Nat) : Nat := if m = 0 then 252 + (80 * z + p - 1) / p else if m = 1 then 80 + 4 * ((220 + 80 * z + 4 * p - 1) / (4 * p)) else 100 + (18 * ((220 + 80 * z + 4 * p - 1) / (4 * p)) + 5 - 1) / 5
def aN (v : Vt) (r z : Nat) : Nat := airN (md v r) (sp v r) z
def RM (N : Nt) (v : Vt) (cnt : Nat) : Prop := ∀ r, r < cnt → N.1 13 0 r = nI (aN v r 1200)
/-- within -/
abbrev wi (lo : Int) (x : Int32) (hi : Int) : Prop := lo ≤ x.toInt ∧ x.toInt ≤ hi
def al (v : Vt) (s r : Nat) : Prop := v (aP s r) = 1
def IR (v : Vt) (cnt : Nat) : Prop := cnt ≤ 8 ∧ v 1 = nI cnt ∧ ∀ r, r < cnt → wi 0 (v (10 + r)) 2 ∧ wi 10 (v (18 + r)) 10000
def IS (v : Vt) (sc : Nat) (w : Nat) : Prop := sc ≤ 4 ∧ v 2 = nI sc ∧ wi 0 (v 3) 50 ∧ wi 1 (v 4) 100 ∧ wi 1000 (v 5) 1000000 ∧ wi 100 (v 6) 100000 ∧ 0 ≤ (v 0).toInt ∧ 0 ≤ (v 7).toInt ∧ ((v 7).toInt = 0 ∨ (v 7).toInt < sc) ∧ wi 0 (v 8) w
def IL (v : Vt) (w : Nat) : Prop := ∀ s r, s < 4 → r < 8 → wi 0 (v (aP s r + 2)) w ∧ 0 ≤ (v (aP s r + 3)).toInt ∧ (v (aP s r + 3)).toInt ≤ (v (aP s r + 2)).toInt ∧ wi (-1) (v (aP s r + 1)) 65536 ∧ (v (aP s r) = 0 ∨ v (aP s r) = 1) ∧ wi 0 (v (aP s r + 7)) 1000
def IT (v : Vt) : Prop := ∀ s, s < 4 → (v (aS s + 5) = 0 ∨ v (aS s + 5) = 1) ∧ wi 0 (v (aS s + 6)) 8 ∧ wi (-1000000) (v (aS s + 15)) 4000 ∧ (∀ k : Nat, k < 8 → (k : Int) < (v (aS s + 6)).toInt → wi 1 (v (aS s + 7 + k)) 4000)
/-- the roles of one station -/
def RO (N : Nt) (v : Vt) (s cnt : Nat) : Prop := (∀ k, k < 4 → N.1 41 s k = v (aS s + 18 + k)) ∧ ((∃ r, r < cnt ∧ al v s r) → ∀ k, k < 4 → 0 ≤ (v (aS s + 18 + k)).toInt ∧ (v (aS s + 18 + k)).toInt < cnt)
def IC (v : Vt) (sc cnt : Nat) : Prop := ∀ c, c < 6 → (v (aO c) = 0 ∨ v (aO c) = 1) ∧ (v (aO c) = 1 → 0 ≤ (v (aO c + 1)).toInt ∧ (v (aO c + 1)).toInt < sc ∧ wi 1 (v (aO c + 2)) 4000 ∧ wi 0 (v (aO c + 3)) 2 ∧ ∀ k, k < 4 → 0 ≤ (v (aO c + 5 + k)).toInt ∧ (v (aO c + 5 + k)).toInt < cnt ∧ wi 1 (v (aO c + 9 + k)) 7)
/-- all but the roles -/
def RB (N : Nt) (v : Vt) (sc cnt w : Nat) : Prop := RE N v ∧ RL N v sc cnt ∧ RT N v sc ∧ RQ N v ∧ RK N v ∧ RM N v cnt ∧ IR v cnt ∧ IS v sc w ∧ IL v w ∧ IT v ∧ IC v sc cnt
def RN (N : Nt) (v : Vt) (sc cnt w : Nat) : Prop := RB N v sc cnt w ∧ ∀ s, s < sc → RO N v s cnt
