/-! THE PURE PART: what the functions answer. Base: indices, memories in normal form, loops -/
theorem ob {α β : Type} (x : α) (f : α → Option β) : (some x).bind f = f x := rfl
theorem l_add (a b : Nat) : nI a + nI b = nI (a + b) := nI_add a b
theorem l_mul (a b : Nat) : nI a * nI b = nI (a * b) := pk_mul a b
theorem IXl : (∀ b : Nat, (0 : Int32) + nI b = nI (0 + b)) ∧ (∀ b : Nat, (1 : Int32) + nI b = nI (1 + b)) ∧ (∀ b : Nat, (2 : Int32) + nI b = nI (2 + b)) ∧ (∀ b : Nat, (3 : Int32) + nI b = nI (3 + b)) ∧ (∀ b : Nat, (4 : Int32) + nI b = nI (4 + b)) ∧ (∀ b : Nat, (5 : Int32) + nI b = nI (5 + b)) ∧ (∀ b : Nat, (6 : Int32) + nI b = nI (6 + b)) ∧ (∀ b : Nat, (7 : Int32) + nI b = nI (7 + b)) ∧ (∀ b : Nat, (8 : Int32) + nI b = nI (8 + b)) ∧ (∀ b : Nat, (9 : Int32) + nI b = nI (9 + b)) ∧ (∀ b : Nat, (10 : Int32) + nI b = nI (10 + b)) ∧ (∀ b : Nat, (11 : Int32) + nI b = nI (11 + b)) ∧ (∀ b : Nat, (12 : Int32) + nI b = nI (12 + b)) ∧ (∀ b : Nat, (13 : Int32) + nI b = nI (13 + b)) ∧ (∀ b : Nat, (14 : Int32) + nI b = nI (14 + b)) ∧ (∀ b : Nat, (15 : Int32) + nI b = nI (15 + b)) ∧ (∀ b : Nat, (16 : Int32) + nI b = nI (16 + b)) ∧ (∀ b : Nat, (17 : Int32) + nI b = nI (17 + b)) ∧ (∀ b : Nat, (18 : Int32) + nI b = nI (18 + b)) ∧ (∀ b : Nat, (19 : Int32) + nI b = nI (19 + b)) ∧ (∀ b : Nat, (20 : Int32) + nI b = nI (20 + b)) ∧ (∀ b : Nat, (21 : Int32) + nI b = nI (21 + b)) ∧ (∀ b : Nat, (22 : Int32) + nI b = nI (22 + b)) ∧ (∀ b : Nat, (23 : Int32) + nI b = nI (23 + b)) ∧ (∀ b : Nat, (24 : Int32) + nI b = nI (24 + b)) ∧ (∀ b : Nat, (25 : Int32) + nI b = nI (25 + b)) ∧ (∀ b : Nat, (26 : Int32) + nI b = nI (26 + b)) ∧ (∀ b : Nat, (27 : Int32) + nI b = nI (27 + b)) ∧ (∀ b : Nat, (28 : Int32) + nI b = nI (28 + b)) ∧ (∀ b : Nat, (29 : Int32) + nI b = nI (29 + b)) ∧ (∀ b : Nat, (30 : Int32) + nI b = nI (30 + b)) ∧ (∀ b : Nat, (31 : Int32) + nI b = nI (31 + b)) ∧ (∀ b : Nat, (32 : Int32) + nI b = nI (32 + b)) ∧ (∀ b : Nat, (80 : Int32) + nI b = nI (80 + b)) ∧ (∀ b : Nat, (100 : Int32) + nI b = nI (100 + b)) ∧ (∀ b : Nat, (220 : Int32) + nI b = nI (220 + b)) ∧ (∀ b : Nat, (252 : Int32) + nI b = nI (252 + b)) ∧ (∀ b : Nat, (290 : Int32) + nI b = nI (290 + b)) ∧ (∀ b : Nat, (420 : Int32) + nI b = nI (420 + b)) ∧ (∀ b : Nat, (516 : Int32) + nI b = nI (516 + b)) ∧ (∀ b : Nat, (600 : Int32) + nI b = nI (600 + b)) ∧ (∀ b : Nat, (2400 : Int32) + nI b = nI (2400 + b)) := ⟨fun b => nI_add _ b, fun b => nI_add _ b, fun b => nI_add _ b, fun b => nI_add _ b, fun b => nI_add _ b, fun b => nI_add _ b, fun b => nI_add _ b, fun b => nI_add _ b, fun b => nI_add _ b, fun b => nI_add _ b, fun b => nI_add _ b, fun b => nI_add _ b, fun b => nI_add _ b, fun b => nI_add _ b, fun b => nI_add _ b, fun b => nI_add _ b, fun b => nI_add _ b, fun b => nI_add _ b, fun b => nI_add _ b, fun b => nI_add _ b, fun b => nI_add _ b, fun b => nI_add _ b, fun b => nI_add _ b, fun b => nI_add _ b, fun b => nI_add _ b, fun b => nI_add _ b, fun b => nI_add _ b, fun b => nI_add _ b, fun b => nI_add _ b, fun b => nI_add _ b, fun b => nI_add _ b, fun b => nI_add _ b, fun b => nI_add _ b, fun b => nI_add _ b, fun b => nI_add _ b, fun b => nI_add _ b, fun b => nI_add _ b, fun b => nI_add _ b, fun b => nI_add _ b, fun b => nI_add _ b, fun b => nI_add _ b, fun b => nI_add _ b⟩
theorem IXr : (∀ a : Nat, nI a + (0 : Int32) = nI (a + 0)) ∧ (∀ a : Nat, nI a + (1 : Int32) = nI (a + 1)) ∧ (∀ a : Nat, nI a + (2 : Int32) = nI (a + 2)) ∧ (∀ a : Nat, nI a + (3 : Int32) = nI (a + 3)) ∧ (∀ a : Nat, nI a + (4 : Int32) = nI (a + 4)) ∧ (∀ a : Nat, nI a + (5 : Int32) = nI (a + 5)) ∧ (∀ a : Nat, nI a + (6 : Int32) = nI (a + 6)) ∧ (∀ a : Nat, nI a + (7 : Int32) = nI (a + 7)) ∧ (∀ a : Nat, nI a + (8 : Int32) = nI (a + 8)) ∧ (∀ a : Nat, nI a + (9 : Int32) = nI (a + 9)) ∧ (∀ a : Nat, nI a + (10 : Int32) = nI (a + 10)) ∧ (∀ a : Nat, nI a + (11 : Int32) = nI (a + 11)) ∧ (∀ a : Nat, nI a + (12 : Int32) = nI (a + 12)) ∧ (∀ a : Nat, nI a + (13 : Int32) = nI (a + 13)) ∧ (∀ a : Nat, nI a + (14 : Int32) = nI (a + 14)) ∧ (∀ a : Nat, nI a + (15 : Int32) = nI (a + 15)) ∧ (∀ a : Nat, nI a + (16 : Int32) = nI (a + 16)) ∧ (∀ a : Nat, nI a + (17 : Int32) = nI (a + 17)) ∧ (∀ a : Nat, nI a + (18 : Int32) = nI (a + 18)) ∧ (∀ a : Nat, nI a + (19 : Int32) = nI (a + 19)) ∧ (∀ a : Nat, nI a + (20 : Int32) = nI (a + 20)) ∧ (∀ a : Nat, nI a + (21 : Int32) = nI (a + 21)) ∧ (∀ a : Nat, nI a + (22 : Int32) = nI (a + 22)) ∧ (∀ a : Nat, nI a + (23 : Int32) = nI (a + 23)) ∧ (∀ a : Nat, nI a + (24 : Int32) = nI (a + 24)) ∧ (∀ a : Nat, nI a + (25 : Int32) = nI (a + 25)) ∧ (∀ a : Nat, nI a + (26 : Int32) = nI (a + 26)) ∧ (∀ a : Nat, nI a + (27 : Int32) = nI (a + 27)) ∧ (∀ a : Nat, nI a + (28 : Int32) = nI (a + 28)) ∧ (∀ a : Nat, nI a + (29 : Int32) = nI (a + 29)) ∧ (∀ a : Nat, nI a + (30 : Int32) = nI (a + 30)) ∧ (∀ a : Nat, nI a + (31 : Int32) = nI (a + 31)) ∧ (∀ a : Nat, nI a + (32 : Int32) = nI (a + 32)) ∧ (∀ a : Nat, nI a + (80 : Int32) = nI (a + 80)) ∧ (∀ a : Nat, nI a + (100 : Int32) = nI (a + 100)) ∧ (∀ a : Nat, nI a + (220 : Int32) = nI (a + 220)) ∧ (∀ a : Nat, nI a + (252 : Int32) = nI (a + 252)) ∧ (∀ a : Nat, nI a + (290 : Int32) = nI (a + 290)) ∧ (∀ a : Nat, nI a + (420 : Int32) = nI (a + 420)) ∧ (∀ a : Nat, nI a + (516 : Int32) = nI (a + 516)) ∧ (∀ a : Nat, nI a + (600 : Int32) = nI (a + 600)) ∧ (∀ a : Nat, nI a + (2400 : Int32) = nI (a + 2400)) := ⟨fun a => nI_add a _, fun a => nI_add a _, fun a => nI_add a _, fun a => nI_add a _, fun a => nI_add a _, fun a => nI_add a _, fun a => nI_add a _, fun a => nI_add a _, fun a => nI_add a _, fun a => nI_add a _, fun a => nI_add a _, fun a => nI_add a _, fun a => nI_add a _, fun a => nI_add a _, fun a => nI_add a _, fun a => nI_add a _, fun a => nI_add a _, fun a => nI_add a _, fun a => nI_add a _, fun a => nI_add a _, fun a => nI_add a _, fun a => nI_add a _, fun a => nI_add a _, fun a => nI_add a _, fun a => nI_add a _, fun a => nI_add a _, fun a => nI_add a _, fun a => nI_add a _, fun a => nI_add a _, fun a => nI_add a _, fun a => nI_add a _, fun a => nI_add a _, fun a => nI_add a _, fun a => nI_add a _, fun a => nI_add a _, fun a => nI_add a _, fun a => nI_add a _, fun a => nI_add a _, fun a => nI_add a _, fun a => nI_add a _, fun a => nI_add a _, fun a => nI_add a _⟩
theorem IXm : (∀ b : Nat, (0 : Int32) * nI b = nI (0 * b)) ∧ (∀ b : Nat, (1 : Int32) * nI b = nI (1 * b)) ∧ (∀ b : Nat, (2 : Int32) * nI b = nI (2 * b)) ∧ (∀ b : Nat, (3 : Int32) * nI b = nI (3 * b)) ∧ (∀ b : Nat, (4 : Int32) * nI b = nI (4 * b)) ∧ (∀ b : Nat, (5 : Int32) * nI b = nI (5 * b)) ∧ (∀ b : Nat, (6 : Int32) * nI b = nI (6 * b)) ∧ (∀ b : Nat, (7 : Int32) * nI b = nI (7 * b)) ∧ (∀ b : Nat, (8 : Int32) * nI b = nI (8 * b)) ∧ (∀ b : Nat, (9 : Int32) * nI b = nI (9 * b)) ∧ (∀ b : Nat, (10 : Int32) * nI b = nI (10 * b)) ∧ (∀ b : Nat, (11 : Int32) * nI b = nI (11 * b)) ∧ (∀ b : Nat, (12 : Int32) * nI b = nI (12 * b)) ∧ (∀ b : Nat, (13 : Int32) * nI b = nI (13 * b)) ∧ (∀ b : Nat, (14 : Int32) * nI b = nI (14 * b)) ∧ (∀ b : Nat, (15 : Int32) * nI b = nI (15 * b)) ∧ (∀ b : Nat, (16 : Int32) * nI b = nI (16 * b)) ∧ (∀ b : Nat, (17 : Int32) * nI b = nI (17 * b)) ∧ (∀ b : Nat, (18 : Int32) * nI b = nI (18 * b)) ∧ (∀ b : Nat, (19 : Int32) * nI b = nI (19 * b)) ∧ (∀ b : Nat, (20 : Int32) * nI b = nI (20 * b)) ∧ (∀ b : Nat, (21 : Int32) * nI b = nI (21 * b)) ∧ (∀ b : Nat, (22 : Int32) * nI b = nI (22 * b)) ∧ (∀ b : Nat, (23 : Int32) * nI b = nI (23 * b)) ∧ (∀ b : Nat, (24 : Int32) * nI b = nI (24 * b)) ∧ (∀ b : Nat, (25 : Int32) * nI b = nI (25 * b)) ∧ (∀ b : Nat, (26 : Int32) * nI b = nI (26 * b)) ∧ (∀ b : Nat, (27 : Int32) * nI b = nI (27 * b)) ∧ (∀ b : Nat, (28 : Int32) * nI b = nI (28 * b)) ∧ (∀ b : Nat, (29 : Int32) * nI b = nI (29 * b)) ∧ (∀ b : Nat, (30 : Int32) * nI b = nI (30 * b)) ∧ (∀ b : Nat, (31 : Int32) * nI b = nI (31 * b)) ∧ (∀ b : Nat, (32 : Int32) * nI b = nI (32 * b)) ∧ (∀ b : Nat, (80 : Int32) * nI b = nI (80 * b)) ∧ (∀ b : Nat, (100 : Int32) * nI b = nI (100 * b)) ∧ (∀ b : Nat, (220 : Int32) * nI b = nI (220 * b)) ∧ (∀ b : Nat, (252 : Int32) * nI b = nI (252 * b)) ∧ (∀ b : Nat, (290 : Int32) * nI b = nI (290 * b)) ∧ (∀ b : Nat, (420 : Int32) * nI b = nI (420 * b)) ∧ (∀ b : Nat, (516 : Int32) * nI b = nI (516 * b)) ∧ (∀ b : Nat, (600 : Int32) * nI b = nI (600 * b)) ∧ (∀ b : Nat, (2400 : Int32) * nI b = nI (2400 * b)) := ⟨fun b => pk_mul _ b, fun b => pk_mul _ b, fun b => pk_mul _ b, fun b => pk_mul _ b, fun b => pk_mul _ b, fun b => pk_mul _ b, fun b => pk_mul _ b, fun b => pk_mul _ b, fun b => pk_mul _ b, fun b => pk_mul _ b, fun b => pk_mul _ b, fun b => pk_mul _ b, fun b => pk_mul _ b, fun b => pk_mul _ b, fun b => pk_mul _ b, fun b => pk_mul _ b, fun b => pk_mul _ b, fun b => pk_mul _ b, fun b => pk_mul _ b, fun b => pk_mul _ b, fun b => pk_mul _ b, fun b => pk_mul _ b, fun b => pk_mul _ b, fun b => pk_mul _ b, fun b => pk_mul _ b, fun b => pk_mul _ b, fun b => pk_mul _ b, fun b => pk_mul _ b, fun b => pk_mul _ b, fun b => pk_mul _ b, fun b => pk_mul _ b, fun b => pk_mul _ b, fun b => pk_mul _ b, fun b => pk_mul _ b, fun b => pk_mul _ b, fun b => pk_mul _ b, fun b => pk_mul _ b, fun b => pk_mul _ b, fun b => pk_mul _ b, fun b => pk_mul _ b, fun b => pk_mul _ b, fun b => pk_mul _ b⟩
theorem IXt : (tN 0 = 0) ∧ (tN 1 = 1) ∧ (tN 2 = 2) ∧ (tN 3 = 3) ∧ (tN 4 = 4) ∧ (tN 5 = 5) ∧ (tN 6 = 6) ∧ (tN 7 = 7) ∧ (tN 8 = 8) ∧ (tN 9 = 9) ∧ (tN 10 = 10) ∧ (tN 11 = 11) ∧ (tN 12 = 12) ∧ (tN 13 = 13) ∧ (tN 14 = 14) ∧ (tN 15 = 15) ∧ (tN 16 = 16) ∧ (tN 17 = 17) ∧ (tN 18 = 18) ∧ (tN 19 = 19) ∧ (tN 20 = 20) ∧ (tN 21 = 21) ∧ (tN 22 = 22) := ⟨rfl, rfl, rfl, rfl, rfl, rfl, rfl, rfl, rfl, rfl, rfl, rfl, rfl, rfl, rfl, rfl, rfl, rfl, rfl, rfl, rfl, rfl, rfl⟩
theorem a_l (a b : Nat) : (OfNat.ofNat a : Int32) + nI b = nI ((OfNat.ofNat a : Nat) + b) := nI_add a b
theorem m_l (a b : Nat) : (OfNat.ofNat a : Int32) * nI b = nI ((OfNat.ofNat a : Nat) * b) := pk_mul a b
theorem tN_nI {n : Nat} (h : n < 2147483648) : tN (nI n) = n := nI_clamp h
theorem gin_nI {k n : Nat} (h : k < n) (hn : n < 2147483648) : gin (nI k) n := by
  intro q
  rcases q with q | q
  · exact nI_pos (show k < 2 ^ 31 by omega) q
  · rw [nI_clamp (show k < 2 ^ 31 by omega)] at q
    omega
theorem gin_if {α : Type} {k n : Nat} {a b : α} [Decidable (gin (nI k) n)] (h : k < n) (hn : n < 2147483648) : (if gin (nI k) n then a else b) = a := if_pos (gin_nI h hn)
theorem gin_t {k n : Nat} (h : k < n) (hn : n < 2147483648) : gin (nI k) n = True := eq_true (gin_nI h hn)
theorem bq {α β : Type} {a : Option α} {x : α} (h : a = some x) (f : α → Option β) : a.bind f = f x := by rw [h]; rfl
theorem bs {α β : Type} {a : Option α} {x : α} {f : α → Option β} {o : Option β} (h : a = some x) (k : f x = o) : a.bind f = o := by rw [h]; exact k
theorem ip {α : Type} {c : Prop} [Decidable c] {a b o : Option α} (h : c) (k : a = o) : (if c then a else b) = o := by rw [if_pos h]; exact k
theorem im {α : Type} {c : Prop} [Decidable c] {a b o : Option α} (h : ¬ c) (k : b = o) : (if c then a else b) = o := by rw [if_neg h]; exact k
theorem t_0 : tN 0 = 0 := rfl
theorem t_1 : tN 1 = 1 := rfl
theorem t_2 : tN 2 = 2 := rfl
theorem t_3 : tN 3 = 3 := rfl
theorem t_4 : tN 4 = 4 := rfl
theorem t_5 : tN 5 = 5 := rfl
theorem t_6 : tN 6 = 6 := rfl
theorem t_7 : tN 7 = 7 := rfl
theorem t_8 : tN 8 = 8 := rfl
theorem nI_z : (0 : Int32) = nI 0 := rfl
/-- an int that isn't negative is a natural number -/
theorem nn_eq {x : Int32} (h : 0 ≤ x.toInt) : x = nI (tN x) := by
  have e : ((tN x : Nat) : Int) = x.toInt := by
    show ((x.toInt.toNat : Nat) : Int) = x.toInt
    omega
  apply Int32.toInt_inj.mp
  have hb := Int32.toInt_lt x
  rw [nI_toInt (show tN x < 2 ^ 31 by omega)]
  exact e.symm
theorem tN_int {x : Int32} (h : 0 ≤ x.toInt) : ((tN x : Nat) : Int) = x.toInt := by
  show ((x.toInt.toNat : Nat) : Int) = x.toInt
  omega
theorem le_int {x y : Int32} : x ≤ y ↔ x.toInt ≤ y.toInt := Int32.le_iff_toInt_le
theorem lt_int {x y : Int32} : x < y ↔ x.toInt < y.toInt := Int32.lt_iff_toInt_lt
theorem eq_int {x y : Int32} : x = y ↔ x.toInt = y.toInt := Int32.toInt_inj.symm
/-! memories -/
abbrev Vt : Type := Nat → Int32
def mV (M : Me) : Vt := M.1 100 0 0
def sV (M : Me) (v : Vt) : Me := (fun f i s r => if f = 100 ∧ i = 0 ∧ s = 0 then v r else M.1 f i s r, M.2)
theorem rdV (M : Me) (v : Vt) (k : Nat) : (sV M v).1 100 0 0 k = v k := by simp [sV]
theorem rdV' (M : Me) (v : Vt) (f k : Nat) (h : f ≠ 100) : (sV M v).1 f 0 0 k = M.1 f 0 0 k := by simp [sV, h]
theorem rdV2 (M : Me) (v : Vt) (f i s r : Nat) : (sV M v).2 f i s r = M.2 f i s r := rfl
theorem wrV (M : Me) (v : Vt) (k : Nat) (x : Int32) : wI (sV M v) 100 0 0 k x = sV M (upd v k x) := by
  refine Prod.ext (funext fun f => funext fun i => funext fun s => funext fun r => ?_) rfl
  show (if f = 100 ∧ i = 0 ∧ s = 0 ∧ r = k then x else if f = 100 ∧ i = 0 ∧ s = 0 then v r else M.1 f i s r) = if f = 100 ∧ i = 0 ∧ s = 0 then (if r = k then x else v r) else M.1 f i s r
  by_cases h : f = 100 ∧ i = 0 ∧ s = 0
  · obtain ⟨rfl, rfl, rfl⟩ := h
    by_cases hr : r = k <;> simp [hr]
  · rw [if_neg (fun q => h ⟨q.1, q.2.1, q.2.2.1⟩), if_neg h, if_neg h]
theorem sV_e (M : Me) : sV M (mV M) = M := by
  refine Prod.ext (funext fun f => funext fun i => funext fun s => funext fun r => ?_) rfl
  show (if f = 100 ∧ i = 0 ∧ s = 0 then M.1 100 0 0 r else M.1 f i s r) = M.1 f i s r
  by_cases h : f = 100 ∧ i = 0 ∧ s = 0
  · rw [if_pos h, h.1, h.2.1, h.2.2]
  · rw [if_neg h]
theorem mV_s (M : Me) (v : Vt) : mV (sV M v) = v := funext fun k => rdV M v k
theorem sV_s (M : Me) (v v' : Vt) : sV (sV M v) v' = sV M v' := by
  refine Prod.ext (funext fun f => funext fun i => funext fun s => funext fun r => ?_) rfl
  show (if f = 100 ∧ i = 0 ∧ s = 0 then v' r else if f = 100 ∧ i = 0 ∧ s = 0 then v r else M.1 f i s r) = if f = 100 ∧ i = 0 ∧ s = 0 then v' r else M.1 f i s r
  by_cases h : f = 100 ∧ i = 0 ∧ s = 0
  · rw [if_pos h, if_pos h]
  · rw [if_neg h, if_neg h, if_neg h]
abbrev Nt : Type := (Nat → Nat → Nat → Int32) × (Nat → Nat → Nat → Int64)
def nN (C : Me) (i : Nat) : Nt := (fun f s r => C.1 f i s r, fun f s r => C.2 f i s r)
def sN (C : Me) (i : Nat) (N : Nt) : Me := (fun f j s r => if j = i ∧ f < 70 then N.1 f s r else C.1 f j s r, fun f j s r => if j = i ∧ f < 70 then N.2 f s r else C.2 f j s r)
def uN (N : Nt) (f s r : Nat) (x : Int32) : Nt := (fun f' s' r' => if f' = f ∧ s' = s ∧ r' = r then x else N.1 f' s' r', N.2)
def uL (N : Nt) (f s r : Nat) (x : Int64) : Nt := (N.1, fun f' s' r' => if f' = f ∧ s' = s ∧ r' = r then x else N.2 f' s' r')
def uC (N : Nt) (f s : Nat) (g : Nat → Int32) (sp dp n : Nat) : Nt := (fun f' s' r' => if f' = f ∧ s' = s then va_cpy g (N.1 f s) sp dp n r' else N.1 f' s' r', N.2)
theorem rdN {C : Me} {i : Nat} {N : Nt} {f s r : Nat} (h : f < 70) : (sN C i N).1 f i s r = N.1 f s r := if_pos ⟨rfl, h⟩
theorem rdN2 {C : Me} {i : Nat} {N : Nt} {f s r : Nat} (h : f < 70) : (sN C i N).2 f i s r = N.2 f s r := if_pos ⟨rfl, h⟩
theorem rdN' {C : Me} {i : Nat} {N : Nt} {f j s r : Nat} (h : ¬ f < 70) : (sN C i N).1 f j s r = C.1 f j s r := if_neg (fun q => h q.2)
theorem rdN2' {C : Me} {i : Nat} {N : Nt} {f j s r : Nat} (h : ¬ f < 70) : (sN C i N).2 f j s r = C.2 f j s r := if_neg (fun q => h q.2)
theorem rdNj {C : Me} {i : Nat} {N : Nt} {f j s r : Nat} (h : j ≠ i) : (sN C i N).1 f j s r = C.1 f j s r := if_neg (fun q => h q.1)
theorem rdN2j {C : Me} {i : Nat} {N : Nt} {f j s r : Nat} (h : j ≠ i) : (sN C i N).2 f j s r = C.2 f j s r := if_neg (fun q => h q.1)
theorem wrN {C : Me} {i : Nat} {N : Nt} {f s r : Nat} {x : Int32} (h : f < 70) : wI (sN C i N) f i s r x = sN C i (uN N f s r x) := by
  refine Prod.ext (funext fun f' => funext fun j => funext fun s' => funext fun r' => ?_) rfl
  show (if f' = f ∧ j = i ∧ s' = s ∧ r' = r then x else if j = i ∧ f' < 70 then N.1 f' s' r' else C.1 f' j s' r') = if j = i ∧ f' < 70 then (if f' = f ∧ s' = s ∧ r' = r then x else N.1 f' s' r') else C.1 f' j s' r'
  by_cases h1 : f' = f ∧ j = i ∧ s' = s ∧ r' = r
  · obtain ⟨rfl, rfl, rfl, rfl⟩ := h1
    rw [if_pos ⟨rfl, rfl, rfl, rfl⟩, if_pos ⟨rfl, h⟩, if_pos ⟨rfl, rfl, rfl⟩]
  · rw [if_neg h1]
    by_cases h2 : j = i ∧ f' < 70
    · rw [if_pos h2, if_pos h2, if_neg (fun q => h1 ⟨q.1, h2.1, q.2⟩)]
    · rw [if_neg h2, if_neg h2]
theorem wrL {C : Me} {i : Nat} {N : Nt} {f s r : Nat} {x : Int64} (h : f < 70) : wL (sN C i N) f i s r x = sN C i (uL N f s r x) := by
  refine Prod.ext rfl (funext fun f' => funext fun j => funext fun s' => funext fun r' => ?_)
  show (if f' = f ∧ j = i ∧ s' = s ∧ r' = r then x else if j = i ∧ f' < 70 then N.2 f' s' r' else C.2 f' j s' r') = if j = i ∧ f' < 70 then (if f' = f ∧ s' = s ∧ r' = r then x else N.2 f' s' r') else C.2 f' j s' r'
  by_cases h1 : f' = f ∧ j = i ∧ s' = s ∧ r' = r
  · obtain ⟨rfl, rfl, rfl, rfl⟩ := h1
    rw [if_pos ⟨rfl, rfl, rfl, rfl⟩, if_pos ⟨rfl, h⟩, if_pos ⟨rfl, rfl, rfl⟩]
  · rw [if_neg h1]
    by_cases h2 : j = i ∧ f' < 70
    · rw [if_pos h2, if_pos h2, if_neg (fun q => h1 ⟨q.1, h2.1, q.2⟩)]
    · rw [if_neg h2, if_neg h2]
theorem wrC {C : Me} {i : Nat} {N : Nt} {f s : Nat} {g : Nat → Int32} {sp dp n : Nat} (h : f < 70) : cI (sN C i N) f i s g sp dp n = sN C i (uC N f s g sp dp n) := by
  refine Prod.ext (funext fun f' => funext fun j => funext fun s' => funext fun r' => ?_) rfl
  have e0 : (sN C i N).1 f i s = N.1 f s := funext fun r => rdN h
  show (if f' = f ∧ j = i ∧ s' = s then va_cpy g ((sN C i N).1 f i s) sp dp n r' else if j = i ∧ f' < 70 then N.1 f' s' r' else C.1 f' j s' r') = if j = i ∧ f' < 70 then (if f' = f ∧ s' = s then va_cpy g (N.1 f s) sp dp n r' else N.1 f' s' r') else C.1 f' j s' r'
  rw [e0]
  by_cases h1 : f' = f ∧ j = i ∧ s' = s
  · obtain ⟨rfl, rfl, rfl⟩ := h1
    rw [if_pos ⟨rfl, rfl, rfl⟩, if_pos ⟨rfl, h⟩, if_pos ⟨rfl, rfl⟩]
  · rw [if_neg h1]
    by_cases h2 : j = i ∧ f' < 70
    · rw [if_pos h2, if_pos h2, if_neg (fun q => h1 ⟨q.1, h2.1, q.2⟩)]
    · rw [if_neg h2, if_neg h2]
theorem sN_s (C : Me) (i : Nat) (N N' : Nt) : sN (sN C i N) i N' = sN C i N' := by
  refine Prod.ext (funext fun f => funext fun j => funext fun s => funext fun r => ?_) (funext fun f => funext fun j => funext fun s => funext fun r => ?_)
  · show (if j = i ∧ f < 70 then N'.1 f s r else if j = i ∧ f < 70 then N.1 f s r else C.1 f j s r) = if j = i ∧ f < 70 then N'.1 f s r else C.1 f j s r
    by_cases h : j = i ∧ f < 70
    · rw [if_pos h, if_pos h]
    · rw [if_neg h, if_neg h, if_neg h]
  · show (if j = i ∧ f < 70 then N'.2 f s r else if j = i ∧ f < 70 then N.2 f s r else C.2 f j s r) = if j = i ∧ f < 70 then N'.2 f s r else C.2 f j s r
    by_cases h : j = i ∧ f < 70
    · rw [if_pos h, if_pos h]
    · rw [if_neg h, if_neg h, if_neg h]
theorem sN_e (C : Me) (i : Nat) : sN C i (nN C i) = C := by
  refine Prod.ext (funext fun f => funext fun j => funext fun s => funext fun r => ?_) (funext fun f => funext fun j => funext fun s => funext fun r => ?_)
  · show (if j = i ∧ f < 70 then C.1 f i s r else C.1 f j s r) = C.1 f j s r
    by_cases h : j = i ∧ f < 70
    · rw [if_pos h, h.1]
    · rw [if_neg h]
  · show (if j = i ∧ f < 70 then C.2 f i s r else C.2 f j s r) = C.2 f j s r
    by_cases h : j = i ∧ f < 70
    · rw [if_pos h, h.1]
    · rw [if_neg h]
theorem uN_s {N : Nt} {f s r : Nat} {x : Int32} : (uN N f s r x).1 f s r = x := if_pos ⟨rfl, rfl, rfl⟩
theorem uN_n {N : Nt} {f s r f' s' r' : Nat} {x : Int32} (h : ¬ (f' = f ∧ s' = s ∧ r' = r)) : (uN N f s r x).1 f' s' r' = N.1 f' s' r' := if_neg h
theorem uN_f {N : Nt} {f s r f' s' r' : Nat} {x : Int32} (h : f' ≠ f) : (uN N f s r x).1 f' s' r' = N.1 f' s' r' := if_neg (fun q => h q.1)
theorem uN_2 {N : Nt} {f s r f' s' r' : Nat} {x : Int32} : (uN N f s r x).2 f' s' r' = N.2 f' s' r' := rfl
theorem up_s {v : Vt} {k : Nat} {x : Int32} : upd v k x k = x := if_pos rfl
theorem up_n {v : Vt} {k j : Nat} {x : Int32} (h : j ≠ k) : upd v k x j = v j := if_neg h
/-! loops -/
theorem lp_inl {σ τ : Type} {n : Nat} {b : σ → Option (σ ⊕ τ)} {x y : σ} (h : b x = some (.inl y)) : lp (n + 1) b x = lp n b y := by
  show (b x).bind _ = _
  rw [h]
  rfl
theorem lp_inr {σ τ : Type} {n : Nat} {b : σ → Option (σ ⊕ τ)} {x : σ} {t : τ} (h : b x = some (.inr t)) : lp (n + 1) b x = some t := by
  show (b x).bind _ = _
  rw [h]
  rfl
theorem lp_go {σ τ : Type} {b : σ → Option (σ ⊕ τ)} (S : Nat → σ) {t : τ} : ∀ (d k F : Nat), d < F → (∀ j, k ≤ j → j < k + d → b (S j) = some (.inl (S (j + 1)))) → b (S (k + d)) = some (.inr t) → lp F b (S k) = some t
  | 0, k, F + 1, _, _, he => lp_inr he
  | d + 1, k, F + 1, hF, hs, he => by
    rw [lp_inl (hs k (Nat.le_refl k) (by omega))]
    exact lp_go S d (k + 1) F (by omega) (fun j h1 h2 => hs j (by omega) (by omega)) (by rw [show k + 1 + d = k + (d + 1) by omega]; exact he)
/-- a loop that comes to its end after n steps -/
theorem lp_n {σ τ : Type} {b : σ → Option (σ ⊕ τ)} (S : Nat → σ) (n : Nat) {t : τ} {F : Nat} (hF : n < F) (hs : ∀ k, k < n → b (S k) = some (.inl (S (k + 1)))) (he : b (S n) = some (.inr t)) : lp F b (S 0) = some t :=
  lp_go S n 0 F hF (fun j _ h => hs j (by omega)) (by rw [Nat.zero_add]; exact he)
theorem lt_FU {n : Nat} (h : n < 5000) : n < FU := h
