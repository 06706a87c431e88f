section PPpix
/-! arrays written cell by cell -/
def pd_it (o : Nat) (a b : Nat → Int32) : Nat → Nat → Int32
  | 0 => b
  | i + 1 => upd (pd_it o a b i) (o + i) (a i)
theorem pd_itS {o : Nat} {a b : Nat → Int32} {i : Nat} : pd_it o a b (i + 1) = upd (pd_it o a b i) (o + i) (a i) := rfl
theorem pd_itH {o : Nat} {a b : Nat → Int32} : ∀ i j, o + i ≤ j → pd_it o a b i j = b j := by
  intro i
  induction i with
  | zero => intro j _; rfl
  | succ i ih => intro j hj; rw [pd_itS, pa_un (by omega)]; exact ih j (by omega)
theorem pd_itP {P : Int32 → Prop} {o : Nat} {a b : Nat → Int32} (hb : ∀ j, P (b j)) : ∀ i, (∀ j, j < i → P (a j)) → ∀ j, P (pd_it o a b i j) := by
  intro i
  induction i with
  | zero => intro _ j; exact hb j
  | succ i ih =>
    intro ha j
    rw [pd_itS]
    by_cases c : j = o + i
    · subst c; rw [pa_us]; exact ha i (by omega)
    · rw [pa_un c]; exact ih (fun j hj => ha j (by omega)) j
theorem pd_updP {P : Int32 → Prop} {a : Nat → Int32} {i : Nat} {x : Int32} (ha : ∀ j, P (a j)) (hx : P x) : ∀ j, P (upd a i x j) := by
  intro j
  by_cases c : j = i
  · subst c; rw [pa_us]; exact hx
  · rw [pa_un c]; exact ha j
/-- a count of cells -/
def pd_n (c : Nat → Bool) : Nat → Int32
  | 0 => 0
  | i + 1 => if c i = true then pd_n c i + 1 else pd_n c i
theorem pd_nT {c : Nat → Bool} {i : Nat} (h : c i = true) : pd_n c (i + 1) = pd_n c i + 1 := if_pos h
theorem pd_nF {c : Nat → Bool} {i : Nat} (h : ¬ c i = true) : pd_n c (i + 1) = pd_n c i := if_neg h
/-- the colour that painting gives -/
def pd_mx (col mo old : Int32) : Int32 := if mo = 1 then old ^^^ col else if mo = 2 ∧ ¬ old = 0 then old else col
/-- the page when the first i pixels are painted -/
def pd_pg (ch cl pg : Nat → Int32) (col mo : Int32) : Nat → Nat → Int32
  | 0 => pg
  | i + 1 => if ch i = 0 ∨ cl i = 0 then pd_pg ch cl pg col mo i else upd (pd_pg ch cl pg col mo i) i (pd_mx col mo (pg i))
theorem pd_pgK {ch cl pg : Nat → Int32} {col mo : Int32} {i : Nat} (h : ch i = 0 ∨ cl i = 0) : pd_pg ch cl pg col mo (i + 1) = pd_pg ch cl pg col mo i := if_pos h
theorem pd_pgN {ch cl pg : Nat → Int32} {col mo : Int32} {i : Nat} (h1 : ¬ ch i = 0) (h2 : ¬ cl i = 0) : pd_pg ch cl pg col mo (i + 1) = upd (pd_pg ch cl pg col mo i) i (pd_mx col mo (pg i)) := if_neg (fun h => h.elim h1 h2)
theorem pd_pgH {ch cl pg : Nat → Int32} {col mo : Int32} : ∀ i j, i ≤ j → pd_pg ch cl pg col mo i j = pg j := by
  intro i
  induction i with
  | zero => intro j _; rfl
  | succ i ih =>
    intro j hj
    by_cases c : ch i = 0 ∨ cl i = 0
    · rw [pd_pgK c]; exact ih j (by omega)
    · rw [pd_pgN (fun h => c (Or.inl h)) (fun h => c (Or.inr h)), pa_un (by omega)]; exact ih j (by omega)
/-- does pixel i change -/
def pd_dc (ch cl pg : Nat → Int32) (col mo : Int32) (i : Nat) : Bool := decide (¬ ch i = 0 ∧ ¬ cl i = 0 ∧ ¬ pd_mx col mo (pg i) = pg i)
/-- the clip when the first i pixels are cut -/
def pd_ct (ch cl : Nat → Int32) (i : Nat) : Int32 := if cl i = 0 then 0 else ch i
end PPpix
