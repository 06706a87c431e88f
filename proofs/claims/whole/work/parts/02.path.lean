section PPpath
/-! the path: F k the number of the first point of k's subpath (X), S k the number of its subpath (Y) -/
def pb_ok (n : Nat) (F S : Nat → Nat) : Prop :=
  ∀ k, k < n → (F k = k ∧ ((k = 0 ∧ S k = 0) ∨ (0 < k ∧ S k = S (k - 1) + 1))) ∨ (0 < k ∧ F k = F (k - 1) ∧ S k = S (k - 1))
theorem pb_le {n : Nat} {F S : Nat → Nat} (h : pb_ok n F S) : ∀ k, k < n → F k ≤ k ∧ S k ≤ k := by
  intro k
  induction k with
  | zero =>
    intro hk
    rcases h 0 hk with ⟨a, b | b⟩ | b <;> omega
  | succ k ih =>
    intro hk
    have i := ih (by omega)
    rcases h (k + 1) hk with ⟨a, b | b⟩ | b <;> (try simp only [Nat.add_sub_cancel] at b) <;> omega
theorem pb_mono {n : Nat} {F S : Nat → Nat} (h : pb_ok n F S) {j : Nat} : ∀ d, j + d < n → S j ≤ S (j + d) ∧ F j ≤ F (j + d) ∧ (F j = F (j + d) ↔ S j = S (j + d)) := by
  intro d
  induction d with
  | zero => intro _; exact ⟨Nat.le_refl _, Nat.le_refl _, Iff.intro (fun _ => rfl) (fun _ => rfl)⟩
  | succ d ih =>
    intro hd
    have i := ih (by omega)
    have l := pb_le h j (by omega)
    rw [← Nat.add_assoc]
    rcases h (j + d + 1) hd with ⟨a, b | b⟩ | b <;> (try simp only [Nat.add_sub_cancel] at b) <;> omega
theorem pb_iff {n : Nat} {F S : Nat → Nat} (h : pb_ok n F S) {j k : Nat} (hj : j < n) (hk : k < n) : F j = F k ↔ S j = S k := by
  by_cases c : j ≤ k
  · have := pb_mono h (j := j) (k - j) (by omega)
    rw [show j + (k - j) = k by omega] at this
    exact this.2.2
  · have := pb_mono h (j := k) (j - k) (by omega)
    rw [show k + (j - k) = j by omega] at this
    exact Iff.intro (fun e => (this.2.2.mp e.symm).symm) (fun e => (this.2.2.mpr e.symm).symm)
theorem pb_last {n : Nat} {F S : Nat → Nat} (h : pb_ok n F S) {k : Nat} (hk : k < n) : S k ≤ S (n - 1) := by
  have := pb_mono h (j := k) (n - 1 - k) (by omega)
  rw [show k + (n - 1 - k) = n - 1 by omega] at this
  exact this.1
theorem pb_pred {n : Nat} {F S : Nat → Nat} (h : pb_ok n F S) {k : Nat} (hk : k < n) : (F k = k ∧ (0 < k → S (k - 1) ≠ S k)) ∨ (0 < k ∧ F k = F (k - 1) ∧ S (k - 1) = S k ∧ F k < k) := by
  rcases h k hk with ⟨a, b | b⟩ | b
  · exact Or.inl ⟨a, fun _ => by omega⟩
  · exact Or.inl ⟨a, fun _ => by omega⟩
  · have := pb_le h (k - 1) (by omega)
    exact Or.inr ⟨b.1, b.2.1, b.2.2.symm, by omega⟩
/-- how many subpaths -/
def pb_s (n : Nat) (S : Nat → Nat) : Nat := if n = 0 then 0 else S (n - 1) + 1
theorem pb_sle {n : Nat} {F S : Nat → Nat} (h : pb_ok n F S) : pb_s n S ≤ n := by
  unfold pb_s
  split
  · omega
  · have := pb_le h (n - 1) (by omega); omega
theorem pb_slt {n : Nat} {F S : Nat → Nat} (h : pb_ok n F S) {k : Nat} (hk : k < n) : S k < pb_s n S := by
  unfold pb_s
  rw [if_neg (by omega)]
  have := pb_last h hk; omega
theorem pb_s0 {n : Nat} {S : Nat → Nat} : pb_s n S = 0 ↔ n = 0 := by
  unfold pb_s
  split <;> omega
def pb_put (f : Nat → Nat) (n x : Nat) : Nat → Nat := fun j => if j = n then x else f j
theorem pb_ps {f : Nat → Nat} {n x : Nat} : pb_put f n x n = x := if_pos rfl
theorem pb_pn {f : Nat → Nat} {n x j : Nat} (h : j ≠ n) : pb_put f n x j = f j := if_neg h
theorem pb_move {n : Nat} {F S : Nat → Nat} (h : pb_ok n F S) : pb_ok (n + 1) (pb_put F n n) (pb_put S n (pb_s n S)) := by
  intro k hk
  by_cases c : k = n
  · subst c
    rw [pb_ps, pb_ps]
    unfold pb_s
    by_cases z : k = 0
    · rw [if_pos z]; exact Or.inl ⟨rfl, Or.inl ⟨z, rfl⟩⟩
    · rw [if_neg z, pb_pn (by omega)]; exact Or.inl ⟨rfl, Or.inr ⟨by omega, rfl⟩⟩
  · rw [pb_pn c, pb_pn c, pb_pn (by omega), pb_pn (by omega)]
    exact h k (by omega)
theorem pb_line {n : Nat} {F S : Nat → Nat} (h : pb_ok n F S) (h0 : 0 < n) : pb_ok (n + 1) (pb_put F n (F (n - 1))) (pb_put S n (S (n - 1))) := by
  intro k hk
  by_cases c : k = n
  · subst c
    rw [pb_ps, pb_ps, pb_pn (by omega), pb_pn (by omega)]
    exact Or.inr ⟨h0, rfl, rfl⟩
  · rw [pb_pn c, pb_pn c, pb_pn (by omega), pb_pn (by omega)]
    exact h k (by omega)
theorem pb_sP {n x : Nat} {S : Nat → Nat} : pb_s (n + 1) (pb_put S n x) = x + 1 := by
  unfold pb_s
  rw [if_neg (by omega), Nat.add_sub_cancel, pb_ps]

/-! the path of both sides: n points, fo and sp their marks, cx and cy the closed ones -/
def pb_R (n : Nat) (fo sp cx cy : Nat → Int32) (F S : Nat → Nat) : Prop :=
  n ≤ 16 ∧ pb_ok n F S ∧ (∀ k, k < n → fo k = nI (F k)) ∧ (∀ k, k < n → sp k = nI (S k)) ∧ (∀ k, k < n → cx (F k) = cy (S k))
theorem pb_R0 {fo sp cx cy : Nat → Int32} {F S : Nat → Nat} : pb_R 0 fo sp cx cy F S :=
  ⟨by omega, fun _ h => absurd h (Nat.not_lt_zero _), fun _ h => absurd h (Nat.not_lt_zero _), fun _ h => absurd h (Nat.not_lt_zero _), fun _ h => absurd h (Nat.not_lt_zero _)⟩
theorem pb_Rmove {n : Nat} {fo sp cx cy : Nat → Int32} {F S : Nat → Nat} (h : pb_R n fo sp cx cy F S) (hn : n < 16) :
    pb_R (n + 1) (upd fo n (nI n)) (upd sp n (nI (pb_s n S))) (upd cx n 0) (upd cy (pb_s n S) 0) (pb_put F n n) (pb_put S n (pb_s n S)) := by
  obtain ⟨_, ok, hf, hs, hc⟩ := h
  refine ⟨by omega, pb_move ok, fun k hk => ?_, fun k hk => ?_, fun k hk => ?_⟩
  · by_cases c : k = n
    · subst c; rw [pa_us, pb_ps]
    · rw [pa_un c, pb_pn c]; exact hf k (by omega)
  · by_cases c : k = n
    · subst c; rw [pa_us, pb_ps]
    · rw [pa_un c, pb_pn c]; exact hs k (by omega)
  · by_cases c : k = n
    · subst c; rw [pb_ps, pb_ps, pa_us, pa_us]
    · have l := pb_le ok k (by omega)
      have m := pb_slt ok (k := k) (by omega)
      rw [pb_pn c, pb_pn c, pa_un (by omega), pa_un (by omega)]; exact hc k (by omega)
theorem pb_Rline {n : Nat} {fo sp cx cy : Nat → Int32} {F S : Nat → Nat} (h : pb_R n fo sp cx cy F S) (h0 : 0 < n) (hn : n < 16) :
    pb_R (n + 1) (upd fo n (nI (F (n - 1)))) (upd sp n (nI (S (n - 1)))) cx cy (pb_put F n (F (n - 1))) (pb_put S n (S (n - 1))) := by
  obtain ⟨_, ok, hf, hs, hc⟩ := h
  refine ⟨by omega, pb_line ok h0, fun k hk => ?_, fun k hk => ?_, fun k hk => ?_⟩
  · by_cases c : k = n
    · subst c; rw [pa_us, pb_ps]
    · rw [pa_un c, pb_pn c]; exact hf k (by omega)
  · by_cases c : k = n
    · subst c; rw [pa_us, pb_ps]
    · rw [pa_un c, pb_pn c]; exact hs k (by omega)
  · by_cases c : k = n
    · subst c; rw [pb_ps, pb_ps]; exact hc (k - 1) (by omega)
    · rw [pb_pn c, pb_pn c]; exact hc k (by omega)
theorem pb_Rclose {n : Nat} {fo sp cx cy : Nat → Int32} {F S : Nat → Nat} (h : pb_R n fo sp cx cy F S) (h0 : 0 < n) (x : Int32) :
    pb_R n fo sp (upd cx (F (n - 1)) x) (upd cy (S (n - 1)) x) F S := by
  obtain ⟨h16, ok, hf, hs, hc⟩ := h
  refine ⟨h16, ok, hf, hs, fun k hk => ?_⟩
  have i := pb_iff ok (j := k) (k := n - 1) hk (by omega)
  by_cases c : F k = F (n - 1)
  · rw [c, i.mp c, pa_us, pa_us]
  · rw [pa_un c, pa_un (fun e => c (i.mpr e))]; exact hc k hk
/-- the point to which point k leads, its subpath taken as closed -/
def pb_nx (n : Nat) (F : Nat → Nat) (k : Nat) : Nat := if k + 1 < n ∧ F (k + 1) = F k then k + 1 else F k
theorem pb_nxlt {n : Nat} {F S : Nat → Nat} (h : pb_ok n F S) {k : Nat} (hk : k < n) : pb_nx n F k < n := by
  unfold pb_nx
  have := pb_le h k hk
  split <;> omega
end PPpath
