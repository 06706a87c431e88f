section
section PPnum
/-! numbers: bounded sums and products, Int32 and Int64 against Int -/
theorem pa_us {f : Nat → Int32} {k : Nat} {x : Int32} : upd f k x k = x := if_pos rfl
theorem pa_un {f : Nat → Int32} {k j : Nat} {x : Int32} (h : j ≠ k) : upd f k x j = f j := if_neg h
theorem pa_mul (a b : Nat) : nI a * nI b = nI (a * b) := (Int32.ofNat_mul a b).symm
theorem pa_sub {a b : Nat} (h : b ≤ a) : nI a - nI b = nI (a - b) := by
  have e : nI a = nI (a - b) + nI b := by rw [nI_add]; congr 1; omega
  rw [e, Int32.add_sub_cancel]
theorem pa_m1 {n : Nat} (h : 0 < n) : nI n + (-1) = nI (n - 1) := by
  obtain ⟨m, rfl⟩ : ∃ m, n = m + 1 := ⟨n - 1, by omega⟩
  rw [← nI_1, Int32.add_assoc, show (1 : Int32) + (-1) = 0 from rfl, Int32.add_zero]; rfl
theorem pa_i {x : Int} (h1 : -2147483648 ≤ x) (h2 : x < 2147483648) : (Int32.ofInt x).toInt = x :=
  Int32.toInt_ofInt_of_le (by omega) (by omega)
theorem pa_l {x : Int} (h1 : -9223372036854775808 ≤ x) (h2 : x < 9223372036854775808) : (Int64.ofInt x).toInt = x :=
  Int64.toInt_ofInt_of_le (by omega) (by omega)
theorem pa_le {a b : Int} (h1 : -2147483648 ≤ a) (h2 : a < 2147483648) (h3 : -2147483648 ≤ b) (h4 : b < 2147483648) : Int32.ofInt a ≤ Int32.ofInt b ↔ a ≤ b := by
  rw [Int32.le_iff_toInt_le, pa_i h1 h2, pa_i h3 h4]
theorem pa_lt {a b : Int} (h1 : -2147483648 ≤ a) (h2 : a < 2147483648) (h3 : -2147483648 ≤ b) (h4 : b < 2147483648) : Int32.ofInt a < Int32.ofInt b ↔ a < b := by
  rw [Int32.lt_iff_toInt_lt, pa_i h1 h2, pa_i h3 h4]
theorem pa_lle {a b : Int} (h1 : -9223372036854775808 ≤ a) (h2 : a < 9223372036854775808) (h3 : -9223372036854775808 ≤ b) (h4 : b < 9223372036854775808) : Int64.ofInt a ≤ Int64.ofInt b ↔ a ≤ b := by
  rw [Int64.le_iff_toInt_le, pa_l h1 h2, pa_l h3 h4]
theorem pa_llt {a b : Int} (h1 : -9223372036854775808 ≤ a) (h2 : a < 9223372036854775808) (h3 : -9223372036854775808 ≤ b) (h4 : b < 9223372036854775808) : Int64.ofInt a < Int64.ofInt b ↔ a < b := by
  rw [Int64.lt_iff_toInt_lt, pa_l h1 h2, pa_l h3 h4]
theorem pa_s {a b : Int32} (h1 : -1000000000 ≤ a.toInt) (h2 : a.toInt ≤ 1000000000) (h3 : -1000000000 ≤ b.toInt) (h4 : b.toInt ≤ 1000000000) : (a - b).toInt64 = Int64.ofInt (a.toInt - b.toInt) := by
  have e : (a - b).toInt = a.toInt - b.toInt := by rw [Int32.toInt_sub, Int.bmod_eq_of_le (by omega) (by omega)]
  rw [← Int64.ofInt_int32ToInt, e]
theorem pa_mb {a b A B : Int} (h1 : -A ≤ a) (h2 : a ≤ A) (h3 : -B ≤ b) (h4 : b ≤ B) : -(A * B) ≤ a * b ∧ a * b ≤ A * B := by
  have k1 := Int.mul_nonneg (show 0 ≤ A - a by omega) (show 0 ≤ B + b by omega)
  have k2 := Int.mul_nonneg (show 0 ≤ A + a by omega) (show 0 ≤ B - b by omega)
  have k3 := Int.mul_nonneg (show 0 ≤ A - a by omega) (show 0 ≤ B - b by omega)
  have k4 := Int.mul_nonneg (show 0 ≤ A + a by omega) (show 0 ≤ B + b by omega)
  simp only [Int.sub_mul, Int.mul_sub, Int.add_mul, Int.mul_add] at k1 k2 k3 k4
  omega
theorem pa_sq (a : Int) : 0 ≤ a * a := by
  by_cases h : 0 ≤ a
  · exact Int.mul_nonneg h h
  · have := Int.mul_nonneg (show 0 ≤ -a by omega) (show 0 ≤ -a by omega)
    rwa [Int.neg_mul_neg] at this

/-! a value within a bound -/
def pa_in (M : Int) (x : Int32) : Prop := -M ≤ x.toInt ∧ x.toInt ≤ M

/-! the crossing: X's difference in 32 bits, Y's two products in 64 -/
theorem pa_cr {x1 y1 x2 y2 u v : Int32} (hx1 : pa_in 2000 x1) (hy1 : pa_in 2000 y1) (hx2 : pa_in 2000 x2) (hy2 : pa_in 2000 y2) (hu : pa_in 31 u) (hv : pa_in 31 v) :
    ((v - y1) * (x2 - x1) + (x1 - u) * (y2 - y1) ≤ 0 ↔ (v - y1).toInt64 * (x2 - x1).toInt64 ≤ (u - x1).toInt64 * (y2 - y1).toInt64) ∧
    (0 ≤ (v - y1) * (x2 - x1) + (x1 - u) * (y2 - y1) ↔ (u - x1).toInt64 * (y2 - y1).toInt64 ≤ (v - y1).toInt64 * (x2 - x1).toInt64) := by
  obtain ⟨a1, a2⟩ := hx1; obtain ⟨b1, b2⟩ := hy1; obtain ⟨c1, c2⟩ := hx2; obtain ⟨d1, d2⟩ := hy2; obtain ⟨e1, e2⟩ := hu; obtain ⟨f1, f2⟩ := hv
  have eb : (v - y1) * (x2 - x1) + (x1 - u) * (y2 - y1) = Int32.ofInt ((v.toInt - y1.toInt) * (x2.toInt - x1.toInt) + (x1.toInt - u.toInt) * (y2.toInt - y1.toInt)) := by
    simp only [Int32.ofInt_add, Int32.ofInt_mul, Int32.ofInt_sub, Int32.ofInt_toInt]
  have e0 : (0 : Int32) = Int32.ofInt 0 := rfl
  rw [eb, e0, pa_s (by omega) (by omega) (by omega) (by omega), pa_s (by omega) (by omega) (by omega) (by omega), pa_s (by omega) (by omega) (by omega) (by omega), pa_s (by omega) (by omega) (by omega) (by omega), ← Int64.ofInt_mul, ← Int64.ofInt_mul]
  have en : (x1.toInt - u.toInt) * (y2.toInt - y1.toInt) = -((u.toInt - x1.toInt) * (y2.toInt - y1.toInt)) := by
    rw [← Int.neg_mul, Int.neg_sub]
  rw [en]
  have m1 := pa_mb (a := v.toInt - y1.toInt) (b := x2.toInt - x1.toInt) (A := 2031) (B := 4000) (by omega) (by omega) (by omega) (by omega)
  have m2 := pa_mb (a := u.toInt - x1.toInt) (b := y2.toInt - y1.toInt) (A := 2031) (B := 4000) (by omega) (by omega) (by omega) (by omega)
  generalize (v.toInt - y1.toInt) * (x2.toInt - x1.toInt) = P at *
  generalize (u.toInt - x1.toInt) * (y2.toInt - y1.toInt) = Q at *
  rw [pa_le (by omega) (by omega) (by omega) (by omega), pa_le (by omega) (by omega) (by omega) (by omega), pa_lle (by omega) (by omega) (by omega) (by omega), pa_lle (by omega) (by omega) (by omega) (by omega)]
  omega

/-! nearness to a segment, in whole numbers -/
def pa_nr (px py dx dy R : Int) : Prop :=
  if px * dx + py * dy ≤ 0 then px * px + py * py ≤ R
  else if dx * dx + dy * dy ≤ px * dx + py * dy then (px - dx) * (px - dx) + (py - dy) * (py - dy) ≤ R
  else (px * dy - py * dx) * (px * dy - py * dx) ≤ R * (dx * dx + dy * dy)
theorem pa_nrE {px py dx dy R : Int} (h : (px - dx) * (px - dx) + (py - dy) * (py - dy) ≤ R) : pa_nr px py dx dy R := by
  have w : 0 ≤ dx * dx + dy * dy := Int.add_nonneg (pa_sq dx) (pa_sq dy)
  unfold pa_nr
  split
  · have e : (px - dx) * (px - dx) + (py - dy) * (py - dy) = px * px + py * py - 2 * (px * dx + py * dy) + (dx * dx + dy * dy) := by grind
    omega
  · split
    · exact h
    · have e : (px * dy - py * dx) * (px * dy - py * dx) + (px * dx + py * dy - (dx * dx + dy * dy)) * (px * dx + py * dy - (dx * dx + dy * dy)) = ((px - dx) * (px - dx) + (py - dy) * (py - dy)) * (dx * dx + dy * dy) := by grind
      have k := Int.mul_le_mul_of_nonneg_right h w
      have q := pa_sq (px * dx + py * dy - (dx * dx + dy * dy))
      omega
end PPnum
end
section
section PPpath
/-! the path: F k the number of the first point of k's subpath (X), S k the number of its subpath (Y) -/
def pb_ok (n : Nat) (F S : Nat → Nat) : Prop :=
  ∀ k, k < n → (F k = k ∧ ((k = 0 ∧ S k = 0) ∨ (0 < k ∧ S k = S (k - 1) + 1))) ∨ (0 < k ∧ F k = F (k - 1) ∧ S k = S (k - 1))
theorem pb_le {n : Nat} {F S : Nat → Nat} (h : pb_ok n F S) : ∀ k, k < n → F k ≤ k ∧ S k ≤ k := by
  intro k
  induction k with
  | zero =>
    intro hk
    rcases h 0 hk with ⟨a, b | b⟩ | b <;> omega
  | succ k ih =>
    intro hk
    have i := ih (by omega)
    rcases h (k + 1) hk with ⟨a, b | b⟩ | b <;> (try simp only [Nat.add_sub_cancel] at b) <;> omega
theorem pb_mono {n : Nat} {F S : Nat → Nat} (h : pb_ok n F S) {j : Nat} : ∀ d, j + d < n → S j ≤ S (j + d) ∧ F j ≤ F (j + d) ∧ (F j = F (j + d) ↔ S j = S (j + d)) := by
  intro d
  induction d with
  | zero => intro _; exact ⟨Nat.le_refl _, Nat.le_refl _, Iff.intro (fun _ => rfl) (fun _ => rfl)⟩
  | succ d ih =>
    intro hd
    have i := ih (by omega)
    have l := pb_le h j (by omega)
    rw [← Nat.add_assoc]
    rcases h (j + d + 1) hd with ⟨a, b | b⟩ | b <;> (try simp only [Nat.add_sub_cancel] at b) <;> omega
theorem pb_iff {n : Nat} {F S : Nat → Nat} (h : pb_ok n F S) {j k : Nat} (hj : j < n) (hk : k < n) : F j = F k ↔ S j = S k := by
  by_cases c : j ≤ k
  · have := pb_mono h (j := j) (k - j) (by omega)
    rw [show j + (k - j) = k by omega] at this
    exact this.2.2
  · have := pb_mono h (j := k) (j - k) (by omega)
    rw [show k + (j - k) = j by omega] at this
    exact Iff.intro (fun e => (this.2.2.mp e.symm).symm) (fun e => (this.2.2.mpr e.symm).symm)
theorem pb_last {n : Nat} {F S : Nat → Nat} (h : pb_ok n F S) {k : Nat} (hk : k < n) : S k ≤ S (n - 1) := by
  have := pb_mono h (j := k) (n - 1 - k) (by omega)
  rw [show k + (n - 1 - k) = n - 1 by omega] at this
  exact this.1
theorem pb_pred {n : Nat} {F S : Nat → Nat} (h : pb_ok n F S) {k : Nat} (hk : k < n) : (F k = k ∧ (0 < k → S (k - 1) ≠ S k)) ∨ (0 < k ∧ F k = F (k - 1) ∧ S (k - 1) = S k ∧ F k < k) := by
  rcases h k hk with ⟨a, b | b⟩ | b
  · exact Or.inl ⟨a, fun _ => by omega⟩
  · exact Or.inl ⟨a, fun _ => by omega⟩
  · have := pb_le h (k - 1) (by omega)
    exact Or.inr ⟨b.1, b.2.1, b.2.2.symm, by omega⟩
/-- how many subpaths -/
def pb_s (n : Nat) (S : Nat → Nat) : Nat := if n = 0 then 0 else S (n - 1) + 1
theorem pb_sle {n : Nat} {F S : Nat → Nat} (h : pb_ok n F S) : pb_s n S ≤ n := by
  unfold pb_s
  split
  · omega
  · have := pb_le h (n - 1) (by omega); omega
theorem pb_slt {n : Nat} {F S : Nat → Nat} (h : pb_ok n F S) {k : Nat} (hk : k < n) : S k < pb_s n S := by
  unfold pb_s
  rw [if_neg (by omega)]
  have := pb_last h hk; omega
theorem pb_s0 {n : Nat} {S : Nat → Nat} : pb_s n S = 0 ↔ n = 0 := by
  unfold pb_s
  split <;> omega
def pb_put (f : Nat → Nat) (n x : Nat) : Nat → Nat := fun j => if j = n then x else f j
theorem pb_ps {f : Nat → Nat} {n x : Nat} : pb_put f n x n = x := if_pos rfl
theorem pb_pn {f : Nat → Nat} {n x j : Nat} (h : j ≠ n) : pb_put f n x j = f j := if_neg h
theorem pb_move {n : Nat} {F S : Nat → Nat} (h : pb_ok n F S) : pb_ok (n + 1) (pb_put F n n) (pb_put S n (pb_s n S)) := by
  intro k hk
  by_cases c : k = n
  · subst c
    rw [pb_ps, pb_ps]
    unfold pb_s
    by_cases z : k = 0
    · rw [if_pos z]; exact Or.inl ⟨rfl, Or.inl ⟨z, rfl⟩⟩
    · rw [if_neg z, pb_pn (by omega)]; exact Or.inl ⟨rfl, Or.inr ⟨by omega, rfl⟩⟩
  · rw [pb_pn c, pb_pn c, pb_pn (by omega), pb_pn (by omega)]
    exact h k (by omega)
theorem pb_line {n : Nat} {F S : Nat → Nat} (h : pb_ok n F S) (h0 : 0 < n) : pb_ok (n + 1) (pb_put F n (F (n - 1))) (pb_put S n (S (n - 1))) := by
  intro k hk
  by_cases c : k = n
  · subst c
    rw [pb_ps, pb_ps, pb_pn (by omega), pb_pn (by omega)]
    exact Or.inr ⟨h0, rfl, rfl⟩
  · rw [pb_pn c, pb_pn c, pb_pn (by omega), pb_pn (by omega)]
    exact h k (by omega)
theorem pb_sP {n x : Nat} {S : Nat → Nat} : pb_s (n + 1) (pb_put S n x) = x + 1 := by
  unfold pb_s
  rw [if_neg (by omega), Nat.add_sub_cancel, pb_ps]

/-! the path of both sides: n points, fo and sp their marks, cx and cy the closed ones -/
def pb_R (n : Nat) (fo sp cx cy : Nat → Int32) (F S : Nat → Nat) : Prop :=
  n ≤ 16 ∧ pb_ok n F S ∧ (∀ k, k < n → fo k = nI (F k)) ∧ (∀ k, k < n → sp k = nI (S k)) ∧ (∀ k, k < n → cx (F k) = cy (S k))
theorem pb_R0 {fo sp cx cy : Nat → Int32} {F S : Nat → Nat} : pb_R 0 fo sp cx cy F S :=
  ⟨by omega, fun _ h => absurd h (Nat.not_lt_zero _), fun _ h => absurd h (Nat.not_lt_zero _), fun _ h => absurd h (Nat.not_lt_zero _), fun _ h => absurd h (Nat.not_lt_zero _)⟩
theorem pb_Rmove {n : Nat} {fo sp cx cy : Nat → Int32} {F S : Nat → Nat} (h : pb_R n fo sp cx cy F S) (hn : n < 16) :
    pb_R (n + 1) (upd fo n (nI n)) (upd sp n (nI (pb_s n S))) (upd cx n 0) (upd cy (pb_s n S) 0) (pb_put F n n) (pb_put S n (pb_s n S)) := by
  obtain ⟨_, ok, hf, hs, hc⟩ := h
  refine ⟨by omega, pb_move ok, fun k hk => ?_, fun k hk => ?_, fun k hk => ?_⟩
  · by_cases c : k = n
    · subst c; rw [pa_us, pb_ps]
    · rw [pa_un c, pb_pn c]; exact hf k (by omega)
  · by_cases c : k = n
    · subst c; rw [pa_us, pb_ps]
    · rw [pa_un c, pb_pn c]; exact hs k (by omega)
  · by_cases c : k = n
    · subst c; rw [pb_ps, pb_ps, pa_us, pa_us]
    · have l := pb_le ok k (by omega)
      have m := pb_slt ok (k := k) (by omega)
      rw [pb_pn c, pb_pn c, pa_un (by omega), pa_un (by omega)]; exact hc k (by omega)
theorem pb_Rline {n : Nat} {fo sp cx cy : Nat → Int32} {F S : Nat → Nat} (h : pb_R n fo sp cx cy F S) (h0 : 0 < n) (hn : n < 16) :
    pb_R (n + 1) (upd fo n (nI (F (n - 1)))) (upd sp n (nI (S (n - 1)))) cx cy (pb_put F n (F (n - 1))) (pb_put S n (S (n - 1))) := by
  obtain ⟨_, ok, hf, hs, hc⟩ := h
  refine ⟨by omega, pb_line ok h0, fun k hk => ?_, fun k hk => ?_, fun k hk => ?_⟩
  · by_cases c : k = n
    · subst c; rw [pa_us, pb_ps]
    · rw [pa_un c, pb_pn c]; exact hf k (by omega)
  · by_cases c : k = n
    · subst c; rw [pa_us, pb_ps]
    · rw [pa_un c, pb_pn c]; exact hs k (by omega)
  · by_cases c : k = n
    · subst c; rw [pb_ps, pb_ps]; exact hc (k - 1) (by omega)
    · rw [pb_pn c, pb_pn c]; exact hc k (by omega)
theorem pb_Rclose {n : Nat} {fo sp cx cy : Nat → Int32} {F S : Nat → Nat} (h : pb_R n fo sp cx cy F S) (h0 : 0 < n) (x : Int32) :
    pb_R n fo sp (upd cx (F (n - 1)) x) (upd cy (S (n - 1)) x) F S := by
  obtain ⟨h16, ok, hf, hs, hc⟩ := h
  refine ⟨h16, ok, hf, hs, fun k hk => ?_⟩
  have i := pb_iff ok (j := k) (k := n - 1) hk (by omega)
  by_cases c : F k = F (n - 1)
  · rw [c, i.mp c, pa_us, pa_us]
  · rw [pa_un c, pa_un (fun e => c (i.mpr e))]; exact hc k hk
/-- the point to which point k leads, its subpath taken as closed -/
def pb_nx (n : Nat) (F : Nat → Nat) (k : Nat) : Nat := if k + 1 < n ∧ F (k + 1) = F k then k + 1 else F k
theorem pb_nxlt {n : Nat} {F S : Nat → Nat} (h : pb_ok n F S) {k : Nat} (hk : k < n) : pb_nx n F k < n := by
  unfold pb_nx
  have := pb_le h k hk
  split <;> omega
end PPpath
end
section
section PPpure
/-! what a segment counts, the winding, the number of crossings -/
def pc_cv (x1 y1 x2 y2 u v : Int32) : Int32 :=
  if y1 ≤ v ∧ v < y2 then (if (v - y1) * (x2 - x1) + (x1 - u) * (y2 - y1) ≤ 0 then 0 else 1)
  else if y2 ≤ v ∧ v < y1 then (if 0 ≤ (v - y1) * (x2 - x1) + (x1 - u) * (y2 - y1) then 0 else -1)
  else 0
theorem pc_cv3 (x1 y1 x2 y2 u v : Int32) : pc_cv x1 y1 x2 y2 u v = 0 ∨ pc_cv x1 y1 x2 y2 u v = 1 ∨ pc_cv x1 y1 x2 y2 u v = -1 := by
  unfold pc_cv
  split
  · split
    · exact Or.inl rfl
    · exact Or.inr (Or.inl rfl)
  · split
    · split
      · exact Or.inl rfl
      · exact Or.inr (Or.inr rfl)
    · exact Or.inl rfl
def pc_w (px py : Nat → Int32) (nx : Nat → Nat) (u v : Int32) : Nat → Int32
  | 0 => 0
  | k + 1 => pc_w px py nx u v k + pc_cv (px k) (py k) (px (nx k)) (py (nx k)) u v
def pc_c (px py : Nat → Int32) (nx : Nat → Nat) (u v : Int32) : Nat → Int32
  | 0 => 0
  | k + 1 => if pc_cv (px k) (py k) (px (nx k)) (py (nx k)) u v = 0 then pc_c px py nx u v k else pc_c px py nx u v k + 1
theorem pc_ab (px py : Nat → Int32) (nx : Nat → Nat) (u v : Int32) : ∀ k, ∃ a b : Nat, a + b ≤ k ∧ pc_w px py nx u v k = nI a - nI b ∧ pc_c px py nx u v k = nI (a + b) := by
  intro k
  induction k with
  | zero => exact ⟨0, 0, Nat.le_refl _, show (0 : Int32) = nI 0 - nI 0 by decide, show (0 : Int32) = nI (0 + 0) by decide⟩
  | succ k ih =>
    obtain ⟨a, b, hab, hw, hc⟩ := ih
    rcases pc_cv3 (px k) (py k) (px (nx k)) (py (nx k)) u v with e | e | e
    · refine ⟨a, b, by omega, ?_, ?_⟩
      · rw [pc_w, e, hw, Int32.add_zero]
      · rw [pc_c, if_pos e, hc]
    · refine ⟨a + 1, b, by omega, ?_, ?_⟩
      · rw [pc_w, e, hw, ← nI_1]; grind
      · rw [pc_c, e, if_neg (by decide), hc, nI_1]; congr 1; omega
    · refine ⟨a, b + 1, by omega, ?_, ?_⟩
      · rw [pc_w, e, hw, ← nI_1]; grind
      · rw [pc_c, e, if_neg (by decide), hc, nI_1]; congr 1
theorem pc_tab : ∀ a, a < 17 → ∀ b, b < 17 → (((nI a - nI b) &&& 1 = 0 ↔ ¬ nI (a + b) - nI (a + b) / 2 * 2 = 1)) := by decide +kernel
theorem pc_par {px py : Nat → Int32} {nx : Nat → Nat} {u v : Int32} {k : Nat} (hk : k ≤ 16) :
    (pc_w px py nx u v k &&& 1 = 0 ↔ ¬ pc_c px py nx u v k - pc_c px py nx u v k / 2 * 2 = 1) := by
  obtain ⟨a, b, hab, hw, hc⟩ := pc_ab px py nx u v k
  rw [hw, hc]
  exact pc_tab a (by omega) b (by omega)
/-- is a pixel inside: 1 or 0 -/
def pc_in (w rule : Int32) : Int32 := if rule = 0 then (if w = 0 then 0 else 1) else (if w &&& 1 = 0 then 0 else 1)
theorem pc_in01 (w rule : Int32) : pc_in w rule = 0 ∨ pc_in w rule = 1 := by
  unfold pc_in
  split <;> split
  · exact Or.inl rfl
  · exact Or.inr rfl
  · exact Or.inl rfl
  · exact Or.inr rfl

/-! near -/
def pc_ns (px py : Nat → Int32) (u v w : Int32) (k l : Nat) : Prop :=
  pa_nr (u.toInt - (px k).toInt) (v.toInt - (py k).toInt) ((px l).toInt - (px k).toInt) ((py l).toInt - (py k).toInt) (w.toInt * w.toInt)
theorem pc_nsE {px py : Nat → Int32} {u v w : Int32} {k l : Nat} (h : pc_ns px py u v w l l) : pc_ns px py u v w k l := by
  unfold pc_ns at *
  refine pa_nrE ?_
  unfold pa_nr at h
  have e1 : u.toInt - (px k).toInt - ((px l).toInt - (px k).toInt) = u.toInt - (px l).toInt := by omega
  have e2 : v.toInt - (py k).toInt - ((py l).toInt - (py k).toInt) = v.toInt - (py l).toInt := by omega
  rw [e1, e2]
  simp only [Int.sub_self, Int.mul_zero, Int.add_zero, Int.le_refl, if_true] at h
  exact h
/-- X's end of the segment that begins at k -/
def pc_se (n : Nat) (F : Nat → Nat) (cx : Nat → Int32) (k : Nat) : Nat :=
  if k + 1 < n ∧ F (k + 1) = F k then k + 1 else if cx (F k) = 0 then k else F k
theorem pc_selt {n : Nat} {F S : Nat → Nat} {cx : Nat → Int32} (h : pb_ok n F S) {k : Nat} (hk : k < n) : pc_se n F cx k < n := by
  unfold pc_se
  have := pb_le h k hk
  split
  · omega
  · split <;> omega
/-- is it drawn (Y) -/
def pc_dr (n : Nat) (F S : Nat → Nat) (cy : Nat → Int32) (k : Nat) : Prop := k < pb_nx n F k ∨ cy (S k) ≠ 0 ∨ pb_nx n F k = k
theorem pc_near {n : Nat} {fo sp cx cy : Nat → Int32} {F S : Nat → Nat} (h : pb_R n fo sp cx cy F S) (px py : Nat → Int32) (u v w : Int32) :
    (∃ k, k < n ∧ pc_ns px py u v w k (pc_se n F cx k)) ↔ (∃ k, k < n ∧ pc_dr n F S cy k ∧ pc_ns px py u v w k (pb_nx n F k)) := by
  obtain ⟨_, ok, _, _, hc⟩ := h
  constructor
  · rintro ⟨k, hk, hn⟩
    have l := pb_le ok k hk
    by_cases c : k + 1 < n ∧ F (k + 1) = F k
    · refine ⟨k, hk, ?_, ?_⟩
      · unfold pc_dr pb_nx; rw [if_pos c]; exact Or.inl (by omega)
      · unfold pc_se at hn; rw [if_pos c] at hn; unfold pb_nx; rw [if_pos c]; exact hn
    · unfold pc_se at hn; rw [if_neg c] at hn
      have en : pb_nx n F k = F k := if_neg c
      by_cases z : cx (F k) = 0
      · rw [if_pos z] at hn
        rcases pb_pred ok hk with ⟨a, _⟩ | ⟨a, b, d, e⟩
        · refine ⟨k, hk, ?_, ?_⟩
          · unfold pc_dr; rw [en]; exact Or.inr (Or.inr a)
          · rw [en, a]; exact hn
        · have cc : k - 1 + 1 < n ∧ F (k - 1 + 1) = F (k - 1) := by
            rw [show k - 1 + 1 = k by omega]; exact ⟨hk, b⟩
          have e2 : pb_nx n F (k - 1) = k := by
            unfold pb_nx; rw [if_pos cc]; omega
          refine ⟨k - 1, by omega, ?_, ?_⟩
          · unfold pc_dr; rw [e2]; exact Or.inl (by omega)
          · rw [e2]; exact pc_nsE hn
      · rw [if_neg z] at hn
        refine ⟨k, hk, ?_, ?_⟩
        · unfold pc_dr; rw [← hc k hk]; exact Or.inr (Or.inl z)
        · rw [en]; exact hn
  · rintro ⟨k, hk, hd, hn⟩
    refine ⟨k, hk, ?_⟩
    by_cases c : k + 1 < n ∧ F (k + 1) = F k
    · unfold pc_se; rw [if_pos c]; unfold pb_nx at hn; rw [if_pos c] at hn; exact hn
    · have en : pb_nx n F k = F k := if_neg c
      have l := pb_le ok k hk
      unfold pc_dr at hd
      rw [en] at hn hd
      unfold pc_se; rw [if_neg c]
      by_cases z : cx (F k) = 0
      · rw [if_pos z]
        rw [hc k hk] at z
        have ek : F k = k := by
          rcases hd with a | a | a
          · omega
          · exact absurd z a
          · exact a
        rw [ek] at hn; exact hn
      · rw [if_neg z]; exact hn
end PPpure
end
section
section PPpix
/-! arrays written cell by cell -/
def pd_it (o : Nat) (a b : Nat → Int32) : Nat → Nat → Int32
  | 0 => b
  | i + 1 => upd (pd_it o a b i) (o + i) (a i)
theorem pd_itS {o : Nat} {a b : Nat → Int32} {i : Nat} : pd_it o a b (i + 1) = upd (pd_it o a b i) (o + i) (a i) := rfl
theorem pd_itH {o : Nat} {a b : Nat → Int32} : ∀ i j, o + i ≤ j → pd_it o a b i j = b j := by
  intro i
  induction i with
  | zero => intro j _; rfl
  | succ i ih => intro j hj; rw [pd_itS, pa_un (by omega)]; exact ih j (by omega)
theorem pd_itP {P : Int32 → Prop} {o : Nat} {a b : Nat → Int32} (hb : ∀ j, P (b j)) : ∀ i, (∀ j, j < i → P (a j)) → ∀ j, P (pd_it o a b i j) := by
  intro i
  induction i with
  | zero => intro _ j; exact hb j
  | succ i ih =>
    intro ha j
    rw [pd_itS]
    by_cases c : j = o + i
    · subst c; rw [pa_us]; exact ha i (by omega)
    · rw [pa_un c]; exact ih (fun j hj => ha j (by omega)) j
theorem pd_updP {P : Int32 → Prop} {a : Nat → Int32} {i : Nat} {x : Int32} (ha : ∀ j, P (a j)) (hx : P x) : ∀ j, P (upd a i x j) := by
  intro j
  by_cases c : j = i
  · subst c; rw [pa_us]; exact hx
  · rw [pa_un c]; exact ha j
/-- a count of cells -/
def pd_n (c : Nat → Bool) : Nat → Int32
  | 0 => 0
  | i + 1 => if c i = true then pd_n c i + 1 else pd_n c i
theorem pd_nT {c : Nat → Bool} {i : Nat} (h : c i = true) : pd_n c (i + 1) = pd_n c i + 1 := if_pos h
theorem pd_nF {c : Nat → Bool} {i : Nat} (h : ¬ c i = true) : pd_n c (i + 1) = pd_n c i := if_neg h
/-- the colour that painting gives -/
def pd_mx (col mo old : Int32) : Int32 := if mo = 1 then old ^^^ col else if mo = 2 ∧ ¬ old = 0 then old else col
/-- the page when the first i pixels are painted -/
def pd_pg (ch cl pg : Nat → Int32) (col mo : Int32) : Nat → Nat → Int32
  | 0 => pg
  | i + 1 => if ch i = 0 ∨ cl i = 0 then pd_pg ch cl pg col mo i else upd (pd_pg ch cl pg col mo i) i (pd_mx col mo (pg i))
theorem pd_pgK {ch cl pg : Nat → Int32} {col mo : Int32} {i : Nat} (h : ch i = 0 ∨ cl i = 0) : pd_pg ch cl pg col mo (i + 1) = pd_pg ch cl pg col mo i := if_pos h
theorem pd_pgN {ch cl pg : Nat → Int32} {col mo : Int32} {i : Nat} (h1 : ¬ ch i = 0) (h2 : ¬ cl i = 0) : pd_pg ch cl pg col mo (i + 1) = upd (pd_pg ch cl pg col mo i) i (pd_mx col mo (pg i)) := if_neg (fun h => h.elim h1 h2)
theorem pd_pgH {ch cl pg : Nat → Int32} {col mo : Int32} : ∀ i j, i ≤ j → pd_pg ch cl pg col mo i j = pg j := by
  intro i
  induction i with
  | zero => intro j _; rfl
  | succ i ih =>
    intro j hj
    by_cases c : ch i = 0 ∨ cl i = 0
    · rw [pd_pgK c]; exact ih j (by omega)
    · rw [pd_pgN (fun h => c (Or.inl h)) (fun h => c (Or.inr h)), pa_un (by omega)]; exact ih j (by omega)
/-- does pixel i change -/
def pd_dc (ch cl pg : Nat → Int32) (col mo : Int32) (i : Nat) : Bool := decide (¬ ch i = 0 ∧ ¬ cl i = 0 ∧ ¬ pd_mx col mo (pg i) = pg i)
/-- the clip when the first i pixels are cut -/
def pd_ct (ch cl : Nat → Int32) (i : Nat) : Int32 := if cl i = 0 then 0 else ch i
end PPpix
end
section
section PPrel
variable {hp col mo sc nc ns : Int32} {pg bf cl nm sn so sm si px py fo cx sp cy ch : Nat → Int32}
/-! the relation -/
def pe_mo (m : Int32) : Prop := m = 0 ∨ m = 1 ∨ m = 2
def pe_ok (c n : Nat) (mo : Int32) (sm px py fo sp cx cy : Nat → Int32) (F S : Nat → Nat) : Prop :=
  c ≤ 4 ∧ pe_mo mo ∧ (∀ j, pe_mo (sm j)) ∧ (∀ j, pa_in 2000 (px j)) ∧ (∀ j, pa_in 2000 (py j)) ∧ pb_R n fo sp cx cy F S
def i_Rel (_ : Nat) (u : SX) (v : SY) : Prop :=
  ∃ (hp col mo : Int32) (c n : Nat) (pg bf cl nm sn so sm si px py fo cx sp cy ch : Nat → Int32) (F S : Nat → Nat),
    u = (hp, col, mo, nI c, nI n, nI (pb_s n S), pg, bf, cl, nm, sn, so, sm, si, px, py, fo, cx) ∧ v = (col, mo, nI c, nI n, nI (pb_s n S), hp, nm, cl, sn, so, sm, si, px, py, sp, cy, pg, bf, ch) ∧ pe_ok c n mo sm px py fo sp cx cy F S
theorem i_up {k : Nat} {u : SX} {v : SY} (h : i_Rel k u v) : i_Rel (k + 4) u v := h
theorem pe_mk {k c n : Nat} {F S : Nat → Nat} (h : pe_ok c n mo sm px py fo sp cx cy F S) : i_Rel k (hp, col, mo, nI c, nI n, nI (pb_s n S), pg, bf, cl, nm, sn, so, sm, si, px, py, fo, cx) (col, mo, nI c, nI n, nI (pb_s n S), hp, nm, cl, sn, so, sm, si, px, py, sp, cy, pg, bf, ch) :=
  ⟨hp, col, mo, c, n, pg, bf, cl, nm, sn, so, sm, si, px, py, fo, cx, sp, cy, ch, F, S, rfl, rfl, h⟩
/-! small steps -/
theorem pe_u {f : Nat → Int32} {c : Nat} {x y : Int32} (hc : c < 2 ^ 31) (e : x = y) : upd f (nI c).toNatClampNeg x = upd f c y := by rw [nI_clamp hc, e]
theorem pe_g {f : Nat → Int32} {c : Nat} (hc : c < 2 ^ 31) : f (nI c).toNatClampNeg = f c := by rw [nI_clamp hc]
theorem pe_b0 : vp_nar .boolean 0 = 0 := by decide
theorem pe_b1 : vp_nar .boolean 1 = 1 := by decide
theorem pe_10 : ¬ (1 : Int32) = 0 := by decide
/-! the constructors -/
theorem xi_loop {post : SX → Prop} (h : post (hp, col, mo, sc, nc, ns, pg, bf, pd_it 0 (fun _ => vp_nar .boolean 1) cl 256, nm, sn, so, sm, si, px, py, fo, cx)) : ∃ n, wX_init_123 post hp col mo sc nc ns n 0 pg bf cl nm sn so sm si px py fo cx := by
  refine loop_0 (fun n i s => wX_init_123 post hp col mo sc nc ns n (nI i) pg bf s nm sn so sm si px py fo cx) (fun i s => s = pd_it 0 (fun _ => vp_nar .boolean 1) cl i) 256 cl rfl ?_ ?_
  · intro n s hs
    subst hs
    exact br_t (nI_le (a := 256) (b := 256) (by decide) (by decide)) h
  · intro n i s hi hs ih
    subst hs
    refine br_f (nI_ge (b := 256) hi (by decide)) ⟨vp_in_nI hi (by decide), nm_r (pe_u (by omega) rfl) (nm_r (nI_1 i) (ih _ ?_))⟩
    rw [pd_itS, Nat.zero_add]
theorem yi_loop {post : SY → Prop} (h : post (col, mo, sc, nc, ns, hp, nm, pd_it 0 (fun _ => vp_nar .boolean 1) cl 256, sn, so, sm, si, px, py, sp, cy, pg, bf, ch)) : ∃ n, wY_init_132 post col mo sc nc ns hp n 0 nm cl sn so sm si px py sp cy pg bf ch := by
  refine loop_0 (fun n i s => wY_init_132 post col mo sc nc ns hp n (nI i) nm s sn so sm si px py sp cy pg bf ch) (fun i s => s = pd_it 0 (fun _ => vp_nar .boolean 1) cl i) 256 cl rfl ?_ ?_
  · intro n s hs
    subst hs
    exact br_t (nI_le (a := 256) (b := 256) (by decide) (by decide)) h
  · intro n i s hi hs ih
    subst hs
    refine br_f (nI_ge (b := 256) hi (by decide)) ⟨vp_in_nI hi (by decide), nm_r (pe_u (by omega) rfl) (nm_r (nI_1 i) (ih _ ?_))⟩
    rw [pd_itS, Nat.zero_add]
theorem pe_in0 : pa_in 2000 0 := ⟨by decide, by decide⟩
theorem i_vc0 : wpX_init (fun u => wpY_init (fun v => i_Rel 0 u v)) := by
  unfold wpX_init wpY_init
  refine nm_e (nm_e (xi_loop (nm_e (nm_e (yi_loop ?_)))))
  exact pe_mk (c := 0) (n := 0) (S := fun _ => 0) (F := fun _ => 0) ⟨by omega, Or.inl rfl, fun _ => Or.inl rfl, fun _ => pe_in0, fun _ => pe_in0, pb_R0⟩
/-! within, far -/
def pe_far (a b : Int32) : Prop := a < -b ∨ b < a
theorem xw_c {A B : Prop} {a b : Int32} (f : pe_far a b → A) (g : ¬ pe_far a b → B) : wpX_isWithin (fun r => (r = 0 → A) ∧ (¬ r = 0 → B)) a b := by
  unfold wpX_isWithin
  exact br_c (fun h => br_t rfl (f (Or.inl h))) (fun h => br_c (fun i => br_t rfl (f (Or.inr i))) (fun i => br_f pe_10 (g (fun z => z.elim h i))))
theorem yf_c {A B : Prop} {a b : Int32} (f : pe_far a b → B) (g : ¬ pe_far a b → A) : wpY_isFar (fun r => (r = 0 → A) ∧ (¬ r = 0 → B)) (col, mo, sc, nc, ns, hp, nm, cl, sn, so, sm, si, px, py, sp, cy, pg, bf, ch) a b := by
  unfold wpY_isFar
  exact br_c (fun h => br_f pe_10 (f (Or.inl h))) (fun h => br_c (fun i => br_t rfl (g (fun z => z.elim h (Int32.not_lt.mpr i)))) (fun i => br_f pe_10 (f (Or.inr (Int32.not_le.mp i)))))
theorem pe_near {a b : Int32} {M : Int} (h : ¬ pe_far a b) (hb : b.toInt = M) (h0 : 0 ≤ M) : pa_in M a := by
  have h1 : ¬ a < -b := fun z => h (Or.inl z)
  have h2 : ¬ b < a := fun z => h (Or.inr z)
  have hM : M < 2 ^ 31 := by rw [← hb]; exact Int32.toInt_lt b
  rw [Int32.not_lt, Int32.le_iff_toInt_le] at h1 h2
  have e : (-b).toInt = -M := by rw [Int32.toInt_neg, hb, Int.bmod_eq_of_le (by omega) (by omega)]
  rw [e] at h1
  rw [hb] at h2
  exact ⟨h1, h2⟩
end PPrel
end
section
section PPmat
variable {hp col mo sc nc ns : Int32} {pg bf cl nm sn so sm si px py fo cx sp cy ch : Nat → Int32}
/-! the matrix -/
def pf_big (n0 n1 n2 n3 n4 n5 : Int32) : Prop := pe_far n0 999 ∨ pe_far n1 999 ∨ pe_far n2 999 ∨ pe_far n3 999 ∨ pe_far n4 999 ∨ pe_far n5 999
def pf_set (nm : Nat → Int32) (n0 n1 n2 n3 n4 n5 : Int32) : Nat → Int32 := upd (upd (upd (upd (upd (upd nm 0 n0) 1 n1) 2 n2) 3 n3) 4 n4) 5 n5
theorem xt_bad {post : Int32 → SX → Prop} {n0 n1 n2 n3 n4 n5 : Int32} (b : post (-2) (hp, col, mo, sc, nc, ns, pg, bf, cl, nm, sn, so, sm, si, px, py, fo, cx)) : wX_takeNumbers_45 post n0 n1 n2 n3 n4 n5 hp col mo sc nc ns pg bf cl nm sn so sm si px py fo cx := by
  unfold wX_takeNumbers_45 wX_takeNumbers_46
  exact br_t rfl b
theorem xt_46 {post : Int32 → SX → Prop} {n0 n1 n2 n3 n4 n5 : Int32} (b : pe_far n4 999 ∨ pe_far n5 999 → post (-2) (hp, col, mo, sc, nc, ns, pg, bf, cl, nm, sn, so, sm, si, px, py, fo, cx)) (g : ¬ pe_far n4 999 → ¬ pe_far n5 999 → post 1 (hp, col, mo, sc, nc, ns, pg, bf, cl, pf_set nm n0 n1 n2 n3 n4 n5, sn, so, sm, si, px, py, fo, cx)) : wX_takeNumbers_46 post n0 n1 n2 n3 n4 n5 1 hp col mo sc nc ns pg bf cl nm sn so sm si px py fo cx := by
  unfold wX_takeNumbers_46
  refine br_f pe_10 (xw_c (fun f => b (Or.inl f)) (fun f => xw_c (fun e => b (Or.inr e)) (fun e => ?_)))
  exact nm_e (nm_e (nm_e (nm_e (nm_e (nm_e (g f e))))))
theorem xt_take {post : Int32 → SX → Prop} {n0 n1 n2 n3 n4 n5 : Int32} (b : pf_big n0 n1 n2 n3 n4 n5 → post (-2) (hp, col, mo, sc, nc, ns, pg, bf, cl, nm, sn, so, sm, si, px, py, fo, cx)) (g : ¬ pf_big n0 n1 n2 n3 n4 n5 → post 1 (hp, col, mo, sc, nc, ns, pg, bf, cl, pf_set nm n0 n1 n2 n3 n4 n5, sn, so, sm, si, px, py, fo, cx)) : wpX_takeNumbers post (hp, col, mo, sc, nc, ns, pg, bf, cl, nm, sn, so, sm, si, px, py, fo, cx) n0 n1 n2 n3 n4 n5 := by
  unfold wpX_takeNumbers
  refine xw_c (fun f => xt_bad (b (Or.inl f))) (fun f0 => ?_)
  refine xw_c (fun f => xt_bad (b (Or.inr (Or.inl f)))) (fun f1 => ?_)
  refine xw_c (fun f => xt_bad (b (Or.inr (Or.inr (Or.inl f))))) (fun f2 => ?_)
  refine xw_c (fun f => xt_bad (b (Or.inr (Or.inr (Or.inr (Or.inl f)))))) (fun f3 => ?_)
  refine xt_46 (fun f => b (Or.inr (Or.inr (Or.inr (Or.inr f))))) (fun f4 f5 => g ?_)
  intro z
  rcases z with z | z | z | z | z | z
  · exact f0 z
  · exact f1 z
  · exact f2 z
  · exact f3 z
  · exact f4 z
  · exact f5 z
theorem yt_before {post : Int32 → SY → Prop} {n0 n1 n2 n3 n4 n5 p0 p1 p2 p3 p4 p5 : Int32} (e0 : nm 0 * p0 + nm 2 * p1 = n0) (e1 : nm 1 * p0 + nm 3 * p1 = n1) (e2 : nm 0 * p2 + nm 2 * p3 = n2) (e3 : nm 1 * p2 + nm 3 * p3 = n3) (e4 : nm 0 * p4 + nm 2 * p5 + nm 4 = n4) (e5 : nm 1 * p4 + nm 3 * p5 + nm 5 = n5)
    (b : pf_big n0 n1 n2 n3 n4 n5 → post (-2) (col, mo, sc, nc, ns, hp, nm, cl, sn, so, sm, si, px, py, sp, cy, pg, bf, ch)) (g : ¬ pf_big n0 n1 n2 n3 n4 n5 → post 1 (col, mo, sc, nc, ns, hp, pf_set nm n0 n1 n2 n3 n4 n5, cl, sn, so, sm, si, px, py, sp, cy, pg, bf, ch)) : wpY_before post (col, mo, sc, nc, ns, hp, nm, cl, sn, so, sm, si, px, py, sp, cy, pg, bf, ch) p0 p1 p2 p3 p4 p5 := by
  unfold wpY_before
  refine nm_r e0 (nm_r e1 (nm_r e2 (nm_r e3 (nm_r e4 (nm_r e5 ?_)))))
  refine yf_c (fun f => b (Or.inl f)) (fun f0 => ?_)
  refine yf_c (fun f => b (Or.inr (Or.inl f))) (fun f1 => ?_)
  refine yf_c (fun f => b (Or.inr (Or.inr (Or.inl f)))) (fun f2 => ?_)
  refine yf_c (fun f => b (Or.inr (Or.inr (Or.inr (Or.inl f))))) (fun f3 => ?_)
  refine yf_c (fun f => b (Or.inr (Or.inr (Or.inr (Or.inr (Or.inl f)))))) (fun f4 => ?_)
  refine yf_c (fun f => b (Or.inr (Or.inr (Or.inr (Or.inr (Or.inr f)))))) (fun f5 => ?_)
  refine nm_e (nm_e (nm_e (nm_e (nm_e (nm_e (g ?_))))))
  intro z
  rcases z with z | z | z | z | z | z
  · exact f0 z
  · exact f1 z
  · exact f2 z
  · exact f3 z
  · exact f4 z
  · exact f5 z
/-- one answer and one new matrix for both -/
theorem xy_take {n0 n1 n2 n3 n4 n5 p0 p1 p2 p3 p4 p5 : Int32} (e0 : nm 0 * p0 + nm 2 * p1 = n0) (e1 : nm 1 * p0 + nm 3 * p1 = n1) (e2 : nm 0 * p2 + nm 2 * p3 = n2) (e3 : nm 1 * p2 + nm 3 * p3 = n3) (e4 : nm 0 * p4 + nm 2 * p5 + nm 4 = n4) (e5 : nm 1 * p4 + nm 3 * p5 + nm 5 = n5) :
    ∃ (r : Int32) (q : Nat → Int32), (∀ post : Int32 → SX → Prop, post r (hp, col, mo, sc, nc, ns, pg, bf, cl, q, sn, so, sm, si, px, py, fo, cx) → wpX_takeNumbers post (hp, col, mo, sc, nc, ns, pg, bf, cl, nm, sn, so, sm, si, px, py, fo, cx) n0 n1 n2 n3 n4 n5) ∧ (∀ post : Int32 → SY → Prop, post r (col, mo, sc, nc, ns, hp, q, cl, sn, so, sm, si, px, py, sp, cy, pg, bf, ch) → wpY_before post (col, mo, sc, nc, ns, hp, nm, cl, sn, so, sm, si, px, py, sp, cy, pg, bf, ch) p0 p1 p2 p3 p4 p5) := by
  by_cases h : pf_big n0 n1 n2 n3 n4 n5
  · exact ⟨-2, nm, fun _ hp => xt_take (fun _ => hp) (fun z => absurd h z), fun _ hp => yt_before e0 e1 e2 e3 e4 e5 (fun _ => hp) (fun z => absurd h z)⟩
  · exact ⟨1, pf_set nm n0 n1 n2 n3 n4 n5, fun _ hp => xt_take (fun z => absurd z h) (fun _ => hp), fun _ hp => yt_before e0 e1 e2 e3 e4 e5 (fun z => absurd z h) (fun _ => hp)⟩
theorem i_vc_shift {k : Nat} {u : SX} {v : SY} (I : i_Rel k u v) (hk : k + 4 ≤ 2048) (v1 : Int32) (v2 : Int32) : wpX_shift (fun r u' => wpY_shift (fun r' v' => r' = r ∧ i_Rel (k + 4) u' v') v v1 v2) u v1 v2 := by
  obtain ⟨hp, col, mo, c, n, pg, bf, cl, nm, sn, so, sm, si, px, py, fo, cx, sp, cy, ch, F, S, rfl, rfl, h⟩ := I
  unfold wpX_shift
  refine xw_c (fun f => ?_) (fun f => xw_c (fun g => ?_) (fun g => ?_))
  · unfold wpY_shift
    exact yf_c (fun _ => ⟨rfl, pe_mk h⟩) (fun z => absurd f z)
  · unfold wpY_shift
    exact yf_c (fun z => absurd z f) (fun _ => yf_c (fun _ => ⟨rfl, pe_mk h⟩) (fun z => absurd g z))
  · obtain ⟨r, q, hx, hy⟩ := xy_take (hp := hp) (col := col) (mo := mo) (sc := nI c) (nc := nI n) (ns := nI (pb_s n S)) (pg := pg) (bf := bf) (cl := cl) (nm := nm) (sn := sn) (so := so) (sm := sm) (si := si) (px := px) (py := py) (fo := fo) (cx := cx) (sp := sp) (cy := cy) (ch := ch) (n0 := nm 0) (n1 := nm 1) (n2 := nm 2) (n3 := nm 3) (n4 := nm 0 * v1 + nm 2 * v2 + nm 4) (n5 := nm 1 * v1 + nm 3 * v2 + nm 5) (p0 := 1) (p1 := 0) (p2 := 0) (p3 := 1) (p4 := v1) (p5 := v2) (by grind) (by grind) (by grind) (by grind) rfl rfl
    refine nm_e (nm_e (hx _ ?_))
    show wpY_shift _ _ _ _
    unfold wpY_shift
    exact yf_c (fun z => absurd z f) (fun _ => yf_c (fun z => absurd z g) (fun _ => hy _ ⟨rfl, pe_mk h⟩))
theorem i_vc_scale {k : Nat} {u : SX} {v : SY} (I : i_Rel k u v) (hk : k + 4 ≤ 2048) (v1 : Int32) (v2 : Int32) : wpX_scale (fun r u' => wpY_scale (fun r' v' => r' = r ∧ i_Rel (k + 4) u' v') v v1 v2) u v1 v2 := by
  obtain ⟨hp, col, mo, c, n, pg, bf, cl, nm, sn, so, sm, si, px, py, fo, cx, sp, cy, ch, F, S, rfl, rfl, h⟩ := I
  unfold wpX_scale
  refine xw_c (fun f => ?_) (fun f => xw_c (fun g => ?_) (fun g => ?_))
  · unfold wpY_scale
    exact yf_c (fun _ => ⟨rfl, pe_mk h⟩) (fun z => absurd f z)
  · unfold wpY_scale
    exact yf_c (fun z => absurd z f) (fun _ => yf_c (fun _ => ⟨rfl, pe_mk h⟩) (fun z => absurd g z))
  · obtain ⟨r, q, hx, hy⟩ := xy_take (hp := hp) (col := col) (mo := mo) (sc := nI c) (nc := nI n) (ns := nI (pb_s n S)) (pg := pg) (bf := bf) (cl := cl) (nm := nm) (sn := sn) (so := so) (sm := sm) (si := si) (px := px) (py := py) (fo := fo) (cx := cx) (sp := sp) (cy := cy) (ch := ch) (n0 := nm 0 * v1) (n1 := nm 1 * v1) (n2 := nm 2 * v2) (n3 := nm 3 * v2) (n4 := nm 4) (n5 := nm 5) (p0 := v1) (p1 := 0) (p2 := 0) (p3 := v2) (p4 := 0) (p5 := 0) (by grind) (by grind) (by grind) (by grind) (by grind) (by grind)
    refine nm_e (nm_e (nm_e (nm_e (hx _ ?_))))
    show wpY_scale _ _ _ _
    unfold wpY_scale
    exact yf_c (fun z => absurd z f) (fun _ => yf_c (fun z => absurd z g) (fun _ => hy _ ⟨rfl, pe_mk h⟩))
theorem i_vc_shear {k : Nat} {u : SX} {v : SY} (I : i_Rel k u v) (hk : k + 4 ≤ 2048) (v1 : Int32) (v2 : Int32) : wpX_shear (fun r u' => wpY_shear (fun r' v' => r' = r ∧ i_Rel (k + 4) u' v') v v1 v2) u v1 v2 := by
  obtain ⟨hp, col, mo, c, n, pg, bf, cl, nm, sn, so, sm, si, px, py, fo, cx, sp, cy, ch, F, S, rfl, rfl, h⟩ := I
  unfold wpX_shear
  refine xw_c (fun f => ?_) (fun f => xw_c (fun g => ?_) (fun g => ?_))
  · unfold wpY_shear
    exact yf_c (fun _ => ⟨rfl, pe_mk h⟩) (fun z => absurd f z)
  · unfold wpY_shear
    exact yf_c (fun z => absurd z f) (fun _ => yf_c (fun _ => ⟨rfl, pe_mk h⟩) (fun z => absurd g z))
  · obtain ⟨r, q, hx, hy⟩ := xy_take (hp := hp) (col := col) (mo := mo) (sc := nI c) (nc := nI n) (ns := nI (pb_s n S)) (pg := pg) (bf := bf) (cl := cl) (nm := nm) (sn := sn) (so := so) (sm := sm) (si := si) (px := px) (py := py) (fo := fo) (cx := cx) (sp := sp) (cy := cy) (ch := ch) (n0 := nm 0 + nm 2 * v2) (n1 := nm 1 + nm 3 * v2) (n2 := nm 0 * v1 + nm 2) (n3 := nm 1 * v1 + nm 3) (n4 := nm 4) (n5 := nm 5) (p0 := 1) (p1 := v2) (p2 := v1) (p3 := 1) (p4 := 0) (p5 := 0) (by grind) (by grind) (by grind) (by grind) (by grind) (by grind)
    refine nm_e (nm_e (nm_e (nm_e (hx _ ?_))))
    show wpY_shear _ _ _ _
    unfold wpY_shear
    exact yf_c (fun z => absurd z f) (fun _ => yf_c (fun z => absurd z g) (fun _ => hy _ ⟨rfl, pe_mk h⟩))
theorem i_vc_quarter {k : Nat} {u : SX} {v : SY} (I : i_Rel k u v) (hk : k + 4 ≤ 2048) : wpX_quarter (fun r u' => wpY_quarter (fun r' v' => r' = r ∧ i_Rel (k + 4) u' v') v) u := by
  obtain ⟨hp, col, mo, c, n, pg, bf, cl, nm, sn, so, sm, si, px, py, fo, cx, sp, cy, ch, F, S, rfl, rfl, h⟩ := I
  obtain ⟨r, q, hx, hy⟩ := xy_take (hp := hp) (col := col) (mo := mo) (sc := nI c) (nc := nI n) (ns := nI (pb_s n S)) (pg := pg) (bf := bf) (cl := cl) (nm := nm) (sn := sn) (so := so) (sm := sm) (si := si) (px := px) (py := py) (fo := fo) (cx := cx) (sp := sp) (cy := cy) (ch := ch) (n0 := nm 2) (n1 := nm 3) (n2 := -(nm 0)) (n3 := -(nm 1)) (n4 := nm 4) (n5 := nm 5) (p0 := 0) (p1 := 1) (p2 := -1) (p3 := 0) (p4 := 0) (p5 := 0) (by grind) (by grind) (by grind) (by grind) (by grind) (by grind)
  unfold wpX_quarter
  refine hx _ ?_
  show wpY_quarter _ _
  unfold wpY_quarter
  exact hy _ ⟨rfl, pe_mk h⟩
theorem i_vc_paint {k : Nat} {u : SX} {v : SY} (I : i_Rel k u v) (hk : k + 4 ≤ 2048) (v1 : Int32) (v2 : Int32) : wpX_paint (fun r u' => wpY_paint (fun r' v' => r' = r ∧ i_Rel (k + 4) u' v') v v1 v2) u v1 v2 := by
  obtain ⟨hp, col, mo, c, n, pg, bf, cl, nm, sn, so, sm, si, px, py, fo, cx, sp, cy, ch, F, S, rfl, rfl, h⟩ := I
  unfold wpX_paint wpX_isColour
  refine br_c (fun a => ?_) (fun a => br_c (fun b => ?_) (fun b => br_f pe_10 (br_c (fun d => ?_) (fun d => br_c (fun e => ?_) (fun e => ?_)))))
  · refine br_t rfl ?_
    unfold wpY_paint
    exact br_t a ⟨rfl, pe_mk h⟩
  · refine br_t rfl ?_
    unfold wpY_paint
    have b' : 7 < v1 := by rw [Int32.lt_iff_toInt_lt]; rw [Int32.le_iff_toInt_le] at b; have e7 : (7 : Int32).toInt = 7 := rfl; have e8 : (8 : Int32).toInt = 8 := rfl; omega
    exact br_f a (br_t b' ⟨rfl, pe_mk h⟩)
  all_goals have b' : ¬ 7 < v1 := by rw [Int32.lt_iff_toInt_lt]; rw [Int32.le_iff_toInt_le] at b; have e7 : (7 : Int32).toInt = 7 := rfl; have e8 : (8 : Int32).toInt = 8 := rfl; omega
  · unfold wpY_paint
    exact br_f a (br_f b' (br_t d ⟨rfl, pe_mk h⟩))
  · unfold wpY_paint
    have e' : v2 ≤ 2 := by rw [Int32.le_iff_toInt_le]; rw [Int32.lt_iff_toInt_lt] at e; have e7 : (2 : Int32).toInt = 2 := rfl; have e8 : (3 : Int32).toInt = 3 := rfl; omega
    refine br_f a (br_f b' (br_f d (br_t e' ⟨rfl, pe_mk (F := F) ?_⟩)))
    obtain ⟨h1, h2, h3, h4⟩ := h
    refine ⟨h1, ?_, h3, h4⟩
    obtain ⟨j, hj, rfl⟩ := nI_of2 (M := 2) (n := 2) rfl d e'
    match j, hj with
    | 0, _ => exact Or.inl rfl
    | 1, _ => exact Or.inr (Or.inl rfl)
    | 2, _ => exact Or.inr (Or.inr rfl)
    | j + 3, hj => omega
  · unfold wpY_paint
    have e' : ¬ v2 ≤ 2 := by rw [Int32.le_iff_toInt_le]; rw [Int32.lt_iff_toInt_lt] at e; have e7 : (2 : Int32).toInt = 2 := rfl; have e8 : (3 : Int32).toInt = 3 := rfl; omega
    exact br_f a (br_f b' (br_f d (br_f e' ⟨rfl, pe_mk h⟩)))
end PPmat
end
section
section PPask
variable {hp col mo sc nc ns : Int32} {pg bf cl nm sn so sm si px py fo cx sp cy ch : Nat → Int32}
/-! questions, drop, undo -/
def pg_px (i j : Int32) : Prop := ¬ i < 0 ∧ ¬ 16 ≤ i ∧ ¬ j < 0 ∧ ¬ 16 ≤ j
theorem pg_15 {x : Int32} : 15 < x ↔ 16 ≤ x := by
  rw [Int32.lt_iff_toInt_lt, Int32.le_iff_toInt_le]
  have e7 : (15 : Int32).toInt = 15 := rfl
  have e8 : (16 : Int32).toInt = 16 := rfl
  omega
theorem pg_1 {x : Int32} (h0 : ¬ x < 0) (h : ¬ 16 ≤ x) : ∃ a : Nat, a < 16 ∧ x = nI a := by
  obtain ⟨j, hj, rfl⟩ := nI_of h0
  have h' : ¬ nI 16 ≤ nI j := h
  rw [nI_leI (by omega) hj] at h'
  exact ⟨j, by omega, rfl⟩
theorem pg_of {i j : Int32} (h : pg_px i j) : ∃ a b : Nat, a < 16 ∧ b < 16 ∧ i = nI a ∧ j = nI b := by
  obtain ⟨h1, h2, h3, h4⟩ := h
  obtain ⟨a, ha, ea⟩ := pg_1 h1 h2
  obtain ⟨b, hb, eb⟩ := pg_1 h3 h4
  exact ⟨a, b, ha, hb, ea, eb⟩
theorem pg_ix (a b : Nat) : nI b * 16 + nI a = nI (b * 16 + a) := by rw [show (16 : Int32) = nI 16 from rfl, pa_mul, nI_add]
theorem pg_iy (a b : Nat) : 16 * nI b + nI a = nI (b * 16 + a) := by rw [show (16 : Int32) = nI 16 from rfl, pa_mul, nI_add, Nat.mul_comm]
theorem xp_c {A B : Prop} {i j : Int32} (f : ¬ pg_px i j → A) (g : pg_px i j → B) : wpX_isPixel (fun r => (r = 0 → A) ∧ (¬ r = 0 → B)) i j := by
  unfold wpX_isPixel
  exact br_c (fun a => br_t rfl (f (fun z => z.1 a))) (fun a => br_c (fun b => br_t rfl (f (fun z => z.2.1 b))) (fun b => br_c (fun c => br_t rfl (f (fun z => z.2.2.1 c))) (fun c => br_c (fun d => br_t rfl (f (fun z => z.2.2.2 d))) (fun d => br_f pe_10 (g ⟨a, b, c, d⟩)))))
theorem yp_c {A B : Prop} {i j : Int32} (f : ¬ pg_px i j → A) (g : pg_px i j → B) : wpY_isPixel (fun r => (r = 0 → A) ∧ (¬ r = 0 → B)) (col, mo, sc, nc, ns, hp, nm, cl, sn, so, sm, si, px, py, sp, cy, pg, bf, ch) i j := by
  unfold wpY_isPixel
  exact br_c (fun a => br_t rfl (f (fun z => z.1 a))) (fun a => br_c (fun b => br_t rfl (f (fun z => z.2.1 (pg_15.mp b)))) (fun b => br_c (fun c => br_t rfl (f (fun z => z.2.2.1 c))) (fun c => br_c (fun d => br_t rfl (f (fun z => z.2.2.2 (pg_15.mp d)))) (fun d => br_f pe_10 (g ⟨a, fun z => b (pg_15.mpr z), c, fun z => d (pg_15.mpr z)⟩)))))
theorem i_vc_pixel {k : Nat} {u : SX} {v : SY} (I : i_Rel k u v) (hk : k + 4 ≤ 2048) (v1 : Int32) (v2 : Int32) : wpX_pixel (fun r => wpY_pixel (fun r' => r' = r ∧ i_Rel (k + 4) u v) v v1 v2) u v1 v2 := by
  obtain ⟨hp, col, mo, c, n, pg, bf, cl, nm, sn, so, sm, si, px, py, fo, cx, sp, cy, ch, F, S, rfl, rfl, h⟩ := I
  unfold wpX_pixel
  refine xp_c (fun f => ?_) (fun f => ?_)
  · show wpY_pixel _ _ _ _
    unfold wpY_pixel
    exact yp_c (fun _ => ⟨rfl, pe_mk h⟩) (fun z => absurd z f)
  · obtain ⟨a, b, ha, hb, rfl, rfl⟩ := pg_of f
    rw [pg_ix]
    refine ⟨vp_in_nI (by omega) (by decide), ?_⟩
    show wpY_pixel _ _ _ _
    unfold wpY_pixel
    refine yp_c (fun z => absurd f z) (fun _ => ?_)
    rw [pg_iy]
    exact ⟨vp_in_nI (by omega) (by decide), rfl, pe_mk h⟩
theorem i_vc_clipped {k : Nat} {u : SX} {v : SY} (I : i_Rel k u v) (hk : k + 4 ≤ 2048) (v1 : Int32) (v2 : Int32) : wpX_clipped (fun r => wpY_clipped (fun r' => r' = r ∧ i_Rel (k + 4) u v) v v1 v2) u v1 v2 := by
  obtain ⟨hp, col, mo, c, n, pg, bf, cl, nm, sn, so, sm, si, px, py, fo, cx, sp, cy, ch, F, S, rfl, rfl, h⟩ := I
  unfold wpX_clipped
  refine xp_c (fun f => ?_) (fun f => ?_)
  · show wpY_clipped _ _ _ _
    unfold wpY_clipped
    exact yp_c (fun _ => ⟨rfl, pe_mk h⟩) (fun z => absurd z f)
  · obtain ⟨a, b, ha, hb, rfl, rfl⟩ := pg_of f
    rw [pg_ix]
    refine ⟨vp_in_nI (by omega) (by decide), br_c (fun z => ?_) (fun z => ?_)⟩
    · show wpY_clipped _ _ _ _
      unfold wpY_clipped
      refine yp_c (fun z => absurd f z) (fun _ => ?_)
      rw [pg_iy]
      exact ⟨vp_in_nI (by omega) (by decide), br_t z ⟨rfl, pe_mk h⟩⟩
    · show wpY_clipped _ _ _ _
      unfold wpY_clipped
      refine yp_c (fun z => absurd f z) (fun _ => ?_)
      rw [pg_iy]
      exact ⟨vp_in_nI (by omega) (by decide), br_f z ⟨rfl, pe_mk h⟩⟩
theorem i_vc_matrix {k : Nat} {u : SX} {v : SY} (I : i_Rel k u v) (hk : k + 4 ≤ 2048) (v1 : Int32) : wpX_matrix (fun r => wpY_matrix (fun r' => r' = r ∧ i_Rel (k + 4) u v) v v1) u v1 := by
  obtain ⟨hp, col, mo, c, n, pg, bf, cl, nm, sn, so, sm, si, px, py, fo, cx, sp, cy, ch, F, S, rfl, rfl, h⟩ := I
  have e56 : 5 < v1 ↔ ¬ v1 < 6 := by
    rw [Int32.lt_iff_toInt_lt, Int32.lt_iff_toInt_lt]
    have e7 : (5 : Int32).toInt = 5 := rfl
    have e8 : (6 : Int32).toInt = 6 := rfl
    omega
  unfold wpX_matrix
  refine br_c (fun a => ?_) (fun a => br_c (fun b => ?_) (fun b => ?_))
  · show wpY_matrix _ _ _
    unfold wpY_matrix
    exact br_t a ⟨rfl, pe_mk h⟩
  · have hi : vp_in v1 6 := by
      obtain ⟨j, hj, rfl⟩ := nI_of a
      have b' : nI j < nI 6 := b
      rw [nI_ltI hj (by omega)] at b'
      exact vp_in_nI b' (by decide)
    refine ⟨hi, ?_⟩
    show wpY_matrix _ _ _
    unfold wpY_matrix
    exact br_f a (br_f (fun z => (e56.mp z) b) ⟨hi, rfl, pe_mk h⟩)
  · show wpY_matrix _ _ _
    unfold wpY_matrix
    exact br_f a (br_t (e56.mpr b) ⟨rfl, pe_mk h⟩)
theorem i_vc_pathPoint {k : Nat} {u : SX} {v : SY} (I : i_Rel k u v) (hk : k + 4 ≤ 2048) (v1 : Int32) : wpX_pathPoint (fun r => wpY_pathPoint (fun r' => r' = r ∧ i_Rel (k + 4) u v) v v1) u v1 := by
  obtain ⟨hp, col, mo, c, n, pg, bf, cl, nm, sn, so, sm, si, px, py, fo, cx, sp, cy, ch, F, S, rfl, rfl, h⟩ := I
  unfold wpX_pathPoint
  refine br_c (fun a => ?_) (fun a => br_c (fun b => ?_) (fun b => ?_))
  · show wpY_pathPoint _ _ _
    unfold wpY_pathPoint
    exact br_t a ⟨rfl, pe_mk h⟩
  · have hi : vp_in v1 16 := by
      have h16 := h.2.2.2.2.2.1
      obtain ⟨j, hj, rfl⟩ := nI_of a
      rw [nI_ltI hj (by omega)] at b
      exact vp_in_nI (by omega) (by decide)
    refine ⟨hi, hi, ?_⟩
    show wpY_pathPoint _ _ _
    unfold wpY_pathPoint
    exact br_f a (br_f (Int32.not_le.mpr b) ⟨hi, hi, rfl, pe_mk h⟩)
  · show wpY_pathPoint _ _ _
    unfold wpY_pathPoint
    exact br_f a (br_t (Int32.not_lt.mp b) ⟨rfl, pe_mk h⟩)
theorem i_vc_drop {k : Nat} {u : SX} {v : SY} (I : i_Rel k u v) (hk : k + 4 ≤ 2048) : wpX_drop (fun r u' => wpY_drop (fun r' v' => r' = r ∧ i_Rel (k + 4) u' v') v) u := by
  obtain ⟨hp, col, mo, c, n, pg, bf, cl, nm, sn, so, sm, si, px, py, fo, cx, sp, cy, ch, F, S, rfl, rfl, h⟩ := I
  obtain ⟨h1, h2, h3, h4, h5, _⟩ := h
  exact ⟨rfl, pe_mk (n := 0) (F := F) (S := S) ⟨h1, h2, h3, h4, h5, pb_R0⟩⟩
theorem xq_count {post : Int32 → Prop} {v : Int32} (h : post (pd_n (fun j => decide (pg j = v)) 256)) : ∃ n, wX_count_4 post v hp col mo sc nc ns pg bf cl nm sn so sm si px py fo cx n 0 0 := by
  refine loop_0 (fun n i s => wX_count_4 post v hp col mo sc nc ns pg bf cl nm sn so sm si px py fo cx n s (nI i)) (fun i s => s = pd_n (fun j => decide (pg j = v)) i) 256 0 rfl ?_ ?_
  · intro n s hs
    subst hs
    exact br_t (nI_le (a := 256) (b := 256) (by decide) (by decide)) h
  · intro n i s hi hs ih
    subst hs
    refine br_f (nI_ge (b := 256) hi (by decide)) ⟨vp_in_nI hi (by decide), ?_⟩
    rw [nI_clamp (by omega)]
    by_cases z : pg i = v
    · exact br_t z (nm_e (nm_r (nI_1 i) (ih _ (pd_nT (decide_eq_true z)).symm)))
    · exact br_f z (nm_r (nI_1 i) (ih _ (pd_nF (fun y => z (of_decide_eq_true y))).symm))
theorem yq_count {post : Int32 → Prop} {v : Int32} (h : post (pd_n (fun j => decide (pg j = v)) 256)) : ∃ n, wY_count_4 post v col mo sc nc ns hp nm cl sn so sm si px py sp cy pg bf ch n 0 0 := by
  refine loop_0 (fun n i s => wY_count_4 post v col mo sc nc ns hp nm cl sn so sm si px py sp cy pg bf ch n s (nI i)) (fun i s => s = pd_n (fun j => decide (pg j = v)) i) 256 0 rfl ?_ ?_
  · intro n s hs
    subst hs
    exact br_t (nI_le (a := 256) (b := 256) (by decide) (by decide)) h
  · intro n i s hi hs ih
    subst hs
    refine br_f (nI_ge (b := 256) hi (by decide)) ⟨vp_in_nI hi (by decide), ?_⟩
    rw [nI_clamp (by omega)]
    by_cases z : pg i = v
    · exact br_t z (nm_e (nm_r (nI_1 i) (ih _ (pd_nT (decide_eq_true z)).symm)))
    · exact br_f z (nm_r (nI_1 i) (ih _ (pd_nF (fun y => z (of_decide_eq_true y))).symm))
theorem i_vc_count {k : Nat} {u : SX} {v : SY} (I : i_Rel k u v) (hk : k + 4 ≤ 2048) (v1 : Int32) : wpX_count (fun r => wpY_count (fun r' => r' = r ∧ i_Rel (k + 4) u v) v v1) u v1 := by
  obtain ⟨hp, col, mo, c, n, pg, bf, cl, nm, sn, so, sm, si, px, py, fo, cx, sp, cy, ch, F, S, rfl, rfl, h⟩ := I
  unfold wpX_count
  refine xq_count ?_
  show wpY_count _ _ _
  unfold wpY_count
  exact yq_count ⟨rfl, pe_mk h⟩
def pg_row (pg : Nat → Int32) (b : Nat) : Nat → Int64 → Int64
  | 0, s => s
  | t + 1, s => pg_row pg b t (s * 8 + (pg (b * 16 + t)).toInt64)
theorem xq_row {post : Int64 → Prop} {b : Nat} (hb : b < 16) : ∀ t, t ≤ 16 → ∀ s, post (pg_row pg b t s) → wX_row_20 post (nI b) hp col mo sc nc ns pg bf cl nm sn so sm si px py fo cx (t + 1) s (nI t + (-1)) := by
  intro t
  induction t with
  | zero => intro _ s h; exact br_t (by decide) h
  | succ t ih =>
    intro ht s h
    rw [pa_m1 (by omega), Nat.add_sub_cancel]
    refine br_f (nI_pos (by omega)) ?_
    rw [pg_ix, nI_clamp (by omega)]
    exact ⟨vp_in_nI (by omega) (by decide), nm_e (nm_e (ih (by omega) _ h))⟩
theorem yq_row {post : Int64 → Prop} {b : Nat} (hb : b < 16) : ∀ t, t ≤ 16 → ∀ s, post (pg_row pg b t s) → wY_row_20 post (nI b) col mo sc nc ns hp nm cl sn so sm si px py sp cy pg bf ch (t + 1) s (nI t + (-1)) := by
  intro t
  induction t with
  | zero => intro _ s h; exact br_t (by decide) h
  | succ t ih =>
    intro ht s h
    rw [pa_m1 (by omega), Nat.add_sub_cancel]
    refine br_f (nI_pos (by omega)) ?_
    rw [pg_iy, nI_clamp (by omega)]
    refine ⟨vp_in_nI (by omega) (by decide), nm_r (e' := s * 8 + (pg (b * 16 + t)).toInt64) ?_ (nm_e (ih (by omega) _ h))⟩
    rw [Int64.mul_comm]
theorem i_vc_row {k : Nat} {u : SX} {v : SY} (I : i_Rel k u v) (hk : k + 4 ≤ 2048) (v1 : Int32) : wpX_row (fun r => wpY_row (fun r' => r' = r ∧ i_Rel (k + 4) u v) v v1) u v1 := by
  obtain ⟨hp, col, mo, c, n, pg, bf, cl, nm, sn, so, sm, si, px, py, fo, cx, sp, cy, ch, F, S, rfl, rfl, h⟩ := I
  have e15 : v1 ≤ 15 ↔ v1 < 16 := by
    rw [Int32.lt_iff_toInt_lt, Int32.le_iff_toInt_le]
    have e7 : (15 : Int32).toInt = 15 := rfl
    have e8 : (16 : Int32).toInt = 16 := rfl
    omega
  have em : (15 : Int32) = nI 16 + (-1) := by decide
  unfold wpX_row
  refine br_c (fun a => ?_) (fun a => br_c (fun b => ?_) (fun b => ?_))
  · show wpY_row _ _ _
    unfold wpY_row
    exact br_t a ⟨rfl, pe_mk h⟩
  · obtain ⟨j, hj, rfl⟩ := pg_1 a (Int32.not_le.mpr b)
    refine ⟨17, ?_⟩
    rw [em]
    refine xq_row hj 16 (by omega) _ ?_
    show wpY_row _ _ _
    unfold wpY_row
    refine br_f a (br_t (e15.mpr b) ⟨17, ?_⟩)
    rw [em]
    exact yq_row hj 16 (by omega) _ ⟨rfl, pe_mk h⟩
  · show wpY_row _ _ _
    unfold wpY_row
    exact br_f a (br_f (fun z => b (e15.mp z)) ⟨rfl, pe_mk h⟩)
def pg_uc (pg bf : Nat → Int32) (j : Nat) : Bool := decide (¬ bf j = pg j)
theorem xq_undo {post : Int32 → SX → Prop} (h : post (pd_n (pg_uc pg bf) 256) (hp, col, mo, sc, nc, ns, pd_it 0 bf pg 256, pd_it 0 pg bf 256, cl, nm, sn, so, sm, si, px, py, fo, cx)) : ∃ n, wX_undo_13 post hp col mo sc nc ns n 0 0 pg bf cl nm sn so sm si px py fo cx := by
  refine loop_0 (σ := Int32 × (Nat → Int32) × (Nat → Int32)) (fun n i s => wX_undo_13 post hp col mo sc nc ns n s.1 (nI i) s.2.1 s.2.2 cl nm sn so sm si px py fo cx) (fun i s => s = (pd_n (pg_uc pg bf) i, pd_it 0 bf pg i, pd_it 0 pg bf i)) 256 (0, pg, bf) rfl ?_ ?_
  · intro n s hs
    subst hs
    exact br_t (nI_le (a := 256) (b := 256) (by decide) (by decide)) h
  · intro n i s hi hs ih
    subst hs
    have hin : vp_in (nI i) 256 := vp_in_nI hi (by decide)
    have e1 : pd_it 0 bf pg i i = pg i := pd_itH i i (by omega)
    have e2 : pd_it 0 pg bf i i = bf i := pd_itH i i (by omega)
    refine br_f (nI_ge (b := 256) hi (by decide)) ⟨hin, nm_r (e' := pg i) ?_ ⟨hin, hin, nm_r (e' := pd_it 0 bf pg (i + 1)) ?_ ⟨hin, nm_r (e' := pd_it 0 pg bf (i + 1)) ?_ ⟨hin, ?_⟩⟩⟩⟩
    · show pd_it 0 bf pg i (nI i).toNatClampNeg = _
      rw [nI_clamp (by omega), e1]
    · show upd (pd_it 0 bf pg i) (nI i).toNatClampNeg (pd_it 0 pg bf i (nI i).toNatClampNeg) = _
      rw [nI_clamp (by omega), e2, pd_itS, Nat.zero_add]
    · show upd (pd_it 0 pg bf i) (nI i).toNatClampNeg (pg i) = _
      rw [nI_clamp (by omega), pd_itS, Nat.zero_add]
    · have e3 : pd_it 0 bf pg (i + 1) (nI i).toNatClampNeg = bf i := by rw [nI_clamp (by omega), pd_itS, Nat.zero_add, pa_us]
      rw [e3]
      by_cases z : bf i = pg i
      · exact br_t z (nm_r (nI_1 i) (ih (pd_n (pg_uc pg bf) i, pd_it 0 bf pg (i + 1), pd_it 0 pg bf (i + 1)) (by rw [pd_nF (c := pg_uc pg bf) (fun y => (of_decide_eq_true y) z)])))
      · exact br_f z (nm_e (nm_r (nI_1 i) (ih (pd_n (pg_uc pg bf) i + 1, pd_it 0 bf pg (i + 1), pd_it 0 pg bf (i + 1)) (by rw [pd_nT (c := pg_uc pg bf) (decide_eq_true z)]))))
theorem yq_undo {post : Int32 → SY → Prop} (h : post (pd_n (pg_uc pg bf) 256) (col, mo, sc, nc, ns, hp, nm, cl, sn, so, sm, si, px, py, sp, cy, pd_it 0 bf pg 256, pd_it 0 pg bf 256, ch)) : ∃ n, wY_undo_13 post col mo sc nc ns hp n 0 0 nm cl sn so sm si px py sp cy pg bf ch := by
  refine loop_0 (σ := Int32 × (Nat → Int32) × (Nat → Int32)) (fun n i s => wY_undo_13 post col mo sc nc ns hp n s.1 (nI i) nm cl sn so sm si px py sp cy s.2.1 s.2.2 ch) (fun i s => s = (pd_n (pg_uc pg bf) i, pd_it 0 bf pg i, pd_it 0 pg bf i)) 256 (0, pg, bf) rfl ?_ ?_
  · intro n s hs
    subst hs
    exact br_t (nI_le (a := 256) (b := 256) (by decide) (by decide)) h
  · intro n i s hi hs ih
    subst hs
    have hin : vp_in (nI i) 256 := vp_in_nI hi (by decide)
    have e1 : pd_it 0 bf pg i i = pg i := pd_itH i i (by omega)
    have e2 : pd_it 0 pg bf i i = bf i := pd_itH i i (by omega)
    refine br_f (nI_ge (b := 256) hi (by decide)) ⟨hin, nm_r (e' := pg i) ?_ ⟨hin, hin, nm_r (e' := pd_it 0 bf pg (i + 1)) ?_ ⟨hin, nm_r (e' := pd_it 0 pg bf (i + 1)) ?_ ⟨hin, ?_⟩⟩⟩⟩
    · show pd_it 0 bf pg i (nI i).toNatClampNeg = _
      rw [nI_clamp (by omega), e1]
    · show upd (pd_it 0 bf pg i) (nI i).toNatClampNeg (pd_it 0 pg bf i (nI i).toNatClampNeg) = _
      rw [nI_clamp (by omega), e2, pd_itS, Nat.zero_add]
    · show upd (pd_it 0 pg bf i) (nI i).toNatClampNeg (pg i) = _
      rw [nI_clamp (by omega), pd_itS, Nat.zero_add]
    · have e3 : pd_it 0 bf pg (i + 1) (nI i).toNatClampNeg = bf i := by rw [nI_clamp (by omega), pd_itS, Nat.zero_add, pa_us]
      rw [e3]
      by_cases z : bf i = pg i
      · exact br_t z (nm_r (nI_1 i) (ih (pd_n (pg_uc pg bf) i, pd_it 0 bf pg (i + 1), pd_it 0 pg bf (i + 1)) (by rw [pd_nF (c := pg_uc pg bf) (fun y => (of_decide_eq_true y) z)])))
      · exact br_f z (nm_e (nm_r (nI_1 i) (ih (pd_n (pg_uc pg bf) i + 1, pd_it 0 bf pg (i + 1), pd_it 0 pg bf (i + 1)) (by rw [pd_nT (c := pg_uc pg bf) (decide_eq_true z)]))))
theorem i_vc_undo {k : Nat} {u : SX} {v : SY} (I : i_Rel k u v) (hk : k + 4 ≤ 2048) : wpX_undo (fun r u' => wpY_undo (fun r' v' => r' = r ∧ i_Rel (k + 4) u' v') v) u := by
  obtain ⟨hp, col, mo, c, n, pg, bf, cl, nm, sn, so, sm, si, px, py, fo, cx, sp, cy, ch, F, S, rfl, rfl, h⟩ := I
  unfold wpX_undo
  refine br_c (fun a => ?_) (fun a => xq_undo ?_)
  · show wpY_undo _ _
    unfold wpY_undo
    exact br_t a ⟨rfl, pe_mk h⟩
  · show wpY_undo _ _
    unfold wpY_undo
    exact br_f a (yq_undo ⟨rfl, pe_mk h⟩)
end PPask
end
section
section PPwalk
variable {hp col mo sc nc ns : Int32} {pg bf cl nm sn so sm si px py fo cx sp cy ch : Nat → Int32} {c n : Nat} {F S : Nat → Nat}
/-! save, restore -/
theorem xs_46 {post : Int32 → SX → Prop} (hc : c < 4) (h : post (nI (c + 1)) (hp, col, mo, nI (c + 1), nc, ns, pg, bf, cl, nm, sn, upd so c col, upd sm c mo, pd_it (c * 256) (fun i => vp_nar .boolean (cl i)) si 256, px, py, fo, cx)) : ∃ n, wX_save_46 post hp col mo (nI c) nc ns n 0 pg bf cl nm sn so sm si px py fo cx := by
  refine loop_0 (fun n i s => wX_save_46 post hp col mo (nI c) nc ns n (nI i) pg bf cl nm sn so sm s px py fo cx) (fun i s => s = pd_it (c * 256) (fun i => vp_nar .boolean (cl i)) si i) 256 si rfl ?_ ?_
  · intro n s hs
    subst hs
    have hin : vp_in (nI c) 4 := vp_in_nI hc (by decide)
    exact br_t (nI_le (a := 256) (b := 256) (by decide) (by decide)) ⟨hin, nm_r (pe_u (by omega) rfl) ⟨hin, nm_r (pe_u (by omega) rfl) (nm_r (nI_1 c) h)⟩⟩
  · intro n i s hi hs ih
    subst hs
    have e : nI c * 256 + nI i = nI (c * 256 + i) := by rw [show (256 : Int32) = nI 256 from rfl, pa_mul, nI_add]
    refine br_f (nI_ge (b := 256) hi (by decide)) ⟨vp_in_nI hi (by decide), ?_⟩
    rw [e]
    refine ⟨vp_in_nI (by omega) (by decide), nm_r (pe_u (y := vp_nar .boolean (cl i)) (by omega) ?_) (nm_r (nI_1 i) (ih _ rfl))⟩
    rw [nI_clamp (by omega)]
theorem xs_12 {post : Int32 → SX → Prop} (hc : c < 4) (h : post (nI (c + 1)) (hp, col, mo, nI (c + 1), nc, ns, pg, bf, cl, nm, pd_it (c * 6) nm sn 6, upd so c col, upd sm c mo, pd_it (c * 256) (fun i => vp_nar .boolean (cl i)) si 256, px, py, fo, cx)) : ∃ n, wX_save_12 post hp col mo (nI c) nc ns n 0 pg bf cl nm sn so sm si px py fo cx := by
  refine loop_0 (fun n i s => wX_save_12 post hp col mo (nI c) nc ns n (nI i) pg bf cl nm s so sm si px py fo cx) (fun i s => s = pd_it (c * 6) nm sn i) 6 sn rfl ?_ ?_
  · intro n s hs
    subst hs
    exact br_t (nI_le (a := 6) (b := 6) (by decide) (by decide)) (xs_46 hc h)
  · intro n i s hi hs ih
    subst hs
    have e : nI c * 6 + nI i = nI (c * 6 + i) := by rw [show (6 : Int32) = nI 6 from rfl, pa_mul, nI_add]
    refine br_f (nI_ge (b := 6) hi (by decide)) ⟨vp_in_nI hi (by decide), ?_⟩
    rw [e]
    refine ⟨vp_in_nI (by omega) (by decide), nm_r (pe_u (y := nm i) (by omega) ?_) (nm_r (nI_1 i) (ih _ rfl))⟩
    rw [nI_clamp (by omega)]
theorem ys_46 {post : Int32 → SY → Prop} (hc : c < 4) (h : post (nI (c + 1)) (col, mo, nI (c + 1), nc, ns, hp, nm, cl, sn, upd so c col, upd sm c mo, pd_it (c * 256) (fun i => vp_nar .boolean (cl i)) si 256, px, py, sp, cy, pg, bf, ch)) : ∃ n, wY_save_46 post col mo (nI c) nc ns hp n 0 nm cl sn so sm si px py sp cy pg bf ch := by
  refine loop_0 (fun n i s => wY_save_46 post col mo (nI c) nc ns hp n (nI i) nm cl sn so sm s px py sp cy pg bf ch) (fun i s => s = pd_it (c * 256) (fun i => vp_nar .boolean (cl i)) si i) 256 si rfl ?_ ?_
  · intro n s hs
    subst hs
    have hin : vp_in (nI c) 4 := vp_in_nI hc (by decide)
    exact br_t (nI_le (a := 256) (b := 256) (by decide) (by decide)) ⟨hin, nm_r (pe_u (by omega) rfl) ⟨hin, nm_r (pe_u (by omega) rfl) (nm_r (nI_1 c) h)⟩⟩
  · intro n i s hi hs ih
    subst hs
    have e : 256 * nI c + nI i = nI (c * 256 + i) := by rw [show (256 : Int32) = nI 256 from rfl, pa_mul, nI_add, Nat.mul_comm]
    refine br_f (nI_ge (b := 256) hi (by decide)) ⟨vp_in_nI hi (by decide), ?_⟩
    rw [e]
    refine ⟨vp_in_nI (by omega) (by decide), nm_r (pe_u (y := vp_nar .boolean (cl i)) (by omega) ?_) (nm_r (nI_1 i) (ih _ rfl))⟩
    rw [nI_clamp (by omega)]
theorem ys_12 {post : Int32 → SY → Prop} (hc : c < 4) (h : post (nI (c + 1)) (col, mo, nI (c + 1), nc, ns, hp, nm, cl, pd_it (c * 6) nm sn 6, upd so c col, upd sm c mo, pd_it (c * 256) (fun i => vp_nar .boolean (cl i)) si 256, px, py, sp, cy, pg, bf, ch)) : ∃ n, wY_save_12 post col mo (nI c) nc ns hp n 0 nm cl sn so sm si px py sp cy pg bf ch := by
  refine loop_0 (fun n i s => wY_save_12 post col mo (nI c) nc ns hp n (nI i) nm cl s so sm si px py sp cy pg bf ch) (fun i s => s = pd_it (c * 6) nm sn i) 6 sn rfl ?_ ?_
  · intro n s hs
    subst hs
    exact br_t (nI_le (a := 6) (b := 6) (by decide) (by decide)) (ys_46 hc h)
  · intro n i s hi hs ih
    subst hs
    have e : 6 * nI c + nI i = nI (c * 6 + i) := by rw [show (6 : Int32) = nI 6 from rfl, pa_mul, nI_add, Nat.mul_comm]
    refine br_f (nI_ge (b := 6) hi (by decide)) ⟨vp_in_nI hi (by decide), ?_⟩
    rw [e]
    refine ⟨vp_in_nI (by omega) (by decide), nm_r (pe_u (y := nm i) (by omega) ?_) (nm_r (nI_1 i) (ih _ rfl))⟩
    rw [nI_clamp (by omega)]
theorem i_vc_save {k : Nat} {u : SX} {v : SY} (I : i_Rel k u v) (hk : k + 4 ≤ 2048) : wpX_save (fun r u' => wpY_save (fun r' v' => r' = r ∧ i_Rel (k + 4) u' v') v) u := by
  obtain ⟨hp, col, mo, c, n, pg, bf, cl, nm, sn, so, sm, si, px, py, fo, cx, sp, cy, ch, F, S, rfl, rfl, h⟩ := I
  have h4 := h.1
  have e4 : nI c = 4 ↔ c = 4 := by rw [show (4 : Int32) = nI 4 from rfl, nI_eq (by omega) (by omega)]
  unfold wpX_save
  by_cases z : c < 4
  · refine br_t (nI_lt (b := 4) z (by decide)) (xs_12 z ?_)
    show wpY_save _ _
    unfold wpY_save
    refine br_f (fun y => by have := e4.mp y; omega) (ys_12 z ⟨rfl, pe_mk (F := F) ?_⟩)
    obtain ⟨h1, h2, h3, h4⟩ := h
    exact ⟨by omega, h2, pd_updP h3 h2, h4⟩
  · refine br_f (nI_nlt (b := 4) (by omega) (by omega)) ?_
    show wpY_save _ _
    unfold wpY_save
    exact br_t (e4.mpr (by omega)) ⟨rfl, pe_mk h⟩
theorem xr_55 {post : Int32 → SX → Prop} (hc : c < 4) (h : post (nI c) (hp, so c, sm c, nI c, nc, ns, pg, bf, pd_it 0 (fun i => vp_nar .boolean (si (c * 256 + i))) cl 256, nm, sn, so, sm, si, px, py, fo, cx)) : ∃ n, wX_restore_55 post hp col mo (nI c) nc ns n 0 pg bf cl nm sn so sm si px py fo cx := by
  refine loop_0 (fun n i s => wX_restore_55 post hp col mo (nI c) nc ns n (nI i) pg bf s nm sn so sm si px py fo cx) (fun i s => s = pd_it 0 (fun i => vp_nar .boolean (si (c * 256 + i))) cl i) 256 cl rfl ?_ ?_
  · intro n s hs
    subst hs
    have hin : vp_in (nI c) 4 := vp_in_nI hc (by decide)
    exact br_t (nI_le (a := 256) (b := 256) (by decide) (by decide)) ⟨hin, nm_r (pe_g (by omega)) ⟨hin, nm_r (pe_g (by omega)) h⟩⟩
  · intro n i s hi hs ih
    subst hs
    have e : nI c * 256 + nI i = nI (c * 256 + i) := by rw [show (256 : Int32) = nI 256 from rfl, pa_mul, nI_add]
    refine br_f (nI_ge (b := 256) hi (by decide)) ?_
    rw [e]
    refine ⟨vp_in_nI (by omega) (by decide), vp_in_nI hi (by decide), nm_r (pe_u (y := vp_nar .boolean (si (c * 256 + i))) (by omega) ?_) (nm_r (nI_1 i) (ih _ ?_))⟩
    · rw [nI_clamp (by omega)]
    · rw [pd_itS, Nat.zero_add]
theorem xr_21 {post : Int32 → SX → Prop} (hc : c < 4) (h : post (nI c) (hp, so c, sm c, nI c, nc, ns, pg, bf, pd_it 0 (fun i => vp_nar .boolean (si (c * 256 + i))) cl 256, pd_it 0 (fun i => sn (c * 6 + i)) nm 6, sn, so, sm, si, px, py, fo, cx)) : ∃ n, wX_restore_21 post hp col mo (nI c) nc ns n 0 pg bf cl nm sn so sm si px py fo cx := by
  refine loop_0 (fun n i s => wX_restore_21 post hp col mo (nI c) nc ns n (nI i) pg bf cl s sn so sm si px py fo cx) (fun i s => s = pd_it 0 (fun i => sn (c * 6 + i)) nm i) 6 nm rfl ?_ ?_
  · intro n s hs
    subst hs
    exact br_t (nI_le (a := 6) (b := 6) (by decide) (by decide)) (xr_55 hc h)
  · intro n i s hi hs ih
    subst hs
    have e : nI c * 6 + nI i = nI (c * 6 + i) := by rw [show (6 : Int32) = nI 6 from rfl, pa_mul, nI_add]
    refine br_f (nI_ge (b := 6) hi (by decide)) ?_
    rw [e]
    refine ⟨vp_in_nI (by omega) (by decide), vp_in_nI hi (by decide), nm_r (pe_u (y := sn (c * 6 + i)) (by omega) ?_) (nm_r (nI_1 i) (ih _ ?_))⟩
    · rw [nI_clamp (by omega)]
    · rw [pd_itS, Nat.zero_add]
theorem yr_55 {post : Int32 → SY → Prop} (hc : c < 4) (h : post (nI c) (so c, sm c, nI c, nc, ns, hp, nm, pd_it 0 (fun i => vp_nar .boolean (si (c * 256 + i))) cl 256, sn, so, sm, si, px, py, sp, cy, pg, bf, ch)) : ∃ n, wY_restore_55 post col mo (nI c) nc ns hp n 0 nm cl sn so sm si px py sp cy pg bf ch := by
  refine loop_0 (fun n i s => wY_restore_55 post col mo (nI c) nc ns hp n (nI i) nm s sn so sm si px py sp cy pg bf ch) (fun i s => s = pd_it 0 (fun i => vp_nar .boolean (si (c * 256 + i))) cl i) 256 cl rfl ?_ ?_
  · intro n s hs
    subst hs
    have hin : vp_in (nI c) 4 := vp_in_nI hc (by decide)
    exact br_t (nI_le (a := 256) (b := 256) (by decide) (by decide)) ⟨hin, nm_r (pe_g (by omega)) ⟨hin, nm_r (pe_g (by omega)) h⟩⟩
  · intro n i s hi hs ih
    subst hs
    have e : 256 * nI c + nI i = nI (c * 256 + i) := by rw [show (256 : Int32) = nI 256 from rfl, pa_mul, nI_add, Nat.mul_comm]
    refine br_f (nI_ge (b := 256) hi (by decide)) ?_
    rw [e]
    refine ⟨vp_in_nI (by omega) (by decide), vp_in_nI hi (by decide), nm_r (pe_u (y := vp_nar .boolean (si (c * 256 + i))) (by omega) ?_) (nm_r (nI_1 i) (ih _ ?_))⟩
    · rw [nI_clamp (by omega)]
    · rw [pd_itS, Nat.zero_add]
theorem yr_21 {post : Int32 → SY → Prop} (hc : c < 4) (h : post (nI c) (so c, sm c, nI c, nc, ns, hp, pd_it 0 (fun i => sn (c * 6 + i)) nm 6, pd_it 0 (fun i => vp_nar .boolean (si (c * 256 + i))) cl 256, sn, so, sm, si, px, py, sp, cy, pg, bf, ch)) : ∃ n, wY_restore_21 post col mo (nI c) nc ns hp n 0 nm cl sn so sm si px py sp cy pg bf ch := by
  refine loop_0 (fun n i s => wY_restore_21 post col mo (nI c) nc ns hp n (nI i) s cl sn so sm si px py sp cy pg bf ch) (fun i s => s = pd_it 0 (fun i => sn (c * 6 + i)) nm i) 6 nm rfl ?_ ?_
  · intro n s hs
    subst hs
    exact br_t (nI_le (a := 6) (b := 6) (by decide) (by decide)) (yr_55 hc h)
  · intro n i s hi hs ih
    subst hs
    have e : 6 * nI c + nI i = nI (c * 6 + i) := by rw [show (6 : Int32) = nI 6 from rfl, pa_mul, nI_add, Nat.mul_comm]
    refine br_f (nI_ge (b := 6) hi (by decide)) ?_
    rw [e]
    refine ⟨vp_in_nI (by omega) (by decide), vp_in_nI hi (by decide), nm_r (pe_u (y := sn (c * 6 + i)) (by omega) ?_) (nm_r (nI_1 i) (ih _ ?_))⟩
    · rw [nI_clamp (by omega)]
    · rw [pd_itS, Nat.zero_add]
theorem i_vc_restore {k : Nat} {u : SX} {v : SY} (I : i_Rel k u v) (hk : k + 4 ≤ 2048) : wpX_restore (fun r u' => wpY_restore (fun r' v' => r' = r ∧ i_Rel (k + 4) u' v') v) u := by
  obtain ⟨hp, col, mo, c, n, pg, bf, cl, nm, sn, so, sm, si, px, py, fo, cx, sp, cy, ch, F, S, rfl, rfl, h⟩ := I
  have h4 := h.1
  unfold wpX_restore
  match c, h, h4 with
  | 0, h, _ =>
    refine br_f (by decide) ?_
    show wpY_restore _ _
    unfold wpY_restore
    exact br_t nI_0 ⟨rfl, pe_mk h⟩
  | c + 1, h, h4 =>
    refine br_t (nI_lt (a := 0) (by omega) (by omega)) (nm_r (nI_pred c) (xr_21 (by omega) ?_))
    show wpY_restore _ _
    unfold wpY_restore
    refine br_f (nI_ne0 (by omega) (by omega)) (nm_r (nI_pred c) (yr_21 (by omega) ⟨rfl, pe_mk (F := F) ?_⟩))
    obtain ⟨h1, h2, h3, h4⟩ := h
    exact ⟨by omega, h3 c, h3, h4⟩
/-! the path's calls -/
theorem xa_add {post : Int32 → SX → Prop} {p0 p1 p2 : Int32} (hn : n < 16) (b : pe_far (nm 0 * p0 + nm 2 * p1 + nm 4) 2000 ∨ pe_far (nm 1 * p0 + nm 3 * p1 + nm 5) 2000 → post 0 (hp, col, mo, sc, nI n, ns, pg, bf, cl, nm, sn, so, sm, si, px, py, fo, cx))
    (g : ¬ pe_far (nm 0 * p0 + nm 2 * p1 + nm 4) 2000 → ¬ pe_far (nm 1 * p0 + nm 3 * p1 + nm 5) 2000 → post 1 (hp, col, mo, sc, nI (n + 1), ns, pg, bf, cl, nm, sn, so, sm, si, upd px n (nm 0 * p0 + nm 2 * p1 + nm 4), upd py n (nm 1 * p0 + nm 3 * p1 + nm 5), upd fo n p2, cx)) : wpX_addPoint post (hp, col, mo, sc, nI n, ns, pg, bf, cl, nm, sn, so, sm, si, px, py, fo, cx) p0 p1 p2 := by
  have hin : vp_in (nI n) 16 := vp_in_nI hn (by decide)
  unfold wpX_addPoint
  refine nm_e (nm_e (xw_c (fun f => b (Or.inl f)) (fun f => xw_c (fun e => b (Or.inr e)) (fun e => ?_))))
  exact ⟨hin, nm_r (pe_u (by omega) rfl) ⟨hin, nm_r (pe_u (by omega) rfl) ⟨hin, nm_r (pe_u (by omega) rfl) (nm_r (nI_1 n) (g f e))⟩⟩⟩
theorem ya_add {post : Int32 → SY → Prop} {p0 p1 p2 : Int32} (hn : n < 16) (b : pe_far (nm 0 * p0 + nm 2 * p1 + nm 4) 2000 ∨ pe_far (nm 1 * p0 + nm 3 * p1 + nm 5) 2000 → post (-4) (col, mo, sc, nI n, ns, hp, nm, cl, sn, so, sm, si, px, py, sp, cy, pg, bf, ch))
    (g : ¬ pe_far (nm 0 * p0 + nm 2 * p1 + nm 4) 2000 → ¬ pe_far (nm 1 * p0 + nm 3 * p1 + nm 5) 2000 → post (nI (n + 1)) (col, mo, sc, nI (n + 1), ns, hp, nm, cl, sn, so, sm, si, upd px n (nm 0 * p0 + nm 2 * p1 + nm 4), upd py n (nm 1 * p0 + nm 3 * p1 + nm 5), upd sp n p2, cy, pg, bf, ch)) : wpY_add post (col, mo, sc, nI n, ns, hp, nm, cl, sn, so, sm, si, px, py, sp, cy, pg, bf, ch) p0 p1 p2 := by
  have hin : vp_in (nI n) 16 := vp_in_nI hn (by decide)
  unfold wpY_add
  refine nm_e (nm_e (yf_c (fun f => b (Or.inl f)) (fun f => yf_c (fun e => b (Or.inr e)) (fun e => ?_))))
  exact ⟨hin, nm_r (pe_u (by omega) rfl) ⟨hin, nm_r (pe_u (by omega) rfl) ⟨hin, nm_r (pe_u (by omega) rfl) (nm_r (nI_1 n) (g f e))⟩⟩⟩
theorem xl_c {A B : Prop} (h : pb_R n fo sp cx cy F S) (f : (n = 0 ∨ ¬ cx (F (n - 1)) = 0) → A) (g : 0 < n → cx (F (n - 1)) = 0 → B) : wpX_lastIsOpen (fun r => (r = 0 → A) ∧ (¬ r = 0 → B)) (hp, col, mo, sc, nI n, ns, pg, bf, cl, nm, sn, so, sm, si, px, py, fo, cx) := by
  obtain ⟨h16, ok, hf, _, _⟩ := h
  unfold wpX_lastIsOpen
  by_cases z : n = 0
  · subst z
    exact br_f (by decide) (br_t rfl (f (Or.inl rfl)))
  · have e : nI n - 1 = nI (n - 1) := by
      obtain ⟨m, rfl⟩ : ∃ m, n = m + 1 := ⟨n - 1, by omega⟩
      exact nI_pred m
    have l := pb_le ok (n - 1) (by omega)
    refine br_t (nI_lt (a := 0) (by omega) (by omega)) ?_
    rw [e, nI_clamp (by omega), hf (n - 1) (by omega), nI_clamp (by omega)]
    refine ⟨vp_in_nI (by omega) (by decide), vp_in_nI (by omega) (by decide), br_c (fun y => br_f pe_10 (g (by omega) y)) (fun y => br_t rfl (f (Or.inr y)))⟩
theorem pe_sub1 {m : Nat} (h : 0 < m) : nI m - 1 = nI (m - 1) := by
  obtain ⟨j, rfl⟩ : ∃ j, m = j + 1 := ⟨m - 1, by omega⟩
  exact nI_pred j
theorem pe_16 (h : n ≤ 16) : nI n = 16 ↔ n = 16 := by rw [show (16 : Int32) = nI 16 from rfl, nI_eq (by omega) (by omega)]
theorem pe_s0 (h : pb_ok n F S) (h16 : n ≤ 16) : nI (pb_s n S) = 0 ↔ n = 0 := by
  have := pb_sle h
  rw [← nI_0, nI_eq (by omega) (by omega), pb_s0]
theorem pe_sl (h0 : 0 < n) : pb_s n S - 1 = S (n - 1) := by
  unfold pb_s; rw [if_neg (by omega)]; omega
theorem i_vc_close {k : Nat} {u : SX} {v : SY} (I : i_Rel k u v) (hk : k + 4 ≤ 2048) : wpX_close (fun r u' => wpY_close (fun r' v' => r' = r ∧ i_Rel (k + 4) u' v') v) u := by
  obtain ⟨hp, col, mo, c, n, pg, bf, cl, nm, sn, so, sm, si, px, py, fo, cx, sp, cy, ch, F, S, rfl, rfl, h⟩ := I
  have R := h.2.2.2.2.2
  obtain ⟨h16, ok, hf, hs, hc⟩ := R
  have sle := pb_sle ok
  unfold wpX_close
  refine xl_c h.2.2.2.2.2 (fun f => ?_) (fun h0 f => ?_)
  · show wpY_close _ _
    unfold wpY_close
    by_cases z : n = 0
    · exact br_t ((pe_s0 ok h16).mpr z) ⟨rfl, pe_mk h⟩
    · have sp0 := pb_slt ok (k := n - 1) (by omega)
      refine br_f (fun y => z ((pe_s0 ok h16).mp y)) ?_
      rw [pe_sub1 (by omega), pe_sl (by omega), nI_clamp (by omega)]
      refine ⟨vp_in_nI (by omega) (by decide), br_f ?_ ⟨rfl, pe_mk h⟩⟩
      rw [← hc (n - 1) (by omega)]
      exact f.resolve_left z
  · have l := pb_le ok (n - 1) (by omega)
    have sp0 := pb_slt ok (k := n - 1) (by omega)
    rw [pe_sub1 h0, nI_clamp (by omega), hf (n - 1) (by omega), nI_clamp (by omega)]
    refine ⟨vp_in_nI (by omega) (by decide), vp_in_nI (by omega) (by decide), nm_e ?_⟩
    show wpY_close _ _
    unfold wpY_close
    refine br_f (fun y => by have := (pe_s0 ok h16).mp y; omega) ?_
    rw [pe_sub1 (by omega), pe_sl (by omega), nI_clamp (by omega)]
    refine ⟨vp_in_nI (by omega) (by decide), br_t ?_ ⟨vp_in_nI (by omega) (by decide), nm_e ⟨rfl, pe_mk (F := F) ?_⟩⟩⟩
    · rw [← hc (n - 1) (by omega)]; exact f
    · obtain ⟨h1, h2, h3, h4, h5, h6⟩ := h
      exact ⟨h1, h2, h3, h4, h5, pb_Rclose h6 h0 _⟩
theorem i_vc_move {k : Nat} {u : SX} {v : SY} (I : i_Rel k u v) (hk : k + 4 ≤ 2048) (v1 : Int32) (v2 : Int32) : wpX_move (fun r u' => wpY_move (fun r' v' => r' = r ∧ i_Rel (k + 4) u' v') v v1 v2) u v1 v2 := by
  obtain ⟨hp, col, mo, c, n, pg, bf, cl, nm, sn, so, sm, si, px, py, fo, cx, sp, cy, ch, F, S, rfl, rfl, h⟩ := I
  obtain ⟨h16, ok, hf, hs, hc⟩ := h.2.2.2.2.2
  have sle := pb_sle ok
  unfold wpX_move
  refine xw_c (fun f => ?_) (fun f => xw_c (fun g => ?_) (fun g => ?_))
  · show wpY_move _ _ _ _
    unfold wpY_move
    exact yf_c (fun _ => ⟨rfl, pe_mk h⟩) (fun z => absurd f z)
  · show wpY_move _ _ _ _
    unfold wpY_move
    exact yf_c (fun z => absurd z f) (fun _ => yf_c (fun _ => ⟨rfl, pe_mk h⟩) (fun z => absurd g z))
  · by_cases z : n < 16
    · refine br_t (nI_lt (b := 16) z (by decide)) (xa_add z (fun d => ?_) (fun d e => ?_))
      · refine br_t rfl ?_
        show wpY_move _ _ _ _
        unfold wpY_move
        refine yf_c (fun z => absurd z f) (fun _ => yf_c (fun z => absurd z g) (fun _ => br_f (fun y => by have := (pe_16 h16).mp y; omega) (ya_add z (fun _ => ?_) (fun a b => absurd d (fun y => y.elim a b)))))
        exact br_t (by decide) ⟨rfl, pe_mk h⟩
      · refine br_f pe_10 ⟨vp_in_nI z (by decide), nm_r (pe_u (by omega) pe_b0) (nm_r (nI_1 _) ?_)⟩
        show wpY_move _ _ _ _
        unfold wpY_move
        refine yf_c (fun z => absurd z f) (fun _ => yf_c (fun z => absurd z g) (fun _ => br_f (fun y => by have := (pe_16 h16).mp y; omega) (ya_add z (fun y => absurd y (fun y => y.elim d e)) (fun _ _ => ?_))))
        refine br_f (nI_nle (by omega) (by omega)) ⟨vp_in_nI (by omega) (by decide), nm_r (pe_u (by omega) pe_b0) (nm_r (nI_1 _) ⟨rfl, ?_⟩)⟩
        obtain ⟨h1, h2, h3, h4, h5, h6⟩ := h
        have m := pe_mk (k := k + 4) (hp := hp) (col := col) (pg := pg) (bf := bf) (cl := cl) (nm := nm) (sn := sn) (so := so) (si := si) (ch := ch) (c := c) (n := n + 1) (F := pb_put F n n) (S := pb_put S n (pb_s n S)) ⟨h1, h2, h3, pd_updP (i := n) h4 (pe_near d rfl (by decide)), pd_updP (i := n) h5 (pe_near e rfl (by decide)), pb_Rmove h6 z⟩
        rw [pb_sP] at m
        exact m
    · refine br_f (nI_nlt (b := 16) (by omega) (by omega)) ?_
      show wpY_move _ _ _ _
      unfold wpY_move
      exact yf_c (fun z => absurd z f) (fun _ => yf_c (fun z => absurd z g) (fun _ => br_t ((pe_16 h16).mpr (by omega)) ⟨rfl, pe_mk h⟩))
theorem i_vc_line {k : Nat} {u : SX} {v : SY} (I : i_Rel k u v) (hk : k + 4 ≤ 2048) (v1 : Int32) (v2 : Int32) : wpX_line (fun r u' => wpY_line (fun r' v' => r' = r ∧ i_Rel (k + 4) u' v') v v1 v2) u v1 v2 := by
  obtain ⟨hp, col, mo, c, n, pg, bf, cl, nm, sn, so, sm, si, px, py, fo, cx, sp, cy, ch, F, S, rfl, rfl, h⟩ := I
  obtain ⟨h16, ok, hf, hs, hc⟩ := h.2.2.2.2.2
  have sle := pb_sle ok
  unfold wpX_line
  refine xw_c (fun f => ?_) (fun f => xw_c (fun g => ?_) (fun g => xl_c h.2.2.2.2.2 (fun o => ?_) (fun h0 o => ?_)))
  · show wpY_line _ _ _ _
    unfold wpY_line
    exact yf_c (fun _ => ⟨rfl, pe_mk h⟩) (fun z => absurd f z)
  · show wpY_line _ _ _ _
    unfold wpY_line
    exact yf_c (fun z => absurd z f) (fun _ => yf_c (fun _ => ⟨rfl, pe_mk h⟩) (fun z => absurd g z))
  · show wpY_line _ _ _ _
    unfold wpY_line
    refine yf_c (fun z => absurd z f) (fun _ => yf_c (fun z => absurd z g) (fun _ => ?_))
    by_cases z : n = 0
    · exact br_t ((pe_s0 ok h16).mpr z) ⟨rfl, pe_mk h⟩
    · have sp0 := pb_slt ok (k := n - 1) (by omega)
      refine br_f (fun y => z ((pe_s0 ok h16).mp y)) ?_
      rw [pe_sub1 (by omega), pe_sl (by omega), nI_clamp (by omega)]
      refine ⟨vp_in_nI (by omega) (by decide), br_f ?_ ⟨rfl, pe_mk h⟩⟩
      rw [← hc (n - 1) (by omega)]
      exact o.resolve_left z
  · have l := pb_le ok (n - 1) (by omega)
    have sp0 := pb_slt ok (k := n - 1) (by omega)
    have o' : cy (S (n - 1)) = 0 := by rw [← hc (n - 1) (by omega)]; exact o
    have y0 : ¬ nI (pb_s n S) = 0 := fun y => by have := (pe_s0 ok h16).mp y; omega
    have yin : vp_in (nI (pb_s n S) - 1) 16 := by rw [pe_sub1 (by omega)]; exact vp_in_nI (by omega) (by decide)
    have ycl : cy (nI (pb_s n S) - 1).toNatClampNeg = 0 := by rw [pe_sub1 (by omega), pe_sl (by omega), nI_clamp (by omega)]; exact o'
    have ysp : nI (pb_s n S) - 1 = nI (S (n - 1)) := by rw [pe_sub1 (by omega), pe_sl (by omega)]
    by_cases z : n < 16
    · refine br_t (nI_lt (b := 16) z (by decide)) ?_
      have xin : vp_in (nI n - 1) 16 := by rw [pe_sub1 h0]; exact vp_in_nI (by omega) (by decide)
      have xfo : fo (nI n - 1).toNatClampNeg = nI (F (n - 1)) := by rw [pe_sub1 h0, nI_clamp (by omega)]; exact hf (n - 1) (by omega)
      refine ⟨xin, nm_r xfo (xa_add z (fun d => ?_) (fun d e => ?_))⟩
      · refine br_t rfl ?_
        show wpY_line _ _ _ _
        unfold wpY_line
        refine yf_c (fun z => absurd z f) (fun _ => yf_c (fun z => absurd z g) (fun _ => br_f y0 ⟨yin, br_t ycl (br_f (fun y => by have := (pe_16 h16).mp y; omega) (ya_add z (fun _ => ?_) (fun a b => absurd d (fun y => y.elim a b))))⟩))
        exact ⟨rfl, pe_mk h⟩
      · refine br_f pe_10 ?_
        show wpY_line _ _ _ _
        unfold wpY_line
        refine yf_c (fun z => absurd z f) (fun _ => yf_c (fun z => absurd z g) (fun _ => br_f y0 ⟨yin, br_t ycl (br_f (fun y => by have := (pe_16 h16).mp y; omega) (ya_add z (fun y => absurd y (fun y => y.elim d e)) (fun _ _ => ?_)))⟩))
        refine ⟨rfl, ?_⟩
        obtain ⟨h1, h2, h3, h4, h5, h6⟩ := h
        have m := pe_mk (k := k + 4) (hp := hp) (col := col) (pg := pg) (bf := bf) (cl := cl) (nm := nm) (sn := sn) (so := so) (si := si) (ch := ch) (c := c) (n := n + 1) (F := pb_put F n (F (n - 1))) (S := pb_put S n (S (n - 1))) ⟨h1, h2, h3, pd_updP (i := n) h4 (pe_near d rfl (by decide)), pd_updP (i := n) h5 (pe_near e rfl (by decide)), pb_Rline h6 h0 z⟩
        have es : pb_s n S = S (n - 1) + 1 := by unfold pb_s; rw [if_neg (by omega)]
        rw [pb_sP, ← es, ← ysp] at m
        exact m
    · refine br_f (nI_nlt (b := 16) (by omega) (by omega)) ?_
      show wpY_line _ _ _ _
      unfold wpY_line
      exact yf_c (fun z => absurd z f) (fun _ => yf_c (fun z => absurd z g) (fun _ => br_f y0 ⟨yin, br_t ycl (br_t ((pe_16 h16).mpr (by omega)) ⟨rfl, pe_mk h⟩)⟩))
end PPwalk
end
section
section PPwind
variable {hp col mo sc nc ns : Int32} {pg bf cl nm sn so sm si px py fo cx sp cy ch : Nat → Int32} {n : Nat} {F S : Nat → Nat}
theorem pk_div {a d : Nat} (ha : a < 2 ^ 31) (h0 : 0 < d) (hd : d < 2 ^ 31) : nI a / nI d = nI (a / d) := by
  apply Int32.toInt_inj.mp
  rw [lg_idiv_nonneg (by rw [nI_toInt ha]; omega) (by rw [nI_toInt hd]; omega), nI_toInt ha, nI_toInt hd, nI_toInt (Nat.lt_of_le_of_lt (Nat.div_le_self a d) ha)]
  first | rfl | exact (Int.natCast_ediv _ _).symm
theorem pk_rem {a d : Nat} (ha : a < 2 ^ 31) (h0 : 0 < d) (hd : d < 2 ^ 31) : nI a - nI a / nI d * nI d = nI (a % d) := by
  rw [pk_div ha h0 hd, pa_mul, pa_sub (Nat.div_mul_le_self a d)]
  exact congrArg nI (by have := Nat.div_add_mod' a d; omega)
theorem ph_16 : ¬ (16 : Int32) = 0 := by decide
theorem ph_31 {m : Nat} (h : m ≤ 31) : pa_in 31 (nI m) := by
  unfold pa_in
  rw [nI_toInt (by omega)]
  omega
theorem ph_c (a : Nat) : 2 * nI a + 1 = nI (2 * a + 1) := by rw [show (2 : Int32) = nI 2 from rfl, pa_mul, nI_1]
theorem ph_r {p : Nat} (h : p < 256) : nI p - nI p / 16 * 16 = nI (p % 16) := pk_rem (d := 16) (by omega) (by omega) (by omega)
theorem ph_d {p : Nat} (h : p < 256) : nI p / 16 = nI (p / 16) := pk_div (d := 16) (by omega) (by omega) (by omega)
theorem xk_x {post : Int32 → Prop} {p : Nat} (hp : p < 256) (h : post (nI (2 * (p % 16) + 1))) : wpX_centreX post (nI p) := by
  unfold wpX_centreX
  rw [ph_r hp, ph_c]
  exact ⟨ph_16, h⟩
theorem xk_y {post : Int32 → Prop} {p : Nat} (hp : p < 256) (h : post (nI (2 * (p / 16) + 1))) : wpX_centreY post (nI p) := by
  unfold wpX_centreY
  rw [ph_d hp, ph_c]
  exact ⟨ph_16, h⟩
/-! a segment's count -/
theorem ph_cvA {x1 y1 x2 y2 u v : Int32} (a : v < y1) (b : v < y2) : pc_cv x1 y1 x2 y2 u v = 0 := by
  unfold pc_cv
  rw [if_neg (fun z => Int32.not_le.mpr a z.1), if_neg (fun z => Int32.not_le.mpr b z.1)]
theorem ph_cvB {x1 y1 x2 y2 u v : Int32} (a : v < y1) (b : ¬ v < y2) : pc_cv x1 y1 x2 y2 u v = if 0 ≤ (v - y1) * (x2 - x1) + (x1 - u) * (y2 - y1) then 0 else -1 := by
  unfold pc_cv
  rw [if_neg (fun z => Int32.not_le.mpr a z.1), if_pos ⟨Int32.not_lt.mp b, a⟩]
theorem ph_cvC {x1 y1 x2 y2 u v : Int32} (a : ¬ v < y1) (b : y2 ≤ v) : pc_cv x1 y1 x2 y2 u v = 0 := by
  unfold pc_cv
  rw [if_neg (fun z => Int32.not_lt.mpr b z.2), if_neg (fun z => a z.2)]
theorem ph_cvD {x1 y1 x2 y2 u v : Int32} (a : ¬ v < y1) (b : ¬ y2 ≤ v) : pc_cv x1 y1 x2 y2 u v = if (v - y1) * (x2 - x1) + (x1 - u) * (y2 - y1) ≤ 0 then 0 else 1 := by
  unfold pc_cv
  rw [if_pos ⟨Int32.not_lt.mp a, Int32.not_le.mp b⟩]
theorem xc_cross {post : Int32 → Prop} {x1 x2 u v : Int32} (i1 : vp_in x1 16) (i2 : vp_in x2 16) (h : post (pc_cv (px x1.toNatClampNeg) (py x1.toNatClampNeg) (px x2.toNatClampNeg) (py x2.toNatClampNeg) u v)) : wpX_crossing post (hp, col, mo, sc, nc, ns, pg, bf, cl, nm, sn, so, sm, si, px, py, fo, cx) x1 x2 u v := by
  unfold wpX_crossing
  refine ⟨i1, nm_e ⟨i2, nm_e ?_⟩⟩
  by_cases a : v < py x1.toNatClampNeg
  · refine br_t a ?_
    unfold wX_crossing_34 wX_crossing_35
    by_cases b : v < py x2.toNatClampNeg
    · rw [ph_cvA a b] at h
      refine br_t b ?_
      unfold wX_crossing_55 wX_crossing_56
      exact br_t rfl (br_t rfl h)
    · rw [ph_cvB a b] at h
      refine br_f b (br_f (Int32.not_le.mpr a) ?_)
      unfold wX_crossing_56 wX_crossing_70
      refine br_t rfl (br_f pe_10 ⟨i2, i1, i1, nm_e (br_t rfl ?_)⟩)
      exact br_c (fun d => by rw [if_pos d] at h; exact h) (fun d => by rw [if_neg d] at h; exact h)
  · refine br_f a ?_
    by_cases b : py x2.toNatClampNeg ≤ v
    · rw [ph_cvC a b] at h
      refine br_t b ?_
      unfold wX_crossing_34 wX_crossing_35
      refine br_f (Int32.not_lt.mpr b) (br_t (Int32.not_lt.mp a) ?_)
      unfold wX_crossing_55 wX_crossing_56
      exact br_t rfl (br_t rfl h)
    · rw [ph_cvD a b] at h
      refine br_f b ?_
      unfold wX_crossing_35
      refine br_t (Int32.not_le.mp b) ?_
      unfold wX_crossing_55 wX_crossing_56 wX_crossing_70
      refine br_f pe_10 ⟨i2, i1, i1, nm_e (br_f pe_10 ?_)⟩
      exact br_c (fun d => by rw [if_pos d] at h; exact h) (fun d => by rw [if_neg d] at h; exact h)
theorem yc_75u {post : Int32 → Prop} {x1 x4 u v : Int32} (i1 : vp_in x1 16) (i4 : vp_in x4 16) (hx : ∀ j, pa_in 2000 (px j)) (hy : ∀ j, pa_in 2000 (py j)) (hu : pa_in 31 u) (hv : pa_in 31 v)
    (h : post (if (v - py x1.toNatClampNeg) * (px x4.toNatClampNeg - px x1.toNatClampNeg) + (px x1.toNatClampNeg - u) * (py x4.toNatClampNeg - py x1.toNatClampNeg) ≤ 0 then 0 else 1)) : wY_counts_75 post x1 u v x4 1 col mo sc nc ns hp nm cl sn so sm si px py sp cy pg bf ch := by
  have e := (pa_cr (hx x1.toNatClampNeg) (hy x1.toNatClampNeg) (hx x4.toNatClampNeg) (hy x4.toNatClampNeg) hu hv).1
  unfold wY_counts_75
  refine ⟨i1, i4, i1, nm_e ⟨i1, i4, i1, nm_e (br_f pe_10 ?_)⟩⟩
  exact br_c (fun d => by rw [if_pos (e.mpr d)] at h; exact h) (fun d => by rw [if_neg (fun z => d (e.mp z))] at h; exact h)
theorem yc_75d {post : Int32 → Prop} {x1 x4 u v : Int32} (i1 : vp_in x1 16) (i4 : vp_in x4 16) (hx : ∀ j, pa_in 2000 (px j)) (hy : ∀ j, pa_in 2000 (py j)) (hu : pa_in 31 u) (hv : pa_in 31 v)
    (h : post (if 0 ≤ (v - py x1.toNatClampNeg) * (px x4.toNatClampNeg - px x1.toNatClampNeg) + (px x1.toNatClampNeg - u) * (py x4.toNatClampNeg - py x1.toNatClampNeg) then 0 else -1)) : wY_counts_75 post x1 u v x4 0 col mo sc nc ns hp nm cl sn so sm si px py sp cy pg bf ch := by
  have e := (pa_cr (hx x1.toNatClampNeg) (hy x1.toNatClampNeg) (hx x4.toNatClampNeg) (hy x4.toNatClampNeg) hu hv).2
  unfold wY_counts_75
  refine ⟨i1, i4, i1, nm_e ⟨i1, i4, i1, nm_e (br_t rfl ?_)⟩⟩
  exact br_c (fun d => by rw [if_pos (e.mpr d)] at h; exact h) (fun d => by rw [if_neg (fun z => d (e.mp z))] at h; exact h)
theorem yc_tail {post : Int32 → Prop} {x1 x4 u v : Int32} (i1 : vp_in x1 16) (i4 : vp_in x4 16) (hx : ∀ j, pa_in 2000 (px j)) (hy : ∀ j, pa_in 2000 (py j)) (hu : pa_in 31 u) (hv : pa_in 31 v)
    (h : post (pc_cv (px x1.toNatClampNeg) (py x1.toNatClampNeg) (px x4.toNatClampNeg) (py x4.toNatClampNeg) u v)) :
    vp_in x1 16 ∧ ((v < py x1.toNatClampNeg → wY_counts_32 post x1 u v x4 col mo sc nc ns hp nm cl sn so sm si px py sp cy pg bf ch) ∧ (¬ v < py x1.toNatClampNeg → (vp_in x4 16 ∧ ((py x4.toNatClampNeg ≤ v → wY_counts_32 post x1 u v x4 col mo sc nc ns hp nm cl sn so sm si px py sp cy pg bf ch) ∧ (¬ py x4.toNatClampNeg ≤ v → wY_counts_33 post x1 u v x4 1 col mo sc nc ns hp nm cl sn so sm si px py sp cy pg bf ch))))) := by
  refine ⟨i1, ?_⟩
  by_cases a : v < py x1.toNatClampNeg
  · refine br_t a ?_
    unfold wY_counts_32 wY_counts_33
    by_cases b : v < py x4.toNatClampNeg
    · rw [ph_cvA a b] at h
      refine ⟨i4, br_t b ?_⟩
      unfold wY_counts_60 wY_counts_61
      exact br_t rfl (br_t rfl h)
    · rw [ph_cvB a b] at h
      refine ⟨i4, br_f b ⟨i1, br_f (Int32.not_le.mpr a) ?_⟩⟩
      unfold wY_counts_61
      exact br_t rfl (br_f pe_10 (yc_75d i1 i4 hx hy hu hv h))
  · refine br_f a ⟨i4, ?_⟩
    by_cases b : py x4.toNatClampNeg ≤ v
    · rw [ph_cvC a b] at h
      refine br_t b ?_
      unfold wY_counts_32 wY_counts_33
      refine ⟨i4, br_f (Int32.not_lt.mpr b) ⟨i1, br_t (Int32.not_lt.mp a) ?_⟩⟩
      unfold wY_counts_60 wY_counts_61
      exact br_t rfl (br_t rfl h)
    · rw [ph_cvD a b] at h
      refine br_f b ?_
      unfold wY_counts_33
      refine ⟨i4, br_t (Int32.not_le.mp b) ?_⟩
      unfold wY_counts_60 wY_counts_61
      exact br_f pe_10 (yc_75u i1 i4 hx hy hu hv h)
/-! where a point leads -/
theorem xe_c {A B : Prop} (h : pb_R n fo sp cx cy F S) {k : Nat} (hk : k < n) (f : k + 1 < n ∧ F (k + 1) = F k → A) (g : ¬ (k + 1 < n ∧ F (k + 1) = F k) → B) : wpX_endsSubpath (fun r => (r = 0 → A) ∧ (¬ r = 0 → B)) (hp, col, mo, sc, nI n, ns, pg, bf, cl, nm, sn, so, sm, si, px, py, fo, cx) (nI k) := by
  obtain ⟨h16, ok, hf, hs, hc⟩ := h
  unfold wpX_endsSubpath
  rw [nI_1 k]
  by_cases z : n ≤ k + 1
  · exact br_t (nI_le z (by omega)) (br_f pe_10 (g (fun y => by omega)))
  · have l1 := pb_le ok k hk
    have l2 := pb_le ok (k + 1) (by omega)
    refine br_f (nI_ge (by omega) (by omega)) ⟨vp_in_nI (by omega) (by decide), vp_in_nI (by omega) (by decide), ?_⟩
    rw [nI_clamp (by omega), nI_clamp (by omega), hf k hk, hf (k + 1) (by omega), nI_eq (by omega) (by omega)]
    exact br_c (fun y => br_t rfl (f ⟨by omega, y⟩)) (fun y => br_f pe_10 (g (fun w => y w.2)))
theorem yn_loop {post : Int32 → Prop} (h : pb_R n fo sp cx cy F S) {k : Nat} (hk : k < n) (hp' : post (nI (F k))) : ∀ j, j ≤ k → S j = S k → wY_next_33 post (nI k) col mo sc (nI n) ns hp nm cl sn so sm si px py sp cy pg bf ch (j + 1) (nI j) := by
  obtain ⟨h16, ok, hf, hs, hc⟩ := h
  intro j
  induction j with
  | zero =>
    intro hj e
    have i := (pb_iff ok (j := 0) (k := k) (by omega) hk).mpr e
    have l := pb_le ok 0 (by omega)
    rw [← i, show F 0 = 0 by omega] at hp'
    exact br_t (by decide) hp'
  | succ j ih =>
    intro hj e
    have i := (pb_iff ok (j := j + 1) (k := k) (by omega) hk).mpr e
    have l1 := pb_le ok k hk
    have l2 := pb_le ok j (by omega)
    refine br_f (nI_nle (by omega) (by omega)) ?_
    rw [nI_pred, nI_clamp (by omega), nI_clamp (by omega), hs j (by omega), hs k hk, nI_eq (by omega) (by omega)]
    refine ⟨vp_in_nI (by omega) (by decide), vp_in_nI (by omega) (by decide), ?_⟩
    rcases pb_pred ok (k := j + 1) (by omega) with ⟨a, b⟩ | ⟨a, b, d, c⟩
    · have b' := b (by omega)
      rw [Nat.add_sub_cancel, e] at b'
      rw [← i, a] at hp'
      exact br_f b' hp'
    · rw [Nat.add_sub_cancel, e] at d
      exact br_t d (nm_r (pa_m1 (by omega)) (ih (by omega) d))
theorem yn_next {post : Int32 → Prop} (h : pb_R n fo sp cx cy F S) {k : Nat} (hk : k < n) (hp' : post (nI (pb_nx n F k))) : wpY_next post (col, mo, sc, nI n, ns, hp, nm, cl, sn, so, sm, si, px, py, sp, cy, pg, bf, ch) (nI k) := by
  have h' := h
  obtain ⟨h16, ok, hf, hs, hc⟩ := h'
  unfold wpY_next
  rw [nI_1 k]
  by_cases z : n ≤ k + 1
  · have e : pb_nx n F k = F k := if_neg (fun y => by omega)
    rw [e] at hp'
    exact br_t (nI_le z (by omega)) ⟨k + 1, yn_loop h hk hp' k (Nat.le_refl k) rfl⟩
  · have l1 := pb_le ok k hk
    have l2 := pb_le ok (k + 1) (by omega)
    have i := pb_iff ok (j := k + 1) (k := k) (by omega) hk
    refine br_f (nI_ge (by omega) (by omega)) ⟨vp_in_nI (by omega) (by decide), vp_in_nI (by omega) (by decide), ?_⟩
    rw [nI_clamp (by omega), nI_clamp (by omega), hs k hk, hs (k + 1) (by omega), nI_eq (by omega) (by omega)]
    refine br_c (fun y => ?_) (fun y => ⟨k + 1, ?_⟩)
    · have e : pb_nx n F k = k + 1 := if_pos ⟨by omega, i.mpr y⟩
      rw [e] at hp'; exact hp'
    · have e : pb_nx n F k = F k := if_neg (fun w => y (i.mp w.2))
      rw [e] at hp'
      exact yn_loop h hk hp' k (Nat.le_refl k) rfl
theorem yc_counts {post : Int32 → Prop} {u v : Int32} (h : pb_R n fo sp cx cy F S) (hx : ∀ j, pa_in 2000 (px j)) (hy : ∀ j, pa_in 2000 (py j)) (hu : pa_in 31 u) (hv : pa_in 31 v) {k : Nat} (hk : k < n)
    (hp' : post (pc_cv (px k) (py k) (px (pb_nx n F k)) (py (pb_nx n F k)) u v)) : wpY_counts post (col, mo, sc, nI n, ns, hp, nm, cl, sn, so, sm, si, px, py, sp, cy, pg, bf, ch) (nI k) u v := by
  have h16 := h.1
  have l := pb_nxlt h.2.1 hk
  unfold wpY_counts
  refine yn_next h hk (yc_tail (vp_in_nI (by omega) (by decide)) (vp_in_nI (by omega) (by decide)) hx hy hu hv ?_)
  rw [nI_clamp (by omega), nI_clamp (by omega)]
  exact hp'
/-! the winding -/
theorem xw_48 {post : Int32 → Prop} {J : Int32 → Int32 → Prop} {u v x4 z : Int32} {k l : Nat} (ez : z = nI l) (hk : k < 16) (hl : l < 16) (hj : J (x4 + pc_cv (px k) (py k) (px l) (py l) u v) (nI (k + 1))) : wX_windingOf_48 post J u v x4 (nI k) z hp col mo sc nc ns pg bf cl nm sn so sm si px py fo cx := by
  subst ez
  unfold wX_windingOf_48
  refine xc_cross (vp_in_nI hk (by decide)) (vp_in_nI hl (by decide)) ?_
  rw [nI_clamp (by omega), nI_clamp (by omega)]
  exact nm_e (nm_r (nI_1 k) hj)
theorem xw_loop {post : Int32 → Prop} {u v : Int32} (h : pb_R n fo sp cx cy F S) (hp' : post (pc_w px py (pb_nx n F) u v n)) : ∀ d k, k + d = n → wX_windingOf_16 post u v hp col mo sc (nI n) ns pg bf cl nm sn so sm si px py fo cx (d + 1) (pc_w px py (pb_nx n F) u v k) (nI k) := by
  have h16 := h.1
  intro d
  induction d with
  | zero =>
    intro k e
    have e' : k = n := e
    subst e'
    exact br_t (nI_le (Nat.le_refl _) (by omega)) hp'
  | succ d ih =>
    intro k e
    have hk : k < n := by omega
    have l := pb_nxlt h.2.1 hk
    refine br_f (nI_ge hk (by omega)) (xe_c h hk (fun s => ?_) (fun s => ⟨vp_in_nI (by omega) (by decide), ?_⟩))
    · have e1 : pb_nx n F k = k + 1 := if_pos s
      refine xw_48 (l := k + 1) (nI_1 k) (by omega) (by omega) ?_
      have i := ih (k + 1) (by omega)
      rw [pc_w, e1] at i
      exact i
    · have e1 : pb_nx n F k = F k := if_neg s
      refine xw_48 (l := F k) ?_ (by omega) (by omega) ?_
      · rw [nI_clamp (by omega)]; exact h.2.2.1 k hk
      · have i := ih (k + 1) (by omega)
        rw [pc_w, e1] at i
        exact i
theorem xw_winding {post : Int32 → Prop} {p : Nat} (h : pb_R n fo sp cx cy F S) (hp0 : p < 256) (hp' : post (pc_w px py (pb_nx n F) (nI (2 * (p % 16) + 1)) (nI (2 * (p / 16) + 1)) n)) : wpX_windingOf post (hp, col, mo, sc, nI n, ns, pg, bf, cl, nm, sn, so, sm, si, px, py, fo, cx) (nI p) := by
  unfold wpX_windingOf
  refine xk_x hp0 (xk_y hp0 ⟨n + 1, ?_⟩)
  exact xw_loop h hp' n 0 (by omega)
theorem xw_inside {post : Int32 → Prop} {p : Nat} {rule : Int32} (h : pb_R n fo sp cx cy F S) (hp0 : p < 256) (hp' : post (pc_in (pc_w px py (pb_nx n F) (nI (2 * (p % 16) + 1)) (nI (2 * (p / 16) + 1)) n) rule)) : wpX_isInside post (hp, col, mo, sc, nI n, ns, pg, bf, cl, nm, sn, so, sm, si, px, py, fo, cx) (nI p) rule := by
  unfold wpX_isInside
  refine xw_winding h hp0 ?_
  unfold pc_in at hp'
  by_cases z : rule = 0
  · rw [if_pos z] at hp'
    exact br_t z (br_c (fun d => by rw [if_pos d] at hp'; exact hp') (fun d => by rw [if_neg d] at hp'; exact hp'))
  · rw [if_neg z] at hp'
    exact br_f z (br_c (fun d => by rw [if_pos d] at hp'; exact hp') (fun d => by rw [if_neg d] at hp'; exact hp'))
theorem yw_loop {post : Int32 → Prop} {a b : Nat} (h : pb_R n fo sp cx cy F S) (hx : ∀ j, pa_in 2000 (px j)) (hy : ∀ j, pa_in 2000 (py j)) (ha : a < 16) (hb : b < 16) (hp' : post (pc_w px py (pb_nx n F) (nI (2 * a + 1)) (nI (2 * b + 1)) n)) : ∀ d k, k + d = n → wY_windingOf_5 post (nI a) (nI b) col mo sc (nI n) ns hp nm cl sn so sm si px py sp cy pg bf ch (d + 1) (pc_w px py (pb_nx n F) (nI (2 * a + 1)) (nI (2 * b + 1)) k) (nI k) := by
  have h16 := h.1
  intro d
  induction d with
  | zero =>
    intro k e
    have e' : k = n := e
    subst e'
    exact br_t (nI_le (Nat.le_refl _) (by omega)) hp'
  | succ d ih =>
    intro k e
    have hk : k < n := by omega
    refine br_f (nI_ge hk (by omega)) ?_
    rw [ph_c, ph_c]
    exact yc_counts h hx hy (ph_31 (by omega)) (ph_31 (by omega)) hk (nm_e (nm_r (nI_1 k) (ih (k + 1) (by omega))))
theorem yw_winding {post : Int32 → Prop} {a b : Nat} (h : pb_R n fo sp cx cy F S) (hx : ∀ j, pa_in 2000 (px j)) (hy : ∀ j, pa_in 2000 (py j)) (ha : a < 16) (hb : b < 16) (hp' : post (pc_w px py (pb_nx n F) (nI (2 * a + 1)) (nI (2 * b + 1)) n)) : wpY_windingOf post (col, mo, sc, nI n, ns, hp, nm, cl, sn, so, sm, si, px, py, sp, cy, pg, bf, ch) (nI a) (nI b) := by
  unfold wpY_windingOf
  exact ⟨n + 1, yw_loop h hx hy ha hb hp' n 0 (by omega)⟩
theorem yx_loop {post : Int32 → Prop} {a b : Nat} (h : pb_R n fo sp cx cy F S) (hx : ∀ j, pa_in 2000 (px j)) (hy : ∀ j, pa_in 2000 (py j)) (ha : a < 16) (hb : b < 16) (hp' : post (pc_c px py (pb_nx n F) (nI (2 * a + 1)) (nI (2 * b + 1)) n)) : ∀ d k, k + d = n → wY_crossings_5 post (nI a) (nI b) col mo sc (nI n) ns hp nm cl sn so sm si px py sp cy pg bf ch (d + 1) (pc_c px py (pb_nx n F) (nI (2 * a + 1)) (nI (2 * b + 1)) k) (nI k) := by
  have h16 := h.1
  intro d
  induction d with
  | zero =>
    intro k e
    have e' : k = n := e
    subst e'
    exact br_t (nI_le (Nat.le_refl _) (by omega)) hp'
  | succ d ih =>
    intro k e
    have hk : k < n := by omega
    have i := ih (k + 1) (by omega)
    refine br_f (nI_ge hk (by omega)) ?_
    rw [ph_c, ph_c]
    refine yc_counts h hx hy (ph_31 (by omega)) (ph_31 (by omega)) hk (br_c (fun z => ?_) (fun z => ?_))
    · rw [pc_c, if_pos z] at i
      exact nm_r (nI_1 k) i
    · rw [pc_c, if_neg z] at i
      exact nm_e (nm_r (nI_1 k) i)
theorem yw_inside {post : Int32 → Prop} {a b : Nat} {rule : Int32} (h : pb_R n fo sp cx cy F S) (hx : ∀ j, pa_in 2000 (px j)) (hy : ∀ j, pa_in 2000 (py j)) (ha : a < 16) (hb : b < 16) (hp' : post (pc_in (pc_w px py (pb_nx n F) (nI (2 * a + 1)) (nI (2 * b + 1)) n) rule)) : wpY_isInside post (col, mo, sc, nI n, ns, hp, nm, cl, sn, so, sm, si, px, py, sp, cy, pg, bf, ch) (nI a) (nI b) rule := by
  have h16 := h.1
  unfold wpY_isInside
  unfold pc_in at hp'
  by_cases z : rule = 0
  · rw [if_pos z] at hp'
    refine br_t z (yw_winding h hx hy ha hb ?_)
    exact br_c (fun d => by rw [if_pos d] at hp'; exact hp') (fun d => by rw [if_neg d] at hp'; exact hp')
  · rw [if_neg z] at hp'
    have q := pc_par (px := px) (py := py) (nx := pb_nx n F) (u := nI (2 * a + 1)) (v := nI (2 * b + 1)) h16
    refine br_f z ?_
    unfold wpY_crossings
    refine ⟨n + 1, yx_loop h hx hy ha hb ?_ n 0 (by omega)⟩
    refine ⟨by decide, br_c (fun d => ?_) (fun d => ?_)⟩
    · rw [if_neg (fun w => q.mp w d)] at hp'; exact hp'
    · rw [if_pos (q.mpr d)] at hp'; exact hp'
/-! inside, winding -/
theorem xr_c {A B : Prop} {r : Int32} (f : ¬ (r = 0 ∨ r = 1) → A) (g : (r = 0 ∨ r = 1) → B) : wpX_isRule (fun y => (y = 0 → A) ∧ (¬ y = 0 → B)) r := by
  unfold wpX_isRule
  exact br_c (fun h => br_f pe_10 (g (Or.inl h))) (fun h => br_c (fun i => br_f pe_10 (g (Or.inr i))) (fun i => br_t rfl (f (fun z => z.elim h i))))
theorem i_vc_winding {k : Nat} {u : SX} {v : SY} (I : i_Rel k u v) (hk : k + 4 ≤ 2048) (v1 : Int32) (v2 : Int32) : wpX_winding (fun r => wpY_winding (fun r' => r' = r ∧ i_Rel (k + 4) u v) v v1 v2) u v1 v2 := by
  obtain ⟨hp, col, mo, c, n, pg, bf, cl, nm, sn, so, sm, si, px, py, fo, cx, sp, cy, ch, F, S, rfl, rfl, h⟩ := I
  unfold wpX_winding
  refine xp_c (fun f => ?_) (fun f => ?_)
  · show wpY_winding _ _ _ _
    unfold wpY_winding
    exact yp_c (fun _ => ⟨rfl, pe_mk h⟩) (fun z => absurd z f)
  · obtain ⟨a, b, ha, hb, rfl, rfl⟩ := pg_of f
    rw [pg_ix]
    refine xw_winding h.2.2.2.2.2 (by omega) ?_
    rw [show (b * 16 + a) % 16 = a by omega, show (b * 16 + a) / 16 = b by omega]
    show wpY_winding _ _ _ _
    unfold wpY_winding
    exact yp_c (fun z => absurd f z) (fun _ => yw_winding h.2.2.2.2.2 h.2.2.2.1 h.2.2.2.2.1 ha hb ⟨rfl, pe_mk h⟩)
theorem i_vc_inside {k : Nat} {u : SX} {v : SY} (I : i_Rel k u v) (hk : k + 4 ≤ 2048) (v1 : Int32) (v2 : Int32) (v3 : Int32) : wpX_inside (fun r => wpY_inside (fun r' => r' = r ∧ i_Rel (k + 4) u v) v v1 v2 v3) u v1 v2 v3 := by
  obtain ⟨hp, col, mo, c, n, pg, bf, cl, nm, sn, so, sm, si, px, py, fo, cx, sp, cy, ch, F, S, rfl, rfl, h⟩ := I
  unfold wpX_inside
  refine xp_c (fun f => ?_) (fun f => xr_c (fun g => ?_) (fun g => ?_))
  · show wpY_inside _ _ _ _ _
    unfold wpY_inside
    exact yp_c (fun _ => ⟨rfl, pe_mk h⟩) (fun z => absurd z f)
  · show wpY_inside _ _ _ _ _
    unfold wpY_inside
    exact yp_c (fun z => absurd f z) (fun _ => br_f (fun z => g (Or.inl z)) (br_f (fun z => g (Or.inr z)) ⟨rfl, pe_mk h⟩))
  · obtain ⟨a, b, ha, hb, rfl, rfl⟩ := pg_of f
    rw [pg_ix]
    refine xw_inside h.2.2.2.2.2 (by omega) ?_
    rw [show (b * 16 + a) % 16 = a by omega, show (b * 16 + a) / 16 = b by omega]
    have Y : ∀ post : Int32 → Prop, post (pc_in (pc_w px py (pb_nx n F) (nI (2 * a + 1)) (nI (2 * b + 1)) n) v3) → wY_inside_20 (fun r' => post r') (nI a) (nI b) v3 col mo (nI c) (nI n) (nI (pb_s n S)) hp nm cl sn so sm si px py sp cy pg bf ch := by
      intro post hpo
      unfold wY_inside_20
      refine yw_inside h.2.2.2.2.2 h.2.2.2.1 h.2.2.2.2.1 ha hb ?_
      rcases pc_in01 (pc_w px py (pb_nx n F) (nI (2 * a + 1)) (nI (2 * b + 1)) n) v3 with e | e <;> rw [e] at hpo ⊢
      · exact br_t rfl hpo
      · exact br_f pe_10 hpo
    have G : ∀ r : Int32, r = pc_in (pc_w px py (pb_nx n F) (nI (2 * a + 1)) (nI (2 * b + 1)) n) v3 → wpY_inside (fun r' => r' = r ∧ i_Rel (k + 4) (hp, col, mo, nI c, nI n, nI (pb_s n S), pg, bf, cl, nm, sn, so, sm, si, px, py, fo, cx) (col, mo, nI c, nI n, nI (pb_s n S), hp, nm, cl, sn, so, sm, si, px, py, sp, cy, pg, bf, ch)) (col, mo, nI c, nI n, nI (pb_s n S), hp, nm, cl, sn, so, sm, si, px, py, sp, cy, pg, bf, ch) (nI a) (nI b) v3 := by
      intro r hr
      unfold wpY_inside
      refine yp_c (fun z => absurd f z) (fun _ => ?_)
      rcases g with g | g
      · exact br_t g (Y _ ⟨hr.symm, pe_mk h⟩)
      · exact br_f (by rw [g]; decide) (br_t g (Y _ ⟨hr.symm, pe_mk h⟩))
    rcases pc_in01 (pc_w px py (pb_nx n F) (nI (2 * a + 1)) (nI (2 * b + 1)) n) v3 with e | e
    · rw [e] at G ⊢
      exact br_t rfl (G 0 rfl)
    · rw [e] at G ⊢
      exact br_f pe_10 (G 1 rfl)
end PPwind
end
section
section PPnear
variable {hp col mo sc nc ns : Int32} {pg bf cl nm sn so sm si px py fo cx sp cy ch : Nat → Int32} {n : Nat} {F S : Nat → Nat}
/-! nearness: 64 bits against whole numbers -/
theorem pi_l {PX PY DX DY R : Int} (a1 : -2031 ≤ PX) (a2 : PX ≤ 2031) (b1 : -2031 ≤ PY) (b2 : PY ≤ 2031) (c1 : -4000 ≤ DX) (c2 : DX ≤ 4000) (d1 : -4000 ≤ DY) (d2 : DY ≤ 4000) (r1 : 0 ≤ R) (r2 : R ≤ 1024) :
    (0 < Int64.ofInt PX * Int64.ofInt DX + Int64.ofInt PY * Int64.ofInt DY ↔ 0 < PX * DX + PY * DY) ∧
    (Int64.ofInt PX * Int64.ofInt DX + Int64.ofInt PY * Int64.ofInt DY < Int64.ofInt DX * Int64.ofInt DX + Int64.ofInt DY * Int64.ofInt DY ↔ PX * DX + PY * DY < DX * DX + DY * DY) ∧
    (Int64.ofInt R * (Int64.ofInt DX * Int64.ofInt DX + Int64.ofInt DY * Int64.ofInt DY) < (Int64.ofInt PX * Int64.ofInt DY - Int64.ofInt PY * Int64.ofInt DX) * (Int64.ofInt PX * Int64.ofInt DY - Int64.ofInt PY * Int64.ofInt DX) ↔ R * (DX * DX + DY * DY) < (PX * DY - PY * DX) * (PX * DY - PY * DX)) ∧
    (Int64.ofInt R < (Int64.ofInt PX - Int64.ofInt DX) * (Int64.ofInt PX - Int64.ofInt DX) + (Int64.ofInt PY - Int64.ofInt DY) * (Int64.ofInt PY - Int64.ofInt DY) ↔ R < (PX - DX) * (PX - DX) + (PY - DY) * (PY - DY)) ∧
    (Int64.ofInt R < Int64.ofInt PX * Int64.ofInt PX + Int64.ofInt PY * Int64.ofInt PY ↔ R < PX * PX + PY * PY) := by
  have e0 : (0 : Int64) = Int64.ofInt 0 := rfl
  simp only [e0, ← Int64.ofInt_mul, ← Int64.ofInt_add, ← Int64.ofInt_sub]
  have m1 := pa_mb (a := PX) (b := DX) (A := 2031) (B := 4000) (by omega) (by omega) (by omega) (by omega)
  have m2 := pa_mb (a := PY) (b := DY) (A := 2031) (B := 4000) (by omega) (by omega) (by omega) (by omega)
  have m3 := pa_mb (a := DX) (b := DX) (A := 4000) (B := 4000) (by omega) (by omega) (by omega) (by omega)
  have m4 := pa_mb (a := DY) (b := DY) (A := 4000) (B := 4000) (by omega) (by omega) (by omega) (by omega)
  have m5 := pa_mb (a := PX) (b := DY) (A := 2031) (B := 4000) (by omega) (by omega) (by omega) (by omega)
  have m6 := pa_mb (a := PY) (b := DX) (A := 2031) (B := 4000) (by omega) (by omega) (by omega) (by omega)
  have m7 := pa_mb (a := PX * DY - PY * DX) (b := PX * DY - PY * DX) (A := 16248000) (B := 16248000) (by omega) (by omega) (by omega) (by omega)
  have m8 := pa_mb (a := PX - DX) (b := PX - DX) (A := 6031) (B := 6031) (by omega) (by omega) (by omega) (by omega)
  have m9 := pa_mb (a := PY - DY) (b := PY - DY) (A := 6031) (B := 6031) (by omega) (by omega) (by omega) (by omega)
  have mA := pa_mb (a := PX) (b := PX) (A := 2031) (B := 2031) (by omega) (by omega) (by omega) (by omega)
  have mB := pa_mb (a := PY) (b := PY) (A := 2031) (B := 2031) (by omega) (by omega) (by omega) (by omega)
  have mC := pa_mb (a := R) (b := DX * DX + DY * DY) (A := 1024) (B := 32000000) (by omega) (by omega) (by omega) (by omega)
  generalize (PX * DY - PY * DX) * (PX * DY - PY * DX) = t1 at *
  generalize (PX - DX) * (PX - DX) = t2 at *
  generalize (PY - DY) * (PY - DY) = t3 at *
  generalize R * (DX * DX + DY * DY) = t4 at *
  generalize PX * DX = t5 at *
  generalize PY * DY = t6 at *
  generalize DX * DX = t7 at *
  generalize DY * DY = t8 at *
  generalize PX * PX = t9 at *
  generalize PY * PY = t10 at *
  refine ⟨pa_llt ?_ ?_ ?_ ?_, pa_llt ?_ ?_ ?_ ?_, pa_llt ?_ ?_ ?_ ?_, pa_llt ?_ ?_ ?_ ?_, pa_llt ?_ ?_ ?_ ?_⟩ <;> omega
theorem pi_w {w : Int32} (h0 : 0 ≤ w.toInt) (h1 : w.toInt ≤ 32) : w.toInt64 * w.toInt64 = Int64.ofInt (w.toInt * w.toInt) ∧ 0 ≤ w.toInt * w.toInt ∧ w.toInt * w.toInt ≤ 1024 := by
  have m := pa_mb (a := w.toInt) (b := w.toInt) (A := 32) (B := 32) (by omega) (by omega) (by omega) (by omega)
  refine ⟨?_, pa_sq _, by omega⟩
  rw [Int64.ofInt_mul, Int64.ofInt_int32ToInt]
theorem xn_seg {post : Int32 → Prop} {x1 x2 u v w : Int32} (i1 : vp_in x1 16) (i2 : vp_in x2 16) (hx : ∀ j, pa_in 2000 (px j)) (hy : ∀ j, pa_in 2000 (py j)) (hu : pa_in 31 u) (hv : pa_in 31 v) (w0 : 0 ≤ w.toInt) (w1 : w.toInt ≤ 32)
    (h1 : pc_ns px py u v w x1.toNatClampNeg x2.toNatClampNeg → post 1) (h0 : ¬ pc_ns px py u v w x1.toNatClampNeg x2.toNatClampNeg → post 0) : wpX_isNearSegment post (hp, col, mo, sc, nc, ns, pg, bf, cl, nm, sn, so, sm, si, px, py, fo, cx) x1 x2 u v w := by
  obtain ⟨e1, e2⟩ := hu
  obtain ⟨f1, f2⟩ := hv
  obtain ⟨a1, a2⟩ := hx x1.toNatClampNeg
  obtain ⟨b1, b2⟩ := hy x1.toNatClampNeg
  obtain ⟨c1, c2⟩ := hx x2.toNatClampNeg
  obtain ⟨d1, d2⟩ := hy x2.toNatClampNeg
  obtain ⟨ew, r1, r2⟩ := pi_w w0 w1
  unfold wpX_isNearSegment
  refine ⟨i2, i1, nm_r (pa_s (by omega) (by omega) (by omega) (by omega)) ⟨i2, i1, nm_r (pa_s (by omega) (by omega) (by omega) (by omega)) ⟨i1, nm_r (pa_s (by omega) (by omega) (by omega) (by omega)) ⟨i1, nm_r (pa_s (by omega) (by omega) (by omega) (by omega)) (nm_r ew (nm_e (nm_e ?_)))⟩⟩⟩⟩
  unfold pc_ns pa_nr at h1 h0
  obtain ⟨k1, k2, k3, k4, k5⟩ := pi_l (PX := u.toInt - (px x1.toNatClampNeg).toInt) (PY := v.toInt - (py x1.toNatClampNeg).toInt) (DX := (px x2.toNatClampNeg).toInt - (px x1.toNatClampNeg).toInt) (DY := (py x2.toNatClampNeg).toInt - (py x1.toNatClampNeg).toInt) (R := w.toInt * w.toInt) (by omega) (by omega) (by omega) (by omega) (by omega) (by omega) (by omega) (by omega) r1 r2
  refine br_c (fun a => ?_) (fun a => ?_)
  · rw [if_neg (Int.not_le.mpr (k1.mp a))] at h1 h0
    refine br_c (fun b => nm_e ?_) (fun b => ?_)
    · rw [if_neg (Int.not_le.mpr (k2.mp b))] at h1 h0
      exact br_c (fun d => h0 (Int.not_le.mpr (k3.mp d))) (fun d => h1 (Int.not_lt.mp (fun z => d (k3.mpr z))))
    · rw [if_pos (Int.not_lt.mp (fun z => b (k2.mpr z)))] at h1 h0
      exact br_c (fun d => h0 (Int.not_le.mpr (k4.mp d))) (fun d => h1 (Int.not_lt.mp (fun z => d (k4.mpr z))))
  · rw [if_pos (Int.not_lt.mp (fun z => a (k1.mpr z)))] at h1 h0
    exact br_c (fun d => h0 (Int.not_le.mpr (k5.mp d))) (fun d => h1 (Int.not_lt.mp (fun z => d (k5.mpr z))))
theorem yn_sq {post : Int64 → Prop} {x1 u v : Int32} {e : Int64} (i1 : vp_in x1 16) (he : (px x1.toNatClampNeg - u).toInt64 * (px x1.toNatClampNeg - u).toInt64 + (py x1.toNatClampNeg - v).toInt64 * (py x1.toNatClampNeg - v).toInt64 = e) (h : post e) : wpY_square post (col, mo, sc, nc, ns, hp, nm, cl, sn, so, sm, si, px, py, sp, cy, pg, bf, ch) x1 u v := by
  subst he
  unfold wpY_square
  exact ⟨i1, nm_e ⟨i1, nm_e h⟩⟩
theorem yn_to {post : Int32 → Prop} {x1 x2 u v w : Int32} (i1 : vp_in x1 16) (i2 : vp_in x2 16) (hx : ∀ j, pa_in 2000 (px j)) (hy : ∀ j, pa_in 2000 (py j)) (hu : pa_in 31 u) (hv : pa_in 31 v) (w0 : 0 ≤ w.toInt) (w1 : w.toInt ≤ 32)
    (h1 : pc_ns px py u v w x1.toNatClampNeg x2.toNatClampNeg → post 1) (h0 : ¬ pc_ns px py u v w x1.toNatClampNeg x2.toNatClampNeg → post 0) : wpY_isNearTo post (col, mo, sc, nc, ns, hp, nm, cl, sn, so, sm, si, px, py, sp, cy, pg, bf, ch) x1 x2 u v (w.toInt64 * w.toInt64) := by
  obtain ⟨e1, e2⟩ := hu
  obtain ⟨f1, f2⟩ := hv
  obtain ⟨a1, a2⟩ := hx x1.toNatClampNeg
  obtain ⟨b1, b2⟩ := hy x1.toNatClampNeg
  obtain ⟨c1, c2⟩ := hx x2.toNatClampNeg
  obtain ⟨d1, d2⟩ := hy x2.toNatClampNeg
  obtain ⟨ew, r1, r2⟩ := pi_w w0 w1
  have sx : (u - px x1.toNatClampNeg).toInt64 = Int64.ofInt (u.toInt - (px x1.toNatClampNeg).toInt) := pa_s (by omega) (by omega) (by omega) (by omega)
  have sy : (v - py x1.toNatClampNeg).toInt64 = Int64.ofInt (v.toInt - (py x1.toNatClampNeg).toInt) := pa_s (by omega) (by omega) (by omega) (by omega)
  unfold wpY_isNearTo
  rw [ew]
  refine ⟨i2, i1, nm_r (pa_s (by omega) (by omega) (by omega) (by omega)) ⟨i2, i1, nm_r (pa_s (by omega) (by omega) (by omega) (by omega)) ⟨i1, i1, nm_r (e' := Int64.ofInt (u.toInt - (px x1.toNatClampNeg).toInt) * Int64.ofInt ((px x2.toNatClampNeg).toInt - (px x1.toNatClampNeg).toInt) + Int64.ofInt (v.toInt - (py x1.toNatClampNeg).toInt) * Int64.ofInt ((py x2.toNatClampNeg).toInt - (py x1.toNatClampNeg).toInt)) (by rw [sx, sy]) (nm_e ?_)⟩⟩⟩
  unfold pc_ns pa_nr at h1 h0
  obtain ⟨k1, k2, k3, k4, k5⟩ := pi_l (PX := u.toInt - (px x1.toNatClampNeg).toInt) (PY := v.toInt - (py x1.toNatClampNeg).toInt) (DX := (px x2.toNatClampNeg).toInt - (px x1.toNatClampNeg).toInt) (DY := (py x2.toNatClampNeg).toInt - (py x1.toNatClampNeg).toInt) (R := w.toInt * w.toInt) (by omega) (by omega) (by omega) (by omega) (by omega) (by omega) (by omega) (by omega) r1 r2
  refine br_c (fun a => ?_) (fun a => ?_)
  · rw [if_neg (Int.not_le.mpr (k1.mp a))] at h1 h0
    refine br_c (fun b => ⟨i1, i1, nm_r (e' := Int64.ofInt (u.toInt - (px x1.toNatClampNeg).toInt) * Int64.ofInt ((py x2.toNatClampNeg).toInt - (py x1.toNatClampNeg).toInt) - Int64.ofInt (v.toInt - (py x1.toNatClampNeg).toInt) * Int64.ofInt ((px x2.toNatClampNeg).toInt - (px x1.toNatClampNeg).toInt)) (by rw [sx, sy]) ?_⟩) (fun b => ?_)
    · rw [if_neg (Int.not_le.mpr (k2.mp b))] at h1 h0
      exact br_c (fun d => h0 (Int.not_le.mpr (k3.mp d))) (fun d => h1 (Int.not_lt.mp (fun z => d (k3.mpr z))))
    · rw [if_pos (Int.not_lt.mp (fun z => b (k2.mpr z)))] at h1 h0
      refine yn_sq i2 (e := (Int64.ofInt (u.toInt - (px x1.toNatClampNeg).toInt) - Int64.ofInt ((px x2.toNatClampNeg).toInt - (px x1.toNatClampNeg).toInt)) * (Int64.ofInt (u.toInt - (px x1.toNatClampNeg).toInt) - Int64.ofInt ((px x2.toNatClampNeg).toInt - (px x1.toNatClampNeg).toInt)) + (Int64.ofInt (v.toInt - (py x1.toNatClampNeg).toInt) - Int64.ofInt ((py x2.toNatClampNeg).toInt - (py x1.toNatClampNeg).toInt)) * (Int64.ofInt (v.toInt - (py x1.toNatClampNeg).toInt) - Int64.ofInt ((py x2.toNatClampNeg).toInt - (py x1.toNatClampNeg).toInt))) ?_ ?_
      · rw [pa_s (by omega) (by omega) (by omega) (by omega), pa_s (by omega) (by omega) (by omega) (by omega)]
        simp only [← Int64.ofInt_mul, ← Int64.ofInt_add, ← Int64.ofInt_sub]
        congr 1
        grind
      · exact br_c (fun d => h0 (Int.not_le.mpr (k4.mp d))) (fun d => h1 (Int.not_lt.mp (fun z => d (k4.mpr z))))
  · rw [if_pos (Int.not_lt.mp (fun z => a (k1.mpr z)))] at h1 h0
    refine yn_sq i1 (e := Int64.ofInt (u.toInt - (px x1.toNatClampNeg).toInt) * Int64.ofInt (u.toInt - (px x1.toNatClampNeg).toInt) + Int64.ofInt (v.toInt - (py x1.toNatClampNeg).toInt) * Int64.ofInt (v.toInt - (py x1.toNatClampNeg).toInt)) ?_ ?_
    · rw [pa_s (by omega) (by omega) (by omega) (by omega), pa_s (by omega) (by omega) (by omega) (by omega)]
      simp only [← Int64.ofInt_mul, ← Int64.ofInt_add]
      congr 1
      grind
    · exact br_c (fun d => h0 (Int.not_le.mpr (k5.mp d))) (fun d => h1 (Int.not_lt.mp (fun z => d (k5.mpr z))))
noncomputable def pi_v (P : Prop) : Int32 := @ite _ P (Classical.propDecidable P) 1 0
theorem pi_t {P : Prop} (h : P) : pi_v P = 1 := by unfold pi_v; exact if_pos h
theorem pi_f {P : Prop} (h : ¬ P) : pi_v P = 0 := by unfold pi_v; exact if_neg h
theorem pi_01 (P : Prop) : pi_v P = 0 ∨ pi_v P = 1 := by
  by_cases h : P
  · exact Or.inr (pi_t h)
  · exact Or.inl (pi_f h)
/-! X's walk over the segments -/
theorem xn_end {post : Int32 → Prop} (h : pb_R n fo sp cx cy F S) {k : Nat} (hk : k < n) (hp' : post (nI (pc_se n F cx k))) : wpX_strokeEnd post (hp, col, mo, sc, nI n, ns, pg, bf, cl, nm, sn, so, sm, si, px, py, fo, cx) (nI k) := by
  have h16 := h.1
  have hf := h.2.2.1
  have l := pb_le h.2.1 k hk
  unfold wpX_strokeEnd
  refine xe_c h hk (fun s => ?_) (fun s => ?_)
  · have e : pc_se n F cx k = k + 1 := if_pos s
    rw [e] at hp'
    rw [nI_1 k]; exact hp'
  · rw [nI_clamp (by omega), hf k hk, nI_clamp (by omega)]
    refine ⟨vp_in_nI (by omega) (by decide), vp_in_nI (by omega) (by decide), br_c (fun z => ?_) (fun z => ⟨vp_in_nI (by omega) (by decide), ?_⟩)⟩
    · have e : pc_se n F cx k = k := by unfold pc_se; rw [if_neg s, if_pos z]
      rw [e] at hp'; exact hp'
    · have e : pc_se n F cx k = F k := by unfold pc_se; rw [if_neg s, if_neg z]
      rw [e] at hp'; exact hp'
theorem xn_loop {post : Int32 → Prop} {u v w : Int32} (h : pb_R n fo sp cx cy F S) (hx : ∀ j, pa_in 2000 (px j)) (hy : ∀ j, pa_in 2000 (py j)) (hu : pa_in 31 u) (hv : pa_in 31 v) (w0 : 0 ≤ w.toInt) (w1 : w.toInt ≤ 32)
    (h1 : (∃ k, k < n ∧ pc_ns px py u v w k (pc_se n F cx k)) → post 1) (h0 : ¬ (∃ k, k < n ∧ pc_ns px py u v w k (pc_se n F cx k)) → post 0) :
    ∀ d k, k + d = n → (∀ j, j < k → ¬ pc_ns px py u v w j (pc_se n F cx j)) → wX_isNear_14 post w u v hp col mo sc (nI n) ns pg bf cl nm sn so sm si px py fo cx (d + 1) (nI k) := by
  have h16 := h.1
  intro d
  induction d with
  | zero =>
    intro k e hall
    have e' : k = n := e
    subst e'
    exact br_t (nI_le (Nat.le_refl _) (by omega)) (h0 (fun z => by obtain ⟨j, hj, hn⟩ := z; exact hall j hj hn))
  | succ d ih =>
    intro k e hall
    have hk : k < n := by omega
    have l := pc_selt (cx := cx) h.2.1 hk
    refine br_f (nI_ge hk (by omega)) (xn_end h hk ?_)
    refine xn_seg (vp_in_nI (by omega) (by decide)) (vp_in_nI (by omega) (by decide)) hx hy hu hv w0 w1 (fun z => ?_) (fun z => ?_)
    · rw [nI_clamp (by omega), nI_clamp (by omega)] at z
      exact br_f pe_10 (h1 ⟨k, hk, z⟩)
    · rw [nI_clamp (by omega), nI_clamp (by omega)] at z
      refine br_t rfl (nm_r (nI_1 k) (ih (k + 1) (by omega) (fun j hj => ?_)))
      by_cases c : j = k
      · subst c; exact z
      · exact hall j (by omega)
theorem xn_near {post : Int32 → Prop} {p : Nat} {w : Int32} (h : pb_R n fo sp cx cy F S) (hx : ∀ j, pa_in 2000 (px j)) (hy : ∀ j, pa_in 2000 (py j)) (w0 : 0 ≤ w.toInt) (w1 : w.toInt ≤ 32) (hp0 : p < 256)
    (hp' : post (pi_v (∃ k, k < n ∧ pc_ns px py (nI (2 * (p % 16) + 1)) (nI (2 * (p / 16) + 1)) w k (pc_se n F cx k)))) : wpX_isNear post (hp, col, mo, sc, nI n, ns, pg, bf, cl, nm, sn, so, sm, si, px, py, fo, cx) (nI p) w := by
  unfold wpX_isNear
  refine xk_x hp0 (xk_y hp0 ⟨n + 1, ?_⟩)
  refine xn_loop h hx hy (ph_31 (by omega)) (ph_31 (by omega)) w0 w1 (fun z => ?_) (fun z => ?_) n 0 (by omega) (fun j hj => absurd hj (Nat.not_lt_zero j))
  · rw [pi_t z] at hp'; exact hp'
  · rw [pi_f z] at hp'; exact hp'
/-! Y's walk -/
theorem yn_61 {post : Int32 → Prop} {J : Int32 → Prop} {a b : Nat} {w : Int32} {k l : Nat} (hx : ∀ j, pa_in 2000 (px j)) (hy : ∀ j, pa_in 2000 (py j)) (ha : a < 16) (hb : b < 16) (w0 : 0 ≤ w.toInt) (w1 : w.toInt ≤ 32) (hk : k < 16) (hl : l < 16)
    (h1 : pc_ns px py (nI (2 * a + 1)) (nI (2 * b + 1)) w k l → post 1) (h0 : ¬ pc_ns px py (nI (2 * a + 1)) (nI (2 * b + 1)) w k l → J (nI (k + 1))) : wY_isNear_61 post J (nI a) (nI b) w (nI k) (nI l) col mo sc nc ns hp nm cl sn so sm si px py sp cy pg bf ch := by
  unfold wY_isNear_61 wY_isNear_66
  refine br_f pe_10 ?_
  rw [ph_c, ph_c]
  refine yn_to (vp_in_nI hk (by decide)) (vp_in_nI hl (by decide)) hx hy (ph_31 (by omega)) (ph_31 (by omega)) w0 w1 (fun z => ?_) (fun z => ?_)
  · rw [nI_clamp (by omega), nI_clamp (by omega)] at z
    exact br_f pe_10 (h1 z)
  · rw [nI_clamp (by omega), nI_clamp (by omega)] at z
    exact br_t rfl (nm_r (nI_1 k) (h0 z))
theorem yn_step {post : Int32 → Prop} {J : Int32 → Prop} {a b : Nat} {w : Int32} {k : Nat} (h : pb_R n fo sp cx cy F S) (hx : ∀ j, pa_in 2000 (px j)) (hy : ∀ j, pa_in 2000 (py j)) (ha : a < 16) (hb : b < 16) (w0 : 0 ≤ w.toInt) (w1 : w.toInt ≤ 32) (hk : k < n)
    (h1 : pc_dr n F S cy k → pc_ns px py (nI (2 * a + 1)) (nI (2 * b + 1)) w k (pb_nx n F k) → post 1) (h0 : ¬ (pc_dr n F S cy k ∧ pc_ns px py (nI (2 * a + 1)) (nI (2 * b + 1)) w k (pb_nx n F k)) → J (nI (k + 1))) :
    (nI k < nI (pb_nx n F k) → wY_isNear_32 post J (nI a) (nI b) w (nI k) (nI (pb_nx n F k)) 0 col mo sc (nI n) ns hp nm cl sn so sm si px py sp cy pg bf ch) ∧ (¬ nI k < nI (pb_nx n F k) → wY_isNear_32 post J (nI a) (nI b) w (nI k) (nI (pb_nx n F k)) 1 col mo sc (nI n) ns hp nm cl sn so sm si px py sp cy pg bf ch) := by
  have h16 := h.1
  have hs := h.2.2.2.1
  have l := pb_nxlt h.2.1 hk
  have l2 := pb_le h.2.1 k hk
  rw [nI_ltI (by omega) (by omega)]
  refine br_c (fun z => ?_) (fun z => ?_)
  · have dr : pc_dr n F S cy k := Or.inl z
    unfold wY_isNear_32
    exact br_t rfl (yn_61 hx hy ha hb w0 w1 (by omega) (by omega) (fun y => h1 dr y) (fun y => h0 (fun q => y q.2)))
  · unfold wY_isNear_32
    refine br_f pe_10 ?_
    rw [nI_clamp (by omega), hs k hk, nI_clamp (by omega), nI_eq (by omega) (by omega)]
    refine ⟨vp_in_nI (by omega) (by decide), vp_in_nI (by omega) (by decide), br_c (fun c => br_c (fun d => ?_) (fun d => ?_)) (fun c => ?_)⟩
    · have dr : pc_dr n F S cy k := Or.inr (Or.inr d)
      exact yn_61 hx hy ha hb w0 w1 (by omega) (by omega) (fun y => h1 dr y) (fun y => h0 (fun q => y q.2))
    · have dr : ¬ pc_dr n F S cy k := fun q => q.elim z (fun q => q.elim (fun q => q c) d)
      unfold wY_isNear_66
      exact br_t rfl (nm_r (nI_1 k) (h0 (fun q => dr q.1)))
    · have dr : pc_dr n F S cy k := Or.inr (Or.inl c)
      exact yn_61 hx hy ha hb w0 w1 (by omega) (by omega) (fun y => h1 dr y) (fun y => h0 (fun q => y q.2))
theorem yn_lp {post : Int32 → Prop} {a b : Nat} {w : Int32} (h : pb_R n fo sp cx cy F S) (hx : ∀ j, pa_in 2000 (px j)) (hy : ∀ j, pa_in 2000 (py j)) (ha : a < 16) (hb : b < 16) (w0 : 0 ≤ w.toInt) (w1 : w.toInt ≤ 32)
    (h1 : (∃ k, k < n ∧ pc_dr n F S cy k ∧ pc_ns px py (nI (2 * a + 1)) (nI (2 * b + 1)) w k (pb_nx n F k)) → post 1) (h0 : ¬ (∃ k, k < n ∧ pc_dr n F S cy k ∧ pc_ns px py (nI (2 * a + 1)) (nI (2 * b + 1)) w k (pb_nx n F k)) → post 0) :
    ∀ d k, k + d = n → (∀ j, j < k → ¬ (pc_dr n F S cy j ∧ pc_ns px py (nI (2 * a + 1)) (nI (2 * b + 1)) w j (pb_nx n F j))) → wY_isNear_3 post (nI a) (nI b) w col mo sc (nI n) ns hp nm cl sn so sm si px py sp cy pg bf ch (d + 1) (nI k) := by
  have h16 := h.1
  intro d
  induction d with
  | zero =>
    intro k e hall
    have e' : k = n := e
    subst e'
    exact br_t (nI_le (Nat.le_refl _) (by omega)) (h0 (fun z => by obtain ⟨j, hj, hn⟩ := z; exact hall j hj hn))
  | succ d ih =>
    intro k e hall
    have hk : k < n := by omega
    refine br_f (nI_ge hk (by omega)) (yn_next h hk ?_)
    refine yn_step h hx hy ha hb w0 w1 hk (fun y z => h1 ⟨k, hk, y, z⟩) (fun z => ih (k + 1) (by omega) (fun j hj => ?_))
    by_cases c : j = k
    · subst c; exact z
    · exact hall j (by omega)
theorem yn_near {post : Int32 → Prop} {a b : Nat} {w : Int32} (h : pb_R n fo sp cx cy F S) (hx : ∀ j, pa_in 2000 (px j)) (hy : ∀ j, pa_in 2000 (py j)) (w0 : 0 ≤ w.toInt) (w1 : w.toInt ≤ 32) (ha : a < 16) (hb : b < 16)
    (hp' : post (pi_v (∃ k, k < n ∧ pc_ns px py (nI (2 * a + 1)) (nI (2 * b + 1)) w k (pc_se n F cx k)))) : wpY_isNear post (col, mo, sc, nI n, ns, hp, nm, cl, sn, so, sm, si, px, py, sp, cy, pg, bf, ch) (nI a) (nI b) w := by
  rw [propext (pc_near h px py (nI (2 * a + 1)) (nI (2 * b + 1)) w)] at hp'
  unfold wpY_isNear
  refine ⟨n + 1, yn_lp h hx hy ha hb w0 w1 (fun z => ?_) (fun z => ?_) n 0 (by omega) (fun j hj => absurd hj (Nat.not_lt_zero j))⟩
  · rw [pi_t z] at hp'; exact hp'
  · rw [pi_f z] at hp'; exact hp'
end PPnear
end
section
section PPpaint
variable {hp col mo sc nc ns : Int32} {pg bf cl nm sn so sm si px py fo cx sp cy ch : Nat → Int32} {n : Nat} {F S : Nat → Nat}
/-! painting -/
theorem xp_keep {post : SX → Prop} (h : post (1, col, mo, sc, nc, ns, pg, pd_it 0 pg bf 256, cl, nm, sn, so, sm, si, px, py, fo, cx)) : wpX_keepPage post (hp, col, mo, sc, nc, ns, pg, bf, cl, nm, sn, so, sm, si, px, py, fo, cx) := by
  unfold wpX_keepPage
  refine loop_0 (fun n i s => wX_keepPage_2 post hp col mo sc nc ns n (nI i) pg s cl nm sn so sm si px py fo cx) (fun i s => s = pd_it 0 pg bf i) 256 bf rfl ?_ ?_
  · intro n s hs
    subst hs
    exact br_t (nI_le (a := 256) (b := 256) (by decide) (by decide)) h
  · intro n i s hi hs ih
    subst hs
    have hin : vp_in (nI i) 256 := vp_in_nI hi (by decide)
    refine br_f (nI_ge (b := 256) hi (by decide)) ⟨hin, hin, nm_r (pe_u (y := pg i) (by omega) (pe_g (by omega))) (nm_r (nI_1 i) (ih _ ?_))⟩
    rw [pd_itS, Nat.zero_add]
theorem xp_mix {post : Int32 → Prop} {old : Int32} (h : post (pd_mx col mo old)) : wpX_mixed post (hp, col, mo, sc, nc, ns, pg, bf, cl, nm, sn, so, sm, si, px, py, fo, cx) old := by
  unfold wpX_mixed
  unfold pd_mx at h
  by_cases a : mo = 1
  · rw [if_pos a] at h
    exact br_t a h
  · rw [if_neg a] at h
    refine br_f a ?_
    by_cases b : mo = 2
    · refine br_t b (br_c (fun c => ?_) (fun c => ?_))
      · rw [if_neg (fun z => z.2 c)] at h; exact h
      · rw [if_pos ⟨b, c⟩] at h; exact h
    · rw [if_neg (fun z => b z.1)] at h
      exact br_f b h
theorem yp_mix {post : Int32 → Prop} {old : Int32} (m : pe_mo mo) (h : post (pd_mx col mo old)) : wpY_newColour post (col, mo, sc, nc, ns, hp, nm, cl, sn, so, sm, si, px, py, sp, cy, pg, bf, ch) old := by
  unfold wpY_newColour
  unfold pd_mx at h
  rcases m with m | m | m <;> subst m
  · rw [if_neg (by decide), if_neg (fun z => absurd z.1 (by decide))] at h
    exact br_t rfl h
  · rw [if_pos rfl] at h
    exact br_f pe_10 (br_t rfl h)
  · rw [if_neg (by decide)] at h
    refine br_f (by decide) (br_f (by decide) (br_c (fun c => ?_) (fun c => ?_)))
    · rw [if_neg (fun z => z.2 c)] at h; exact h
    · rw [if_pos ⟨rfl, c⟩] at h; exact h
theorem xp_pix {post : Int32 → SX → Prop} {i : Nat} (hi : i < 256) (h1 : cl i = 0 → post 0 (hp, col, mo, sc, nc, ns, pg, bf, cl, nm, sn, so, sm, si, px, py, fo, cx)) (h2 : ¬ cl i = 0 → pd_mx col mo (pg i) = pg i → post 0 (hp, col, mo, sc, nc, ns, upd pg i (pd_mx col mo (pg i)), bf, cl, nm, sn, so, sm, si, px, py, fo, cx)) (h3 : ¬ cl i = 0 → ¬ pd_mx col mo (pg i) = pg i → post 1 (hp, col, mo, sc, nc, ns, upd pg i (pd_mx col mo (pg i)), bf, cl, nm, sn, so, sm, si, px, py, fo, cx)) : wpX_paintPixel post (hp, col, mo, sc, nc, ns, pg, bf, cl, nm, sn, so, sm, si, px, py, fo, cx) (nI i) := by
  have hin : vp_in (nI i) 256 := vp_in_nI hi (by decide)
  have ec : (nI i).toNatClampNeg = i := nI_clamp (by omega)
  unfold wpX_paintPixel
  refine ⟨hin, br_c (fun z => ?_) (fun z => ⟨hin, nm_r (pe_g (c := i) (by omega)) (xp_mix ⟨hin, nm_r (pe_u (c := i) (by omega) rfl) ⟨hin, br_c (fun d => ?_) (fun d => ?_)⟩⟩)⟩)⟩
  · rw [ec] at z; exact h1 z
  · rw [ec] at z d; rw [pa_us] at d; exact h2 z d
  · rw [ec] at z d; rw [pa_us] at d; exact h3 z d
theorem yp_57 {post : Int32 → SY → Prop} {J : Int32 → Int32 → (Nat → Int32) → (Nat → Int32) → (Nat → Int32) → (Nat → Int32) → (Nat → Int32) → (Nat → Int32) → (Nat → Int32) → (Nat → Int32) → (Nat → Int32) → (Nat → Int32) → (Nat → Int32) → (Nat → Int32) → (Nat → Int32) → Prop} {x1 : Int32} {i : Nat} (hi : i < 256) (he : pg i = bf i → J x1 (nI (i + 1)) nm cl sn so sm si px py sp cy pg bf ch) (hn : ¬ pg i = bf i → J (x1 + 1) (nI (i + 1)) nm cl sn so sm si px py sp cy pg bf ch) : wY_paintChosen_57 post J x1 (nI i) col mo sc nc ns hp nm cl sn so sm si px py sp cy pg bf ch := by
  have hin : vp_in (nI i) 256 := vp_in_nI hi (by decide)
  have ec : (nI i).toNatClampNeg = i := nI_clamp (by omega)
  unfold wY_paintChosen_57
  refine ⟨hin, hin, br_c (fun z => nm_r (nI_1 i) ?_) (fun z => nm_e (nm_r (nI_1 i) ?_))⟩
  · rw [ec] at z; exact he z
  · rw [ec] at z; exact hn z
theorem yp_paint {post : Int32 → SY → Prop} (m : pe_mo mo) (h : post (pd_n (pd_dc ch cl pg col mo) 256) (col, mo, sc, nc, ns, 1, nm, cl, sn, so, sm, si, px, py, sp, cy, pd_pg ch cl pg col mo 256, pd_it 0 pg bf 256, ch)) : wpY_paintChosen post (col, mo, sc, nc, ns, hp, nm, cl, sn, so, sm, si, px, py, sp, cy, pg, bf, ch) := by
  unfold wpY_paintChosen
  refine loop_0 (σ := Int32 × (Nat → Int32) × (Nat → Int32)) (fun n i s => wY_paintChosen_4 post col mo sc nc ns hp n s.1 (nI i) nm cl sn so sm si px py sp cy s.2.1 s.2.2 ch) (fun i s => s = (pd_n (pd_dc ch cl pg col mo) i, pd_pg ch cl pg col mo i, pd_it 0 pg bf i)) 256 (0, pg, bf) rfl ?_ ?_
  · intro n s hs
    subst hs
    exact br_t (nI_le (a := 256) (b := 256) (by decide) (by decide)) h
  · intro n i s hi hs ih
    subst hs
    have hin : vp_in (nI i) 256 := vp_in_nI hi (by decide)
    have ec : (nI i).toNatClampNeg = i := nI_clamp (by omega)
    have e1 : pd_pg ch cl pg col mo i i = pg i := pd_pgH i i (Nat.le_refl i)
    have e2 : pd_it 0 pg bf (i + 1) i = pg i := by rw [pd_itS, Nat.zero_add, pa_us]
    have eb : upd (pd_it 0 pg bf i) (nI i).toNatClampNeg (pd_pg ch cl pg col mo i (nI i).toNatClampNeg) = pd_it 0 pg bf (i + 1) := by rw [ec, e1, pd_itS, Nat.zero_add]
    have K : (ch i = 0 ∨ cl i = 0) → wY_paintChosen_57 post (wY_paintChosen_4 post col mo sc nc ns hp n) (pd_n (pd_dc ch cl pg col mo) i) (nI i) col mo sc nc ns hp nm cl sn so sm si px py sp cy (pd_pg ch cl pg col mo i) (pd_it 0 pg bf (i + 1)) ch := by
      intro z
      refine yp_57 hi (fun _ => ih (pd_n (pd_dc ch cl pg col mo) i, pd_pg ch cl pg col mo i, pd_it 0 pg bf (i + 1)) ?_) (fun y => absurd (e1.trans e2.symm) y)
      rw [pd_pgK z, pd_nF (fun y => by have q := of_decide_eq_true y; exact z.elim q.1 q.2.1)]
    refine br_f (nI_ge (b := 256) hi (by decide)) ⟨hin, hin, nm_r eb ⟨hin, br_c (fun z => K (Or.inl ?_)) (fun z => ⟨hin, br_c (fun y => K (Or.inr ?_)) (fun y => ⟨hin, yp_mix m ⟨hin, nm_e ?_⟩⟩)⟩)⟩⟩
    · rw [ec] at z; exact z
    · rw [ec] at y; exact y
    · rw [ec] at z y
      show wY_paintChosen_57 post (wY_paintChosen_4 post col mo sc nc ns hp n) (pd_n (pd_dc ch cl pg col mo) i) (nI i) col mo sc nc ns hp nm cl sn so sm si px py sp cy (upd (pd_pg ch cl pg col mo i) (nI i).toNatClampNeg (pd_mx col mo (pd_pg ch cl pg col mo i (nI i).toNatClampNeg))) (pd_it 0 pg bf (i + 1)) ch
      rw [ec, e1, ← pd_pgN z y]
      have e3 : pd_pg ch cl pg col mo (i + 1) i = pd_mx col mo (pg i) := by rw [pd_pgN z y, pa_us]
      refine yp_57 hi (fun w => ih (pd_n (pd_dc ch cl pg col mo) i, pd_pg ch cl pg col mo (i + 1), pd_it 0 pg bf (i + 1)) ?_) (fun w => ih (pd_n (pd_dc ch cl pg col mo) i + 1, pd_pg ch cl pg col mo (i + 1), pd_it 0 pg bf (i + 1)) ?_)
      · rw [e3, e2] at w
        rw [pd_nF (fun x => (of_decide_eq_true x).2.2 w)]
      · rw [e3, e2] at w
        rw [pd_nT (c := pd_dc ch cl pg col mo) (decide_eq_true ⟨z, y, w⟩)]
/-! the chosen pixels of Y are those of the question -/
theorem pj_it {o : Nat} {a b : Nat → Int32} : ∀ i j, j < i → pd_it o a b i (o + j) = a j := by
  intro i
  induction i with
  | zero => intro j hj; exact absurd hj (Nat.not_lt_zero j)
  | succ i ih =>
    intro j hj
    rw [pd_itS]
    by_cases c : j = i
    · subst c; rw [pa_us]
    · rw [pa_un (by omega)]; exact ih j (by omega)
theorem pj_pg {a b : Nat → Int32} : ∀ i, (∀ j, j < i → a j = b j) → pd_pg a cl pg col mo i = pd_pg b cl pg col mo i := by
  intro i
  induction i with
  | zero => intro _; rfl
  | succ i ih =>
    intro h
    have e := ih (fun j hj => h j (by omega))
    have f := h i (by omega)
    unfold pd_pg
    rw [e, f]
theorem pj_n {a b : Nat → Bool} : ∀ i, (∀ j, j < i → a j = b j) → pd_n a i = pd_n b i := by
  intro i
  induction i with
  | zero => intro _; rfl
  | succ i ih =>
    intro h
    have e := ih (fun j hj => h j (by omega))
    have f := h i (by omega)
    unfold pd_n
    rw [e, f]
def pj_ch (a ch : Nat → Int32) : Nat → Int32 := pd_it 0 (fun j => vp_nar .boolean (a j)) ch 256
theorem pj_chE {a ch : Nat → Int32} (h : ∀ j, a j = 0 ∨ a j = 1) {j : Nat} (hj : j < 256) : pj_ch a ch j = a j := by
  have e := pj_it (o := 0) (a := fun j => vp_nar .boolean (a j)) (b := ch) 256 j hj
  rw [Nat.zero_add] at e
  unfold pj_ch
  rw [e]
  show vp_nar .boolean (a j) = a j
  rcases h j with z | z <;> rw [z]
  · exact pe_b0
  · exact pe_b1
theorem pj_pgE {a : Nat → Int32} (h : ∀ j, a j = 0 ∨ a j = 1) : pd_pg (pj_ch a ch) cl pg col mo 256 = pd_pg a cl pg col mo 256 := pj_pg 256 (fun _ hj => pj_chE h hj)
theorem pj_nE {a : Nat → Int32} (h : ∀ j, a j = 0 ∨ a j = 1) : pd_n (pd_dc (pj_ch a ch) cl pg col mo) 256 = pd_n (pd_dc a cl pg col mo) 256 := by
  refine pj_n 256 (fun j hj => ?_)
  unfold pd_dc
  rw [pj_chE h hj]
/-! fill and stroke -/
def pj_in (px py : Nat → Int32) (n : Nat) (F : Nat → Nat) (rule : Int32) (p : Nat) : Int32 := pc_in (pc_w px py (pb_nx n F) (nI (2 * (p % 16) + 1)) (nI (2 * (p / 16) + 1)) n) rule
noncomputable def pj_nr (px py : Nat → Int32) (n : Nat) (F : Nat → Nat) (cx : Nat → Int32) (w : Int32) (p : Nat) : Int32 := pi_v (∃ k, k < n ∧ pc_ns px py (nI (2 * (p % 16) + 1)) (nI (2 * (p / 16) + 1)) w k (pc_se n F cx k))
theorem xf_loop {post : Int32 → SX → Prop} {a : Int32} (h : pb_R n fo sp cx cy F S) (hx : ∀ j, pa_in 2000 (px j)) (hy : ∀ j, pa_in 2000 (py j)) (hp' : post (pd_n (pd_dc (pj_in px py n F a) cl pg col mo) 256) (hp, col, mo, sc, nI n, ns, pd_pg (pj_in px py n F a) cl pg col mo 256, bf, cl, nm, sn, so, sm, si, px, py, fo, cx)) : ∃ m, wX_fill_17 post a m 0 0 hp col mo sc (nI n) ns pg bf cl nm sn so sm si px py fo cx := by
  refine loop_0 (σ := Int32 × (Nat → Int32)) (fun m i s => wX_fill_17 post a m s.1 (nI i) hp col mo sc (nI n) ns s.2 bf cl nm sn so sm si px py fo cx) (fun i s => s = (pd_n (pd_dc (pj_in px py n F a) cl pg col mo) i, pd_pg (pj_in px py n F a) cl pg col mo i)) 256 (0, pg) rfl ?_ ?_
  · intro n s hs
    subst hs
    exact br_t (nI_le (a := 256) (b := 256) (by decide) (by decide)) hp'
  · intro m i s hi hs ih
    subst hs
    have e1 : pd_pg (pj_in px py n F a) cl pg col mo i i = pg i := pd_pgH i i (Nat.le_refl i)
    refine br_f (nI_ge (b := 256) hi (by decide)) (xw_inside h hi ?_)
    show (pj_in px py n F a i = 0 → _) ∧ (¬ pj_in px py n F a i = 0 → _)
    by_cases z : pj_in px py n F a i = 0
    · refine br_t z (nm_r (nI_1 i) (ih (pd_n (pd_dc (pj_in px py n F a) cl pg col mo) i, pd_pg (pj_in px py n F a) cl pg col mo i) ?_))
      rw [pd_pgK (Or.inl z), pd_nF (fun y => (of_decide_eq_true y).1 z)]
    · refine br_f z (xp_pix hi (fun c => ?_) (fun c e => ?_) (fun c e => ?_))
      · refine nm_r (Int32.add_zero _) (nm_r (nI_1 i) (ih (pd_n (pd_dc (pj_in px py n F a) cl pg col mo) i, pd_pg (pj_in px py n F a) cl pg col mo i) ?_))
        rw [pd_pgK (Or.inr c), pd_nF (fun y => (of_decide_eq_true y).2.1 c)]
      · refine nm_r (Int32.add_zero _) (nm_r (nI_1 i) (ih (pd_n (pd_dc (pj_in px py n F a) cl pg col mo) i, upd (pd_pg (pj_in px py n F a) cl pg col mo i) i (pd_mx col mo (pd_pg (pj_in px py n F a) cl pg col mo i i))) ?_))
        dsimp only at e
        rw [e1] at e ⊢
        rw [pd_pgN z c, pd_nF (fun y => (of_decide_eq_true y).2.2 e)]
      · refine nm_e (nm_r (nI_1 i) (ih (pd_n (pd_dc (pj_in px py n F a) cl pg col mo) i + 1, upd (pd_pg (pj_in px py n F a) cl pg col mo i) i (pd_mx col mo (pd_pg (pj_in px py n F a) cl pg col mo i i))) ?_))
        dsimp only at e
        rw [e1] at e ⊢
        rw [pd_pgN z c, pd_nT (c := pd_dc (pj_in px py n F a) cl pg col mo) (decide_eq_true ⟨z, c, e⟩)]
theorem yf_loop {post : Int32 → SY → Prop} {a : Int32} (h : pb_R n fo sp cx cy F S) (hx : ∀ j, pa_in 2000 (px j)) (hy : ∀ j, pa_in 2000 (py j)) (m : pe_mo mo) (hp' : post (pd_n (pd_dc (pj_in px py n F a) cl pg col mo) 256) (col, mo, sc, nI n, ns, 1, nm, cl, sn, so, sm, si, px, py, sp, cy, pd_pg (pj_in px py n F a) cl pg col mo 256, pd_it 0 pg bf 256, pj_ch (pj_in px py n F a) ch)) : ∃ m, wY_fill_13 post a col mo sc (nI n) ns hp m 0 nm cl sn so sm si px py sp cy pg bf ch := by
  refine loop_0 (fun m i s => wY_fill_13 post a col mo sc (nI n) ns hp m (nI i) nm cl sn so sm si px py sp cy pg bf s) (fun i s => s = pd_it 0 (fun j => vp_nar .boolean (pj_in px py n F a j)) ch i) 256 ch rfl ?_ ?_
  · intro m' s hs
    subst hs
    refine br_t (nI_le (a := 256) (b := 256) (by decide) (by decide)) (yp_paint m ?_)
    have q1 := pj_pgE (ch := ch) (cl := cl) (pg := pg) (col := col) (mo := mo) (a := pj_in px py n F a) (fun _ => pc_in01 _ _)
    have q2 := pj_nE (ch := ch) (cl := cl) (pg := pg) (col := col) (mo := mo) (a := pj_in px py n F a) (fun _ => pc_in01 _ _)
    rw [← q1, ← q2] at hp'
    exact hp'
  · intro m' i s hi hs ih
    subst hs
    refine br_f (nI_ge (b := 256) hi (by decide)) ⟨ph_16, ph_16, ?_⟩
    rw [ph_r hi, ph_d hi]
    refine yw_inside h hx hy (by omega) (by omega) ?_
    refine ⟨vp_in_nI hi (by decide), nm_r (pe_u (by omega) rfl) (nm_r (nI_1 i) (ih _ ?_))⟩
    rw [pd_itS, Nat.zero_add]
    rfl
theorem xs_loop {post : Int32 → SX → Prop} {a : Int32} (h : pb_R n fo sp cx cy F S) (hx : ∀ j, pa_in 2000 (px j)) (hy : ∀ j, pa_in 2000 (py j)) (w0 : 0 ≤ a.toInt) (w1 : a.toInt ≤ 32) (hp' : post (pd_n (pd_dc (pj_nr px py n F cx a) cl pg col mo) 256) (hp, col, mo, sc, nI n, ns, pd_pg (pj_nr px py n F cx a) cl pg col mo 256, bf, cl, nm, sn, so, sm, si, px, py, fo, cx)) : ∃ m, wX_stroke_20 post a m 0 0 hp col mo sc (nI n) ns pg bf cl nm sn so sm si px py fo cx := by
  refine loop_0 (σ := Int32 × (Nat → Int32)) (fun m i s => wX_stroke_20 post a m s.1 (nI i) hp col mo sc (nI n) ns s.2 bf cl nm sn so sm si px py fo cx) (fun i s => s = (pd_n (pd_dc (pj_nr px py n F cx a) cl pg col mo) i, pd_pg (pj_nr px py n F cx a) cl pg col mo i)) 256 (0, pg) rfl ?_ ?_
  · intro n s hs
    subst hs
    exact br_t (nI_le (a := 256) (b := 256) (by decide) (by decide)) hp'
  · intro m i s hi hs ih
    subst hs
    have e1 : pd_pg (pj_nr px py n F cx a) cl pg col mo i i = pg i := pd_pgH i i (Nat.le_refl i)
    refine br_f (nI_ge (b := 256) hi (by decide)) (xn_near h hx hy w0 w1 hi ?_)
    show (pj_nr px py n F cx a i = 0 → _) ∧ (¬ pj_nr px py n F cx a i = 0 → _)
    by_cases z : pj_nr px py n F cx a i = 0
    · refine br_t z (nm_r (nI_1 i) (ih (pd_n (pd_dc (pj_nr px py n F cx a) cl pg col mo) i, pd_pg (pj_nr px py n F cx a) cl pg col mo i) ?_))
      rw [pd_pgK (Or.inl z), pd_nF (fun y => (of_decide_eq_true y).1 z)]
    · refine br_f z (xp_pix hi (fun c => ?_) (fun c e => ?_) (fun c e => ?_))
      · refine nm_r (Int32.add_zero _) (nm_r (nI_1 i) (ih (pd_n (pd_dc (pj_nr px py n F cx a) cl pg col mo) i, pd_pg (pj_nr px py n F cx a) cl pg col mo i) ?_))
        rw [pd_pgK (Or.inr c), pd_nF (fun y => (of_decide_eq_true y).2.1 c)]
      · refine nm_r (Int32.add_zero _) (nm_r (nI_1 i) (ih (pd_n (pd_dc (pj_nr px py n F cx a) cl pg col mo) i, upd (pd_pg (pj_nr px py n F cx a) cl pg col mo i) i (pd_mx col mo (pd_pg (pj_nr px py n F cx a) cl pg col mo i i))) ?_))
        dsimp only at e
        rw [e1] at e ⊢
        rw [pd_pgN z c, pd_nF (fun y => (of_decide_eq_true y).2.2 e)]
      · refine nm_e (nm_r (nI_1 i) (ih (pd_n (pd_dc (pj_nr px py n F cx a) cl pg col mo) i + 1, upd (pd_pg (pj_nr px py n F cx a) cl pg col mo i) i (pd_mx col mo (pd_pg (pj_nr px py n F cx a) cl pg col mo i i))) ?_))
        dsimp only at e
        rw [e1] at e ⊢
        rw [pd_pgN z c, pd_nT (c := pd_dc (pj_nr px py n F cx a) cl pg col mo) (decide_eq_true ⟨z, c, e⟩)]
theorem ys_loop {post : Int32 → SY → Prop} {a : Int32} (h : pb_R n fo sp cx cy F S) (hx : ∀ j, pa_in 2000 (px j)) (hy : ∀ j, pa_in 2000 (py j)) (m : pe_mo mo) (w0 : 0 ≤ a.toInt) (w1 : a.toInt ≤ 32) (hp' : post (pd_n (pd_dc (pj_nr px py n F cx a) cl pg col mo) 256) (col, mo, sc, nI n, ns, 1, nm, cl, sn, so, sm, si, px, py, sp, cy, pd_pg (pj_nr px py n F cx a) cl pg col mo 256, pd_it 0 pg bf 256, pj_ch (pj_nr px py n F cx a) ch)) : ∃ m, wY_stroke_14 post a col mo sc (nI n) ns hp m 0 nm cl sn so sm si px py sp cy pg bf ch := by
  refine loop_0 (fun m i s => wY_stroke_14 post a col mo sc (nI n) ns hp m (nI i) nm cl sn so sm si px py sp cy pg bf s) (fun i s => s = pd_it 0 (fun j => vp_nar .boolean (pj_nr px py n F cx a j)) ch i) 256 ch rfl ?_ ?_
  · intro m' s hs
    subst hs
    refine br_t (nI_le (a := 256) (b := 256) (by decide) (by decide)) (yp_paint m ?_)
    have q1 := pj_pgE (ch := ch) (cl := cl) (pg := pg) (col := col) (mo := mo) (a := pj_nr px py n F cx a) (fun _ => pi_01 _)
    have q2 := pj_nE (ch := ch) (cl := cl) (pg := pg) (col := col) (mo := mo) (a := pj_nr px py n F cx a) (fun _ => pi_01 _)
    rw [← q1, ← q2] at hp'
    exact hp'
  · intro m' i s hi hs ih
    subst hs
    refine br_f (nI_ge (b := 256) hi (by decide)) ⟨ph_16, ph_16, ?_⟩
    rw [ph_r hi, ph_d hi]
    refine yn_near h hx hy w0 w1 (by omega) (by omega) ?_
    refine ⟨vp_in_nI hi (by decide), nm_r (pe_u (by omega) rfl) (nm_r (nI_1 i) (ih _ ?_))⟩
    rw [pd_itS, Nat.zero_add]
    rfl
theorem i_vc_fill {k : Nat} {u : SX} {v : SY} (I : i_Rel k u v) (hk : k + 4 ≤ 2048) (v1 : Int32) : wpX_fill (fun r u' => wpY_fill (fun r' v' => r' = r ∧ i_Rel (k + 4) u' v') v v1) u v1 := by
  obtain ⟨hp, col, mo, c, n, pg, bf, cl, nm, sn, so, sm, si, px, py, fo, cx, sp, cy, ch, F, S, rfl, rfl, h⟩ := I
  obtain ⟨h1, h2, h3, h4, h5, h6⟩ := h
  unfold wpX_fill
  refine xr_c (fun g => ?_) (fun g => xp_keep (xf_loop h6 h4 h5 ?_))
  · show wpY_fill _ _ _
    unfold wpY_fill
    exact br_f (fun z => g (Or.inl z)) (br_f (fun z => g (Or.inr z)) ⟨rfl, pe_mk ⟨h1, h2, h3, h4, h5, h6⟩⟩)
  · show wpY_fill _ _ _
    unfold wpY_fill
    rcases g with g | g
    · exact br_t g (yf_loop h6 h4 h5 h2 ⟨rfl, pe_mk ⟨h1, h2, h3, h4, h5, h6⟩⟩)
    · exact br_f (by rw [g]; decide) (br_t g (yf_loop h6 h4 h5 h2 ⟨rfl, pe_mk ⟨h1, h2, h3, h4, h5, h6⟩⟩))
theorem i_vc_stroke {k : Nat} {u : SX} {v : SY} (I : i_Rel k u v) (hk : k + 4 ≤ 2048) (v1 : Int32) : wpX_stroke (fun r u' => wpY_stroke (fun r' v' => r' = r ∧ i_Rel (k + 4) u' v') v v1) u v1 := by
  obtain ⟨hp, col, mo, c, n, pg, bf, cl, nm, sn, so, sm, si, px, py, fo, cx, sp, cy, ch, F, S, rfl, rfl, h⟩ := I
  obtain ⟨h1, h2, h3, h4, h5, h6⟩ := h
  unfold wpX_stroke
  refine br_c (fun a => ?_) (fun a => br_c (fun b => ?_) (fun b => ?_))
  · show wpY_stroke _ _ _
    unfold wpY_stroke
    exact br_t a ⟨rfl, pe_mk ⟨h1, h2, h3, h4, h5, h6⟩⟩
  · have w0 : 0 ≤ v1.toInt := by have a' := a; rw [Int32.not_lt, Int32.le_iff_toInt_le] at a'; exact a'
    have w1 : v1.toInt ≤ 32 := by have b' := b; rw [Int32.le_iff_toInt_le] at b'; exact b'
    refine xp_keep (xs_loop h6 h4 h5 w0 w1 ?_)
    show wpY_stroke _ _ _
    unfold wpY_stroke
    exact br_f a (br_t b (ys_loop h6 h4 h5 h2 w0 w1 ⟨rfl, pe_mk ⟨h1, h2, h3, h4, h5, h6⟩⟩))
  · show wpY_stroke _ _ _
    unfold wpY_stroke
    exact br_f a (br_f b ⟨rfl, pe_mk ⟨h1, h2, h3, h4, h5, h6⟩⟩)
end PPpaint
end
section
section PPclip
variable {hp col mo sc nc ns : Int32} {pg bf cl nm sn so sm si px py fo cx sp cy ch : Nat → Int32} {n : Nat} {F S : Nat → Nat}
/-! clip -/
abbrev TcX : Type := Int32 → Int32 → (Nat → Int32) → (Nat → Int32) → (Nat → Int32) → (Nat → Int32) → (Nat → Int32) → (Nat → Int32) → (Nat → Int32) → (Nat → Int32) → (Nat → Int32) → (Nat → Int32) → (Nat → Int32) → (Nat → Int32) → Prop
abbrev TcY : Type := Int32 → Int32 → (Nat → Int32) → (Nat → Int32) → (Nat → Int32) → (Nat → Int32) → (Nat → Int32) → (Nat → Int32) → (Nat → Int32) → (Nat → Int32) → (Nat → Int32) → (Nat → Int32) → (Nat → Int32) → (Nat → Int32) → (Nat → Int32) → Prop
theorem xc_48 {post : Int32 → SX → Prop} {J : TcX} {x1 x2 z : Int32} {i : Nat} (hi : i < 256) (hz : z = 0 ∨ z = 1) (h0 : z = 0 → J x2 (nI (i + 1)) pg bf (upd cl i z) nm sn so sm si px py fo cx) (h1 : ¬ z = 0 → J (x2 + 1) (nI (i + 1)) pg bf (upd cl i z) nm sn so sm si px py fo cx) : wX_clip_48 post J x1 x2 (nI i) z (nI i) hp col mo sc nc ns pg bf cl nm sn so sm si px py fo cx := by
  have hin : vp_in (nI i) 256 := vp_in_nI hi (by decide)
  have ec : (nI i).toNatClampNeg = i := nI_clamp (by omega)
  have ez : vp_nar .boolean z = z := by
    rcases hz with e | e <;> rw [e]
    · exact pe_b0
    · exact pe_b1
  unfold wX_clip_48
  refine ⟨hin, nm_r (pe_u (by omega) ez) ⟨hin, br_c (fun y => nm_r (nI_1 i) (h0 ?_)) (fun y => nm_e (nm_r (nI_1 i) (h1 ?_)))⟩⟩
  · rw [ec, pa_us] at y; exact y
  · rw [ec, pa_us] at y; exact y
theorem yc_57 {post : Int32 → SY → Prop} {J : TcY} {x1 x2 z : Int32} {i : Nat} (hi : i < 256) (hz : z = 0 ∨ z = 1) (h0 : z = 0 → J x2 (nI (i + 1)) nm (upd cl i z) sn so sm si px py sp cy pg bf ch) (h1 : ¬ z = 0 → J (x2 + 1) (nI (i + 1)) nm (upd cl i z) sn so sm si px py sp cy pg bf ch) : wY_clip_57 post J x1 x2 (nI i) z (nI i) col mo sc nc ns hp nm cl sn so sm si px py sp cy pg bf ch := by
  have hin : vp_in (nI i) 256 := vp_in_nI hi (by decide)
  have ec : (nI i).toNatClampNeg = i := nI_clamp (by omega)
  have ez : vp_nar .boolean z = z := by
    rcases hz with e | e <;> rw [e]
    · exact pe_b0
    · exact pe_b1
  unfold wY_clip_57
  refine ⟨hin, nm_r (pe_u (by omega) ez) ⟨hin, br_c (fun y => nm_r (nI_1 i) (h0 ?_)) (fun y => nm_e (nm_r (nI_1 i) (h1 ?_)))⟩⟩
  · rw [ec, pa_us] at y; exact y
  · rw [ec, pa_us] at y; exact y
def pl_c (a cl : Nat → Int32) (j : Nat) : Bool := decide (¬ pd_ct a cl j = 0)
theorem pl_0 {a : Nat → Int32} {i : Nat} (h : pd_ct a cl i = 0) : (pd_n (pl_c a cl) i, upd (pd_it 0 (pd_ct a cl) cl i) i 0) = (pd_n (pl_c a cl) (i + 1), pd_it 0 (pd_ct a cl) cl (i + 1)) := by
  rw [pd_nF (c := pl_c a cl) (fun y => (of_decide_eq_true y) h), pd_itS, Nat.zero_add, h]
theorem pl_1 {a : Nat → Int32} {i : Nat} (h : pd_ct a cl i = 1) : (pd_n (pl_c a cl) i + 1, upd (pd_it 0 (pd_ct a cl) cl i) i 1) = (pd_n (pl_c a cl) (i + 1), pd_it 0 (pd_ct a cl) cl (i + 1)) := by
  rw [pd_nT (c := pl_c a cl) (decide_eq_true (by rw [h]; exact pe_10)), pd_itS, Nat.zero_add, h]
theorem xc_loop {post : Int32 → SX → Prop} {a : Int32} (h : pb_R n fo sp cx cy F S) (hp' : post (pd_n (pl_c (pj_in px py n F a) cl) 256) (hp, col, mo, sc, nI n, ns, pg, bf, pd_it 0 (pd_ct (pj_in px py n F a) cl) cl 256, nm, sn, so, sm, si, px, py, fo, cx)) : ∃ m, wX_clip_13 post a hp col mo sc (nI n) ns m 0 0 pg bf cl nm sn so sm si px py fo cx := by
  refine loop_0 (σ := Int32 × (Nat → Int32)) (fun m i s => wX_clip_13 post a hp col mo sc (nI n) ns m s.1 (nI i) pg bf s.2 nm sn so sm si px py fo cx) (fun i s => s = (pd_n (pl_c (pj_in px py n F a) cl) i, pd_it 0 (pd_ct (pj_in px py n F a) cl) cl i)) 256 (0, cl) rfl ?_ ?_
  · intro m s hs
    subst hs
    exact br_t (nI_le (a := 256) (b := 256) (by decide) (by decide)) hp'
  · intro m i s hi hs ih
    subst hs
    have hin : vp_in (nI i) 256 := vp_in_nI hi (by decide)
    have ec : (nI i).toNatClampNeg = i := nI_clamp (by omega)
    have e1 : pd_it 0 (pd_ct (pj_in px py n F a) cl) cl i i = cl i := pd_itH i i (by omega)
    have K0 : pd_ct (pj_in px py n F a) cl i = 0 → wX_clip_47 post (wX_clip_13 post a hp col mo sc (nI n) ns m) a (pd_n (pl_c (pj_in px py n F a) cl) i) (nI i) (nI i) hp col mo sc (nI n) ns pg bf (pd_it 0 (pd_ct (pj_in px py n F a) cl) cl i) nm sn so sm si px py fo cx := by
      intro z
      unfold wX_clip_47
      exact xc_48 hi (Or.inl rfl) (fun _ => ih (pd_n (pl_c (pj_in px py n F a) cl) i, upd (pd_it 0 (pd_ct (pj_in px py n F a) cl) cl i) i 0) (pl_0 z)) (fun y => absurd rfl y)
    refine br_f (nI_ge (b := 256) hi (by decide)) ⟨hin, br_c (fun z => K0 ?_) (fun z => xw_inside h hi ?_)⟩
    · dsimp only at z; rw [ec, e1] at z; exact if_pos z
    · dsimp only at z; rw [ec, e1] at z
      show (pj_in px py n F a i = 0 → _) ∧ (¬ pj_in px py n F a i = 0 → _)
      have e2 : pd_ct (pj_in px py n F a) cl i = pj_in px py n F a i := if_neg z
      refine br_c (fun y => K0 (e2.trans y)) (fun y => ?_)
      have e3 : pj_in px py n F a i = 1 := (pc_in01 _ _).resolve_left y
      exact xc_48 hi (Or.inr rfl) (fun w => absurd w pe_10) (fun _ => ih (pd_n (pl_c (pj_in px py n F a) cl) i + 1, upd (pd_it 0 (pd_ct (pj_in px py n F a) cl) cl i) i 1) (pl_1 (e2.trans e3)))
theorem yc_loop {post : Int32 → SY → Prop} {a : Int32} (h : pb_R n fo sp cx cy F S) (hx : ∀ j, pa_in 2000 (px j)) (hy : ∀ j, pa_in 2000 (py j)) (hp' : post (pd_n (pl_c (pj_in px py n F a) cl) 256) (col, mo, sc, nI n, ns, hp, nm, pd_it 0 (pd_ct (pj_in px py n F a) cl) cl 256, sn, so, sm, si, px, py, sp, cy, pg, bf, ch)) : ∃ m, wY_clip_15 post a col mo sc (nI n) ns hp m 0 0 nm cl sn so sm si px py sp cy pg bf ch := by
  refine loop_0 (σ := Int32 × (Nat → Int32)) (fun m i s => wY_clip_15 post a col mo sc (nI n) ns hp m s.1 (nI i) nm s.2 sn so sm si px py sp cy pg bf ch) (fun i s => s = (pd_n (pl_c (pj_in px py n F a) cl) i, pd_it 0 (pd_ct (pj_in px py n F a) cl) cl i)) 256 (0, cl) rfl ?_ ?_
  · intro m s hs
    subst hs
    exact br_t (nI_le (a := 256) (b := 256) (by decide) (by decide)) hp'
  · intro m i s hi hs ih
    subst hs
    have hin : vp_in (nI i) 256 := vp_in_nI hi (by decide)
    have ec : (nI i).toNatClampNeg = i := nI_clamp (by omega)
    have e1 : pd_it 0 (pd_ct (pj_in px py n F a) cl) cl i i = cl i := pd_itH i i (by omega)
    have K0 : pd_ct (pj_in px py n F a) cl i = 0 → wY_clip_56 post (wY_clip_15 post a col mo sc (nI n) ns hp m) a (pd_n (pl_c (pj_in px py n F a) cl) i) (nI i) (nI i) col mo sc (nI n) ns hp nm (pd_it 0 (pd_ct (pj_in px py n F a) cl) cl i) sn so sm si px py sp cy pg bf ch := by
      intro z
      unfold wY_clip_56
      exact yc_57 hi (Or.inl rfl) (fun _ => ih (pd_n (pl_c (pj_in px py n F a) cl) i, upd (pd_it 0 (pd_ct (pj_in px py n F a) cl) cl i) i 0) (pl_0 z)) (fun y => absurd rfl y)
    refine br_f (nI_ge (b := 256) hi (by decide)) ⟨hin, br_c (fun z => K0 ?_) (fun z => ⟨ph_16, ph_16, ?_⟩)⟩
    · dsimp only at z; rw [ec, e1] at z; exact if_pos z
    · dsimp only at z; rw [ec, e1] at z
      rw [ph_r hi, ph_d hi]
      refine yw_inside h hx hy (by omega) (by omega) ?_
      show (pj_in px py n F a i = 0 → _) ∧ (¬ pj_in px py n F a i = 0 → _)
      have e2 : pd_ct (pj_in px py n F a) cl i = pj_in px py n F a i := if_neg z
      refine br_c (fun y => K0 (e2.trans y)) (fun y => ?_)
      have e3 : pj_in px py n F a i = 1 := (pc_in01 _ _).resolve_left y
      exact yc_57 hi (Or.inr rfl) (fun w => absurd w pe_10) (fun _ => ih (pd_n (pl_c (pj_in px py n F a) cl) i + 1, upd (pd_it 0 (pd_ct (pj_in px py n F a) cl) cl i) i 1) (pl_1 (e2.trans e3)))
theorem i_vc_clip {k : Nat} {u : SX} {v : SY} (I : i_Rel k u v) (hk : k + 4 ≤ 2048) (v1 : Int32) : wpX_clip (fun r u' => wpY_clip (fun r' v' => r' = r ∧ i_Rel (k + 4) u' v') v v1) u v1 := by
  obtain ⟨hp, col, mo, c, n, pg, bf, cl, nm, sn, so, sm, si, px, py, fo, cx, sp, cy, ch, F, S, rfl, rfl, h⟩ := I
  unfold wpX_clip
  refine xr_c (fun g => ?_) (fun g => xc_loop h.2.2.2.2.2 ?_)
  · show wpY_clip _ _ _
    unfold wpY_clip
    exact br_f (fun z => g (Or.inl z)) (br_f (fun z => g (Or.inr z)) ⟨rfl, pe_mk h⟩)
  · show wpY_clip _ _ _
    unfold wpY_clip
    rcases g with g | g
    · exact br_t g (yc_loop h.2.2.2.2.2 h.2.2.2.1 h.2.2.2.2.1 ⟨rfl, pe_mk h⟩)
    · exact br_f (by rw [g]; decide) (br_t g (yc_loop h.2.2.2.2.2 h.2.2.2.1 h.2.2.2.2.1 ⟨rfl, pe_mk h⟩))
end PPclip
end
