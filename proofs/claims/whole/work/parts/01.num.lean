section PPnum
/-! numbers: bounded sums and products, Int32 and Int64 against Int -/
theorem pa_us {f : Nat → Int32} {k : Nat} {x : Int32} : upd f k x k = x := if_pos rfl
theorem pa_un {f : Nat → Int32} {k j : Nat} {x : Int32} (h : j ≠ k) : upd f k x j = f j := if_neg h
theorem pa_mul (a b : Nat) : nI a * nI b = nI (a * b) := (Int32.ofNat_mul a b).symm
theorem pa_sub {a b : Nat} (h : b ≤ a) : nI a - nI b = nI (a - b) := by
  have e : nI a = nI (a - b) + nI b := by rw [nI_add]; congr 1; omega
  rw [e, Int32.add_sub_cancel]
theorem pa_m1 {n : Nat} (h : 0 < n) : nI n + (-1) = nI (n - 1) := by
  obtain ⟨m, rfl⟩ : ∃ m, n = m + 1 := ⟨n - 1, by omega⟩
  rw [← nI_1, Int32.add_assoc, show (1 : Int32) + (-1) = 0 from rfl, Int32.add_zero]; rfl
theorem pa_i {x : Int} (h1 : -2147483648 ≤ x) (h2 : x < 2147483648) : (Int32.ofInt x).toInt = x :=
  Int32.toInt_ofInt_of_le (by omega) (by omega)
theorem pa_l {x : Int} (h1 : -9223372036854775808 ≤ x) (h2 : x < 9223372036854775808) : (Int64.ofInt x).toInt = x :=
  Int64.toInt_ofInt_of_le (by omega) (by omega)
theorem pa_le {a b : Int} (h1 : -2147483648 ≤ a) (h2 : a < 2147483648) (h3 : -2147483648 ≤ b) (h4 : b < 2147483648) : Int32.ofInt a ≤ Int32.ofInt b ↔ a ≤ b := by
  rw [Int32.le_iff_toInt_le, pa_i h1 h2, pa_i h3 h4]
theorem pa_lt {a b : Int} (h1 : -2147483648 ≤ a) (h2 : a < 2147483648) (h3 : -2147483648 ≤ b) (h4 : b < 2147483648) : Int32.ofInt a < Int32.ofInt b ↔ a < b := by
  rw [Int32.lt_iff_toInt_lt, pa_i h1 h2, pa_i h3 h4]
theorem pa_lle {a b : Int} (h1 : -9223372036854775808 ≤ a) (h2 : a < 9223372036854775808) (h3 : -9223372036854775808 ≤ b) (h4 : b < 9223372036854775808) : Int64.ofInt a ≤ Int64.ofInt b ↔ a ≤ b := by
  rw [Int64.le_iff_toInt_le, pa_l h1 h2, pa_l h3 h4]
theorem pa_llt {a b : Int} (h1 : -9223372036854775808 ≤ a) (h2 : a < 9223372036854775808) (h3 : -9223372036854775808 ≤ b) (h4 : b < 9223372036854775808) : Int64.ofInt a < Int64.ofInt b ↔ a < b := by
  rw [Int64.lt_iff_toInt_lt, pa_l h1 h2, pa_l h3 h4]
theorem pa_s {a b : Int32} (h1 : -1000000000 ≤ a.toInt) (h2 : a.toInt ≤ 1000000000) (h3 : -1000000000 ≤ b.toInt) (h4 : b.toInt ≤ 1000000000) : (a - b).toInt64 = Int64.ofInt (a.toInt - b.toInt) := by
  have e : (a - b).toInt = a.toInt - b.toInt := by rw [Int32.toInt_sub, Int.bmod_eq_of_le (by omega) (by omega)]
  rw [← Int64.ofInt_int32ToInt, e]
theorem pa_mb {a b A B : Int} (h1 : -A ≤ a) (h2 : a ≤ A) (h3 : -B ≤ b) (h4 : b ≤ B) : -(A * B) ≤ a * b ∧ a * b ≤ A * B := by
  have k1 := Int.mul_nonneg (show 0 ≤ A - a by omega) (show 0 ≤ B + b by omega)
  have k2 := Int.mul_nonneg (show 0 ≤ A + a by omega) (show 0 ≤ B - b by omega)
  have k3 := Int.mul_nonneg (show 0 ≤ A - a by omega) (show 0 ≤ B - b by omega)
  have k4 := Int.mul_nonneg (show 0 ≤ A + a by omega) (show 0 ≤ B + b by omega)
  simp only [Int.sub_mul, Int.mul_sub, Int.add_mul, Int.mul_add] at k1 k2 k3 k4
  omega
theorem pa_sq (a : Int) : 0 ≤ a * a := by
  by_cases h : 0 ≤ a
  · exact Int.mul_nonneg h h
  · have := Int.mul_nonneg (show 0 ≤ -a by omega) (show 0 ≤ -a by omega)
    rwa [Int.neg_mul_neg] at this

/-! a value within a bound -/
def pa_in (M : Int) (x : Int32) : Prop := -M ≤ x.toInt ∧ x.toInt ≤ M

/-! the crossing: X's difference in 32 bits, Y's two products in 64 -/
theorem pa_cr {x1 y1 x2 y2 u v : Int32} (hx1 : pa_in 2000 x1) (hy1 : pa_in 2000 y1) (hx2 : pa_in 2000 x2) (hy2 : pa_in 2000 y2) (hu : pa_in 31 u) (hv : pa_in 31 v) :
    ((v - y1) * (x2 - x1) + (x1 - u) * (y2 - y1) ≤ 0 ↔ (v - y1).toInt64 * (x2 - x1).toInt64 ≤ (u - x1).toInt64 * (y2 - y1).toInt64) ∧
    (0 ≤ (v - y1) * (x2 - x1) + (x1 - u) * (y2 - y1) ↔ (u - x1).toInt64 * (y2 - y1).toInt64 ≤ (v - y1).toInt64 * (x2 - x1).toInt64) := by
  obtain ⟨a1, a2⟩ := hx1; obtain ⟨b1, b2⟩ := hy1; obtain ⟨c1, c2⟩ := hx2; obtain ⟨d1, d2⟩ := hy2; obtain ⟨e1, e2⟩ := hu; obtain ⟨f1, f2⟩ := hv
  have eb : (v - y1) * (x2 - x1) + (x1 - u) * (y2 - y1) = Int32.ofInt ((v.toInt - y1.toInt) * (x2.toInt - x1.toInt) + (x1.toInt - u.toInt) * (y2.toInt - y1.toInt)) := by
    simp only [Int32.ofInt_add, Int32.ofInt_mul, Int32.ofInt_sub, Int32.ofInt_toInt]
  have e0 : (0 : Int32) = Int32.ofInt 0 := rfl
  rw [eb, e0, pa_s (by omega) (by omega) (by omega) (by omega), pa_s (by omega) (by omega) (by omega) (by omega), pa_s (by omega) (by omega) (by omega) (by omega), pa_s (by omega) (by omega) (by omega) (by omega), ← Int64.ofInt_mul, ← Int64.ofInt_mul]
  have en : (x1.toInt - u.toInt) * (y2.toInt - y1.toInt) = -((u.toInt - x1.toInt) * (y2.toInt - y1.toInt)) := by
    rw [← Int.neg_mul, Int.neg_sub]
  rw [en]
  have m1 := pa_mb (a := v.toInt - y1.toInt) (b := x2.toInt - x1.toInt) (A := 2031) (B := 4000) (by omega) (by omega) (by omega) (by omega)
  have m2 := pa_mb (a := u.toInt - x1.toInt) (b := y2.toInt - y1.toInt) (A := 2031) (B := 4000) (by omega) (by omega) (by omega) (by omega)
  generalize (v.toInt - y1.toInt) * (x2.toInt - x1.toInt) = P at *
  generalize (u.toInt - x1.toInt) * (y2.toInt - y1.toInt) = Q at *
  rw [pa_le (by omega) (by omega) (by omega) (by omega), pa_le (by omega) (by omega) (by omega) (by omega), pa_lle (by omega) (by omega) (by omega) (by omega), pa_lle (by omega) (by omega) (by omega) (by omega)]
  omega

/-! nearness to a segment, in whole numbers -/
def pa_nr (px py dx dy R : Int) : Prop :=
  if px * dx + py * dy ≤ 0 then px * px + py * py ≤ R
  else if dx * dx + dy * dy ≤ px * dx + py * dy then (px - dx) * (px - dx) + (py - dy) * (py - dy) ≤ R
  else (px * dy - py * dx) * (px * dy - py * dx) ≤ R * (dx * dx + dy * dy)
theorem pa_nrE {px py dx dy R : Int} (h : (px - dx) * (px - dx) + (py - dy) * (py - dy) ≤ R) : pa_nr px py dx dy R := by
  have w : 0 ≤ dx * dx + dy * dy := Int.add_nonneg (pa_sq dx) (pa_sq dy)
  unfold pa_nr
  split
  · have e : (px - dx) * (px - dx) + (py - dy) * (py - dy) = px * px + py * py - 2 * (px * dx + py * dy) + (dx * dx + dy * dy) := by grind
    omega
  · split
    · exact h
    · have e : (px * dy - py * dx) * (px * dy - py * dx) + (px * dx + py * dy - (dx * dx + dy * dy)) * (px * dx + py * dy - (dx * dx + dy * dy)) = ((px - dx) * (px - dx) + (py - dy) * (py - dy)) * (dx * dx + dy * dy) := by grind
      have k := Int.mul_le_mul_of_nonneg_right h w
      have q := pa_sq (px * dx + py * dy - (dx * dx + dy * dy))
      omega
end PPnum
