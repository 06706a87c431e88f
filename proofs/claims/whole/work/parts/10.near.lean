section PPnear
variable {hp col mo sc nc ns : Int32} {pg bf cl nm sn so sm si px py fo cx sp cy ch : Nat → Int32} {n : Nat} {F S : Nat → Nat}
/-! nearness: 64 bits against whole numbers -/
theorem pi_l {PX PY DX DY R : Int} (a1 : -2031 ≤ PX) (a2 : PX ≤ 2031) (b1 : -2031 ≤ PY) (b2 : PY ≤ 2031) (c1 : -4000 ≤ DX) (c2 : DX ≤ 4000) (d1 : -4000 ≤ DY) (d2 : DY ≤ 4000) (r1 : 0 ≤ R) (r2 : R ≤ 1024) :
    (0 < Int64.ofInt PX * Int64.ofInt DX + Int64.ofInt PY * Int64.ofInt DY ↔ 0 < PX * DX + PY * DY) ∧
    (Int64.ofInt PX * Int64.ofInt DX + Int64.ofInt PY * Int64.ofInt DY < Int64.ofInt DX * Int64.ofInt DX + Int64.ofInt DY * Int64.ofInt DY ↔ PX * DX + PY * DY < DX * DX + DY * DY) ∧
    (Int64.ofInt R * (Int64.ofInt DX * Int64.ofInt DX + Int64.ofInt DY * Int64.ofInt DY) < (Int64.ofInt PX * Int64.ofInt DY - Int64.ofInt PY * Int64.ofInt DX) * (Int64.ofInt PX * Int64.ofInt DY - Int64.ofInt PY * Int64.ofInt DX) ↔ R * (DX * DX + DY * DY) < (PX * DY - PY * DX) * (PX * DY - PY * DX)) ∧
    (Int64.ofInt R < (Int64.ofInt PX - Int64.ofInt DX) * (Int64.ofInt PX - Int64.ofInt DX) + (Int64.ofInt PY - Int64.ofInt DY) * (Int64.ofInt PY - Int64.ofInt DY) ↔ R < (PX - DX) * (PX - DX) + (PY - DY) * (PY - DY)) ∧
    (Int64.ofInt R < Int64.ofInt PX * Int64.ofInt PX + Int64.ofInt PY * Int64.ofInt PY ↔ R < PX * PX + PY * PY) := by
  have e0 : (0 : Int64) = Int64.ofInt 0 := rfl
  simp only [e0, ← Int64.ofInt_mul, ← Int64.ofInt_add, ← Int64.ofInt_sub]
  have m1 := pa_mb (a := PX) (b := DX) (A := 2031) (B := 4000) (by omega) (by omega) (by omega) (by omega)
  have m2 := pa_mb (a := PY) (b := DY) (A := 2031) (B := 4000) (by omega) (by omega) (by omega) (by omega)
  have m3 := pa_mb (a := DX) (b := DX) (A := 4000) (B := 4000) (by omega) (by omega) (by omega) (by omega)
  have m4 := pa_mb (a := DY) (b := DY) (A := 4000) (B := 4000) (by omega) (by omega) (by omega) (by omega)
  have m5 := pa_mb (a := PX) (b := DY) (A := 2031) (B := 4000) (by omega) (by omega) (by omega) (by omega)
  have m6 := pa_mb (a := PY) (b := DX) (A := 2031) (B := 4000) (by omega) (by omega) (by omega) (by omega)
  have m7 := pa_mb (a := PX * DY - PY * DX) (b := PX * DY - PY * DX) (A := 16248000) (B := 16248000) (by omega) (by omega) (by omega) (by omega)
  have m8 := pa_mb (a := PX - DX) (b := PX - DX) (A := 6031) (B := 6031) (by omega) (by omega) (by omega) (by omega)
  have m9 := pa_mb (a := PY - DY) (b := PY - DY) (A := 6031) (B := 6031) (by omega) (by omega) (by omega) (by omega)
  have mA := pa_mb (a := PX) (b := PX) (A := 2031) (B := 2031) (by omega) (by omega) (by omega) (by omega)
  have mB := pa_mb (a := PY) (b := PY) (A := 2031) (B := 2031) (by omega) (by omega) (by omega) (by omega)
  have mC := pa_mb (a := R) (b := DX * DX + DY * DY) (A := 1024) (B := 32000000) (by omega) (by omega) (by omega) (by omega)
  generalize (PX * DY - PY * DX) * (PX * DY - PY * DX) = t1 at *
  generalize (PX - DX) * (PX - DX) = t2 at *
  generalize (PY - DY) * (PY - DY) = t3 at *
  generalize R * (DX * DX + DY * DY) = t4 at *
  generalize PX * DX = t5 at *
  generalize PY * DY = t6 at *
  generalize DX * DX = t7 at *
  generalize DY * DY = t8 at *
  generalize PX * PX = t9 at *
  generalize PY * PY = t10 at *
  refine ⟨pa_llt ?_ ?_ ?_ ?_, pa_llt ?_ ?_ ?_ ?_, pa_llt ?_ ?_ ?_ ?_, pa_llt ?_ ?_ ?_ ?_, pa_llt ?_ ?_ ?_ ?_⟩ <;> omega
theorem pi_w {w : Int32} (h0 : 0 ≤ w.toInt) (h1 : w.toInt ≤ 32) : w.toInt64 * w.toInt64 = Int64.ofInt (w.toInt * w.toInt) ∧ 0 ≤ w.toInt * w.toInt ∧ w.toInt * w.toInt ≤ 1024 := by
  have m := pa_mb (a := w.toInt) (b := w.toInt) (A := 32) (B := 32) (by omega) (by omega) (by omega) (by omega)
  refine ⟨?_, pa_sq _, by omega⟩
  rw [Int64.ofInt_mul, Int64.ofInt_int32ToInt]
theorem xn_seg {post : Int32 → Prop} {x1 x2 u v w : Int32} (i1 : vp_in x1 16) (i2 : vp_in x2 16) (hx : ∀ j, pa_in 2000 (px j)) (hy : ∀ j, pa_in 2000 (py j)) (hu : pa_in 31 u) (hv : pa_in 31 v) (w0 : 0 ≤ w.toInt) (w1 : w.toInt ≤ 32)
    (h1 : pc_ns px py u v w x1.toNatClampNeg x2.toNatClampNeg → post 1) (h0 : ¬ pc_ns px py u v w x1.toNatClampNeg x2.toNatClampNeg → post 0) : wpX_isNearSegment post (hp, col, mo, sc, nc, ns, pg, bf, cl, nm, sn, so, sm, si, px, py, fo, cx) x1 x2 u v w := by
  obtain ⟨e1, e2⟩ := hu
  obtain ⟨f1, f2⟩ := hv
  obtain ⟨a1, a2⟩ := hx x1.toNatClampNeg
  obtain ⟨b1, b2⟩ := hy x1.toNatClampNeg
  obtain ⟨c1, c2⟩ := hx x2.toNatClampNeg
  obtain ⟨d1, d2⟩ := hy x2.toNatClampNeg
  obtain ⟨ew, r1, r2⟩ := pi_w w0 w1
  unfold wpX_isNearSegment
  refine ⟨i2, i1, nm_r (pa_s (by omega) (by omega) (by omega) (by omega)) ⟨i2, i1, nm_r (pa_s (by omega) (by omega) (by omega) (by omega)) ⟨i1, nm_r (pa_s (by omega) (by omega) (by omega) (by omega)) ⟨i1, nm_r (pa_s (by omega) (by omega) (by omega) (by omega)) (nm_r ew (nm_e (nm_e ?_)))⟩⟩⟩⟩
  unfold pc_ns pa_nr at h1 h0
  obtain ⟨k1, k2, k3, k4, k5⟩ := pi_l (PX := u.toInt - (px x1.toNatClampNeg).toInt) (PY := v.toInt - (py x1.toNatClampNeg).toInt) (DX := (px x2.toNatClampNeg).toInt - (px x1.toNatClampNeg).toInt) (DY := (py x2.toNatClampNeg).toInt - (py x1.toNatClampNeg).toInt) (R := w.toInt * w.toInt) (by omega) (by omega) (by omega) (by omega) (by omega) (by omega) (by omega) (by omega) r1 r2
  refine br_c (fun a => ?_) (fun a => ?_)
  · rw [if_neg (Int.not_le.mpr (k1.mp a))] at h1 h0
    refine br_c (fun b => nm_e ?_) (fun b => ?_)
    · rw [if_neg (Int.not_le.mpr (k2.mp b))] at h1 h0
      exact br_c (fun d => h0 (Int.not_le.mpr (k3.mp d))) (fun d => h1 (Int.not_lt.mp (fun z => d (k3.mpr z))))
    · rw [if_pos (Int.not_lt.mp (fun z => b (k2.mpr z)))] at h1 h0
      exact br_c (fun d => h0 (Int.not_le.mpr (k4.mp d))) (fun d => h1 (Int.not_lt.mp (fun z => d (k4.mpr z))))
  · rw [if_pos (Int.not_lt.mp (fun z => a (k1.mpr z)))] at h1 h0
    exact br_c (fun d => h0 (Int.not_le.mpr (k5.mp d))) (fun d => h1 (Int.not_lt.mp (fun z => d (k5.mpr z))))
theorem yn_sq {post : Int64 → Prop} {x1 u v : Int32} {e : Int64} (i1 : vp_in x1 16) (he : (px x1.toNatClampNeg - u).toInt64 * (px x1.toNatClampNeg - u).toInt64 + (py x1.toNatClampNeg - v).toInt64 * (py x1.toNatClampNeg - v).toInt64 = e) (h : post e) : wpY_square post (col, mo, sc, nc, ns, hp, nm, cl, sn, so, sm, si, px, py, sp, cy, pg, bf, ch) x1 u v := by
  subst he
  unfold wpY_square
  exact ⟨i1, nm_e ⟨i1, nm_e h⟩⟩
theorem yn_to {post : Int32 → Prop} {x1 x2 u v w : Int32} (i1 : vp_in x1 16) (i2 : vp_in x2 16) (hx : ∀ j, pa_in 2000 (px j)) (hy : ∀ j, pa_in 2000 (py j)) (hu : pa_in 31 u) (hv : pa_in 31 v) (w0 : 0 ≤ w.toInt) (w1 : w.toInt ≤ 32)
    (h1 : pc_ns px py u v w x1.toNatClampNeg x2.toNatClampNeg → post 1) (h0 : ¬ pc_ns px py u v w x1.toNatClampNeg x2.toNatClampNeg → post 0) : wpY_isNearTo post (col, mo, sc, nc, ns, hp, nm, cl, sn, so, sm, si, px, py, sp, cy, pg, bf, ch) x1 x2 u v (w.toInt64 * w.toInt64) := by
  obtain ⟨e1, e2⟩ := hu
  obtain ⟨f1, f2⟩ := hv
  obtain ⟨a1, a2⟩ := hx x1.toNatClampNeg
  obtain ⟨b1, b2⟩ := hy x1.toNatClampNeg
  obtain ⟨c1, c2⟩ := hx x2.toNatClampNeg
  obtain ⟨d1, d2⟩ := hy x2.toNatClampNeg
  obtain ⟨ew, r1, r2⟩ := pi_w w0 w1
  have sx : (u - px x1.toNatClampNeg).toInt64 = Int64.ofInt (u.toInt - (px x1.toNatClampNeg).toInt) := pa_s (by omega) (by omega) (by omega) (by omega)
  have sy : (v - py x1.toNatClampNeg).toInt64 = Int64.ofInt (v.toInt - (py x1.toNatClampNeg).toInt) := pa_s (by omega) (by omega) (by omega) (by omega)
  unfold wpY_isNearTo
  rw [ew]
  refine ⟨i2, i1, nm_r (pa_s (by omega) (by omega) (by omega) (by omega)) ⟨i2, i1, nm_r (pa_s (by omega) (by omega) (by omega) (by omega)) ⟨i1, i1, nm_r (e' := Int64.ofInt (u.toInt - (px x1.toNatClampNeg).toInt) * Int64.ofInt ((px x2.toNatClampNeg).toInt - (px x1.toNatClampNeg).toInt) + Int64.ofInt (v.toInt - (py x1.toNatClampNeg).toInt) * Int64.ofInt ((py x2.toNatClampNeg).toInt - (py x1.toNatClampNeg).toInt)) (by rw [sx, sy]) (nm_e ?_)⟩⟩⟩
  unfold pc_ns pa_nr at h1 h0
  obtain ⟨k1, k2, k3, k4, k5⟩ := pi_l (PX := u.toInt - (px x1.toNatClampNeg).toInt) (PY := v.toInt - (py x1.toNatClampNeg).toInt) (DX := (px x2.toNatClampNeg).toInt - (px x1.toNatClampNeg).toInt) (DY := (py x2.toNatClampNeg).toInt - (py x1.toNatClampNeg).toInt) (R := w.toInt * w.toInt) (by omega) (by omega) (by omega) (by omega) (by omega) (by omega) (by omega) (by omega) r1 r2
  refine br_c (fun a => ?_) (fun a => ?_)
  · rw [if_neg (Int.not_le.mpr (k1.mp a))] at h1 h0
    refine br_c (fun b => ⟨i1, i1, nm_r (e' := Int64.ofInt (u.toInt - (px x1.toNatClampNeg).toInt) * Int64.ofInt ((py x2.toNatClampNeg).toInt - (py x1.toNatClampNeg).toInt) - Int64.ofInt (v.toInt - (py x1.toNatClampNeg).toInt) * Int64.ofInt ((px x2.toNatClampNeg).toInt - (px x1.toNatClampNeg).toInt)) (by rw [sx, sy]) ?_⟩) (fun b => ?_)
    · rw [if_neg (Int.not_le.mpr (k2.mp b))] at h1 h0
      exact br_c (fun d => h0 (Int.not_le.mpr (k3.mp d))) (fun d => h1 (Int.not_lt.mp (fun z => d (k3.mpr z))))
    · rw [if_pos (Int.not_lt.mp (fun z => b (k2.mpr z)))] at h1 h0
      refine yn_sq i2 (e := (Int64.ofInt (u.toInt - (px x1.toNatClampNeg).toInt) - Int64.ofInt ((px x2.toNatClampNeg).toInt - (px x1.toNatClampNeg).toInt)) * (Int64.ofInt (u.toInt - (px x1.toNatClampNeg).toInt) - Int64.ofInt ((px x2.toNatClampNeg).toInt - (px x1.toNatClampNeg).toInt)) + (Int64.ofInt (v.toInt - (py x1.toNatClampNeg).toInt) - Int64.ofInt ((py x2.toNatClampNeg).toInt - (py x1.toNatClampNeg).toInt)) * (Int64.ofInt (v.toInt - (py x1.toNatClampNeg).toInt) - Int64.ofInt ((py x2.toNatClampNeg).toInt - (py x1.toNatClampNeg).toInt))) ?_ ?_
      · rw [pa_s (by omega) (by omega) (by omega) (by omega), pa_s (by omega) (by omega) (by omega) (by omega)]
        simp only [← Int64.ofInt_mul, ← Int64.ofInt_add, ← Int64.ofInt_sub]
        congr 1
        grind
      · exact br_c (fun d => h0 (Int.not_le.mpr (k4.mp d))) (fun d => h1 (Int.not_lt.mp (fun z => d (k4.mpr z))))
  · rw [if_pos (Int.not_lt.mp (fun z => a (k1.mpr z)))] at h1 h0
    refine yn_sq i1 (e := Int64.ofInt (u.toInt - (px x1.toNatClampNeg).toInt) * Int64.ofInt (u.toInt - (px x1.toNatClampNeg).toInt) + Int64.ofInt (v.toInt - (py x1.toNatClampNeg).toInt) * Int64.ofInt (v.toInt - (py x1.toNatClampNeg).toInt)) ?_ ?_
    · rw [pa_s (by omega) (by omega) (by omega) (by omega), pa_s (by omega) (by omega) (by omega) (by omega)]
      simp only [← Int64.ofInt_mul, ← Int64.ofInt_add]
      congr 1
      grind
    · exact br_c (fun d => h0 (Int.not_le.mpr (k5.mp d))) (fun d => h1 (Int.not_lt.mp (fun z => d (k5.mpr z))))
noncomputable def pi_v (P : Prop) : Int32 := @ite _ P (Classical.propDecidable P) 1 0
theorem pi_t {P : Prop} (h : P) : pi_v P = 1 := by unfold pi_v; exact if_pos h
theorem pi_f {P : Prop} (h : ¬ P) : pi_v P = 0 := by unfold pi_v; exact if_neg h
theorem pi_01 (P : Prop) : pi_v P = 0 ∨ pi_v P = 1 := by
  by_cases h : P
  · exact Or.inr (pi_t h)
  · exact Or.inl (pi_f h)
/-! X's walk over the segments -/
theorem xn_end {post : Int32 → Prop} (h : pb_R n fo sp cx cy F S) {k : Nat} (hk : k < n) (hp' : post (nI (pc_se n F cx k))) : wpX_strokeEnd post (hp, col, mo, sc, nI n, ns, pg, bf, cl, nm, sn, so, sm, si, px, py, fo, cx) (nI k) := by
  have h16 := h.1
  have hf := h.2.2.1
  have l := pb_le h.2.1 k hk
  unfold wpX_strokeEnd
  refine xe_c h hk (fun s => ?_) (fun s => ?_)
  · have e : pc_se n F cx k = k + 1 := if_pos s
    rw [e] at hp'
    rw [nI_1 k]; exact hp'
  · rw [nI_clamp (by omega), hf k hk, nI_clamp (by omega)]
    refine ⟨vp_in_nI (by omega) (by decide), vp_in_nI (by omega) (by decide), br_c (fun z => ?_) (fun z => ⟨vp_in_nI (by omega) (by decide), ?_⟩)⟩
    · have e : pc_se n F cx k = k := by unfold pc_se; rw [if_neg s, if_pos z]
      rw [e] at hp'; exact hp'
    · have e : pc_se n F cx k = F k := by unfold pc_se; rw [if_neg s, if_neg z]
      rw [e] at hp'; exact hp'
theorem xn_loop {post : Int32 → Prop} {u v w : Int32} (h : pb_R n fo sp cx cy F S) (hx : ∀ j, pa_in 2000 (px j)) (hy : ∀ j, pa_in 2000 (py j)) (hu : pa_in 31 u) (hv : pa_in 31 v) (w0 : 0 ≤ w.toInt) (w1 : w.toInt ≤ 32)
    (h1 : (∃ k, k < n ∧ pc_ns px py u v w k (pc_se n F cx k)) → post 1) (h0 : ¬ (∃ k, k < n ∧ pc_ns px py u v w k (pc_se n F cx k)) → post 0) :
    ∀ d k, k + d = n → (∀ j, j < k → ¬ pc_ns px py u v w j (pc_se n F cx j)) → wX_isNear_14 post w u v hp col mo sc (nI n) ns pg bf cl nm sn so sm si px py fo cx (d + 1) (nI k) := by
  have h16 := h.1
  intro d
  induction d with
  | zero =>
    intro k e hall
    have e' : k = n := e
    subst e'
    exact br_t (nI_le (Nat.le_refl _) (by omega)) (h0 (fun z => by obtain ⟨j, hj, hn⟩ := z; exact hall j hj hn))
  | succ d ih =>
    intro k e hall
    have hk : k < n := by omega
    have l := pc_selt (cx := cx) h.2.1 hk
    refine br_f (nI_ge hk (by omega)) (xn_end h hk ?_)
    refine xn_seg (vp_in_nI (by omega) (by decide)) (vp_in_nI (by omega) (by decide)) hx hy hu hv w0 w1 (fun z => ?_) (fun z => ?_)
    · rw [nI_clamp (by omega), nI_clamp (by omega)] at z
      exact br_f pe_10 (h1 ⟨k, hk, z⟩)
    · rw [nI_clamp (by omega), nI_clamp (by omega)] at z
      refine br_t rfl (nm_r (nI_1 k) (ih (k + 1) (by omega) (fun j hj => ?_)))
      by_cases c : j = k
      · subst c; exact z
      · exact hall j (by omega)
theorem xn_near {post : Int32 → Prop} {p : Nat} {w : Int32} (h : pb_R n fo sp cx cy F S) (hx : ∀ j, pa_in 2000 (px j)) (hy : ∀ j, pa_in 2000 (py j)) (w0 : 0 ≤ w.toInt) (w1 : w.toInt ≤ 32) (hp0 : p < 256)
    (hp' : post (pi_v (∃ k, k < n ∧ pc_ns px py (nI (2 * (p % 16) + 1)) (nI (2 * (p / 16) + 1)) w k (pc_se n F cx k)))) : wpX_isNear post (hp, col, mo, sc, nI n, ns, pg, bf, cl, nm, sn, so, sm, si, px, py, fo, cx) (nI p) w := by
  unfold wpX_isNear
  refine xk_x hp0 (xk_y hp0 ⟨n + 1, ?_⟩)
  refine xn_loop h hx hy (ph_31 (by omega)) (ph_31 (by omega)) w0 w1 (fun z => ?_) (fun z => ?_) n 0 (by omega) (fun j hj => absurd hj (Nat.not_lt_zero j))
  · rw [pi_t z] at hp'; exact hp'
  · rw [pi_f z] at hp'; exact hp'
/-! Y's walk -/
theorem yn_61 {post : Int32 → Prop} {J : Int32 → Prop} {a b : Nat} {w : Int32} {k l : Nat} (hx : ∀ j, pa_in 2000 (px j)) (hy : ∀ j, pa_in 2000 (py j)) (ha : a < 16) (hb : b < 16) (w0 : 0 ≤ w.toInt) (w1 : w.toInt ≤ 32) (hk : k < 16) (hl : l < 16)
    (h1 : pc_ns px py (nI (2 * a + 1)) (nI (2 * b + 1)) w k l → post 1) (h0 : ¬ pc_ns px py (nI (2 * a + 1)) (nI (2 * b + 1)) w k l → J (nI (k + 1))) : wY_isNear_61 post J (nI a) (nI b) w (nI k) (nI l) col mo sc nc ns hp nm cl sn so sm si px py sp cy pg bf ch := by
  unfold wY_isNear_61 wY_isNear_66
  refine br_f pe_10 ?_
  rw [ph_c, ph_c]
  refine yn_to (vp_in_nI hk (by decide)) (vp_in_nI hl (by decide)) hx hy (ph_31 (by omega)) (ph_31 (by omega)) w0 w1 (fun z => ?_) (fun z => ?_)
  · rw [nI_clamp (by omega), nI_clamp (by omega)] at z
    exact br_f pe_10 (h1 z)
  · rw [nI_clamp (by omega), nI_clamp (by omega)] at z
    exact br_t rfl (nm_r (nI_1 k) (h0 z))
theorem yn_step {post : Int32 → Prop} {J : Int32 → Prop} {a b : Nat} {w : Int32} {k : Nat} (h : pb_R n fo sp cx cy F S) (hx : ∀ j, pa_in 2000 (px j)) (hy : ∀ j, pa_in 2000 (py j)) (ha : a < 16) (hb : b < 16) (w0 : 0 ≤ w.toInt) (w1 : w.toInt ≤ 32) (hk : k < n)
    (h1 : pc_dr n F S cy k → pc_ns px py (nI (2 * a + 1)) (nI (2 * b + 1)) w k (pb_nx n F k) → post 1) (h0 : ¬ (pc_dr n F S cy k ∧ pc_ns px py (nI (2 * a + 1)) (nI (2 * b + 1)) w k (pb_nx n F k)) → J (nI (k + 1))) :
    (nI k < nI (pb_nx n F k) → wY_isNear_32 post J (nI a) (nI b) w (nI k) (nI (pb_nx n F k)) 0 col mo sc (nI n) ns hp nm cl sn so sm si px py sp cy pg bf ch) ∧ (¬ nI k < nI (pb_nx n F k) → wY_isNear_32 post J (nI a) (nI b) w (nI k) (nI (pb_nx n F k)) 1 col mo sc (nI n) ns hp nm cl sn so sm si px py sp cy pg bf ch) := by
  have h16 := h.1
  have hs := h.2.2.2.1
  have l := pb_nxlt h.2.1 hk
  have l2 := pb_le h.2.1 k hk
  rw [nI_ltI (by omega) (by omega)]
  refine br_c (fun z => ?_) (fun z => ?_)
  · have dr : pc_dr n F S cy k := Or.inl z
    unfold wY_isNear_32
    exact br_t rfl (yn_61 hx hy ha hb w0 w1 (by omega) (by omega) (fun y => h1 dr y) (fun y => h0 (fun q => y q.2)))
  · unfold wY_isNear_32
    refine br_f pe_10 ?_
    rw [nI_clamp (by omega), hs k hk, nI_clamp (by omega), nI_eq (by omega) (by omega)]
    refine ⟨vp_in_nI (by omega) (by decide), vp_in_nI (by omega) (by decide), br_c (fun c => br_c (fun d => ?_) (fun d => ?_)) (fun c => ?_)⟩
    · have dr : pc_dr n F S cy k := Or.inr (Or.inr d)
      exact yn_61 hx hy ha hb w0 w1 (by omega) (by omega) (fun y => h1 dr y) (fun y => h0 (fun q => y q.2))
    · have dr : ¬ pc_dr n F S cy k := fun q => q.elim z (fun q => q.elim (fun q => q c) d)
      unfold wY_isNear_66
      exact br_t rfl (nm_r (nI_1 k) (h0 (fun q => dr q.1)))
    · have dr : pc_dr n F S cy k := Or.inr (Or.inl c)
      exact yn_61 hx hy ha hb w0 w1 (by omega) (by omega) (fun y => h1 dr y) (fun y => h0 (fun q => y q.2))
theorem yn_lp {post : Int32 → Prop} {a b : Nat} {w : Int32} (h : pb_R n fo sp cx cy F S) (hx : ∀ j, pa_in 2000 (px j)) (hy : ∀ j, pa_in 2000 (py j)) (ha : a < 16) (hb : b < 16) (w0 : 0 ≤ w.toInt) (w1 : w.toInt ≤ 32)
    (h1 : (∃ k, k < n ∧ pc_dr n F S cy k ∧ pc_ns px py (nI (2 * a + 1)) (nI (2 * b + 1)) w k (pb_nx n F k)) → post 1) (h0 : ¬ (∃ k, k < n ∧ pc_dr n F S cy k ∧ pc_ns px py (nI (2 * a + 1)) (nI (2 * b + 1)) w k (pb_nx n F k)) → post 0) :
    ∀ d k, k + d = n → (∀ j, j < k → ¬ (pc_dr n F S cy j ∧ pc_ns px py (nI (2 * a + 1)) (nI (2 * b + 1)) w j (pb_nx n F j))) → wY_isNear_3 post (nI a) (nI b) w col mo sc (nI n) ns hp nm cl sn so sm si px py sp cy pg bf ch (d + 1) (nI k) := by
  have h16 := h.1
  intro d
  induction d with
  | zero =>
    intro k e hall
    have e' : k = n := e
    subst e'
    exact br_t (nI_le (Nat.le_refl _) (by omega)) (h0 (fun z => by obtain ⟨j, hj, hn⟩ := z; exact hall j hj hn))
  | succ d ih =>
    intro k e hall
    have hk : k < n := by omega
    refine br_f (nI_ge hk (by omega)) (yn_next h hk ?_)
    refine yn_step h hx hy ha hb w0 w1 hk (fun y z => h1 ⟨k, hk, y, z⟩) (fun z => ih (k + 1) (by omega) (fun j hj => ?_))
    by_cases c : j = k
    · subst c; exact z
    · exact hall j (by omega)
theorem yn_near {post : Int32 → Prop} {a b : Nat} {w : Int32} (h : pb_R n fo sp cx cy F S) (hx : ∀ j, pa_in 2000 (px j)) (hy : ∀ j, pa_in 2000 (py j)) (w0 : 0 ≤ w.toInt) (w1 : w.toInt ≤ 32) (ha : a < 16) (hb : b < 16)
    (hp' : post (pi_v (∃ k, k < n ∧ pc_ns px py (nI (2 * a + 1)) (nI (2 * b + 1)) w k (pc_se n F cx k)))) : wpY_isNear post (col, mo, sc, nI n, ns, hp, nm, cl, sn, so, sm, si, px, py, sp, cy, pg, bf, ch) (nI a) (nI b) w := by
  rw [propext (pc_near h px py (nI (2 * a + 1)) (nI (2 * b + 1)) w)] at hp'
  unfold wpY_isNear
  refine ⟨n + 1, yn_lp h hx hy ha hb w0 w1 (fun z => ?_) (fun z => ?_) n 0 (by omega) (fun j hj => absurd hj (Nat.not_lt_zero j))⟩
  · rw [pi_t z] at hp'; exact hp'
  · rw [pi_f z] at hp'; exact hp'
end PPnear
