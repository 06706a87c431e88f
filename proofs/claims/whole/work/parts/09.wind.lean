section PPwind
variable {hp col mo sc nc ns : Int32} {pg bf cl nm sn so sm si px py fo cx sp cy ch : Nat → Int32} {n : Nat} {F S : Nat → Nat}
theorem pk_div {a d : Nat} (ha : a < 2 ^ 31) (h0 : 0 < d) (hd : d < 2 ^ 31) : nI a / nI d = nI (a / d) := by
  apply Int32.toInt_inj.mp
  rw [lg_idiv_nonneg (by rw [nI_toInt ha]; omega) (by rw [nI_toInt hd]; omega), nI_toInt ha, nI_toInt hd, nI_toInt (Nat.lt_of_le_of_lt (Nat.div_le_self a d) ha)]
  first | rfl | exact (Int.natCast_ediv _ _).symm
theorem pk_rem {a d : Nat} (ha : a < 2 ^ 31) (h0 : 0 < d) (hd : d < 2 ^ 31) : nI a - nI a / nI d * nI d = nI (a % d) := by
  rw [pk_div ha h0 hd, pa_mul, pa_sub (Nat.div_mul_le_self a d)]
  exact congrArg nI (by have := Nat.div_add_mod' a d; omega)
theorem ph_16 : ¬ (16 : Int32) = 0 := by decide
theorem ph_31 {m : Nat} (h : m ≤ 31) : pa_in 31 (nI m) := by
  unfold pa_in
  rw [nI_toInt (by omega)]
  omega
theorem ph_c (a : Nat) : 2 * nI a + 1 = nI (2 * a + 1) := by rw [show (2 : Int32) = nI 2 from rfl, pa_mul, nI_1]
theorem ph_r {p : Nat} (h : p < 256) : nI p - nI p / 16 * 16 = nI (p % 16) := pk_rem (d := 16) (by omega) (by omega) (by omega)
theorem ph_d {p : Nat} (h : p < 256) : nI p / 16 = nI (p / 16) := pk_div (d := 16) (by omega) (by omega) (by omega)
theorem xk_x {post : Int32 → Prop} {p : Nat} (hp : p < 256) (h : post (nI (2 * (p % 16) + 1))) : wpX_centreX post (nI p) := by
  unfold wpX_centreX
  rw [ph_r hp, ph_c]
  exact ⟨ph_16, h⟩
theorem xk_y {post : Int32 → Prop} {p : Nat} (hp : p < 256) (h : post (nI (2 * (p / 16) + 1))) : wpX_centreY post (nI p) := by
  unfold wpX_centreY
  rw [ph_d hp, ph_c]
  exact ⟨ph_16, h⟩
/-! a segment's count -/
theorem ph_cvA {x1 y1 x2 y2 u v : Int32} (a : v < y1) (b : v < y2) : pc_cv x1 y1 x2 y2 u v = 0 := by
  unfold pc_cv
  rw [if_neg (fun z => Int32.not_le.mpr a z.1), if_neg (fun z => Int32.not_le.mpr b z.1)]
theorem ph_cvB {x1 y1 x2 y2 u v : Int32} (a : v < y1) (b : ¬ v < y2) : pc_cv x1 y1 x2 y2 u v = if 0 ≤ (v - y1) * (x2 - x1) + (x1 - u) * (y2 - y1) then 0 else -1 := by
  unfold pc_cv
  rw [if_neg (fun z => Int32.not_le.mpr a z.1), if_pos ⟨Int32.not_lt.mp b, a⟩]
theorem ph_cvC {x1 y1 x2 y2 u v : Int32} (a : ¬ v < y1) (b : y2 ≤ v) : pc_cv x1 y1 x2 y2 u v = 0 := by
  unfold pc_cv
  rw [if_neg (fun z => Int32.not_lt.mpr b z.2), if_neg (fun z => a z.2)]
theorem ph_cvD {x1 y1 x2 y2 u v : Int32} (a : ¬ v < y1) (b : ¬ y2 ≤ v) : pc_cv x1 y1 x2 y2 u v = if (v - y1) * (x2 - x1) + (x1 - u) * (y2 - y1) ≤ 0 then 0 else 1 := by
  unfold pc_cv
  rw [if_pos ⟨Int32.not_lt.mp a, Int32.not_le.mp b⟩]
theorem xc_cross {post : Int32 → Prop} {x1 x2 u v : Int32} (i1 : vp_in x1 16) (i2 : vp_in x2 16) (h : post (pc_cv (px x1.toNatClampNeg) (py x1.toNatClampNeg) (px x2.toNatClampNeg) (py x2.toNatClampNeg) u v)) : wpX_crossing post (hp, col, mo, sc, nc, ns, pg, bf, cl, nm, sn, so, sm, si, px, py, fo, cx) x1 x2 u v := by
  unfold wpX_crossing
  refine ⟨i1, nm_e ⟨i2, nm_e ?_⟩⟩
  by_cases a : v < py x1.toNatClampNeg
  · refine br_t a ?_
    unfold wX_crossing_34 wX_crossing_35
    by_cases b : v < py x2.toNatClampNeg
    · rw [ph_cvA a b] at h
      refine br_t b ?_
      unfold wX_crossing_55 wX_crossing_56
      exact br_t rfl (br_t rfl h)
    · rw [ph_cvB a b] at h
      refine br_f b (br_f (Int32.not_le.mpr a) ?_)
      unfold wX_crossing_56 wX_crossing_70
      refine br_t rfl (br_f pe_10 ⟨i2, i1, i1, nm_e (br_t rfl ?_)⟩)
      exact br_c (fun d => by rw [if_pos d] at h; exact h) (fun d => by rw [if_neg d] at h; exact h)
  · refine br_f a ?_
    by_cases b : py x2.toNatClampNeg ≤ v
    · rw [ph_cvC a b] at h
      refine br_t b ?_
      unfold wX_crossing_34 wX_crossing_35
      refine br_f (Int32.not_lt.mpr b) (br_t (Int32.not_lt.mp a) ?_)
      unfold wX_crossing_55 wX_crossing_56
      exact br_t rfl (br_t rfl h)
    · rw [ph_cvD a b] at h
      refine br_f b ?_
      unfold wX_crossing_35
      refine br_t (Int32.not_le.mp b) ?_
      unfold wX_crossing_55 wX_crossing_56 wX_crossing_70
      refine br_f pe_10 ⟨i2, i1, i1, nm_e (br_f pe_10 ?_)⟩
      exact br_c (fun d => by rw [if_pos d] at h; exact h) (fun d => by rw [if_neg d] at h; exact h)
theorem yc_75u {post : Int32 → Prop} {x1 x4 u v : Int32} (i1 : vp_in x1 16) (i4 : vp_in x4 16) (hx : ∀ j, pa_in 2000 (px j)) (hy : ∀ j, pa_in 2000 (py j)) (hu : pa_in 31 u) (hv : pa_in 31 v)
    (h : post (if (v - py x1.toNatClampNeg) * (px x4.toNatClampNeg - px x1.toNatClampNeg) + (px x1.toNatClampNeg - u) * (py x4.toNatClampNeg - py x1.toNatClampNeg) ≤ 0 then 0 else 1)) : wY_counts_75 post x1 u v x4 1 col mo sc nc ns hp nm cl sn so sm si px py sp cy pg bf ch := by
  have e := (pa_cr (hx x1.toNatClampNeg) (hy x1.toNatClampNeg) (hx x4.toNatClampNeg) (hy x4.toNatClampNeg) hu hv).1
  unfold wY_counts_75
  refine ⟨i1, i4, i1, nm_e ⟨i1, i4, i1, nm_e (br_f pe_10 ?_)⟩⟩
  exact br_c (fun d => by rw [if_pos (e.mpr d)] at h; exact h) (fun d => by rw [if_neg (fun z => d (e.mp z))] at h; exact h)
theorem yc_75d {post : Int32 → Prop} {x1 x4 u v : Int32} (i1 : vp_in x1 16) (i4 : vp_in x4 16) (hx : ∀ j, pa_in 2000 (px j)) (hy : ∀ j, pa_in 2000 (py j)) (hu : pa_in 31 u) (hv : pa_in 31 v)
    (h : post (if 0 ≤ (v - py x1.toNatClampNeg) * (px x4.toNatClampNeg - px x1.toNatClampNeg) + (px x1.toNatClampNeg - u) * (py x4.toNatClampNeg - py x1.toNatClampNeg) then 0 else -1)) : wY_counts_75 post x1 u v x4 0 col mo sc nc ns hp nm cl sn so sm si px py sp cy pg bf ch := by
  have e := (pa_cr (hx x1.toNatClampNeg) (hy x1.toNatClampNeg) (hx x4.toNatClampNeg) (hy x4.toNatClampNeg) hu hv).2
  unfold wY_counts_75
  refine ⟨i1, i4, i1, nm_e ⟨i1, i4, i1, nm_e (br_t rfl ?_)⟩⟩
  exact br_c (fun d => by rw [if_pos (e.mpr d)] at h; exact h) (fun d => by rw [if_neg (fun z => d (e.mp z))] at h; exact h)
theorem yc_tail {post : Int32 → Prop} {x1 x4 u v : Int32} (i1 : vp_in x1 16) (i4 : vp_in x4 16) (hx : ∀ j, pa_in 2000 (px j)) (hy : ∀ j, pa_in 2000 (py j)) (hu : pa_in 31 u) (hv : pa_in 31 v)
    (h : post (pc_cv (px x1.toNatClampNeg) (py x1.toNatClampNeg) (px x4.toNatClampNeg) (py x4.toNatClampNeg) u v)) :
    vp_in x1 16 ∧ ((v < py x1.toNatClampNeg → wY_counts_32 post x1 u v x4 col mo sc nc ns hp nm cl sn so sm si px py sp cy pg bf ch) ∧ (¬ v < py x1.toNatClampNeg → (vp_in x4 16 ∧ ((py x4.toNatClampNeg ≤ v → wY_counts_32 post x1 u v x4 col mo sc nc ns hp nm cl sn so sm si px py sp cy pg bf ch) ∧ (¬ py x4.toNatClampNeg ≤ v → wY_counts_33 post x1 u v x4 1 col mo sc nc ns hp nm cl sn so sm si px py sp cy pg bf ch))))) := by
  refine ⟨i1, ?_⟩
  by_cases a : v < py x1.toNatClampNeg
  · refine br_t a ?_
    unfold wY_counts_32 wY_counts_33
    by_cases b : v < py x4.toNatClampNeg
    · rw [ph_cvA a b] at h
      refine ⟨i4, br_t b ?_⟩
      unfold wY_counts_60 wY_counts_61
      exact br_t rfl (br_t rfl h)
    · rw [ph_cvB a b] at h
      refine ⟨i4, br_f b ⟨i1, br_f (Int32.not_le.mpr a) ?_⟩⟩
      unfold wY_counts_61
      exact br_t rfl (br_f pe_10 (yc_75d i1 i4 hx hy hu hv h))
  · refine br_f a ⟨i4, ?_⟩
    by_cases b : py x4.toNatClampNeg ≤ v
    · rw [ph_cvC a b] at h
      refine br_t b ?_
      unfold wY_counts_32 wY_counts_33
      refine ⟨i4, br_f (Int32.not_lt.mpr b) ⟨i1, br_t (Int32.not_lt.mp a) ?_⟩⟩
      unfold wY_counts_60 wY_counts_61
      exact br_t rfl (br_t rfl h)
    · rw [ph_cvD a b] at h
      refine br_f b ?_
      unfold wY_counts_33
      refine ⟨i4, br_t (Int32.not_le.mp b) ?_⟩
      unfold wY_counts_60 wY_counts_61
      exact br_f pe_10 (yc_75u i1 i4 hx hy hu hv h)
/-! where a point leads -/
theorem xe_c {A B : Prop} (h : pb_R n fo sp cx cy F S) {k : Nat} (hk : k < n) (f : k + 1 < n ∧ F (k + 1) = F k → A) (g : ¬ (k + 1 < n ∧ F (k + 1) = F k) → B) : wpX_endsSubpath (fun r => (r = 0 → A) ∧ (¬ r = 0 → B)) (hp, col, mo, sc, nI n, ns, pg, bf, cl, nm, sn, so, sm, si, px, py, fo, cx) (nI k) := by
  obtain ⟨h16, ok, hf, hs, hc⟩ := h
  unfold wpX_endsSubpath
  rw [nI_1 k]
  by_cases z : n ≤ k + 1
  · exact br_t (nI_le z (by omega)) (br_f pe_10 (g (fun y => by omega)))
  · have l1 := pb_le ok k hk
    have l2 := pb_le ok (k + 1) (by omega)
    refine br_f (nI_ge (by omega) (by omega)) ⟨vp_in_nI (by omega) (by decide), vp_in_nI (by omega) (by decide), ?_⟩
    rw [nI_clamp (by omega), nI_clamp (by omega), hf k hk, hf (k + 1) (by omega), nI_eq (by omega) (by omega)]
    exact br_c (fun y => br_t rfl (f ⟨by omega, y⟩)) (fun y => br_f pe_10 (g (fun w => y w.2)))
theorem yn_loop {post : Int32 → Prop} (h : pb_R n fo sp cx cy F S) {k : Nat} (hk : k < n) (hp' : post (nI (F k))) : ∀ j, j ≤ k → S j = S k → wY_next_33 post (nI k) col mo sc (nI n) ns hp nm cl sn so sm si px py sp cy pg bf ch (j + 1) (nI j) := by
  obtain ⟨h16, ok, hf, hs, hc⟩ := h
  intro j
  induction j with
  | zero =>
    intro hj e
    have i := (pb_iff ok (j := 0) (k := k) (by omega) hk).mpr e
    have l := pb_le ok 0 (by omega)
    rw [← i, show F 0 = 0 by omega] at hp'
    exact br_t (by decide) hp'
  | succ j ih =>
    intro hj e
    have i := (pb_iff ok (j := j + 1) (k := k) (by omega) hk).mpr e
    have l1 := pb_le ok k hk
    have l2 := pb_le ok j (by omega)
    refine br_f (nI_nle (by omega) (by omega)) ?_
    rw [nI_pred, nI_clamp (by omega), nI_clamp (by omega), hs j (by omega), hs k hk, nI_eq (by omega) (by omega)]
    refine ⟨vp_in_nI (by omega) (by decide), vp_in_nI (by omega) (by decide), ?_⟩
    rcases pb_pred ok (k := j + 1) (by omega) with ⟨a, b⟩ | ⟨a, b, d, c⟩
    · have b' := b (by omega)
      rw [Nat.add_sub_cancel, e] at b'
      rw [← i, a] at hp'
      exact br_f b' hp'
    · rw [Nat.add_sub_cancel, e] at d
      exact br_t d (nm_r (pa_m1 (by omega)) (ih (by omega) d))
theorem yn_next {post : Int32 → Prop} (h : pb_R n fo sp cx cy F S) {k : Nat} (hk : k < n) (hp' : post (nI (pb_nx n F k))) : wpY_next post (col, mo, sc, nI n, ns, hp, nm, cl, sn, so, sm, si, px, py, sp, cy, pg, bf, ch) (nI k) := by
  have h' := h
  obtain ⟨h16, ok, hf, hs, hc⟩ := h'
  unfold wpY_next
  rw [nI_1 k]
  by_cases z : n ≤ k + 1
  · have e : pb_nx n F k = F k := if_neg (fun y => by omega)
    rw [e] at hp'
    exact br_t (nI_le z (by omega)) ⟨k + 1, yn_loop h hk hp' k (Nat.le_refl k) rfl⟩
  · have l1 := pb_le ok k hk
    have l2 := pb_le ok (k + 1) (by omega)
    have i := pb_iff ok (j := k + 1) (k := k) (by omega) hk
    refine br_f (nI_ge (by omega) (by omega)) ⟨vp_in_nI (by omega) (by decide), vp_in_nI (by omega) (by decide), ?_⟩
    rw [nI_clamp (by omega), nI_clamp (by omega), hs k hk, hs (k + 1) (by omega), nI_eq (by omega) (by omega)]
    refine br_c (fun y => ?_) (fun y => ⟨k + 1, ?_⟩)
    · have e : pb_nx n F k = k + 1 := if_pos ⟨by omega, i.mpr y⟩
      rw [e] at hp'; exact hp'
    · have e : pb_nx n F k = F k := if_neg (fun w => y (i.mp w.2))
      rw [e] at hp'
      exact yn_loop h hk hp' k (Nat.le_refl k) rfl
theorem yc_counts {post : Int32 → Prop} {u v : Int32} (h : pb_R n fo sp cx cy F S) (hx : ∀ j, pa_in 2000 (px j)) (hy : ∀ j, pa_in 2000 (py j)) (hu : pa_in 31 u) (hv : pa_in 31 v) {k : Nat} (hk : k < n)
    (hp' : post (pc_cv (px k) (py k) (px (pb_nx n F k)) (py (pb_nx n F k)) u v)) : wpY_counts post (col, mo, sc, nI n, ns, hp, nm, cl, sn, so, sm, si, px, py, sp, cy, pg, bf, ch) (nI k) u v := by
  have h16 := h.1
  have l := pb_nxlt h.2.1 hk
  unfold wpY_counts
  refine yn_next h hk (yc_tail (vp_in_nI (by omega) (by decide)) (vp_in_nI (by omega) (by decide)) hx hy hu hv ?_)
  rw [nI_clamp (by omega), nI_clamp (by omega)]
  exact hp'
/-! the winding -/
theorem xw_48 {post : Int32 → Prop} {J : Int32 → Int32 → Prop} {u v x4 z : Int32} {k l : Nat} (ez : z = nI l) (hk : k < 16) (hl : l < 16) (hj : J (x4 + pc_cv (px k) (py k) (px l) (py l) u v) (nI (k + 1))) : wX_windingOf_48 post J u v x4 (nI k) z hp col mo sc nc ns pg bf cl nm sn so sm si px py fo cx := by
  subst ez
  unfold wX_windingOf_48
  refine xc_cross (vp_in_nI hk (by decide)) (vp_in_nI hl (by decide)) ?_
  rw [nI_clamp (by omega), nI_clamp (by omega)]
  exact nm_e (nm_r (nI_1 k) hj)
theorem xw_loop {post : Int32 → Prop} {u v : Int32} (h : pb_R n fo sp cx cy F S) (hp' : post (pc_w px py (pb_nx n F) u v n)) : ∀ d k, k + d = n → wX_windingOf_16 post u v hp col mo sc (nI n) ns pg bf cl nm sn so sm si px py fo cx (d + 1) (pc_w px py (pb_nx n F) u v k) (nI k) := by
  have h16 := h.1
  intro d
  induction d with
  | zero =>
    intro k e
    have e' : k = n := e
    subst e'
    exact br_t (nI_le (Nat.le_refl _) (by omega)) hp'
  | succ d ih =>
    intro k e
    have hk : k < n := by omega
    have l := pb_nxlt h.2.1 hk
    refine br_f (nI_ge hk (by omega)) (xe_c h hk (fun s => ?_) (fun s => ⟨vp_in_nI (by omega) (by decide), ?_⟩))
    · have e1 : pb_nx n F k = k + 1 := if_pos s
      refine xw_48 (l := k + 1) (nI_1 k) (by omega) (by omega) ?_
      have i := ih (k + 1) (by omega)
      rw [pc_w, e1] at i
      exact i
    · have e1 : pb_nx n F k = F k := if_neg s
      refine xw_48 (l := F k) ?_ (by omega) (by omega) ?_
      · rw [nI_clamp (by omega)]; exact h.2.2.1 k hk
      · have i := ih (k + 1) (by omega)
        rw [pc_w, e1] at i
        exact i
theorem xw_winding {post : Int32 → Prop} {p : Nat} (h : pb_R n fo sp cx cy F S) (hp0 : p < 256) (hp' : post (pc_w px py (pb_nx n F) (nI (2 * (p % 16) + 1)) (nI (2 * (p / 16) + 1)) n)) : wpX_windingOf post (hp, col, mo, sc, nI n, ns, pg, bf, cl, nm, sn, so, sm, si, px, py, fo, cx) (nI p) := by
  unfold wpX_windingOf
  refine xk_x hp0 (xk_y hp0 ⟨n + 1, ?_⟩)
  exact xw_loop h hp' n 0 (by omega)
theorem xw_inside {post : Int32 → Prop} {p : Nat} {rule : Int32} (h : pb_R n fo sp cx cy F S) (hp0 : p < 256) (hp' : post (pc_in (pc_w px py (pb_nx n F) (nI (2 * (p % 16) + 1)) (nI (2 * (p / 16) + 1)) n) rule)) : wpX_isInside post (hp, col, mo, sc, nI n, ns, pg, bf, cl, nm, sn, so, sm, si, px, py, fo, cx) (nI p) rule := by
  unfold wpX_isInside
  refine xw_winding h hp0 ?_
  unfold pc_in at hp'
  by_cases z : rule = 0
  · rw [if_pos z] at hp'
    exact br_t z (br_c (fun d => by rw [if_pos d] at hp'; exact hp') (fun d => by rw [if_neg d] at hp'; exact hp'))
  · rw [if_neg z] at hp'
    exact br_f z (br_c (fun d => by rw [if_pos d] at hp'; exact hp') (fun d => by rw [if_neg d] at hp'; exact hp'))
theorem yw_loop {post : Int32 → Prop} {a b : Nat} (h : pb_R n fo sp cx cy F S) (hx : ∀ j, pa_in 2000 (px j)) (hy : ∀ j, pa_in 2000 (py j)) (ha : a < 16) (hb : b < 16) (hp' : post (pc_w px py (pb_nx n F) (nI (2 * a + 1)) (nI (2 * b + 1)) n)) : ∀ d k, k + d = n → wY_windingOf_5 post (nI a) (nI b) col mo sc (nI n) ns hp nm cl sn so sm si px py sp cy pg bf ch (d + 1) (pc_w px py (pb_nx n F) (nI (2 * a + 1)) (nI (2 * b + 1)) k) (nI k) := by
  have h16 := h.1
  intro d
  induction d with
  | zero =>
    intro k e
    have e' : k = n := e
    subst e'
    exact br_t (nI_le (Nat.le_refl _) (by omega)) hp'
  | succ d ih =>
    intro k e
    have hk : k < n := by omega
    refine br_f (nI_ge hk (by omega)) ?_
    rw [ph_c, ph_c]
    exact yc_counts h hx hy (ph_31 (by omega)) (ph_31 (by omega)) hk (nm_e (nm_r (nI_1 k) (ih (k + 1) (by omega))))
theorem yw_winding {post : Int32 → Prop} {a b : Nat} (h : pb_R n fo sp cx cy F S) (hx : ∀ j, pa_in 2000 (px j)) (hy : ∀ j, pa_in 2000 (py j)) (ha : a < 16) (hb : b < 16) (hp' : post (pc_w px py (pb_nx n F) (nI (2 * a + 1)) (nI (2 * b + 1)) n)) : wpY_windingOf post (col, mo, sc, nI n, ns, hp, nm, cl, sn, so, sm, si, px, py, sp, cy, pg, bf, ch) (nI a) (nI b) := by
  unfold wpY_windingOf
  exact ⟨n + 1, yw_loop h hx hy ha hb hp' n 0 (by omega)⟩
theorem yx_loop {post : Int32 → Prop} {a b : Nat} (h : pb_R n fo sp cx cy F S) (hx : ∀ j, pa_in 2000 (px j)) (hy : ∀ j, pa_in 2000 (py j)) (ha : a < 16) (hb : b < 16) (hp' : post (pc_c px py (pb_nx n F) (nI (2 * a + 1)) (nI (2 * b + 1)) n)) : ∀ d k, k + d = n → wY_crossings_5 post (nI a) (nI b) col mo sc (nI n) ns hp nm cl sn so sm si px py sp cy pg bf ch (d + 1) (pc_c px py (pb_nx n F) (nI (2 * a + 1)) (nI (2 * b + 1)) k) (nI k) := by
  have h16 := h.1
  intro d
  induction d with
  | zero =>
    intro k e
    have e' : k = n := e
    subst e'
    exact br_t (nI_le (Nat.le_refl _) (by omega)) hp'
  | succ d ih =>
    intro k e
    have hk : k < n := by omega
    have i := ih (k + 1) (by omega)
    refine br_f (nI_ge hk (by omega)) ?_
    rw [ph_c, ph_c]
    refine yc_counts h hx hy (ph_31 (by omega)) (ph_31 (by omega)) hk (br_c (fun z => ?_) (fun z => ?_))
    · rw [pc_c, if_pos z] at i
      exact nm_r (nI_1 k) i
    · rw [pc_c, if_neg z] at i
      exact nm_e (nm_r (nI_1 k) i)
theorem yw_inside {post : Int32 → Prop} {a b : Nat} {rule : Int32} (h : pb_R n fo sp cx cy F S) (hx : ∀ j, pa_in 2000 (px j)) (hy : ∀ j, pa_in 2000 (py j)) (ha : a < 16) (hb : b < 16) (hp' : post (pc_in (pc_w px py (pb_nx n F) (nI (2 * a + 1)) (nI (2 * b + 1)) n) rule)) : wpY_isInside post (col, mo, sc, nI n, ns, hp, nm, cl, sn, so, sm, si, px, py, sp, cy, pg, bf, ch) (nI a) (nI b) rule := by
  have h16 := h.1
  unfold wpY_isInside
  unfold pc_in at hp'
  by_cases z : rule = 0
  · rw [if_pos z] at hp'
    refine br_t z (yw_winding h hx hy ha hb ?_)
    exact br_c (fun d => by rw [if_pos d] at hp'; exact hp') (fun d => by rw [if_neg d] at hp'; exact hp')
  · rw [if_neg z] at hp'
    have q := pc_par (px := px) (py := py) (nx := pb_nx n F) (u := nI (2 * a + 1)) (v := nI (2 * b + 1)) h16
    refine br_f z ?_
    unfold wpY_crossings
    refine ⟨n + 1, yx_loop h hx hy ha hb ?_ n 0 (by omega)⟩
    refine ⟨by decide, br_c (fun d => ?_) (fun d => ?_)⟩
    · rw [if_neg (fun w => q.mp w d)] at hp'; exact hp'
    · rw [if_pos (q.mpr d)] at hp'; exact hp'
/-! inside, winding -/
theorem xr_c {A B : Prop} {r : Int32} (f : ¬ (r = 0 ∨ r = 1) → A) (g : (r = 0 ∨ r = 1) → B) : wpX_isRule (fun y => (y = 0 → A) ∧ (¬ y = 0 → B)) r := by
  unfold wpX_isRule
  exact br_c (fun h => br_f pe_10 (g (Or.inl h))) (fun h => br_c (fun i => br_f pe_10 (g (Or.inr i))) (fun i => br_t rfl (f (fun z => z.elim h i))))
theorem i_vc_winding {k : Nat} {u : SX} {v : SY} (I : i_Rel k u v) (hk : k + 4 ≤ 2048) (v1 : Int32) (v2 : Int32) : wpX_winding (fun r => wpY_winding (fun r' => r' = r ∧ i_Rel (k + 4) u v) v v1 v2) u v1 v2 := by
  obtain ⟨hp, col, mo, c, n, pg, bf, cl, nm, sn, so, sm, si, px, py, fo, cx, sp, cy, ch, F, S, rfl, rfl, h⟩ := I
  unfold wpX_winding
  refine xp_c (fun f => ?_) (fun f => ?_)
  · show wpY_winding _ _ _ _
    unfold wpY_winding
    exact yp_c (fun _ => ⟨rfl, pe_mk h⟩) (fun z => absurd z f)
  · obtain ⟨a, b, ha, hb, rfl, rfl⟩ := pg_of f
    rw [pg_ix]
    refine xw_winding h.2.2.2.2.2 (by omega) ?_
    rw [show (b * 16 + a) % 16 = a by omega, show (b * 16 + a) / 16 = b by omega]
    show wpY_winding _ _ _ _
    unfold wpY_winding
    exact yp_c (fun z => absurd f z) (fun _ => yw_winding h.2.2.2.2.2 h.2.2.2.1 h.2.2.2.2.1 ha hb ⟨rfl, pe_mk h⟩)
theorem i_vc_inside {k : Nat} {u : SX} {v : SY} (I : i_Rel k u v) (hk : k + 4 ≤ 2048) (v1 : Int32) (v2 : Int32) (v3 : Int32) : wpX_inside (fun r => wpY_inside (fun r' => r' = r ∧ i_Rel (k + 4) u v) v v1 v2 v3) u v1 v2 v3 := by
  obtain ⟨hp, col, mo, c, n, pg, bf, cl, nm, sn, so, sm, si, px, py, fo, cx, sp, cy, ch, F, S, rfl, rfl, h⟩ := I
  unfold wpX_inside
  refine xp_c (fun f => ?_) (fun f => xr_c (fun g => ?_) (fun g => ?_))
  · show wpY_inside _ _ _ _ _
    unfold wpY_inside
    exact yp_c (fun _ => ⟨rfl, pe_mk h⟩) (fun z => absurd z f)
  · show wpY_inside _ _ _ _ _
    unfold wpY_inside
    exact yp_c (fun z => absurd f z) (fun _ => br_f (fun z => g (Or.inl z)) (br_f (fun z => g (Or.inr z)) ⟨rfl, pe_mk h⟩))
  · obtain ⟨a, b, ha, hb, rfl, rfl⟩ := pg_of f
    rw [pg_ix]
    refine xw_inside h.2.2.2.2.2 (by omega) ?_
    rw [show (b * 16 + a) % 16 = a by omega, show (b * 16 + a) / 16 = b by omega]
    have Y : ∀ post : Int32 → Prop, post (pc_in (pc_w px py (pb_nx n F) (nI (2 * a + 1)) (nI (2 * b + 1)) n) v3) → wY_inside_20 (fun r' => post r') (nI a) (nI b) v3 col mo (nI c) (nI n) (nI (pb_s n S)) hp nm cl sn so sm si px py sp cy pg bf ch := by
      intro post hpo
      unfold wY_inside_20
      refine yw_inside h.2.2.2.2.2 h.2.2.2.1 h.2.2.2.2.1 ha hb ?_
      rcases pc_in01 (pc_w px py (pb_nx n F) (nI (2 * a + 1)) (nI (2 * b + 1)) n) v3 with e | e <;> rw [e] at hpo ⊢
      · exact br_t rfl hpo
      · exact br_f pe_10 hpo
    have G : ∀ r : Int32, r = pc_in (pc_w px py (pb_nx n F) (nI (2 * a + 1)) (nI (2 * b + 1)) n) v3 → wpY_inside (fun r' => r' = r ∧ i_Rel (k + 4) (hp, col, mo, nI c, nI n, nI (pb_s n S), pg, bf, cl, nm, sn, so, sm, si, px, py, fo, cx) (col, mo, nI c, nI n, nI (pb_s n S), hp, nm, cl, sn, so, sm, si, px, py, sp, cy, pg, bf, ch)) (col, mo, nI c, nI n, nI (pb_s n S), hp, nm, cl, sn, so, sm, si, px, py, sp, cy, pg, bf, ch) (nI a) (nI b) v3 := by
      intro r hr
      unfold wpY_inside
      refine yp_c (fun z => absurd f z) (fun _ => ?_)
      rcases g with g | g
      · exact br_t g (Y _ ⟨hr.symm, pe_mk h⟩)
      · exact br_f (by rw [g]; decide) (br_t g (Y _ ⟨hr.symm, pe_mk h⟩))
    rcases pc_in01 (pc_w px py (pb_nx n F) (nI (2 * a + 1)) (nI (2 * b + 1)) n) v3 with e | e
    · rw [e] at G ⊢
      exact br_t rfl (G 0 rfl)
    · rw [e] at G ⊢
      exact br_f pe_10 (G 1 rfl)
end PPwind
