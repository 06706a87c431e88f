section PPask
variable {hp col mo sc nc ns : Int32} {pg bf cl nm sn so sm si px py fo cx sp cy ch : Nat → Int32}
/-! questions, drop, undo -/
def pg_px (i j : Int32) : Prop := ¬ i < 0 ∧ ¬ 16 ≤ i ∧ ¬ j < 0 ∧ ¬ 16 ≤ j
theorem pg_15 {x : Int32} : 15 < x ↔ 16 ≤ x := by
  rw [Int32.lt_iff_toInt_lt, Int32.le_iff_toInt_le]
  have e7 : (15 : Int32).toInt = 15 := rfl
  have e8 : (16 : Int32).toInt = 16 := rfl
  omega
theorem pg_1 {x : Int32} (h0 : ¬ x < 0) (h : ¬ 16 ≤ x) : ∃ a : Nat, a < 16 ∧ x = nI a := by
  obtain ⟨j, hj, rfl⟩ := nI_of h0
  have h' : ¬ nI 16 ≤ nI j := h
  rw [nI_leI (by omega) hj] at h'
  exact ⟨j, by omega, rfl⟩
theorem pg_of {i j : Int32} (h : pg_px i j) : ∃ a b : Nat, a < 16 ∧ b < 16 ∧ i = nI a ∧ j = nI b := by
  obtain ⟨h1, h2, h3, h4⟩ := h
  obtain ⟨a, ha, ea⟩ := pg_1 h1 h2
  obtain ⟨b, hb, eb⟩ := pg_1 h3 h4
  exact ⟨a, b, ha, hb, ea, eb⟩
theorem pg_ix (a b : Nat) : nI b * 16 + nI a = nI (b * 16 + a) := by rw [show (16 : Int32) = nI 16 from rfl, pa_mul, nI_add]
theorem pg_iy (a b : Nat) : 16 * nI b + nI a = nI (b * 16 + a) := by rw [show (16 : Int32) = nI 16 from rfl, pa_mul, nI_add, Nat.mul_comm]
theorem xp_c {A B : Prop} {i j : Int32} (f : ¬ pg_px i j → A) (g : pg_px i j → B) : wpX_isPixel (fun r => (r = 0 → A) ∧ (¬ r = 0 → B)) i j := by
  unfold wpX_isPixel
  exact br_c (fun a => br_t rfl (f (fun z => z.1 a))) (fun a => br_c (fun b => br_t rfl (f (fun z => z.2.1 b))) (fun b => br_c (fun c => br_t rfl (f (fun z => z.2.2.1 c))) (fun c => br_c (fun d => br_t rfl (f (fun z => z.2.2.2 d))) (fun d => br_f pe_10 (g ⟨a, b, c, d⟩)))))
theorem yp_c {A B : Prop} {i j : Int32} (f : ¬ pg_px i j → A) (g : pg_px i j → B) : wpY_isPixel (fun r => (r = 0 → A) ∧ (¬ r = 0 → B)) (col, mo, sc, nc, ns, hp, nm, cl, sn, so, sm, si, px, py, sp, cy, pg, bf, ch) i j := by
  unfold wpY_isPixel
  exact br_c (fun a => br_t rfl (f (fun z => z.1 a))) (fun a => br_c (fun b => br_t rfl (f (fun z => z.2.1 (pg_15.mp b)))) (fun b => br_c (fun c => br_t rfl (f (fun z => z.2.2.1 c))) (fun c => br_c (fun d => br_t rfl (f (fun z => z.2.2.2 (pg_15.mp d)))) (fun d => br_f pe_10 (g ⟨a, fun z => b (pg_15.mpr z), c, fun z => d (pg_15.mpr z)⟩)))))
theorem i_vc_pixel {k : Nat} {u : SX} {v : SY} (I : i_Rel k u v) (hk : k + 4 ≤ 2048) (v1 : Int32) (v2 : Int32) : wpX_pixel (fun r => wpY_pixel (fun r' => r' = r ∧ i_Rel (k + 4) u v) v v1 v2) u v1 v2 := by
  obtain ⟨hp, col, mo, c, n, pg, bf, cl, nm, sn, so, sm, si, px, py, fo, cx, sp, cy, ch, F, S, rfl, rfl, h⟩ := I
  unfold wpX_pixel
  refine xp_c (fun f => ?_) (fun f => ?_)
  · show wpY_pixel _ _ _ _
    unfold wpY_pixel
    exact yp_c (fun _ => ⟨rfl, pe_mk h⟩) (fun z => absurd z f)
  · obtain ⟨a, b, ha, hb, rfl, rfl⟩ := pg_of f
    rw [pg_ix]
    refine ⟨vp_in_nI (by omega) (by decide), ?_⟩
    show wpY_pixel _ _ _ _
    unfold wpY_pixel
    refine yp_c (fun z => absurd f z) (fun _ => ?_)
    rw [pg_iy]
    exact ⟨vp_in_nI (by omega) (by decide), rfl, pe_mk h⟩
theorem i_vc_clipped {k : Nat} {u : SX} {v : SY} (I : i_Rel k u v) (hk : k + 4 ≤ 2048) (v1 : Int32) (v2 : Int32) : wpX_clipped (fun r => wpY_clipped (fun r' => r' = r ∧ i_Rel (k + 4) u v) v v1 v2) u v1 v2 := by
  obtain ⟨hp, col, mo, c, n, pg, bf, cl, nm, sn, so, sm, si, px, py, fo, cx, sp, cy, ch, F, S, rfl, rfl, h⟩ := I
  unfold wpX_clipped
  refine xp_c (fun f => ?_) (fun f => ?_)
  · show wpY_clipped _ _ _ _
    unfold wpY_clipped
    exact yp_c (fun _ => ⟨rfl, pe_mk h⟩) (fun z => absurd z f)
  · obtain ⟨a, b, ha, hb, rfl, rfl⟩ := pg_of f
    rw [pg_ix]
    refine ⟨vp_in_nI (by omega) (by decide), br_c (fun z => ?_) (fun z => ?_)⟩
    · show wpY_clipped _ _ _ _
      unfold wpY_clipped
      refine yp_c (fun z => absurd f z) (fun _ => ?_)
      rw [pg_iy]
      exact ⟨vp_in_nI (by omega) (by decide), br_t z ⟨rfl, pe_mk h⟩⟩
    · show wpY_clipped _ _ _ _
      unfold wpY_clipped
      refine yp_c (fun z => absurd f z) (fun _ => ?_)
      rw [pg_iy]
      exact ⟨vp_in_nI (by omega) (by decide), br_f z ⟨rfl, pe_mk h⟩⟩
theorem i_vc_matrix {k : Nat} {u : SX} {v : SY} (I : i_Rel k u v) (hk : k + 4 ≤ 2048) (v1 : Int32) : wpX_matrix (fun r => wpY_matrix (fun r' => r' = r ∧ i_Rel (k + 4) u v) v v1) u v1 := by
  obtain ⟨hp, col, mo, c, n, pg, bf, cl, nm, sn, so, sm, si, px, py, fo, cx, sp, cy, ch, F, S, rfl, rfl, h⟩ := I
  have e56 : 5 < v1 ↔ ¬ v1 < 6 := by
    rw [Int32.lt_iff_toInt_lt, Int32.lt_iff_toInt_lt]
    have e7 : (5 : Int32).toInt = 5 := rfl
    have e8 : (6 : Int32).toInt = 6 := rfl
    omega
  unfold wpX_matrix
  refine br_c (fun a => ?_) (fun a => br_c (fun b => ?_) (fun b => ?_))
  · show wpY_matrix _ _ _
    unfold wpY_matrix
    exact br_t a ⟨rfl, pe_mk h⟩
  · have hi : vp_in v1 6 := by
      obtain ⟨j, hj, rfl⟩ := nI_of a
      have b' : nI j < nI 6 := b
      rw [nI_ltI hj (by omega)] at b'
      exact vp_in_nI b' (by decide)
    refine ⟨hi, ?_⟩
    show wpY_matrix _ _ _
    unfold wpY_matrix
    exact br_f a (br_f (fun z => (e56.mp z) b) ⟨hi, rfl, pe_mk h⟩)
  · show wpY_matrix _ _ _
    unfold wpY_matrix
    exact br_f a (br_t (e56.mpr b) ⟨rfl, pe_mk h⟩)
theorem i_vc_pathPoint {k : Nat} {u : SX} {v : SY} (I : i_Rel k u v) (hk : k + 4 ≤ 2048) (v1 : Int32) : wpX_pathPoint (fun r => wpY_pathPoint (fun r' => r' = r ∧ i_Rel (k + 4) u v) v v1) u v1 := by
  obtain ⟨hp, col, mo, c, n, pg, bf, cl, nm, sn, so, sm, si, px, py, fo, cx, sp, cy, ch, F, S, rfl, rfl, h⟩ := I
  unfold wpX_pathPoint
  refine br_c (fun a => ?_) (fun a => br_c (fun b => ?_) (fun b => ?_))
  · show wpY_pathPoint _ _ _
    unfold wpY_pathPoint
    exact br_t a ⟨rfl, pe_mk h⟩
  · have hi : vp_in v1 16 := by
      have h16 := h.2.2.2.2.2.1
      obtain ⟨j, hj, rfl⟩ := nI_of a
      rw [nI_ltI hj (by omega)] at b
      exact vp_in_nI (by omega) (by decide)
    refine ⟨hi, hi, ?_⟩
    show wpY_pathPoint _ _ _
    unfold wpY_pathPoint
    exact br_f a (br_f (Int32.not_le.mpr b) ⟨hi, hi, rfl, pe_mk h⟩)
  · show wpY_pathPoint _ _ _
    unfold wpY_pathPoint
    exact br_f a (br_t (Int32.not_lt.mp b) ⟨rfl, pe_mk h⟩)
theorem i_vc_drop {k : Nat} {u : SX} {v : SY} (I : i_Rel k u v) (hk : k + 4 ≤ 2048) : wpX_drop (fun r u' => wpY_drop (fun r' v' => r' = r ∧ i_Rel (k + 4) u' v') v) u := by
  obtain ⟨hp, col, mo, c, n, pg, bf, cl, nm, sn, so, sm, si, px, py, fo, cx, sp, cy, ch, F, S, rfl, rfl, h⟩ := I
  obtain ⟨h1, h2, h3, h4, h5, _⟩ := h
  exact ⟨rfl, pe_mk (n := 0) (F := F) (S := S) ⟨h1, h2, h3, h4, h5, pb_R0⟩⟩
theorem xq_count {post : Int32 → Prop} {v : Int32} (h : post (pd_n (fun j => decide (pg j = v)) 256)) : ∃ n, wX_count_4 post v hp col mo sc nc ns pg bf cl nm sn so sm si px py fo cx n 0 0 := by
  refine loop_0 (fun n i s => wX_count_4 post v hp col mo sc nc ns pg bf cl nm sn so sm si px py fo cx n s (nI i)) (fun i s => s = pd_n (fun j => decide (pg j = v)) i) 256 0 rfl ?_ ?_
  · intro n s hs
    subst hs
    exact br_t (nI_le (a := 256) (b := 256) (by decide) (by decide)) h
  · intro n i s hi hs ih
    subst hs
    refine br_f (nI_ge (b := 256) hi (by decide)) ⟨vp_in_nI hi (by decide), ?_⟩
    rw [nI_clamp (by omega)]
    by_cases z : pg i = v
    · exact br_t z (nm_e (nm_r (nI_1 i) (ih _ (pd_nT (decide_eq_true z)).symm)))
    · exact br_f z (nm_r (nI_1 i) (ih _ (pd_nF (fun y => z (of_decide_eq_true y))).symm))
theorem yq_count {post : Int32 → Prop} {v : Int32} (h : post (pd_n (fun j => decide (pg j = v)) 256)) : ∃ n, wY_count_4 post v col mo sc nc ns hp nm cl sn so sm si px py sp cy pg bf ch n 0 0 := by
  refine loop_0 (fun n i s => wY_count_4 post v col mo sc nc ns hp nm cl sn so sm si px py sp cy pg bf ch n s (nI i)) (fun i s => s = pd_n (fun j => decide (pg j = v)) i) 256 0 rfl ?_ ?_
  · intro n s hs
    subst hs
    exact br_t (nI_le (a := 256) (b := 256) (by decide) (by decide)) h
  · intro n i s hi hs ih
    subst hs
    refine br_f (nI_ge (b := 256) hi (by decide)) ⟨vp_in_nI hi (by decide), ?_⟩
    rw [nI_clamp (by omega)]
    by_cases z : pg i = v
    · exact br_t z (nm_e (nm_r (nI_1 i) (ih _ (pd_nT (decide_eq_true z)).symm)))
    · exact br_f z (nm_r (nI_1 i) (ih _ (pd_nF (fun y => z (of_decide_eq_true y))).symm))
theorem i_vc_count {k : Nat} {u : SX} {v : SY} (I : i_Rel k u v) (hk : k + 4 ≤ 2048) (v1 : Int32) : wpX_count (fun r => wpY_count (fun r' => r' = r ∧ i_Rel (k + 4) u v) v v1) u v1 := by
  obtain ⟨hp, col, mo, c, n, pg, bf, cl, nm, sn, so, sm, si, px, py, fo, cx, sp, cy, ch, F, S, rfl, rfl, h⟩ := I
  unfold wpX_count
  refine xq_count ?_
  show wpY_count _ _ _
  unfold wpY_count
  exact yq_count ⟨rfl, pe_mk h⟩
def pg_row (pg : Nat → Int32) (b : Nat) : Nat → Int64 → Int64
  | 0, s => s
  | t + 1, s => pg_row pg b t (s * 8 + (pg (b * 16 + t)).toInt64)
theorem xq_row {post : Int64 → Prop} {b : Nat} (hb : b < 16) : ∀ t, t ≤ 16 → ∀ s, post (pg_row pg b t s) → wX_row_20 post (nI b) hp col mo sc nc ns pg bf cl nm sn so sm si px py fo cx (t + 1) s (nI t + (-1)) := by
  intro t
  induction t with
  | zero => intro _ s h; exact br_t (by decide) h
  | succ t ih =>
    intro ht s h
    rw [pa_m1 (by omega), Nat.add_sub_cancel]
    refine br_f (nI_pos (by omega)) ?_
    rw [pg_ix, nI_clamp (by omega)]
    exact ⟨vp_in_nI (by omega) (by decide), nm_e (nm_e (ih (by omega) _ h))⟩
theorem yq_row {post : Int64 → Prop} {b : Nat} (hb : b < 16) : ∀ t, t ≤ 16 → ∀ s, post (pg_row pg b t s) → wY_row_20 post (nI b) col mo sc nc ns hp nm cl sn so sm si px py sp cy pg bf ch (t + 1) s (nI t + (-1)) := by
  intro t
  induction t with
  | zero => intro _ s h; exact br_t (by decide) h
  | succ t ih =>
    intro ht s h
    rw [pa_m1 (by omega), Nat.add_sub_cancel]
    refine br_f (nI_pos (by omega)) ?_
    rw [pg_iy, nI_clamp (by omega)]
    refine ⟨vp_in_nI (by omega) (by decide), nm_r (e' := s * 8 + (pg (b * 16 + t)).toInt64) ?_ (nm_e (ih (by omega) _ h))⟩
    rw [Int64.mul_comm]
theorem i_vc_row {k : Nat} {u : SX} {v : SY} (I : i_Rel k u v) (hk : k + 4 ≤ 2048) (v1 : Int32) : wpX_row (fun r => wpY_row (fun r' => r' = r ∧ i_Rel (k + 4) u v) v v1) u v1 := by
  obtain ⟨hp, col, mo, c, n, pg, bf, cl, nm, sn, so, sm, si, px, py, fo, cx, sp, cy, ch, F, S, rfl, rfl, h⟩ := I
  have e15 : v1 ≤ 15 ↔ v1 < 16 := by
    rw [Int32.lt_iff_toInt_lt, Int32.le_iff_toInt_le]
    have e7 : (15 : Int32).toInt = 15 := rfl
    have e8 : (16 : Int32).toInt = 16 := rfl
    omega
  have em : (15 : Int32) = nI 16 + (-1) := by decide
  unfold wpX_row
  refine br_c (fun a => ?_) (fun a => br_c (fun b => ?_) (fun b => ?_))
  · show wpY_row _ _ _
    unfold wpY_row
    exact br_t a ⟨rfl, pe_mk h⟩
  · obtain ⟨j, hj, rfl⟩ := pg_1 a (Int32.not_le.mpr b)
    refine ⟨17, ?_⟩
    rw [em]
    refine xq_row hj 16 (by omega) _ ?_
    show wpY_row _ _ _
    unfold wpY_row
    refine br_f a (br_t (e15.mpr b) ⟨17, ?_⟩)
    rw [em]
    exact yq_row hj 16 (by omega) _ ⟨rfl, pe_mk h⟩
  · show wpY_row _ _ _
    unfold wpY_row
    exact br_f a (br_f (fun z => b (e15.mp z)) ⟨rfl, pe_mk h⟩)
def pg_uc (pg bf : Nat → Int32) (j : Nat) : Bool := decide (¬ bf j = pg j)
theorem xq_undo {post : Int32 → SX → Prop} (h : post (pd_n (pg_uc pg bf) 256) (hp, col, mo, sc, nc, ns, pd_it 0 bf pg 256, pd_it 0 pg bf 256, cl, nm, sn, so, sm, si, px, py, fo, cx)) : ∃ n, wX_undo_13 post hp col mo sc nc ns n 0 0 pg bf cl nm sn so sm si px py fo cx := by
  refine loop_0 (σ := Int32 × (Nat → Int32) × (Nat → Int32)) (fun n i s => wX_undo_13 post hp col mo sc nc ns n s.1 (nI i) s.2.1 s.2.2 cl nm sn so sm si px py fo cx) (fun i s => s = (pd_n (pg_uc pg bf) i, pd_it 0 bf pg i, pd_it 0 pg bf i)) 256 (0, pg, bf) rfl ?_ ?_
  · intro n s hs
    subst hs
    exact br_t (nI_le (a := 256) (b := 256) (by decide) (by decide)) h
  · intro n i s hi hs ih
    subst hs
    have hin : vp_in (nI i) 256 := vp_in_nI hi (by decide)
    have e1 : pd_it 0 bf pg i i = pg i := pd_itH i i (by omega)
    have e2 : pd_it 0 pg bf i i = bf i := pd_itH i i (by omega)
    refine br_f (nI_ge (b := 256) hi (by decide)) ⟨hin, nm_r (e' := pg i) ?_ ⟨hin, hin, nm_r (e' := pd_it 0 bf pg (i + 1)) ?_ ⟨hin, nm_r (e' := pd_it 0 pg bf (i + 1)) ?_ ⟨hin, ?_⟩⟩⟩⟩
    · show pd_it 0 bf pg i (nI i).toNatClampNeg = _
      rw [nI_clamp (by omega), e1]
    · show upd (pd_it 0 bf pg i) (nI i).toNatClampNeg (pd_it 0 pg bf i (nI i).toNatClampNeg) = _
      rw [nI_clamp (by omega), e2, pd_itS, Nat.zero_add]
    · show upd (pd_it 0 pg bf i) (nI i).toNatClampNeg (pg i) = _
      rw [nI_clamp (by omega), pd_itS, Nat.zero_add]
    · have e3 : pd_it 0 bf pg (i + 1) (nI i).toNatClampNeg = bf i := by rw [nI_clamp (by omega), pd_itS, Nat.zero_add, pa_us]
      rw [e3]
      by_cases z : bf i = pg i
      · exact br_t z (nm_r (nI_1 i) (ih (pd_n (pg_uc pg bf) i, pd_it 0 bf pg (i + 1), pd_it 0 pg bf (i + 1)) (by rw [pd_nF (c := pg_uc pg bf) (fun y => (of_decide_eq_true y) z)])))
      · exact br_f z (nm_e (nm_r (nI_1 i) (ih (pd_n (pg_uc pg bf) i + 1, pd_it 0 bf pg (i + 1), pd_it 0 pg bf (i + 1)) (by rw [pd_nT (c := pg_uc pg bf) (decide_eq_true z)]))))
theorem yq_undo {post : Int32 → SY → Prop} (h : post (pd_n (pg_uc pg bf) 256) (col, mo, sc, nc, ns, hp, nm, cl, sn, so, sm, si, px, py, sp, cy, pd_it 0 bf pg 256, pd_it 0 pg bf 256, ch)) : ∃ n, wY_undo_13 post col mo sc nc ns hp n 0 0 nm cl sn so sm si px py sp cy pg bf ch := by
  refine loop_0 (σ := Int32 × (Nat → Int32) × (Nat → Int32)) (fun n i s => wY_undo_13 post col mo sc nc ns hp n s.1 (nI i) nm cl sn so sm si px py sp cy s.2.1 s.2.2 ch) (fun i s => s = (pd_n (pg_uc pg bf) i, pd_it 0 bf pg i, pd_it 0 pg bf i)) 256 (0, pg, bf) rfl ?_ ?_
  · intro n s hs
    subst hs
    exact br_t (nI_le (a := 256) (b := 256) (by decide) (by decide)) h
  · intro n i s hi hs ih
    subst hs
    have hin : vp_in (nI i) 256 := vp_in_nI hi (by decide)
    have e1 : pd_it 0 bf pg i i = pg i := pd_itH i i (by omega)
    have e2 : pd_it 0 pg bf i i = bf i := pd_itH i i (by omega)
    refine br_f (nI_ge (b := 256) hi (by decide)) ⟨hin, nm_r (e' := pg i) ?_ ⟨hin, hin, nm_r (e' := pd_it 0 bf pg (i + 1)) ?_ ⟨hin, nm_r (e' := pd_it 0 pg bf (i + 1)) ?_ ⟨hin, ?_⟩⟩⟩⟩
    · show pd_it 0 bf pg i (nI i).toNatClampNeg = _
      rw [nI_clamp (by omega), e1]
    · show upd (pd_it 0 bf pg i) (nI i).toNatClampNeg (pd_it 0 pg bf i (nI i).toNatClampNeg) = _
      rw [nI_clamp (by omega), e2, pd_itS, Nat.zero_add]
    · show upd (pd_it 0 pg bf i) (nI i).toNatClampNeg (pg i) = _
      rw [nI_clamp (by omega), pd_itS, Nat.zero_add]
    · have e3 : pd_it 0 bf pg (i + 1) (nI i).toNatClampNeg = bf i := by rw [nI_clamp (by omega), pd_itS, Nat.zero_add, pa_us]
      rw [e3]
      by_cases z : bf i = pg i
      · exact br_t z (nm_r (nI_1 i) (ih (pd_n (pg_uc pg bf) i, pd_it 0 bf pg (i + 1), pd_it 0 pg bf (i + 1)) (by rw [pd_nF (c := pg_uc pg bf) (fun y => (of_decide_eq_true y) z)])))
      · exact br_f z (nm_e (nm_r (nI_1 i) (ih (pd_n (pg_uc pg bf) i + 1, pd_it 0 bf pg (i + 1), pd_it 0 pg bf (i + 1)) (by rw [pd_nT (c := pg_uc pg bf) (decide_eq_true z)]))))
theorem i_vc_undo {k : Nat} {u : SX} {v : SY} (I : i_Rel k u v) (hk : k + 4 ≤ 2048) : wpX_undo (fun r u' => wpY_undo (fun r' v' => r' = r ∧ i_Rel (k + 4) u' v') v) u := by
  obtain ⟨hp, col, mo, c, n, pg, bf, cl, nm, sn, so, sm, si, px, py, fo, cx, sp, cy, ch, F, S, rfl, rfl, h⟩ := I
  unfold wpX_undo
  refine br_c (fun a => ?_) (fun a => xq_undo ?_)
  · show wpY_undo _ _
    unfold wpY_undo
    exact br_t a ⟨rfl, pe_mk h⟩
  · show wpY_undo _ _
    unfold wpY_undo
    exact br_f a (yq_undo ⟨rfl, pe_mk h⟩)
end PPask
