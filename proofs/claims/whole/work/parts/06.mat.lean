section PPmat
variable {hp col mo sc nc ns : Int32} {pg bf cl nm sn so sm si px py fo cx sp cy ch : Nat → Int32}
/-! the matrix -/
def pf_big (n0 n1 n2 n3 n4 n5 : Int32) : Prop := pe_far n0 999 ∨ pe_far n1 999 ∨ pe_far n2 999 ∨ pe_far n3 999 ∨ pe_far n4 999 ∨ pe_far n5 999
def pf_set (nm : Nat → Int32) (n0 n1 n2 n3 n4 n5 : Int32) : Nat → Int32 := upd (upd (upd (upd (upd (upd nm 0 n0) 1 n1) 2 n2) 3 n3) 4 n4) 5 n5
theorem xt_bad {post : Int32 → SX → Prop} {n0 n1 n2 n3 n4 n5 : Int32} (b : post (-2) (hp, col, mo, sc, nc, ns, pg, bf, cl, nm, sn, so, sm, si, px, py, fo, cx)) : wX_takeNumbers_45 post n0 n1 n2 n3 n4 n5 hp col mo sc nc ns pg bf cl nm sn so sm si px py fo cx := by
  unfold wX_takeNumbers_45 wX_takeNumbers_46
  exact br_t rfl b
theorem xt_46 {post : Int32 → SX → Prop} {n0 n1 n2 n3 n4 n5 : Int32} (b : pe_far n4 999 ∨ pe_far n5 999 → post (-2) (hp, col, mo, sc, nc, ns, pg, bf, cl, nm, sn, so, sm, si, px, py, fo, cx)) (g : ¬ pe_far n4 999 → ¬ pe_far n5 999 → post 1 (hp, col, mo, sc, nc, ns, pg, bf, cl, pf_set nm n0 n1 n2 n3 n4 n5, sn, so, sm, si, px, py, fo, cx)) : wX_takeNumbers_46 post n0 n1 n2 n3 n4 n5 1 hp col mo sc nc ns pg bf cl nm sn so sm si px py fo cx := by
  unfold wX_takeNumbers_46
  refine br_f pe_10 (xw_c (fun f => b (Or.inl f)) (fun f => xw_c (fun e => b (Or.inr e)) (fun e => ?_)))
  exact nm_e (nm_e (nm_e (nm_e (nm_e (nm_e (g f e))))))
theorem xt_take {post : Int32 → SX → Prop} {n0 n1 n2 n3 n4 n5 : Int32} (b : pf_big n0 n1 n2 n3 n4 n5 → post (-2) (hp, col, mo, sc, nc, ns, pg, bf, cl, nm, sn, so, sm, si, px, py, fo, cx)) (g : ¬ pf_big n0 n1 n2 n3 n4 n5 → post 1 (hp, col, mo, sc, nc, ns, pg, bf, cl, pf_set nm n0 n1 n2 n3 n4 n5, sn, so, sm, si, px, py, fo, cx)) : wpX_takeNumbers post (hp, col, mo, sc, nc, ns, pg, bf, cl, nm, sn, so, sm, si, px, py, fo, cx) n0 n1 n2 n3 n4 n5 := by
  unfold wpX_takeNumbers
  refine xw_c (fun f => xt_bad (b (Or.inl f))) (fun f0 => ?_)
  refine xw_c (fun f => xt_bad (b (Or.inr (Or.inl f)))) (fun f1 => ?_)
  refine xw_c (fun f => xt_bad (b (Or.inr (Or.inr (Or.inl f))))) (fun f2 => ?_)
  refine xw_c (fun f => xt_bad (b (Or.inr (Or.inr (Or.inr (Or.inl f)))))) (fun f3 => ?_)
  refine xt_46 (fun f => b (Or.inr (Or.inr (Or.inr (Or.inr f))))) (fun f4 f5 => g ?_)
  intro z
  rcases z with z | z | z | z | z | z
  · exact f0 z
  · exact f1 z
  · exact f2 z
  · exact f3 z
  · exact f4 z
  · exact f5 z
theorem yt_before {post : Int32 → SY → Prop} {n0 n1 n2 n3 n4 n5 p0 p1 p2 p3 p4 p5 : Int32} (e0 : nm 0 * p0 + nm 2 * p1 = n0) (e1 : nm 1 * p0 + nm 3 * p1 = n1) (e2 : nm 0 * p2 + nm 2 * p3 = n2) (e3 : nm 1 * p2 + nm 3 * p3 = n3) (e4 : nm 0 * p4 + nm 2 * p5 + nm 4 = n4) (e5 : nm 1 * p4 + nm 3 * p5 + nm 5 = n5)
    (b : pf_big n0 n1 n2 n3 n4 n5 → post (-2) (col, mo, sc, nc, ns, hp, nm, cl, sn, so, sm, si, px, py, sp, cy, pg, bf, ch)) (g : ¬ pf_big n0 n1 n2 n3 n4 n5 → post 1 (col, mo, sc, nc, ns, hp, pf_set nm n0 n1 n2 n3 n4 n5, cl, sn, so, sm, si, px, py, sp, cy, pg, bf, ch)) : wpY_before post (col, mo, sc, nc, ns, hp, nm, cl, sn, so, sm, si, px, py, sp, cy, pg, bf, ch) p0 p1 p2 p3 p4 p5 := by
  unfold wpY_before
  refine nm_r e0 (nm_r e1 (nm_r e2 (nm_r e3 (nm_r e4 (nm_r e5 ?_)))))
  refine yf_c (fun f => b (Or.inl f)) (fun f0 => ?_)
  refine yf_c (fun f => b (Or.inr (Or.inl f))) (fun f1 => ?_)
  refine yf_c (fun f => b (Or.inr (Or.inr (Or.inl f)))) (fun f2 => ?_)
  refine yf_c (fun f => b (Or.inr (Or.inr (Or.inr (Or.inl f))))) (fun f3 => ?_)
  refine yf_c (fun f => b (Or.inr (Or.inr (Or.inr (Or.inr (Or.inl f)))))) (fun f4 => ?_)
  refine yf_c (fun f => b (Or.inr (Or.inr (Or.inr (Or.inr (Or.inr f)))))) (fun f5 => ?_)
  refine nm_e (nm_e (nm_e (nm_e (nm_e (nm_e (g ?_))))))
  intro z
  rcases z with z | z | z | z | z | z
  · exact f0 z
  · exact f1 z
  · exact f2 z
  · exact f3 z
  · exact f4 z
  · exact f5 z
/-- one answer and one new matrix for both -/
theorem xy_take {n0 n1 n2 n3 n4 n5 p0 p1 p2 p3 p4 p5 : Int32} (e0 : nm 0 * p0 + nm 2 * p1 = n0) (e1 : nm 1 * p0 + nm 3 * p1 = n1) (e2 : nm 0 * p2 + nm 2 * p3 = n2) (e3 : nm 1 * p2 + nm 3 * p3 = n3) (e4 : nm 0 * p4 + nm 2 * p5 + nm 4 = n4) (e5 : nm 1 * p4 + nm 3 * p5 + nm 5 = n5) :
    ∃ (r : Int32) (q : Nat → Int32), (∀ post : Int32 → SX → Prop, post r (hp, col, mo, sc, nc, ns, pg, bf, cl, q, sn, so, sm, si, px, py, fo, cx) → wpX_takeNumbers post (hp, col, mo, sc, nc, ns, pg, bf, cl, nm, sn, so, sm, si, px, py, fo, cx) n0 n1 n2 n3 n4 n5) ∧ (∀ post : Int32 → SY → Prop, post r (col, mo, sc, nc, ns, hp, q, cl, sn, so, sm, si, px, py, sp, cy, pg, bf, ch) → wpY_before post (col, mo, sc, nc, ns, hp, nm, cl, sn, so, sm, si, px, py, sp, cy, pg, bf, ch) p0 p1 p2 p3 p4 p5) := by
  by_cases h : pf_big n0 n1 n2 n3 n4 n5
  · exact ⟨-2, nm, fun _ hp => xt_take (fun _ => hp) (fun z => absurd h z), fun _ hp => yt_before e0 e1 e2 e3 e4 e5 (fun _ => hp) (fun z => absurd h z)⟩
  · exact ⟨1, pf_set nm n0 n1 n2 n3 n4 n5, fun _ hp => xt_take (fun z => absurd z h) (fun _ => hp), fun _ hp => yt_before e0 e1 e2 e3 e4 e5 (fun z => absurd z h) (fun _ => hp)⟩
theorem i_vc_shift {k : Nat} {u : SX} {v : SY} (I : i_Rel k u v) (hk : k + 4 ≤ 2048) (v1 : Int32) (v2 : Int32) : wpX_shift (fun r u' => wpY_shift (fun r' v' => r' = r ∧ i_Rel (k + 4) u' v') v v1 v2) u v1 v2 := by
  obtain ⟨hp, col, mo, c, n, pg, bf, cl, nm, sn, so, sm, si, px, py, fo, cx, sp, cy, ch, F, S, rfl, rfl, h⟩ := I
  unfold wpX_shift
  refine xw_c (fun f => ?_) (fun f => xw_c (fun g => ?_) (fun g => ?_))
  · unfold wpY_shift
    exact yf_c (fun _ => ⟨rfl, pe_mk h⟩) (fun z => absurd f z)
  · unfold wpY_shift
    exact yf_c (fun z => absurd z f) (fun _ => yf_c (fun _ => ⟨rfl, pe_mk h⟩) (fun z => absurd g z))
  · obtain ⟨r, q, hx, hy⟩ := xy_take (hp := hp) (col := col) (mo := mo) (sc := nI c) (nc := nI n) (ns := nI (pb_s n S)) (pg := pg) (bf := bf) (cl := cl) (nm := nm) (sn := sn) (so := so) (sm := sm) (si := si) (px := px) (py := py) (fo := fo) (cx := cx) (sp := sp) (cy := cy) (ch := ch) (n0 := nm 0) (n1 := nm 1) (n2 := nm 2) (n3 := nm 3) (n4 := nm 0 * v1 + nm 2 * v2 + nm 4) (n5 := nm 1 * v1 + nm 3 * v2 + nm 5) (p0 := 1) (p1 := 0) (p2 := 0) (p3 := 1) (p4 := v1) (p5 := v2) (by grind) (by grind) (by grind) (by grind) rfl rfl
    refine nm_e (nm_e (hx _ ?_))
    show wpY_shift _ _ _ _
    unfold wpY_shift
    exact yf_c (fun z => absurd z f) (fun _ => yf_c (fun z => absurd z g) (fun _ => hy _ ⟨rfl, pe_mk h⟩))
theorem i_vc_scale {k : Nat} {u : SX} {v : SY} (I : i_Rel k u v) (hk : k + 4 ≤ 2048) (v1 : Int32) (v2 : Int32) : wpX_scale (fun r u' => wpY_scale (fun r' v' => r' = r ∧ i_Rel (k + 4) u' v') v v1 v2) u v1 v2 := by
  obtain ⟨hp, col, mo, c, n, pg, bf, cl, nm, sn, so, sm, si, px, py, fo, cx, sp, cy, ch, F, S, rfl, rfl, h⟩ := I
  unfold wpX_scale
  refine xw_c (fun f => ?_) (fun f => xw_c (fun g => ?_) (fun g => ?_))
  · unfold wpY_scale
    exact yf_c (fun _ => ⟨rfl, pe_mk h⟩) (fun z => absurd f z)
  · unfold wpY_scale
    exact yf_c (fun z => absurd z f) (fun _ => yf_c (fun _ => ⟨rfl, pe_mk h⟩) (fun z => absurd g z))
  · obtain ⟨r, q, hx, hy⟩ := xy_take (hp := hp) (col := col) (mo := mo) (sc := nI c) (nc := nI n) (ns := nI (pb_s n S)) (pg := pg) (bf := bf) (cl := cl) (nm := nm) (sn := sn) (so := so) (sm := sm) (si := si) (px := px) (py := py) (fo := fo) (cx := cx) (sp := sp) (cy := cy) (ch := ch) (n0 := nm 0 * v1) (n1 := nm 1 * v1) (n2 := nm 2 * v2) (n3 := nm 3 * v2) (n4 := nm 4) (n5 := nm 5) (p0 := v1) (p1 := 0) (p2 := 0) (p3 := v2) (p4 := 0) (p5 := 0) (by grind) (by grind) (by grind) (by grind) (by grind) (by grind)
    refine nm_e (nm_e (nm_e (nm_e (hx _ ?_))))
    show wpY_scale _ _ _ _
    unfold wpY_scale
    exact yf_c (fun z => absurd z f) (fun _ => yf_c (fun z => absurd z g) (fun _ => hy _ ⟨rfl, pe_mk h⟩))
theorem i_vc_shear {k : Nat} {u : SX} {v : SY} (I : i_Rel k u v) (hk : k + 4 ≤ 2048) (v1 : Int32) (v2 : Int32) : wpX_shear (fun r u' => wpY_shear (fun r' v' => r' = r ∧ i_Rel (k + 4) u' v') v v1 v2) u v1 v2 := by
  obtain ⟨hp, col, mo, c, n, pg, bf, cl, nm, sn, so, sm, si, px, py, fo, cx, sp, cy, ch, F, S, rfl, rfl, h⟩ := I
  unfold wpX_shear
  refine xw_c (fun f => ?_) (fun f => xw_c (fun g => ?_) (fun g => ?_))
  · unfold wpY_shear
    exact yf_c (fun _ => ⟨rfl, pe_mk h⟩) (fun z => absurd f z)
  · unfold wpY_shear
    exact yf_c (fun z => absurd z f) (fun _ => yf_c (fun _ => ⟨rfl, pe_mk h⟩) (fun z => absurd g z))
  · obtain ⟨r, q, hx, hy⟩ := xy_take (hp := hp) (col := col) (mo := mo) (sc := nI c) (nc := nI n) (ns := nI (pb_s n S)) (pg := pg) (bf := bf) (cl := cl) (nm := nm) (sn := sn) (so := so) (sm := sm) (si := si) (px := px) (py := py) (fo := fo) (cx := cx) (sp := sp) (cy := cy) (ch := ch) (n0 := nm 0 + nm 2 * v2) (n1 := nm 1 + nm 3 * v2) (n2 := nm 0 * v1 + nm 2) (n3 := nm 1 * v1 + nm 3) (n4 := nm 4) (n5 := nm 5) (p0 := 1) (p1 := v2) (p2 := v1) (p3 := 1) (p4 := 0) (p5 := 0) (by grind) (by grind) (by grind) (by grind) (by grind) (by grind)
    refine nm_e (nm_e (nm_e (nm_e (hx _ ?_))))
    show wpY_shear _ _ _ _
    unfold wpY_shear
    exact yf_c (fun z => absurd z f) (fun _ => yf_c (fun z => absurd z g) (fun _ => hy _ ⟨rfl, pe_mk h⟩))
theorem i_vc_quarter {k : Nat} {u : SX} {v : SY} (I : i_Rel k u v) (hk : k + 4 ≤ 2048) : wpX_quarter (fun r u' => wpY_quarter (fun r' v' => r' = r ∧ i_Rel (k + 4) u' v') v) u := by
  obtain ⟨hp, col, mo, c, n, pg, bf, cl, nm, sn, so, sm, si, px, py, fo, cx, sp, cy, ch, F, S, rfl, rfl, h⟩ := I
  obtain ⟨r, q, hx, hy⟩ := xy_take (hp := hp) (col := col) (mo := mo) (sc := nI c) (nc := nI n) (ns := nI (pb_s n S)) (pg := pg) (bf := bf) (cl := cl) (nm := nm) (sn := sn) (so := so) (sm := sm) (si := si) (px := px) (py := py) (fo := fo) (cx := cx) (sp := sp) (cy := cy) (ch := ch) (n0 := nm 2) (n1 := nm 3) (n2 := -(nm 0)) (n3 := -(nm 1)) (n4 := nm 4) (n5 := nm 5) (p0 := 0) (p1 := 1) (p2 := -1) (p3 := 0) (p4 := 0) (p5 := 0) (by grind) (by grind) (by grind) (by grind) (by grind) (by grind)
  unfold wpX_quarter
  refine hx _ ?_
  show wpY_quarter _ _
  unfold wpY_quarter
  exact hy _ ⟨rfl, pe_mk h⟩
theorem i_vc_paint {k : Nat} {u : SX} {v : SY} (I : i_Rel k u v) (hk : k + 4 ≤ 2048) (v1 : Int32) (v2 : Int32) : wpX_paint (fun r u' => wpY_paint (fun r' v' => r' = r ∧ i_Rel (k + 4) u' v') v v1 v2) u v1 v2 := by
  obtain ⟨hp, col, mo, c, n, pg, bf, cl, nm, sn, so, sm, si, px, py, fo, cx, sp, cy, ch, F, S, rfl, rfl, h⟩ := I
  unfold wpX_paint wpX_isColour
  refine br_c (fun a => ?_) (fun a => br_c (fun b => ?_) (fun b => br_f pe_10 (br_c (fun d => ?_) (fun d => br_c (fun e => ?_) (fun e => ?_)))))
  · refine br_t rfl ?_
    unfold wpY_paint
    exact br_t a ⟨rfl, pe_mk h⟩
  · refine br_t rfl ?_
    unfold wpY_paint
    have b' : 7 < v1 := by rw [Int32.lt_iff_toInt_lt]; rw [Int32.le_iff_toInt_le] at b; have e7 : (7 : Int32).toInt = 7 := rfl; have e8 : (8 : Int32).toInt = 8 := rfl; omega
    exact br_f a (br_t b' ⟨rfl, pe_mk h⟩)
  all_goals have b' : ¬ 7 < v1 := by rw [Int32.lt_iff_toInt_lt]; rw [Int32.le_iff_toInt_le] at b; have e7 : (7 : Int32).toInt = 7 := rfl; have e8 : (8 : Int32).toInt = 8 := rfl; omega
  · unfold wpY_paint
    exact br_f a (br_f b' (br_t d ⟨rfl, pe_mk h⟩))
  · unfold wpY_paint
    have e' : v2 ≤ 2 := by rw [Int32.le_iff_toInt_le]; rw [Int32.lt_iff_toInt_lt] at e; have e7 : (2 : Int32).toInt = 2 := rfl; have e8 : (3 : Int32).toInt = 3 := rfl; omega
    refine br_f a (br_f b' (br_f d (br_t e' ⟨rfl, pe_mk (F := F) ?_⟩)))
    obtain ⟨h1, h2, h3, h4⟩ := h
    refine ⟨h1, ?_, h3, h4⟩
    obtain ⟨j, hj, rfl⟩ := nI_of2 (M := 2) (n := 2) rfl d e'
    match j, hj with
    | 0, _ => exact Or.inl rfl
    | 1, _ => exact Or.inr (Or.inl rfl)
    | 2, _ => exact Or.inr (Or.inr rfl)
    | j + 3, hj => omega
  · unfold wpY_paint
    have e' : ¬ v2 ≤ 2 := by rw [Int32.le_iff_toInt_le]; rw [Int32.lt_iff_toInt_lt] at e; have e7 : (2 : Int32).toInt = 2 := rfl; have e8 : (3 : Int32).toInt = 3 := rfl; omega
    exact br_f a (br_f b' (br_f d (br_f e' ⟨rfl, pe_mk h⟩)))
end PPmat
