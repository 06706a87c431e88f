section PPwalk
variable {hp col mo sc nc ns : Int32} {pg bf cl nm sn so sm si px py fo cx sp cy ch : Nat → Int32} {c n : Nat} {F S : Nat → Nat}
/-! save, restore -/
theorem xs_46 {post : Int32 → SX → Prop} (hc : c < 4) (h : post (nI (c + 1)) (hp, col, mo, nI (c + 1), nc, ns, pg, bf, cl, nm, sn, upd so c col, upd sm c mo, pd_it (c * 256) (fun i => vp_nar .boolean (cl i)) si 256, px, py, fo, cx)) : ∃ n, wX_save_46 post hp col mo (nI c) nc ns n 0 pg bf cl nm sn so sm si px py fo cx := by
  refine loop_0 (fun n i s => wX_save_46 post hp col mo (nI c) nc ns n (nI i) pg bf cl nm sn so sm s px py fo cx) (fun i s => s = pd_it (c * 256) (fun i => vp_nar .boolean (cl i)) si i) 256 si rfl ?_ ?_
  · intro n s hs
    subst hs
    have hin : vp_in (nI c) 4 := vp_in_nI hc (by decide)
    exact br_t (nI_le (a := 256) (b := 256) (by decide) (by decide)) ⟨hin, nm_r (pe_u (by omega) rfl) ⟨hin, nm_r (pe_u (by omega) rfl) (nm_r (nI_1 c) h)⟩⟩
  · intro n i s hi hs ih
    subst hs
    have e : nI c * 256 + nI i = nI (c * 256 + i) := by rw [show (256 : Int32) = nI 256 from rfl, pa_mul, nI_add]
    refine br_f (nI_ge (b := 256) hi (by decide)) ⟨vp_in_nI hi (by decide), ?_⟩
    rw [e]
    refine ⟨vp_in_nI (by omega) (by decide), nm_r (pe_u (y := vp_nar .boolean (cl i)) (by omega) ?_) (nm_r (nI_1 i) (ih _ rfl))⟩
    rw [nI_clamp (by omega)]
theorem xs_12 {post : Int32 → SX → Prop} (hc : c < 4) (h : post (nI (c + 1)) (hp, col, mo, nI (c + 1), nc, ns, pg, bf, cl, nm, pd_it (c * 6) nm sn 6, upd so c col, upd sm c mo, pd_it (c * 256) (fun i => vp_nar .boolean (cl i)) si 256, px, py, fo, cx)) : ∃ n, wX_save_12 post hp col mo (nI c) nc ns n 0 pg bf cl nm sn so sm si px py fo cx := by
  refine loop_0 (fun n i s => wX_save_12 post hp col mo (nI c) nc ns n (nI i) pg bf cl nm s so sm si px py fo cx) (fun i s => s = pd_it (c * 6) nm sn i) 6 sn rfl ?_ ?_
  · intro n s hs
    subst hs
    exact br_t (nI_le (a := 6) (b := 6) (by decide) (by decide)) (xs_46 hc h)
  · intro n i s hi hs ih
    subst hs
    have e : nI c * 6 + nI i = nI (c * 6 + i) := by rw [show (6 : Int32) = nI 6 from rfl, pa_mul, nI_add]
    refine br_f (nI_ge (b := 6) hi (by decide)) ⟨vp_in_nI hi (by decide), ?_⟩
    rw [e]
    refine ⟨vp_in_nI (by omega) (by decide), nm_r (pe_u (y := nm i) (by omega) ?_) (nm_r (nI_1 i) (ih _ rfl))⟩
    rw [nI_clamp (by omega)]
theorem ys_46 {post : Int32 → SY → Prop} (hc : c < 4) (h : post (nI (c + 1)) (col, mo, nI (c + 1), nc, ns, hp, nm, cl, sn, upd so c col, upd sm c mo, pd_it (c * 256) (fun i => vp_nar .boolean (cl i)) si 256, px, py, sp, cy, pg, bf, ch)) : ∃ n, wY_save_46 post col mo (nI c) nc ns hp n 0 nm cl sn so sm si px py sp cy pg bf ch := by
  refine loop_0 (fun n i s => wY_save_46 post col mo (nI c) nc ns hp n (nI i) nm cl sn so sm s px py sp cy pg bf ch) (fun i s => s = pd_it (c * 256) (fun i => vp_nar .boolean (cl i)) si i) 256 si rfl ?_ ?_
  · intro n s hs
    subst hs
    have hin : vp_in (nI c) 4 := vp_in_nI hc (by decide)
    exact br_t (nI_le (a := 256) (b := 256) (by decide) (by decide)) ⟨hin, nm_r (pe_u (by omega) rfl) ⟨hin, nm_r (pe_u (by omega) rfl) (nm_r (nI_1 c) h)⟩⟩
  · intro n i s hi hs ih
    subst hs
    have e : 256 * nI c + nI i = nI (c * 256 + i) := by rw [show (256 : Int32) = nI 256 from rfl, pa_mul, nI_add, Nat.mul_comm]
    refine br_f (nI_ge (b := 256) hi (by decide)) ⟨vp_in_nI hi (by decide), ?_⟩
    rw [e]
    refine ⟨vp_in_nI (by omega) (by decide), nm_r (pe_u (y := vp_nar .boolean (cl i)) (by omega) ?_) (nm_r (nI_1 i) (ih _ rfl))⟩
    rw [nI_clamp (by omega)]
theorem ys_12 {post : Int32 → SY → Prop} (hc : c < 4) (h : post (nI (c + 1)) (col, mo, nI (c + 1), nc, ns, hp, nm, cl, pd_it (c * 6) nm sn 6, upd so c col, upd sm c mo, pd_it (c * 256) (fun i => vp_nar .boolean (cl i)) si 256, px, py, sp, cy, pg, bf, ch)) : ∃ n, wY_save_12 post col mo (nI c) nc ns hp n 0 nm cl sn so sm si px py sp cy pg bf ch := by
  refine loop_0 (fun n i s => wY_save_12 post col mo (nI c) nc ns hp n (nI i) nm cl s so sm si px py sp cy pg bf ch) (fun i s => s = pd_it (c * 6) nm sn i) 6 sn rfl ?_ ?_
  · intro n s hs
    subst hs
    exact br_t (nI_le (a := 6) (b := 6) (by decide) (by decide)) (ys_46 hc h)
  · intro n i s hi hs ih
    subst hs
    have e : 6 * nI c + nI i = nI (c * 6 + i) := by rw [show (6 : Int32) = nI 6 from rfl, pa_mul, nI_add, Nat.mul_comm]
    refine br_f (nI_ge (b := 6) hi (by decide)) ⟨vp_in_nI hi (by decide), ?_⟩
    rw [e]
    refine ⟨vp_in_nI (by omega) (by decide), nm_r (pe_u (y := nm i) (by omega) ?_) (nm_r (nI_1 i) (ih _ rfl))⟩
    rw [nI_clamp (by omega)]
theorem i_vc_save {k : Nat} {u : SX} {v : SY} (I : i_Rel k u v) (hk : k + 4 ≤ 2048) : wpX_save (fun r u' => wpY_save (fun r' v' => r' = r ∧ i_Rel (k + 4) u' v') v) u := by
  obtain ⟨hp, col, mo, c, n, pg, bf, cl, nm, sn, so, sm, si, px, py, fo, cx, sp, cy, ch, F, S, rfl, rfl, h⟩ := I
  have h4 := h.1
  have e4 : nI c = 4 ↔ c = 4 := by rw [show (4 : Int32) = nI 4 from rfl, nI_eq (by omega) (by omega)]
  unfold wpX_save
  by_cases z : c < 4
  · refine br_t (nI_lt (b := 4) z (by decide)) (xs_12 z ?_)
    show wpY_save _ _
    unfold wpY_save
    refine br_f (fun y => by have := e4.mp y; omega) (ys_12 z ⟨rfl, pe_mk (F := F) ?_⟩)
    obtain ⟨h1, h2, h3, h4⟩ := h
    exact ⟨by omega, h2, pd_updP h3 h2, h4⟩
  · refine br_f (nI_nlt (b := 4) (by omega) (by omega)) ?_
    show wpY_save _ _
    unfold wpY_save
    exact br_t (e4.mpr (by omega)) ⟨rfl, pe_mk h⟩
theorem xr_55 {post : Int32 → SX → Prop} (hc : c < 4) (h : post (nI c) (hp, so c, sm c, nI c, nc, ns, pg, bf, pd_it 0 (fun i => vp_nar .boolean (si (c * 256 + i))) cl 256, nm, sn, so, sm, si, px, py, fo, cx)) : ∃ n, wX_restore_55 post hp col mo (nI c) nc ns n 0 pg bf cl nm sn so sm si px py fo cx := by
  refine loop_0 (fun n i s => wX_restore_55 post hp col mo (nI c) nc ns n (nI i) pg bf s nm sn so sm si px py fo cx) (fun i s => s = pd_it 0 (fun i => vp_nar .boolean (si (c * 256 + i))) cl i) 256 cl rfl ?_ ?_
  · intro n s hs
    subst hs
    have hin : vp_in (nI c) 4 := vp_in_nI hc (by decide)
    exact br_t (nI_le (a := 256) (b := 256) (by decide) (by decide)) ⟨hin, nm_r (pe_g (by omega)) ⟨hin, nm_r (pe_g (by omega)) h⟩⟩
  · intro n i s hi hs ih
    subst hs
    have e : nI c * 256 + nI i = nI (c * 256 + i) := by rw [show (256 : Int32) = nI 256 from rfl, pa_mul, nI_add]
    refine br_f (nI_ge (b := 256) hi (by decide)) ?_
    rw [e]
    refine ⟨vp_in_nI (by omega) (by decide), vp_in_nI hi (by decide), nm_r (pe_u (y := vp_nar .boolean (si (c * 256 + i))) (by omega) ?_) (nm_r (nI_1 i) (ih _ ?_))⟩
    · rw [nI_clamp (by omega)]
    · rw [pd_itS, Nat.zero_add]
theorem xr_21 {post : Int32 → SX → Prop} (hc : c < 4) (h : post (nI c) (hp, so c, sm c, nI c, nc, ns, pg, bf, pd_it 0 (fun i => vp_nar .boolean (si (c * 256 + i))) cl 256, pd_it 0 (fun i => sn (c * 6 + i)) nm 6, sn, so, sm, si, px, py, fo, cx)) : ∃ n, wX_restore_21 post hp col mo (nI c) nc ns n 0 pg bf cl nm sn so sm si px py fo cx := by
  refine loop_0 (fun n i s => wX_restore_21 post hp col mo (nI c) nc ns n (nI i) pg bf cl s sn so sm si px py fo cx) (fun i s => s = pd_it 0 (fun i => sn (c * 6 + i)) nm i) 6 nm rfl ?_ ?_
  · intro n s hs
    subst hs
    exact br_t (nI_le (a := 6) (b := 6) (by decide) (by decide)) (xr_55 hc h)
  · intro n i s hi hs ih
    subst hs
    have e : nI c * 6 + nI i = nI (c * 6 + i) := by rw [show (6 : Int32) = nI 6 from rfl, pa_mul, nI_add]
    refine br_f (nI_ge (b := 6) hi (by decide)) ?_
    rw [e]
    refine ⟨vp_in_nI (by omega) (by decide), vp_in_nI hi (by decide), nm_r (pe_u (y := sn (c * 6 + i)) (by omega) ?_) (nm_r (nI_1 i) (ih _ ?_))⟩
    · rw [nI_clamp (by omega)]
    · rw [pd_itS, Nat.zero_add]
theorem yr_55 {post : Int32 → SY → Prop} (hc : c < 4) (h : post (nI c) (so c, sm c, nI c, nc, ns, hp, nm, pd_it 0 (fun i => vp_nar .boolean (si (c * 256 + i))) cl 256, sn, so, sm, si, px, py, sp, cy, pg, bf, ch)) : ∃ n, wY_restore_55 post col mo (nI c) nc ns hp n 0 nm cl sn so sm si px py sp cy pg bf ch := by
  refine loop_0 (fun n i s => wY_restore_55 post col mo (nI c) nc ns hp n (nI i) nm s sn so sm si px py sp cy pg bf ch) (fun i s => s = pd_it 0 (fun i => vp_nar .boolean (si (c * 256 + i))) cl i) 256 cl rfl ?_ ?_
  · intro n s hs
    subst hs
    have hin : vp_in (nI c) 4 := vp_in_nI hc (by decide)
    exact br_t (nI_le (a := 256) (b := 256) (by decide) (by decide)) ⟨hin, nm_r (pe_g (by omega)) ⟨hin, nm_r (pe_g (by omega)) h⟩⟩
  · intro n i s hi hs ih
    subst hs
    have e : 256 * nI c + nI i = nI (c * 256 + i) := by rw [show (256 : Int32) = nI 256 from rfl, pa_mul, nI_add, Nat.mul_comm]
    refine br_f (nI_ge (b := 256) hi (by decide)) ?_
    rw [e]
    refine ⟨vp_in_nI (by omega) (by decide), vp_in_nI hi (by decide), nm_r (pe_u (y := vp_nar .boolean (si (c * 256 + i))) (by omega) ?_) (nm_r (nI_1 i) (ih _ ?_))⟩
    · rw [nI_clamp (by omega)]
    · rw [pd_itS, Nat.zero_add]
theorem yr_21 {post : Int32 → SY → Prop} (hc : c < 4) (h : post (nI c) (so c, sm c, nI c, nc, ns, hp, pd_it 0 (fun i => sn (c * 6 + i)) nm 6, pd_it 0 (fun i => vp_nar .boolean (si (c * 256 + i))) cl 256, sn, so, sm, si, px, py, sp, cy, pg, bf, ch)) : ∃ n, wY_restore_21 post col mo (nI c) nc ns hp n 0 nm cl sn so sm si px py sp cy pg bf ch := by
  refine loop_0 (fun n i s => wY_restore_21 post col mo (nI c) nc ns hp n (nI i) s cl sn so sm si px py sp cy pg bf ch) (fun i s => s = pd_it 0 (fun i => sn (c * 6 + i)) nm i) 6 nm rfl ?_ ?_
  · intro n s hs
    subst hs
    exact br_t (nI_le (a := 6) (b := 6) (by decide) (by decide)) (yr_55 hc h)
  · intro n i s hi hs ih
    subst hs
    have e : 6 * nI c + nI i = nI (c * 6 + i) := by rw [show (6 : Int32) = nI 6 from rfl, pa_mul, nI_add, Nat.mul_comm]
    refine br_f (nI_ge (b := 6) hi (by decide)) ?_
    rw [e]
    refine ⟨vp_in_nI (by omega) (by decide), vp_in_nI hi (by decide), nm_r (pe_u (y := sn (c * 6 + i)) (by omega) ?_) (nm_r (nI_1 i) (ih _ ?_))⟩
    · rw [nI_clamp (by omega)]
    · rw [pd_itS, Nat.zero_add]
theorem i_vc_restore {k : Nat} {u : SX} {v : SY} (I : i_Rel k u v) (hk : k + 4 ≤ 2048) : wpX_restore (fun r u' => wpY_restore (fun r' v' => r' = r ∧ i_Rel (k + 4) u' v') v) u := by
  obtain ⟨hp, col, mo, c, n, pg, bf, cl, nm, sn, so, sm, si, px, py, fo, cx, sp, cy, ch, F, S, rfl, rfl, h⟩ := I
  have h4 := h.1
  unfold wpX_restore
  match c, h, h4 with
  | 0, h, _ =>
    refine br_f (by decide) ?_
    show wpY_restore _ _
    unfold wpY_restore
    exact br_t nI_0 ⟨rfl, pe_mk h⟩
  | c + 1, h, h4 =>
    refine br_t (nI_lt (a := 0) (by omega) (by omega)) (nm_r (nI_pred c) (xr_21 (by omega) ?_))
    show wpY_restore _ _
    unfold wpY_restore
    refine br_f (nI_ne0 (by omega) (by omega)) (nm_r (nI_pred c) (yr_21 (by omega) ⟨rfl, pe_mk (F := F) ?_⟩))
    obtain ⟨h1, h2, h3, h4⟩ := h
    exact ⟨by omega, h3 c, h3, h4⟩
/-! the path's calls -/
theorem xa_add {post : Int32 → SX → Prop} {p0 p1 p2 : Int32} (hn : n < 16) (b : pe_far (nm 0 * p0 + nm 2 * p1 + nm 4) 2000 ∨ pe_far (nm 1 * p0 + nm 3 * p1 + nm 5) 2000 → post 0 (hp, col, mo, sc, nI n, ns, pg, bf, cl, nm, sn, so, sm, si, px, py, fo, cx))
    (g : ¬ pe_far (nm 0 * p0 + nm 2 * p1 + nm 4) 2000 → ¬ pe_far (nm 1 * p0 + nm 3 * p1 + nm 5) 2000 → post 1 (hp, col, mo, sc, nI (n + 1), ns, pg, bf, cl, nm, sn, so, sm, si, upd px n (nm 0 * p0 + nm 2 * p1 + nm 4), upd py n (nm 1 * p0 + nm 3 * p1 + nm 5), upd fo n p2, cx)) : wpX_addPoint post (hp, col, mo, sc, nI n, ns, pg, bf, cl, nm, sn, so, sm, si, px, py, fo, cx) p0 p1 p2 := by
  have hin : vp_in (nI n) 16 := vp_in_nI hn (by decide)
  unfold wpX_addPoint
  refine nm_e (nm_e (xw_c (fun f => b (Or.inl f)) (fun f => xw_c (fun e => b (Or.inr e)) (fun e => ?_))))
  exact ⟨hin, nm_r (pe_u (by omega) rfl) ⟨hin, nm_r (pe_u (by omega) rfl) ⟨hin, nm_r (pe_u (by omega) rfl) (nm_r (nI_1 n) (g f e))⟩⟩⟩
theorem ya_add {post : Int32 → SY → Prop} {p0 p1 p2 : Int32} (hn : n < 16) (b : pe_far (nm 0 * p0 + nm 2 * p1 + nm 4) 2000 ∨ pe_far (nm 1 * p0 + nm 3 * p1 + nm 5) 2000 → post (-4) (col, mo, sc, nI n, ns, hp, nm, cl, sn, so, sm, si, px, py, sp, cy, pg, bf, ch))
    (g : ¬ pe_far (nm 0 * p0 + nm 2 * p1 + nm 4) 2000 → ¬ pe_far (nm 1 * p0 + nm 3 * p1 + nm 5) 2000 → post (nI (n + 1)) (col, mo, sc, nI (n + 1), ns, hp, nm, cl, sn, so, sm, si, upd px n (nm 0 * p0 + nm 2 * p1 + nm 4), upd py n (nm 1 * p0 + nm 3 * p1 + nm 5), upd sp n p2, cy, pg, bf, ch)) : wpY_add post (col, mo, sc, nI n, ns, hp, nm, cl, sn, so, sm, si, px, py, sp, cy, pg, bf, ch) p0 p1 p2 := by
  have hin : vp_in (nI n) 16 := vp_in_nI hn (by decide)
  unfold wpY_add
  refine nm_e (nm_e (yf_c (fun f => b (Or.inl f)) (fun f => yf_c (fun e => b (Or.inr e)) (fun e => ?_))))
  exact ⟨hin, nm_r (pe_u (by omega) rfl) ⟨hin, nm_r (pe_u (by omega) rfl) ⟨hin, nm_r (pe_u (by omega) rfl) (nm_r (nI_1 n) (g f e))⟩⟩⟩
theorem xl_c {A B : Prop} (h : pb_R n fo sp cx cy F S) (f : (n = 0 ∨ ¬ cx (F (n - 1)) = 0) → A) (g : 0 < n → cx (F (n - 1)) = 0 → B) : wpX_lastIsOpen (fun r => (r = 0 → A) ∧ (¬ r = 0 → B)) (hp, col, mo, sc, nI n, ns, pg, bf, cl, nm, sn, so, sm, si, px, py, fo, cx) := by
  obtain ⟨h16, ok, hf, _, _⟩ := h
  unfold wpX_lastIsOpen
  by_cases z : n = 0
  · subst z
    exact br_f (by decide) (br_t rfl (f (Or.inl rfl)))
  · have e : nI n - 1 = nI (n - 1) := by
      obtain ⟨m, rfl⟩ : ∃ m, n = m + 1 := ⟨n - 1, by omega⟩
      exact nI_pred m
    have l := pb_le ok (n - 1) (by omega)
    refine br_t (nI_lt (a := 0) (by omega) (by omega)) ?_
    rw [e, nI_clamp (by omega), hf (n - 1) (by omega), nI_clamp (by omega)]
    refine ⟨vp_in_nI (by omega) (by decide), vp_in_nI (by omega) (by decide), br_c (fun y => br_f pe_10 (g (by omega) y)) (fun y => br_t rfl (f (Or.inr y)))⟩
theorem pe_sub1 {m : Nat} (h : 0 < m) : nI m - 1 = nI (m - 1) := by
  obtain ⟨j, rfl⟩ : ∃ j, m = j + 1 := ⟨m - 1, by omega⟩
  exact nI_pred j
theorem pe_16 (h : n ≤ 16) : nI n = 16 ↔ n = 16 := by rw [show (16 : Int32) = nI 16 from rfl, nI_eq (by omega) (by omega)]
theorem pe_s0 (h : pb_ok n F S) (h16 : n ≤ 16) : nI (pb_s n S) = 0 ↔ n = 0 := by
  have := pb_sle h
  rw [← nI_0, nI_eq (by omega) (by omega), pb_s0]
theorem pe_sl (h0 : 0 < n) : pb_s n S - 1 = S (n - 1) := by
  unfold pb_s; rw [if_neg (by omega)]; omega
theorem i_vc_close {k : Nat} {u : SX} {v : SY} (I : i_Rel k u v) (hk : k + 4 ≤ 2048) : wpX_close (fun r u' => wpY_close (fun r' v' => r' = r ∧ i_Rel (k + 4) u' v') v) u := by
  obtain ⟨hp, col, mo, c, n, pg, bf, cl, nm, sn, so, sm, si, px, py, fo, cx, sp, cy, ch, F, S, rfl, rfl, h⟩ := I
  have R := h.2.2.2.2.2
  obtain ⟨h16, ok, hf, hs, hc⟩ := R
  have sle := pb_sle ok
  unfold wpX_close
  refine xl_c h.2.2.2.2.2 (fun f => ?_) (fun h0 f => ?_)
  · show wpY_close _ _
    unfold wpY_close
    by_cases z : n = 0
    · exact br_t ((pe_s0 ok h16).mpr z) ⟨rfl, pe_mk h⟩
    · have sp0 := pb_slt ok (k := n - 1) (by omega)
      refine br_f (fun y => z ((pe_s0 ok h16).mp y)) ?_
      rw [pe_sub1 (by omega), pe_sl (by omega), nI_clamp (by omega)]
      refine ⟨vp_in_nI (by omega) (by decide), br_f ?_ ⟨rfl, pe_mk h⟩⟩
      rw [← hc (n - 1) (by omega)]
      exact f.resolve_left z
  · have l := pb_le ok (n - 1) (by omega)
    have sp0 := pb_slt ok (k := n - 1) (by omega)
    rw [pe_sub1 h0, nI_clamp (by omega), hf (n - 1) (by omega), nI_clamp (by omega)]
    refine ⟨vp_in_nI (by omega) (by decide), vp_in_nI (by omega) (by decide), nm_e ?_⟩
    show wpY_close _ _
    unfold wpY_close
    refine br_f (fun y => by have := (pe_s0 ok h16).mp y; omega) ?_
    rw [pe_sub1 (by omega), pe_sl (by omega), nI_clamp (by omega)]
    refine ⟨vp_in_nI (by omega) (by decide), br_t ?_ ⟨vp_in_nI (by omega) (by decide), nm_e ⟨rfl, pe_mk (F := F) ?_⟩⟩⟩
    · rw [← hc (n - 1) (by omega)]; exact f
    · obtain ⟨h1, h2, h3, h4, h5, h6⟩ := h
      exact ⟨h1, h2, h3, h4, h5, pb_Rclose h6 h0 _⟩
theorem i_vc_move {k : Nat} {u : SX} {v : SY} (I : i_Rel k u v) (hk : k + 4 ≤ 2048) (v1 : Int32) (v2 : Int32) : wpX_move (fun r u' => wpY_move (fun r' v' => r' = r ∧ i_Rel (k + 4) u' v') v v1 v2) u v1 v2 := by
  obtain ⟨hp, col, mo, c, n, pg, bf, cl, nm, sn, so, sm, si, px, py, fo, cx, sp, cy, ch, F, S, rfl, rfl, h⟩ := I
  obtain ⟨h16, ok, hf, hs, hc⟩ := h.2.2.2.2.2
  have sle := pb_sle ok
  unfold wpX_move
  refine xw_c (fun f => ?_) (fun f => xw_c (fun g => ?_) (fun g => ?_))
  · show wpY_move _ _ _ _
    unfold wpY_move
    exact yf_c (fun _ => ⟨rfl, pe_mk h⟩) (fun z => absurd f z)
  · show wpY_move _ _ _ _
    unfold wpY_move
    exact yf_c (fun z => absurd z f) (fun _ => yf_c (fun _ => ⟨rfl, pe_mk h⟩) (fun z => absurd g z))
  · by_cases z : n < 16
    · refine br_t (nI_lt (b := 16) z (by decide)) (xa_add z (fun d => ?_) (fun d e => ?_))
      · refine br_t rfl ?_
        show wpY_move _ _ _ _
        unfold wpY_move
        refine yf_c (fun z => absurd z f) (fun _ => yf_c (fun z => absurd z g) (fun _ => br_f (fun y => by have := (pe_16 h16).mp y; omega) (ya_add z (fun _ => ?_) (fun a b => absurd d (fun y => y.elim a b)))))
        exact br_t (by decide) ⟨rfl, pe_mk h⟩
      · refine br_f pe_10 ⟨vp_in_nI z (by decide), nm_r (pe_u (by omega) pe_b0) (nm_r (nI_1 _) ?_)⟩
        show wpY_move _ _ _ _
        unfold wpY_move
        refine yf_c (fun z => absurd z f) (fun _ => yf_c (fun z => absurd z g) (fun _ => br_f (fun y => by have := (pe_16 h16).mp y; omega) (ya_add z (fun y => absurd y (fun y => y.elim d e)) (fun _ _ => ?_))))
        refine br_f (nI_nle (by omega) (by omega)) ⟨vp_in_nI (by omega) (by decide), nm_r (pe_u (by omega) pe_b0) (nm_r (nI_1 _) ⟨rfl, ?_⟩)⟩
        obtain ⟨h1, h2, h3, h4, h5, h6⟩ := h
        have m := pe_mk (k := k + 4) (hp := hp) (col := col) (pg := pg) (bf := bf) (cl := cl) (nm := nm) (sn := sn) (so := so) (si := si) (ch := ch) (c := c) (n := n + 1) (F := pb_put F n n) (S := pb_put S n (pb_s n S)) ⟨h1, h2, h3, pd_updP (i := n) h4 (pe_near d rfl (by decide)), pd_updP (i := n) h5 (pe_near e rfl (by decide)), pb_Rmove h6 z⟩
        rw [pb_sP] at m
        exact m
    · refine br_f (nI_nlt (b := 16) (by omega) (by omega)) ?_
      show wpY_move _ _ _ _
      unfold wpY_move
      exact yf_c (fun z => absurd z f) (fun _ => yf_c (fun z => absurd z g) (fun _ => br_t ((pe_16 h16).mpr (by omega)) ⟨rfl, pe_mk h⟩))
theorem i_vc_line {k : Nat} {u : SX} {v : SY} (I : i_Rel k u v) (hk : k + 4 ≤ 2048) (v1 : Int32) (v2 : Int32) : wpX_line (fun r u' => wpY_line (fun r' v' => r' = r ∧ i_Rel (k + 4) u' v') v v1 v2) u v1 v2 := by
  obtain ⟨hp, col, mo, c, n, pg, bf, cl, nm, sn, so, sm, si, px, py, fo, cx, sp, cy, ch, F, S, rfl, rfl, h⟩ := I
  obtain ⟨h16, ok, hf, hs, hc⟩ := h.2.2.2.2.2
  have sle := pb_sle ok
  unfold wpX_line
  refine xw_c (fun f => ?_) (fun f => xw_c (fun g => ?_) (fun g => xl_c h.2.2.2.2.2 (fun o => ?_) (fun h0 o => ?_)))
  · show wpY_line _ _ _ _
    unfold wpY_line
    exact yf_c (fun _ => ⟨rfl, pe_mk h⟩) (fun z => absurd f z)
  · show wpY_line _ _ _ _
    unfold wpY_line
    exact yf_c (fun z => absurd z f) (fun _ => yf_c (fun _ => ⟨rfl, pe_mk h⟩) (fun z => absurd g z))
  · show wpY_line _ _ _ _
    unfold wpY_line
    refine yf_c (fun z => absurd z f) (fun _ => yf_c (fun z => absurd z g) (fun _ => ?_))
    by_cases z : n = 0
    · exact br_t ((pe_s0 ok h16).mpr z) ⟨rfl, pe_mk h⟩
    · have sp0 := pb_slt ok (k := n - 1) (by omega)
      refine br_f (fun y => z ((pe_s0 ok h16).mp y)) ?_
      rw [pe_sub1 (by omega), pe_sl (by omega), nI_clamp (by omega)]
      refine ⟨vp_in_nI (by omega) (by decide), br_f ?_ ⟨rfl, pe_mk h⟩⟩
      rw [← hc (n - 1) (by omega)]
      exact o.resolve_left z
  · have l := pb_le ok (n - 1) (by omega)
    have sp0 := pb_slt ok (k := n - 1) (by omega)
    have o' : cy (S (n - 1)) = 0 := by rw [← hc (n - 1) (by omega)]; exact o
    have y0 : ¬ nI (pb_s n S) = 0 := fun y => by have := (pe_s0 ok h16).mp y; omega
    have yin : vp_in (nI (pb_s n S) - 1) 16 := by rw [pe_sub1 (by omega)]; exact vp_in_nI (by omega) (by decide)
    have ycl : cy (nI (pb_s n S) - 1).toNatClampNeg = 0 := by rw [pe_sub1 (by omega), pe_sl (by omega), nI_clamp (by omega)]; exact o'
    have ysp : nI (pb_s n S) - 1 = nI (S (n - 1)) := by rw [pe_sub1 (by omega), pe_sl (by omega)]
    by_cases z : n < 16
    · refine br_t (nI_lt (b := 16) z (by decide)) ?_
      have xin : vp_in (nI n - 1) 16 := by rw [pe_sub1 h0]; exact vp_in_nI (by omega) (by decide)
      have xfo : fo (nI n - 1).toNatClampNeg = nI (F (n - 1)) := by rw [pe_sub1 h0, nI_clamp (by omega)]; exact hf (n - 1) (by omega)
      refine ⟨xin, nm_r xfo (xa_add z (fun d => ?_) (fun d e => ?_))⟩
      · refine br_t rfl ?_
        show wpY_line _ _ _ _
        unfold wpY_line
        refine yf_c (fun z => absurd z f) (fun _ => yf_c (fun z => absurd z g) (fun _ => br_f y0 ⟨yin, br_t ycl (br_f (fun y => by have := (pe_16 h16).mp y; omega) (ya_add z (fun _ => ?_) (fun a b => absurd d (fun y => y.elim a b))))⟩))
        exact ⟨rfl, pe_mk h⟩
      · refine br_f pe_10 ?_
        show wpY_line _ _ _ _
        unfold wpY_line
        refine yf_c (fun z => absurd z f) (fun _ => yf_c (fun z => absurd z g) (fun _ => br_f y0 ⟨yin, br_t ycl (br_f (fun y => by have := (pe_16 h16).mp y; omega) (ya_add z (fun y => absurd y (fun y => y.elim d e)) (fun _ _ => ?_)))⟩))
        refine ⟨rfl, ?_⟩
        obtain ⟨h1, h2, h3, h4, h5, h6⟩ := h
        have m := pe_mk (k := k + 4) (hp := hp) (col := col) (pg := pg) (bf := bf) (cl := cl) (nm := nm) (sn := sn) (so := so) (si := si) (ch := ch) (c := c) (n := n + 1) (F := pb_put F n (F (n - 1))) (S := pb_put S n (S (n - 1))) ⟨h1, h2, h3, pd_updP (i := n) h4 (pe_near d rfl (by decide)), pd_updP (i := n) h5 (pe_near e rfl (by decide)), pb_Rline h6 h0 z⟩
        have es : pb_s n S = S (n - 1) + 1 := by unfold pb_s; rw [if_neg (by omega)]
        rw [pb_sP, ← es, ← ysp] at m
        exact m
    · refine br_f (nI_nlt (b := 16) (by omega) (by omega)) ?_
      show wpY_line _ _ _ _
      unfold wpY_line
      exact yf_c (fun z => absurd z f) (fun _ => yf_c (fun z => absurd z g) (fun _ => br_f y0 ⟨yin, br_t ycl (br_t ((pe_16 h16).mpr (by omega)) ⟨rfl, pe_mk h⟩)⟩))
end PPwalk
