section PPpaint
variable {hp col mo sc nc ns : Int32} {pg bf cl nm sn so sm si px py fo cx sp cy ch : Nat → Int32} {n : Nat} {F S : Nat → Nat}
/-! painting -/
theorem xp_keep {post : SX → Prop} (h : post (1, col, mo, sc, nc, ns, pg, pd_it 0 pg bf 256, cl, nm, sn, so, sm, si, px, py, fo, cx)) : wpX_keepPage post (hp, col, mo, sc, nc, ns, pg, bf, cl, nm, sn, so, sm, si, px, py, fo, cx) := by
  unfold wpX_keepPage
  refine loop_0 (fun n i s => wX_keepPage_2 post hp col mo sc nc ns n (nI i) pg s cl nm sn so sm si px py fo cx) (fun i s => s = pd_it 0 pg bf i) 256 bf rfl ?_ ?_
  · intro n s hs
    subst hs
    exact br_t (nI_le (a := 256) (b := 256) (by decide) (by decide)) h
  · intro n i s hi hs ih
    subst hs
    have hin : vp_in (nI i) 256 := vp_in_nI hi (by decide)
    refine br_f (nI_ge (b := 256) hi (by decide)) ⟨hin, hin, nm_r (pe_u (y := pg i) (by omega) (pe_g (by omega))) (nm_r (nI_1 i) (ih _ ?_))⟩
    rw [pd_itS, Nat.zero_add]
theorem xp_mix {post : Int32 → Prop} {old : Int32} (h : post (pd_mx col mo old)) : wpX_mixed post (hp, col, mo, sc, nc, ns, pg, bf, cl, nm, sn, so, sm, si, px, py, fo, cx) old := by
  unfold wpX_mixed
  unfold pd_mx at h
  by_cases a : mo = 1
  · rw [if_pos a] at h
    exact br_t a h
  · rw [if_neg a] at h
    refine br_f a ?_
    by_cases b : mo = 2
    · refine br_t b (br_c (fun c => ?_) (fun c => ?_))
      · rw [if_neg (fun z => z.2 c)] at h; exact h
      · rw [if_pos ⟨b, c⟩] at h; exact h
    · rw [if_neg (fun z => b z.1)] at h
      exact br_f b h
theorem yp_mix {post : Int32 → Prop} {old : Int32} (m : pe_mo mo) (h : post (pd_mx col mo old)) : wpY_newColour post (col, mo, sc, nc, ns, hp, nm, cl, sn, so, sm, si, px, py, sp, cy, pg, bf, ch) old := by
  unfold wpY_newColour
  unfold pd_mx at h
  rcases m with m | m | m <;> subst m
  · rw [if_neg (by decide), if_neg (fun z => absurd z.1 (by decide))] at h
    exact br_t rfl h
  · rw [if_pos rfl] at h
    exact br_f pe_10 (br_t rfl h)
  · rw [if_neg (by decide)] at h
    refine br_f (by decide) (br_f (by decide) (br_c (fun c => ?_) (fun c => ?_)))
    · rw [if_neg (fun z => z.2 c)] at h; exact h
    · rw [if_pos ⟨rfl, c⟩] at h; exact h
theorem xp_pix {post : Int32 → SX → Prop} {i : Nat} (hi : i < 256) (h1 : cl i = 0 → post 0 (hp, col, mo, sc, nc, ns, pg, bf, cl, nm, sn, so, sm, si, px, py, fo, cx)) (h2 : ¬ cl i = 0 → pd_mx col mo (pg i) = pg i → post 0 (hp, col, mo, sc, nc, ns, upd pg i (pd_mx col mo (pg i)), bf, cl, nm, sn, so, sm, si, px, py, fo, cx)) (h3 : ¬ cl i = 0 → ¬ pd_mx col mo (pg i) = pg i → post 1 (hp, col, mo, sc, nc, ns, upd pg i (pd_mx col mo (pg i)), bf, cl, nm, sn, so, sm, si, px, py, fo, cx)) : wpX_paintPixel post (hp, col, mo, sc, nc, ns, pg, bf, cl, nm, sn, so, sm, si, px, py, fo, cx) (nI i) := by
  have hin : vp_in (nI i) 256 := vp_in_nI hi (by decide)
  have ec : (nI i).toNatClampNeg = i := nI_clamp (by omega)
  unfold wpX_paintPixel
  refine ⟨hin, br_c (fun z => ?_) (fun z => ⟨hin, nm_r (pe_g (c := i) (by omega)) (xp_mix ⟨hin, nm_r (pe_u (c := i) (by omega) rfl) ⟨hin, br_c (fun d => ?_) (fun d => ?_)⟩⟩)⟩)⟩
  · rw [ec] at z; exact h1 z
  · rw [ec] at z d; rw [pa_us] at d; exact h2 z d
  · rw [ec] at z d; rw [pa_us] at d; exact h3 z d
theorem yp_57 {post : Int32 → SY → Prop} {J : Int32 → Int32 → (Nat → Int32) → (Nat → Int32) → (Nat → Int32) → (Nat → Int32) → (Nat → Int32) → (Nat → Int32) → (Nat → Int32) → (Nat → Int32) → (Nat → Int32) → (Nat → Int32) → (Nat → Int32) → (Nat → Int32) → (Nat → Int32) → Prop} {x1 : Int32} {i : Nat} (hi : i < 256) (he : pg i = bf i → J x1 (nI (i + 1)) nm cl sn so sm si px py sp cy pg bf ch) (hn : ¬ pg i = bf i → J (x1 + 1) (nI (i + 1)) nm cl sn so sm si px py sp cy pg bf ch) : wY_paintChosen_57 post J x1 (nI i) col mo sc nc ns hp nm cl sn so sm si px py sp cy pg bf ch := by
  have hin : vp_in (nI i) 256 := vp_in_nI hi (by decide)
  have ec : (nI i).toNatClampNeg = i := nI_clamp (by omega)
  unfold wY_paintChosen_57
  refine ⟨hin, hin, br_c (fun z => nm_r (nI_1 i) ?_) (fun z => nm_e (nm_r (nI_1 i) ?_))⟩
  · rw [ec] at z; exact he z
  · rw [ec] at z; exact hn z
theorem yp_paint {post : Int32 → SY → Prop} (m : pe_mo mo) (h : post (pd_n (pd_dc ch cl pg col mo) 256) (col, mo, sc, nc, ns, 1, nm, cl, sn, so, sm, si, px, py, sp, cy, pd_pg ch cl pg col mo 256, pd_it 0 pg bf 256, ch)) : wpY_paintChosen post (col, mo, sc, nc, ns, hp, nm, cl, sn, so, sm, si, px, py, sp, cy, pg, bf, ch) := by
  unfold wpY_paintChosen
  refine loop_0 (σ := Int32 × (Nat → Int32) × (Nat → Int32)) (fun n i s => wY_paintChosen_4 post col mo sc nc ns hp n s.1 (nI i) nm cl sn so sm si px py sp cy s.2.1 s.2.2 ch) (fun i s => s = (pd_n (pd_dc ch cl pg col mo) i, pd_pg ch cl pg col mo i, pd_it 0 pg bf i)) 256 (0, pg, bf) rfl ?_ ?_
  · intro n s hs
    subst hs
    exact br_t (nI_le (a := 256) (b := 256) (by decide) (by decide)) h
  · intro n i s hi hs ih
    subst hs
    have hin : vp_in (nI i) 256 := vp_in_nI hi (by decide)
    have ec : (nI i).toNatClampNeg = i := nI_clamp (by omega)
    have e1 : pd_pg ch cl pg col mo i i = pg i := pd_pgH i i (Nat.le_refl i)
    have e2 : pd_it 0 pg bf (i + 1) i = pg i := by rw [pd_itS, Nat.zero_add, pa_us]
    have eb : upd (pd_it 0 pg bf i) (nI i).toNatClampNeg (pd_pg ch cl pg col mo i (nI i).toNatClampNeg) = pd_it 0 pg bf (i + 1) := by rw [ec, e1, pd_itS, Nat.zero_add]
    have K : (ch i = 0 ∨ cl i = 0) → wY_paintChosen_57 post (wY_paintChosen_4 post col mo sc nc ns hp n) (pd_n (pd_dc ch cl pg col mo) i) (nI i) col mo sc nc ns hp nm cl sn so sm si px py sp cy (pd_pg ch cl pg col mo i) (pd_it 0 pg bf (i + 1)) ch := by
      intro z
      refine yp_57 hi (fun _ => ih (pd_n (pd_dc ch cl pg col mo) i, pd_pg ch cl pg col mo i, pd_it 0 pg bf (i + 1)) ?_) (fun y => absurd (e1.trans e2.symm) y)
      rw [pd_pgK z, pd_nF (fun y => by have q := of_decide_eq_true y; exact z.elim q.1 q.2.1)]
    refine br_f (nI_ge (b := 256) hi (by decide)) ⟨hin, hin, nm_r eb ⟨hin, br_c (fun z => K (Or.inl ?_)) (fun z => ⟨hin, br_c (fun y => K (Or.inr ?_)) (fun y => ⟨hin, yp_mix m ⟨hin, nm_e ?_⟩⟩)⟩)⟩⟩
    · rw [ec] at z; exact z
    · rw [ec] at y; exact y
    · rw [ec] at z y
      show wY_paintChosen_57 post (wY_paintChosen_4 post col mo sc nc ns hp n) (pd_n (pd_dc ch cl pg col mo) i) (nI i) col mo sc nc ns hp nm cl sn so sm si px py sp cy (upd (pd_pg ch cl pg col mo i) (nI i).toNatClampNeg (pd_mx col mo (pd_pg ch cl pg col mo i (nI i).toNatClampNeg))) (pd_it 0 pg bf (i + 1)) ch
      rw [ec, e1, ← pd_pgN z y]
      have e3 : pd_pg ch cl pg col mo (i + 1) i = pd_mx col mo (pg i) := by rw [pd_pgN z y, pa_us]
      refine yp_57 hi (fun w => ih (pd_n (pd_dc ch cl pg col mo) i, pd_pg ch cl pg col mo (i + 1), pd_it 0 pg bf (i + 1)) ?_) (fun w => ih (pd_n (pd_dc ch cl pg col mo) i + 1, pd_pg ch cl pg col mo (i + 1), pd_it 0 pg bf (i + 1)) ?_)
      · rw [e3, e2] at w
        rw [pd_nF (fun x => (of_decide_eq_true x).2.2 w)]
      · rw [e3, e2] at w
        rw [pd_nT (c := pd_dc ch cl pg col mo) (decide_eq_true ⟨z, y, w⟩)]
/-! the chosen pixels of Y are those of the question -/
theorem pj_it {o : Nat} {a b : Nat → Int32} : ∀ i j, j < i → pd_it o a b i (o + j) = a j := by
  intro i
  induction i with
  | zero => intro j hj; exact absurd hj (Nat.not_lt_zero j)
  | succ i ih =>
    intro j hj
    rw [pd_itS]
    by_cases c : j = i
    · subst c; rw [pa_us]
    · rw [pa_un (by omega)]; exact ih j (by omega)
theorem pj_pg {a b : Nat → Int32} : ∀ i, (∀ j, j < i → a j = b j) → pd_pg a cl pg col mo i = pd_pg b cl pg col mo i := by
  intro i
  induction i with
  | zero => intro _; rfl
  | succ i ih =>
    intro h
    have e := ih (fun j hj => h j (by omega))
    have f := h i (by omega)
    unfold pd_pg
    rw [e, f]
theorem pj_n {a b : Nat → Bool} : ∀ i, (∀ j, j < i → a j = b j) → pd_n a i = pd_n b i := by
  intro i
  induction i with
  | zero => intro _; rfl
  | succ i ih =>
    intro h
    have e := ih (fun j hj => h j (by omega))
    have f := h i (by omega)
    unfold pd_n
    rw [e, f]
def pj_ch (a ch : Nat → Int32) : Nat → Int32 := pd_it 0 (fun j => vp_nar .boolean (a j)) ch 256
theorem pj_chE {a ch : Nat → Int32} (h : ∀ j, a j = 0 ∨ a j = 1) {j : Nat} (hj : j < 256) : pj_ch a ch j = a j := by
  have e := pj_it (o := 0) (a := fun j => vp_nar .boolean (a j)) (b := ch) 256 j hj
  rw [Nat.zero_add] at e
  unfold pj_ch
  rw [e]
  show vp_nar .boolean (a j) = a j
  rcases h j with z | z <;> rw [z]
  · exact pe_b0
  · exact pe_b1
theorem pj_pgE {a : Nat → Int32} (h : ∀ j, a j = 0 ∨ a j = 1) : pd_pg (pj_ch a ch) cl pg col mo 256 = pd_pg a cl pg col mo 256 := pj_pg 256 (fun _ hj => pj_chE h hj)
theorem pj_nE {a : Nat → Int32} (h : ∀ j, a j = 0 ∨ a j = 1) : pd_n (pd_dc (pj_ch a ch) cl pg col mo) 256 = pd_n (pd_dc a cl pg col mo) 256 := by
  refine pj_n 256 (fun j hj => ?_)
  unfold pd_dc
  rw [pj_chE h hj]
/-! fill and stroke -/
def pj_in (px py : Nat → Int32) (n : Nat) (F : Nat → Nat) (rule : Int32) (p : Nat) : Int32 := pc_in (pc_w px py (pb_nx n F) (nI (2 * (p % 16) + 1)) (nI (2 * (p / 16) + 1)) n) rule
noncomputable def pj_nr (px py : Nat → Int32) (n : Nat) (F : Nat → Nat) (cx : Nat → Int32) (w : Int32) (p : Nat) : Int32 := pi_v (∃ k, k < n ∧ pc_ns px py (nI (2 * (p % 16) + 1)) (nI (2 * (p / 16) + 1)) w k (pc_se n F cx k))
theorem xf_loop {post : Int32 → SX → Prop} {a : Int32} (h : pb_R n fo sp cx cy F S) (hx : ∀ j, pa_in 2000 (px j)) (hy : ∀ j, pa_in 2000 (py j)) (hp' : post (pd_n (pd_dc (pj_in px py n F a) cl pg col mo) 256) (hp, col, mo, sc, nI n, ns, pd_pg (pj_in px py n F a) cl pg col mo 256, bf, cl, nm, sn, so, sm, si, px, py, fo, cx)) : ∃ m, wX_fill_17 post a m 0 0 hp col mo sc (nI n) ns pg bf cl nm sn so sm si px py fo cx := by
  refine loop_0 (σ := Int32 × (Nat → Int32)) (fun m i s => wX_fill_17 post a m s.1 (nI i) hp col mo sc (nI n) ns s.2 bf cl nm sn so sm si px py fo cx) (fun i s => s = (pd_n (pd_dc (pj_in px py n F a) cl pg col mo) i, pd_pg (pj_in px py n F a) cl pg col mo i)) 256 (0, pg) rfl ?_ ?_
  · intro n s hs
    subst hs
    exact br_t (nI_le (a := 256) (b := 256) (by decide) (by decide)) hp'
  · intro m i s hi hs ih
    subst hs
    have e1 : pd_pg (pj_in px py n F a) cl pg col mo i i = pg i := pd_pgH i i (Nat.le_refl i)
    refine br_f (nI_ge (b := 256) hi (by decide)) (xw_inside h hi ?_)
    show (pj_in px py n F a i = 0 → _) ∧ (¬ pj_in px py n F a i = 0 → _)
    by_cases z : pj_in px py n F a i = 0
    · refine br_t z (nm_r (nI_1 i) (ih (pd_n (pd_dc (pj_in px py n F a) cl pg col mo) i, pd_pg (pj_in px py n F a) cl pg col mo i) ?_))
      rw [pd_pgK (Or.inl z), pd_nF (fun y => (of_decide_eq_true y).1 z)]
    · refine br_f z (xp_pix hi (fun c => ?_) (fun c e => ?_) (fun c e => ?_))
      · refine nm_r (Int32.add_zero _) (nm_r (nI_1 i) (ih (pd_n (pd_dc (pj_in px py n F a) cl pg col mo) i, pd_pg (pj_in px py n F a) cl pg col mo i) ?_))
        rw [pd_pgK (Or.inr c), pd_nF (fun y => (of_decide_eq_true y).2.1 c)]
      · refine nm_r (Int32.add_zero _) (nm_r (nI_1 i) (ih (pd_n (pd_dc (pj_in px py n F a) cl pg col mo) i, upd (pd_pg (pj_in px py n F a) cl pg col mo i) i (pd_mx col mo (pd_pg (pj_in px py n F a) cl pg col mo i i))) ?_))
        dsimp only at e
        rw [e1] at e ⊢
        rw [pd_pgN z c, pd_nF (fun y => (of_decide_eq_true y).2.2 e)]
      · refine nm_e (nm_r (nI_1 i) (ih (pd_n (pd_dc (pj_in px py n F a) cl pg col mo) i + 1, upd (pd_pg (pj_in px py n F a) cl pg col mo i) i (pd_mx col mo (pd_pg (pj_in px py n F a) cl pg col mo i i))) ?_))
        dsimp only at e
        rw [e1] at e ⊢
        rw [pd_pgN z c, pd_nT (c := pd_dc (pj_in px py n F a) cl pg col mo) (decide_eq_true ⟨z, c, e⟩)]
theorem yf_loop {post : Int32 → SY → Prop} {a : Int32} (h : pb_R n fo sp cx cy F S) (hx : ∀ j, pa_in 2000 (px j)) (hy : ∀ j, pa_in 2000 (py j)) (m : pe_mo mo) (hp' : post (pd_n (pd_dc (pj_in px py n F a) cl pg col mo) 256) (col, mo, sc, nI n, ns, 1, nm, cl, sn, so, sm, si, px, py, sp, cy, pd_pg (pj_in px py n F a) cl pg col mo 256, pd_it 0 pg bf 256, pj_ch (pj_in px py n F a) ch)) : ∃ m, wY_fill_13 post a col mo sc (nI n) ns hp m 0 nm cl sn so sm si px py sp cy pg bf ch := by
  refine loop_0 (fun m i s => wY_fill_13 post a col mo sc (nI n) ns hp m (nI i) nm cl sn so sm si px py sp cy pg bf s) (fun i s => s = pd_it 0 (fun j => vp_nar .boolean (pj_in px py n F a j)) ch i) 256 ch rfl ?_ ?_
  · intro m' s hs
    subst hs
    refine br_t (nI_le (a := 256) (b := 256) (by decide) (by decide)) (yp_paint m ?_)
    have q1 := pj_pgE (ch := ch) (cl := cl) (pg := pg) (col := col) (mo := mo) (a := pj_in px py n F a) (fun _ => pc_in01 _ _)
    have q2 := pj_nE (ch := ch) (cl := cl) (pg := pg) (col := col) (mo := mo) (a := pj_in px py n F a) (fun _ => pc_in01 _ _)
    rw [← q1, ← q2] at hp'
    exact hp'
  · intro m' i s hi hs ih
    subst hs
    refine br_f (nI_ge (b := 256) hi (by decide)) ⟨ph_16, ph_16, ?_⟩
    rw [ph_r hi, ph_d hi]
    refine yw_inside h hx hy (by omega) (by omega) ?_
    refine ⟨vp_in_nI hi (by decide), nm_r (pe_u (by omega) rfl) (nm_r (nI_1 i) (ih _ ?_))⟩
    rw [pd_itS, Nat.zero_add]
    rfl
theorem xs_loop {post : Int32 → SX → Prop} {a : Int32} (h : pb_R n fo sp cx cy F S) (hx : ∀ j, pa_in 2000 (px j)) (hy : ∀ j, pa_in 2000 (py j)) (w0 : 0 ≤ a.toInt) (w1 : a.toInt ≤ 32) (hp' : post (pd_n (pd_dc (pj_nr px py n F cx a) cl pg col mo) 256) (hp, col, mo, sc, nI n, ns, pd_pg (pj_nr px py n F cx a) cl pg col mo 256, bf, cl, nm, sn, so, sm, si, px, py, fo, cx)) : ∃ m, wX_stroke_20 post a m 0 0 hp col mo sc (nI n) ns pg bf cl nm sn so sm si px py fo cx := by
  refine loop_0 (σ := Int32 × (Nat → Int32)) (fun m i s => wX_stroke_20 post a m s.1 (nI i) hp col mo sc (nI n) ns s.2 bf cl nm sn so sm si px py fo cx) (fun i s => s = (pd_n (pd_dc (pj_nr px py n F cx a) cl pg col mo) i, pd_pg (pj_nr px py n F cx a) cl pg col mo i)) 256 (0, pg) rfl ?_ ?_
  · intro n s hs
    subst hs
    exact br_t (nI_le (a := 256) (b := 256) (by decide) (by decide)) hp'
  · intro m i s hi hs ih
    subst hs
    have e1 : pd_pg (pj_nr px py n F cx a) cl pg col mo i i = pg i := pd_pgH i i (Nat.le_refl i)
    refine br_f (nI_ge (b := 256) hi (by decide)) (xn_near h hx hy w0 w1 hi ?_)
    show (pj_nr px py n F cx a i = 0 → _) ∧ (¬ pj_nr px py n F cx a i = 0 → _)
    by_cases z : pj_nr px py n F cx a i = 0
    · refine br_t z (nm_r (nI_1 i) (ih (pd_n (pd_dc (pj_nr px py n F cx a) cl pg col mo) i, pd_pg (pj_nr px py n F cx a) cl pg col mo i) ?_))
      rw [pd_pgK (Or.inl z), pd_nF (fun y => (of_decide_eq_true y).1 z)]
    · refine br_f z (xp_pix hi (fun c => ?_) (fun c e => ?_) (fun c e => ?_))
      · refine nm_r (Int32.add_zero _) (nm_r (nI_1 i) (ih (pd_n (pd_dc (pj_nr px py n F cx a) cl pg col mo) i, pd_pg (pj_nr px py n F cx a) cl pg col mo i) ?_))
        rw [pd_pgK (Or.inr c), pd_nF (fun y => (of_decide_eq_true y).2.1 c)]
      · refine nm_r (Int32.add_zero _) (nm_r (nI_1 i) (ih (pd_n (pd_dc (pj_nr px py n F cx a) cl pg col mo) i, upd (pd_pg (pj_nr px py n F cx a) cl pg col mo i) i (pd_mx col mo (pd_pg (pj_nr px py n F cx a) cl pg col mo i i))) ?_))
        dsimp only at e
        rw [e1] at e ⊢
        rw [pd_pgN z c, pd_nF (fun y => (of_decide_eq_true y).2.2 e)]
      · refine nm_e (nm_r (nI_1 i) (ih (pd_n (pd_dc (pj_nr px py n F cx a) cl pg col mo) i + 1, upd (pd_pg (pj_nr px py n F cx a) cl pg col mo i) i (pd_mx col mo (pd_pg (pj_nr px py n F cx a) cl pg col mo i i))) ?_))
        dsimp only at e
        rw [e1] at e ⊢
        rw [pd_pgN z c, pd_nT (c := pd_dc (pj_nr px py n F cx a) cl pg col mo) (decide_eq_true ⟨z, c, e⟩)]
theorem ys_loop {post : Int32 → SY → Prop} {a : Int32} (h : pb_R n fo sp cx cy F S) (hx : ∀ j, pa_in 2000 (px j)) (hy : ∀ j, pa_in 2000 (py j)) (m : pe_mo mo) (w0 : 0 ≤ a.toInt) (w1 : a.toInt ≤ 32) (hp' : post (pd_n (pd_dc (pj_nr px py n F cx a) cl pg col mo) 256) (col, mo, sc, nI n, ns, 1, nm, cl, sn, so, sm, si, px, py, sp, cy, pd_pg (pj_nr px py n F cx a) cl pg col mo 256, pd_it 0 pg bf 256, pj_ch (pj_nr px py n F cx a) ch)) : ∃ m, wY_stroke_14 post a col mo sc (nI n) ns hp m 0 nm cl sn so sm si px py sp cy pg bf ch := by
  refine loop_0 (fun m i s => wY_stroke_14 post a col mo sc (nI n) ns hp m (nI i) nm cl sn so sm si px py sp cy pg bf s) (fun i s => s = pd_it 0 (fun j => vp_nar .boolean (pj_nr px py n F cx a j)) ch i) 256 ch rfl ?_ ?_
  · intro m' s hs
    subst hs
    refine br_t (nI_le (a := 256) (b := 256) (by decide) (by decide)) (yp_paint m ?_)
    have q1 := pj_pgE (ch := ch) (cl := cl) (pg := pg) (col := col) (mo := mo) (a := pj_nr px py n F cx a) (fun _ => pi_01 _)
    have q2 := pj_nE (ch := ch) (cl := cl) (pg := pg) (col := col) (mo := mo) (a := pj_nr px py n F cx a) (fun _ => pi_01 _)
    rw [← q1, ← q2] at hp'
    exact hp'
  · intro m' i s hi hs ih
    subst hs
    refine br_f (nI_ge (b := 256) hi (by decide)) ⟨ph_16, ph_16, ?_⟩
    rw [ph_r hi, ph_d hi]
    refine yn_near h hx hy w0 w1 (by omega) (by omega) ?_
    refine ⟨vp_in_nI hi (by decide), nm_r (pe_u (by omega) rfl) (nm_r (nI_1 i) (ih _ ?_))⟩
    rw [pd_itS, Nat.zero_add]
    rfl
theorem i_vc_fill {k : Nat} {u : SX} {v : SY} (I : i_Rel k u v) (hk : k + 4 ≤ 2048) (v1 : Int32) : wpX_fill (fun r u' => wpY_fill (fun r' v' => r' = r ∧ i_Rel (k + 4) u' v') v v1) u v1 := by
  obtain ⟨hp, col, mo, c, n, pg, bf, cl, nm, sn, so, sm, si, px, py, fo, cx, sp, cy, ch, F, S, rfl, rfl, h⟩ := I
  obtain ⟨h1, h2, h3, h4, h5, h6⟩ := h
  unfold wpX_fill
  refine xr_c (fun g => ?_) (fun g => xp_keep (xf_loop h6 h4 h5 ?_))
  · show wpY_fill _ _ _
    unfold wpY_fill
    exact br_f (fun z => g (Or.inl z)) (br_f (fun z => g (Or.inr z)) ⟨rfl, pe_mk ⟨h1, h2, h3, h4, h5, h6⟩⟩)
  · show wpY_fill _ _ _
    unfold wpY_fill
    rcases g with g | g
    · exact br_t g (yf_loop h6 h4 h5 h2 ⟨rfl, pe_mk ⟨h1, h2, h3, h4, h5, h6⟩⟩)
    · exact br_f (by rw [g]; decide) (br_t g (yf_loop h6 h4 h5 h2 ⟨rfl, pe_mk ⟨h1, h2, h3, h4, h5, h6⟩⟩))
theorem i_vc_stroke {k : Nat} {u : SX} {v : SY} (I : i_Rel k u v) (hk : k + 4 ≤ 2048) (v1 : Int32) : wpX_stroke (fun r u' => wpY_stroke (fun r' v' => r' = r ∧ i_Rel (k + 4) u' v') v v1) u v1 := by
  obtain ⟨hp, col, mo, c, n, pg, bf, cl, nm, sn, so, sm, si, px, py, fo, cx, sp, cy, ch, F, S, rfl, rfl, h⟩ := I
  obtain ⟨h1, h2, h3, h4, h5, h6⟩ := h
  unfold wpX_stroke
  refine br_c (fun a => ?_) (fun a => br_c (fun b => ?_) (fun b => ?_))
  · show wpY_stroke _ _ _
    unfold wpY_stroke
    exact br_t a ⟨rfl, pe_mk ⟨h1, h2, h3, h4, h5, h6⟩⟩
  · have w0 : 0 ≤ v1.toInt := by have a' := a; rw [Int32.not_lt, Int32.le_iff_toInt_le] at a'; exact a'
    have w1 : v1.toInt ≤ 32 := by have b' := b; rw [Int32.le_iff_toInt_le] at b'; exact b'
    refine xp_keep (xs_loop h6 h4 h5 w0 w1 ?_)
    show wpY_stroke _ _ _
    unfold wpY_stroke
    exact br_f a (br_t b (ys_loop h6 h4 h5 h2 w0 w1 ⟨rfl, pe_mk ⟨h1, h2, h3, h4, h5, h6⟩⟩))
  · show wpY_stroke _ _ _
    unfold wpY_stroke
    exact br_f a (br_f b ⟨rfl, pe_mk ⟨h1, h2, h3, h4, h5, h6⟩⟩)
end PPpaint
