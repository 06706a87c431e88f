section PPrel
variable {hp col mo sc nc ns : Int32} {pg bf cl nm sn so sm si px py fo cx sp cy ch : Nat → Int32}
/-! the relation -/
def pe_mo (m : Int32) : Prop := m = 0 ∨ m = 1 ∨ m = 2
def pe_ok (c n : Nat) (mo : Int32) (sm px py fo sp cx cy : Nat → Int32) (F S : Nat → Nat) : Prop :=
  c ≤ 4 ∧ pe_mo mo ∧ (∀ j, pe_mo (sm j)) ∧ (∀ j, pa_in 2000 (px j)) ∧ (∀ j, pa_in 2000 (py j)) ∧ pb_R n fo sp cx cy F S
def i_Rel (_ : Nat) (u : SX) (v : SY) : Prop :=
  ∃ (hp col mo : Int32) (c n : Nat) (pg bf cl nm sn so sm si px py fo cx sp cy ch : Nat → Int32) (F S : Nat → Nat),
    u = (hp, col, mo, nI c, nI n, nI (pb_s n S), pg, bf, cl, nm, sn, so, sm, si, px, py, fo, cx) ∧ v = (col, mo, nI c, nI n, nI (pb_s n S), hp, nm, cl, sn, so, sm, si, px, py, sp, cy, pg, bf, ch) ∧ pe_ok c n mo sm px py fo sp cx cy F S
theorem i_up {k : Nat} {u : SX} {v : SY} (h : i_Rel k u v) : i_Rel (k + 4) u v := h
theorem pe_mk {k c n : Nat} {F S : Nat → Nat} (h : pe_ok c n mo sm px py fo sp cx cy F S) : i_Rel k (hp, col, mo, nI c, nI n, nI (pb_s n S), pg, bf, cl, nm, sn, so, sm, si, px, py, fo, cx) (col, mo, nI c, nI n, nI (pb_s n S), hp, nm, cl, sn, so, sm, si, px, py, sp, cy, pg, bf, ch) :=
  ⟨hp, col, mo, c, n, pg, bf, cl, nm, sn, so, sm, si, px, py, fo, cx, sp, cy, ch, F, S, rfl, rfl, h⟩
/-! small steps -/
theorem pe_u {f : Nat → Int32} {c : Nat} {x y : Int32} (hc : c < 2 ^ 31) (e : x = y) : upd f (nI c).toNatClampNeg x = upd f c y := by rw [nI_clamp hc, e]
theorem pe_g {f : Nat → Int32} {c : Nat} (hc : c < 2 ^ 31) : f (nI c).toNatClampNeg = f c := by rw [nI_clamp hc]
theorem pe_b0 : vp_nar .boolean 0 = 0 := by decide
theorem pe_b1 : vp_nar .boolean 1 = 1 := by decide
theorem pe_10 : ¬ (1 : Int32) = 0 := by decide
/-! the constructors -/
theorem xi_loop {post : SX → Prop} (h : post (hp, col, mo, sc, nc, ns, pg, bf, pd_it 0 (fun _ => vp_nar .boolean 1) cl 256, nm, sn, so, sm, si, px, py, fo, cx)) : ∃ n, wX_init_123 post hp col mo sc nc ns n 0 pg bf cl nm sn so sm si px py fo cx := by
  refine loop_0 (fun n i s => wX_init_123 post hp col mo sc nc ns n (nI i) pg bf s nm sn so sm si px py fo cx) (fun i s => s = pd_it 0 (fun _ => vp_nar .boolean 1) cl i) 256 cl rfl ?_ ?_
  · intro n s hs
    subst hs
    exact br_t (nI_le (a := 256) (b := 256) (by decide) (by decide)) h
  · intro n i s hi hs ih
    subst hs
    refine br_f (nI_ge (b := 256) hi (by decide)) ⟨vp_in_nI hi (by decide), nm_r (pe_u (by omega) rfl) (nm_r (nI_1 i) (ih _ ?_))⟩
    rw [pd_itS, Nat.zero_add]
theorem yi_loop {post : SY → Prop} (h : post (col, mo, sc, nc, ns, hp, nm, pd_it 0 (fun _ => vp_nar .boolean 1) cl 256, sn, so, sm, si, px, py, sp, cy, pg, bf, ch)) : ∃ n, wY_init_132 post col mo sc nc ns hp n 0 nm cl sn so sm si px py sp cy pg bf ch := by
  refine loop_0 (fun n i s => wY_init_132 post col mo sc nc ns hp n (nI i) nm s sn so sm si px py sp cy pg bf ch) (fun i s => s = pd_it 0 (fun _ => vp_nar .boolean 1) cl i) 256 cl rfl ?_ ?_
  · intro n s hs
    subst hs
    exact br_t (nI_le (a := 256) (b := 256) (by decide) (by decide)) h
  · intro n i s hi hs ih
    subst hs
    refine br_f (nI_ge (b := 256) hi (by decide)) ⟨vp_in_nI hi (by decide), nm_r (pe_u (by omega) rfl) (nm_r (nI_1 i) (ih _ ?_))⟩
    rw [pd_itS, Nat.zero_add]
theorem pe_in0 : pa_in 2000 0 := ⟨by decide, by decide⟩
theorem i_vc0 : wpX_init (fun u => wpY_init (fun v => i_Rel 0 u v)) := by
  unfold wpX_init wpY_init
  refine nm_e (nm_e (xi_loop (nm_e (nm_e (yi_loop ?_)))))
  exact pe_mk (c := 0) (n := 0) (S := fun _ => 0) (F := fun _ => 0) ⟨by omega, Or.inl rfl, fun _ => Or.inl rfl, fun _ => pe_in0, fun _ => pe_in0, pb_R0⟩
/-! within, far -/
def pe_far (a b : Int32) : Prop := a < -b ∨ b < a
theorem xw_c {A B : Prop} {a b : Int32} (f : pe_far a b → A) (g : ¬ pe_far a b → B) : wpX_isWithin (fun r => (r = 0 → A) ∧ (¬ r = 0 → B)) a b := by
  unfold wpX_isWithin
  exact br_c (fun h => br_t rfl (f (Or.inl h))) (fun h => br_c (fun i => br_t rfl (f (Or.inr i))) (fun i => br_f pe_10 (g (fun z => z.elim h i))))
theorem yf_c {A B : Prop} {a b : Int32} (f : pe_far a b → B) (g : ¬ pe_far a b → A) : wpY_isFar (fun r => (r = 0 → A) ∧ (¬ r = 0 → B)) (col, mo, sc, nc, ns, hp, nm, cl, sn, so, sm, si, px, py, sp, cy, pg, bf, ch) a b := by
  unfold wpY_isFar
  exact br_c (fun h => br_f pe_10 (f (Or.inl h))) (fun h => br_c (fun i => br_t rfl (g (fun z => z.elim h (Int32.not_lt.mpr i)))) (fun i => br_f pe_10 (f (Or.inr (Int32.not_le.mp i)))))
theorem pe_near {a b : Int32} {M : Int} (h : ¬ pe_far a b) (hb : b.toInt = M) (h0 : 0 ≤ M) : pa_in M a := by
  have h1 : ¬ a < -b := fun z => h (Or.inl z)
  have h2 : ¬ b < a := fun z => h (Or.inr z)
  have hM : M < 2 ^ 31 := by rw [← hb]; exact Int32.toInt_lt b
  rw [Int32.not_lt, Int32.le_iff_toInt_le] at h1 h2
  have e : (-b).toInt = -M := by rw [Int32.toInt_neg, hb, Int.bmod_eq_of_le (by omega) (by omega)]
  rw [e] at h1
  rw [hb] at h2
  exact ⟨h1, h2⟩
end PPrel
