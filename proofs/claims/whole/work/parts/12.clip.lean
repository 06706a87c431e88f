section PPclip
variable {hp col mo sc nc ns : Int32} {pg bf cl nm sn so sm si px py fo cx sp cy ch : Nat → Int32} {n : Nat} {F S : Nat → Nat}
/-! clip -/
abbrev TcX : Type := Int32 → Int32 → (Nat → Int32) → (Nat → Int32) → (Nat → Int32) → (Nat → Int32) → (Nat → Int32) → (Nat → Int32) → (Nat → Int32) → (Nat → Int32) → (Nat → Int32) → (Nat → Int32) → (Nat → Int32) → (Nat → Int32) → Prop
abbrev TcY : Type := Int32 → Int32 → (Nat → Int32) → (Nat → Int32) → (Nat → Int32) → (Nat → Int32) → (Nat → Int32) → (Nat → Int32) → (Nat → Int32) → (Nat → Int32) → (Nat → Int32) → (Nat → Int32) → (Nat → Int32) → (Nat → Int32) → (Nat → Int32) → Prop
theorem xc_48 {post : Int32 → SX → Prop} {J : TcX} {x1 x2 z : Int32} {i : Nat} (hi : i < 256) (hz : z = 0 ∨ z = 1) (h0 : z = 0 → J x2 (nI (i + 1)) pg bf (upd cl i z) nm sn so sm si px py fo cx) (h1 : ¬ z = 0 → J (x2 + 1) (nI (i + 1)) pg bf (upd cl i z) nm sn so sm si px py fo cx) : wX_clip_48 post J x1 x2 (nI i) z (nI i) hp col mo sc nc ns pg bf cl nm sn so sm si px py fo cx := by
  have hin : vp_in (nI i) 256 := vp_in_nI hi (by decide)
  have ec : (nI i).toNatClampNeg = i := nI_clamp (by omega)
  have ez : vp_nar .boolean z = z := by
    rcases hz with e | e <;> rw [e]
    · exact pe_b0
    · exact pe_b1
  unfold wX_clip_48
  refine ⟨hin, nm_r (pe_u (by omega) ez) ⟨hin, br_c (fun y => nm_r (nI_1 i) (h0 ?_)) (fun y => nm_e (nm_r (nI_1 i) (h1 ?_)))⟩⟩
  · rw [ec, pa_us] at y; exact y
  · rw [ec, pa_us] at y; exact y
theorem yc_57 {post : Int32 → SY → Prop} {J : TcY} {x1 x2 z : Int32} {i : Nat} (hi : i < 256) (hz : z = 0 ∨ z = 1) (h0 : z = 0 → J x2 (nI (i + 1)) nm (upd cl i z) sn so sm si px py sp cy pg bf ch) (h1 : ¬ z = 0 → J (x2 + 1) (nI (i + 1)) nm (upd cl i z) sn so sm si px py sp cy pg bf ch) : wY_clip_57 post J x1 x2 (nI i) z (nI i) col mo sc nc ns hp nm cl sn so sm si px py sp cy pg bf ch := by
  have hin : vp_in (nI i) 256 := vp_in_nI hi (by decide)
  have ec : (nI i).toNatClampNeg = i := nI_clamp (by omega)
  have ez : vp_nar .boolean z = z := by
    rcases hz with e | e <;> rw [e]
    · exact pe_b0
    · exact pe_b1
  unfold wY_clip_57
  refine ⟨hin, nm_r (pe_u (by omega) ez) ⟨hin, br_c (fun y => nm_r (nI_1 i) (h0 ?_)) (fun y => nm_e (nm_r (nI_1 i) (h1 ?_)))⟩⟩
  · rw [ec, pa_us] at y; exact y
  · rw [ec, pa_us] at y; exact y
def pl_c (a cl : Nat → Int32) (j : Nat) : Bool := decide (¬ pd_ct a cl j = 0)
theorem pl_0 {a : Nat → Int32} {i : Nat} (h : pd_ct a cl i = 0) : (pd_n (pl_c a cl) i, upd (pd_it 0 (pd_ct a cl) cl i) i 0) = (pd_n (pl_c a cl) (i + 1), pd_it 0 (pd_ct a cl) cl (i + 1)) := by
  rw [pd_nF (c := pl_c a cl) (fun y => (of_decide_eq_true y) h), pd_itS, Nat.zero_add, h]
theorem pl_1 {a : Nat → Int32} {i : Nat} (h : pd_ct a cl i = 1) : (pd_n (pl_c a cl) i + 1, upd (pd_it 0 (pd_ct a cl) cl i) i 1) = (pd_n (pl_c a cl) (i + 1), pd_it 0 (pd_ct a cl) cl (i + 1)) := by
  rw [pd_nT (c := pl_c a cl) (decide_eq_true (by rw [h]; exact pe_10)), pd_itS, Nat.zero_add, h]
theorem xc_loop {post : Int32 → SX → Prop} {a : Int32} (h : pb_R n fo sp cx cy F S) (hp' : post (pd_n (pl_c (pj_in px py n F a) cl) 256) (hp, col, mo, sc, nI n, ns, pg, bf, pd_it 0 (pd_ct (pj_in px py n F a) cl) cl 256, nm, sn, so, sm, si, px, py, fo, cx)) : ∃ m, wX_clip_13 post a hp col mo sc (nI n) ns m 0 0 pg bf cl nm sn so sm si px py fo cx := by
  refine loop_0 (σ := Int32 × (Nat → Int32)) (fun m i s => wX_clip_13 post a hp col mo sc (nI n) ns m s.1 (nI i) pg bf s.2 nm sn so sm si px py fo cx) (fun i s => s = (pd_n (pl_c (pj_in px py n F a) cl) i, pd_it 0 (pd_ct (pj_in px py n F a) cl) cl i)) 256 (0, cl) rfl ?_ ?_
  · intro m s hs
    subst hs
    exact br_t (nI_le (a := 256) (b := 256) (by decide) (by decide)) hp'
  · intro m i s hi hs ih
    subst hs
    have hin : vp_in (nI i) 256 := vp_in_nI hi (by decide)
    have ec : (nI i).toNatClampNeg = i := nI_clamp (by omega)
    have e1 : pd_it 0 (pd_ct (pj_in px py n F a) cl) cl i i = cl i := pd_itH i i (by omega)
    have K0 : pd_ct (pj_in px py n F a) cl i = 0 → wX_clip_47 post (wX_clip_13 post a hp col mo sc (nI n) ns m) a (pd_n (pl_c (pj_in px py n F a) cl) i) (nI i) (nI i) hp col mo sc (nI n) ns pg bf (pd_it 0 (pd_ct (pj_in px py n F a) cl) cl i) nm sn so sm si px py fo cx := by
      intro z
      unfold wX_clip_47
      exact xc_48 hi (Or.inl rfl) (fun _ => ih (pd_n (pl_c (pj_in px py n F a) cl) i, upd (pd_it 0 (pd_ct (pj_in px py n F a) cl) cl i) i 0) (pl_0 z)) (fun y => absurd rfl y)
    refine br_f (nI_ge (b := 256) hi (by decide)) ⟨hin, br_c (fun z => K0 ?_) (fun z => xw_inside h hi ?_)⟩
    · dsimp only at z; rw [ec, e1] at z; exact if_pos z
    · dsimp only at z; rw [ec, e1] at z
      show (pj_in px py n F a i = 0 → _) ∧ (¬ pj_in px py n F a i = 0 → _)
      have e2 : pd_ct (pj_in px py n F a) cl i = pj_in px py n F a i := if_neg z
      refine br_c (fun y => K0 (e2.trans y)) (fun y => ?_)
      have e3 : pj_in px py n F a i = 1 := (pc_in01 _ _).resolve_left y
      exact xc_48 hi (Or.inr rfl) (fun w => absurd w pe_10) (fun _ => ih (pd_n (pl_c (pj_in px py n F a) cl) i + 1, upd (pd_it 0 (pd_ct (pj_in px py n F a) cl) cl i) i 1) (pl_1 (e2.trans e3)))
theorem yc_loop {post : Int32 → SY → Prop} {a : Int32} (h : pb_R n fo sp cx cy F S) (hx : ∀ j, pa_in 2000 (px j)) (hy : ∀ j, pa_in 2000 (py j)) (hp' : post (pd_n (pl_c (pj_in px py n F a) cl) 256) (col, mo, sc, nI n, ns, hp, nm, pd_it 0 (pd_ct (pj_in px py n F a) cl) cl 256, sn, so, sm, si, px, py, sp, cy, pg, bf, ch)) : ∃ m, wY_clip_15 post a col mo sc (nI n) ns hp m 0 0 nm cl sn so sm si px py sp cy pg bf ch := by
  refine loop_0 (σ := Int32 × (Nat → Int32)) (fun m i s => wY_clip_15 post a col mo sc (nI n) ns hp m s.1 (nI i) nm s.2 sn so sm si px py sp cy pg bf ch) (fun i s => s = (pd_n (pl_c (pj_in px py n F a) cl) i, pd_it 0 (pd_ct (pj_in px py n F a) cl) cl i)) 256 (0, cl) rfl ?_ ?_
  · intro m s hs
    subst hs
    exact br_t (nI_le (a := 256) (b := 256) (by decide) (by decide)) hp'
  · intro m i s hi hs ih
    subst hs
    have hin : vp_in (nI i) 256 := vp_in_nI hi (by decide)
    have ec : (nI i).toNatClampNeg = i := nI_clamp (by omega)
    have e1 : pd_it 0 (pd_ct (pj_in px py n F a) cl) cl i i = cl i := pd_itH i i (by omega)
    have K0 : pd_ct (pj_in px py n F a) cl i = 0 → wY_clip_56 post (wY_clip_15 post a col mo sc (nI n) ns hp m) a (pd_n (pl_c (pj_in px py n F a) cl) i) (nI i) (nI i) col mo sc (nI n) ns hp nm (pd_it 0 (pd_ct (pj_in px py n F a) cl) cl i) sn so sm si px py sp cy pg bf ch := by
      intro z
      unfold wY_clip_56
      exact yc_57 hi (Or.inl rfl) (fun _ => ih (pd_n (pl_c (pj_in px py n F a) cl) i, upd (pd_it 0 (pd_ct (pj_in px py n F a) cl) cl i) i 0) (pl_0 z)) (fun y => absurd rfl y)
    refine br_f (nI_ge (b := 256) hi (by decide)) ⟨hin, br_c (fun z => K0 ?_) (fun z => ⟨ph_16, ph_16, ?_⟩)⟩
    · dsimp only at z; rw [ec, e1] at z; exact if_pos z
    · dsimp only at z; rw [ec, e1] at z
      rw [ph_r hi, ph_d hi]
      refine yw_inside h hx hy (by omega) (by omega) ?_
      show (pj_in px py n F a i = 0 → _) ∧ (¬ pj_in px py n F a i = 0 → _)
      have e2 : pd_ct (pj_in px py n F a) cl i = pj_in px py n F a i := if_neg z
      refine br_c (fun y => K0 (e2.trans y)) (fun y => ?_)
      have e3 : pj_in px py n F a i = 1 := (pc_in01 _ _).resolve_left y
      exact yc_57 hi (Or.inr rfl) (fun w => absurd w pe_10) (fun _ => ih (pd_n (pl_c (pj_in px py n F a) cl) i + 1, upd (pd_it 0 (pd_ct (pj_in px py n F a) cl) cl i) i 1) (pl_1 (e2.trans e3)))
theorem i_vc_clip {k : Nat} {u : SX} {v : SY} (I : i_Rel k u v) (hk : k + 4 ≤ 2048) (v1 : Int32) : wpX_clip (fun r u' => wpY_clip (fun r' v' => r' = r ∧ i_Rel (k + 4) u' v') v v1) u v1 := by
  obtain ⟨hp, col, mo, c, n, pg, bf, cl, nm, sn, so, sm, si, px, py, fo, cx, sp, cy, ch, F, S, rfl, rfl, h⟩ := I
  unfold wpX_clip
  refine xr_c (fun g => ?_) (fun g => xc_loop h.2.2.2.2.2 ?_)
  · show wpY_clip _ _ _
    unfold wpY_clip
    exact br_f (fun z => g (Or.inl z)) (br_f (fun z => g (Or.inr z)) ⟨rfl, pe_mk h⟩)
  · show wpY_clip _ _ _
    unfold wpY_clip
    rcases g with g | g
    · exact br_t g (yc_loop h.2.2.2.2.2 h.2.2.2.1 h.2.2.2.2.1 ⟨rfl, pe_mk h⟩)
    · exact br_f (by rw [g]; decide) (br_t g (yc_loop h.2.2.2.2.2 h.2.2.2.1 h.2.2.2.2.1 ⟨rfl, pe_mk h⟩))
end PPclip
