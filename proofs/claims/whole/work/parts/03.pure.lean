section PPpure
/-! what a segment counts, the winding, the number of crossings -/
def pc_cv (x1 y1 x2 y2 u v : Int32) : Int32 :=
  if y1 ≤ v ∧ v < y2 then (if (v - y1) * (x2 - x1) + (x1 - u) * (y2 - y1) ≤ 0 then 0 else 1)
  else if y2 ≤ v ∧ v < y1 then (if 0 ≤ (v - y1) * (x2 - x1) + (x1 - u) * (y2 - y1) then 0 else -1)
  else 0
theorem pc_cv3 (x1 y1 x2 y2 u v : Int32) : pc_cv x1 y1 x2 y2 u v = 0 ∨ pc_cv x1 y1 x2 y2 u v = 1 ∨ pc_cv x1 y1 x2 y2 u v = -1 := by
  unfold pc_cv
  split
  · split
    · exact Or.inl rfl
    · exact Or.inr (Or.inl rfl)
  · split
    · split
      · exact Or.inl rfl
      · exact Or.inr (Or.inr rfl)
    · exact Or.inl rfl
def pc_w (px py : Nat → Int32) (nx : Nat → Nat) (u v : Int32) : Nat → Int32
  | 0 => 0
  | k + 1 => pc_w px py nx u v k + pc_cv (px k) (py k) (px (nx k)) (py (nx k)) u v
def pc_c (px py : Nat → Int32) (nx : Nat → Nat) (u v : Int32) : Nat → Int32
  | 0 => 0
  | k + 1 => if pc_cv (px k) (py k) (px (nx k)) (py (nx k)) u v = 0 then pc_c px py nx u v k else pc_c px py nx u v k + 1
theorem pc_ab (px py : Nat → Int32) (nx : Nat → Nat) (u v : Int32) : ∀ k, ∃ a b : Nat, a + b ≤ k ∧ pc_w px py nx u v k = nI a - nI b ∧ pc_c px py nx u v k = nI (a + b) := by
  intro k
  induction k with
  | zero => exact ⟨0, 0, Nat.le_refl _, show (0 : Int32) = nI 0 - nI 0 by decide, show (0 : Int32) = nI (0 + 0) by decide⟩
  | succ k ih =>
    obtain ⟨a, b, hab, hw, hc⟩ := ih
    rcases pc_cv3 (px k) (py k) (px (nx k)) (py (nx k)) u v with e | e | e
    · refine ⟨a, b, by omega, ?_, ?_⟩
      · rw [pc_w, e, hw, Int32.add_zero]
      · rw [pc_c, if_pos e, hc]
    · refine ⟨a + 1, b, by omega, ?_, ?_⟩
      · rw [pc_w, e, hw, ← nI_1]; grind
      · rw [pc_c, e, if_neg (by decide), hc, nI_1]; congr 1; omega
    · refine ⟨a, b + 1, by omega, ?_, ?_⟩
      · rw [pc_w, e, hw, ← nI_1]; grind
      · rw [pc_c, e, if_neg (by decide), hc, nI_1]; congr 1
theorem pc_tab : ∀ a, a < 17 → ∀ b, b < 17 → (((nI a - nI b) &&& 1 = 0 ↔ ¬ nI (a + b) - nI (a + b) / 2 * 2 = 1)) := by decide +kernel
theorem pc_par {px py : Nat → Int32} {nx : Nat → Nat} {u v : Int32} {k : Nat} (hk : k ≤ 16) :
    (pc_w px py nx u v k &&& 1 = 0 ↔ ¬ pc_c px py nx u v k - pc_c px py nx u v k / 2 * 2 = 1) := by
  obtain ⟨a, b, hab, hw, hc⟩ := pc_ab px py nx u v k
  rw [hw, hc]
  exact pc_tab a (by omega) b (by omega)
/-- is a pixel inside: 1 or 0 -/
def pc_in (w rule : Int32) : Int32 := if rule = 0 then (if w = 0 then 0 else 1) else (if w &&& 1 = 0 then 0 else 1)
theorem pc_in01 (w rule : Int32) : pc_in w rule = 0 ∨ pc_in w rule = 1 := by
  unfold pc_in
  split <;> split
  · exact Or.inl rfl
  · exact Or.inr rfl
  · exact Or.inl rfl
  · exact Or.inr rfl

/-! near -/
def pc_ns (px py : Nat → Int32) (u v w : Int32) (k l : Nat) : Prop :=
  pa_nr (u.toInt - (px k).toInt) (v.toInt - (py k).toInt) ((px l).toInt - (px k).toInt) ((py l).toInt - (py k).toInt) (w.toInt * w.toInt)
theorem pc_nsE {px py : Nat → Int32} {u v w : Int32} {k l : Nat} (h : pc_ns px py u v w l l) : pc_ns px py u v w k l := by
  unfold pc_ns at *
  refine pa_nrE ?_
  unfold pa_nr at h
  have e1 : u.toInt - (px k).toInt - ((px l).toInt - (px k).toInt) = u.toInt - (px l).toInt := by omega
  have e2 : v.toInt - (py k).toInt - ((py l).toInt - (py k).toInt) = v.toInt - (py l).toInt := by omega
  rw [e1, e2]
  simp only [Int.sub_self, Int.mul_zero, Int.add_zero, Int.le_refl, if_true] at h
  exact h
/-- X's end of the segment that begins at k -/
def pc_se (n : Nat) (F : Nat → Nat) (cx : Nat → Int32) (k : Nat) : Nat :=
  if k + 1 < n ∧ F (k + 1) = F k then k + 1 else if cx (F k) = 0 then k else F k
theorem pc_selt {n : Nat} {F S : Nat → Nat} {cx : Nat → Int32} (h : pb_ok n F S) {k : Nat} (hk : k < n) : pc_se n F cx k < n := by
  unfold pc_se
  have := pb_le h k hk
  split
  · omega
  · split <;> omega
/-- is it drawn (Y) -/
def pc_dr (n : Nat) (F S : Nat → Nat) (cy : Nat → Int32) (k : Nat) : Prop := k < pb_nx n F k ∨ cy (S k) ≠ 0 ∨ pb_nx n F k = k
theorem pc_near {n : Nat} {fo sp cx cy : Nat → Int32} {F S : Nat → Nat} (h : pb_R n fo sp cx cy F S) (px py : Nat → Int32) (u v w : Int32) :
    (∃ k, k < n ∧ pc_ns px py u v w k (pc_se n F cx k)) ↔ (∃ k, k < n ∧ pc_dr n F S cy k ∧ pc_ns px py u v w k (pb_nx n F k)) := by
  obtain ⟨_, ok, _, _, hc⟩ := h
  constructor
  · rintro ⟨k, hk, hn⟩
    have l := pb_le ok k hk
    by_cases c : k + 1 < n ∧ F (k + 1) = F k
    · refine ⟨k, hk, ?_, ?_⟩
      · unfold pc_dr pb_nx; rw [if_pos c]; exact Or.inl (by omega)
      · unfold pc_se at hn; rw [if_pos c] at hn; unfold pb_nx; rw [if_pos c]; exact hn
    · unfold pc_se at hn; rw [if_neg c] at hn
      have en : pb_nx n F k = F k := if_neg c
      by_cases z : cx (F k) = 0
      · rw [if_pos z] at hn
        rcases pb_pred ok hk with ⟨a, _⟩ | ⟨a, b, d, e⟩
        · refine ⟨k, hk, ?_, ?_⟩
          · unfold pc_dr; rw [en]; exact Or.inr (Or.inr a)
          · rw [en, a]; exact hn
        · have cc : k - 1 + 1 < n ∧ F (k - 1 + 1) = F (k - 1) := by
            rw [show k - 1 + 1 = k by omega]; exact ⟨hk, b⟩
          have e2 : pb_nx n F (k - 1) = k := by
            unfold pb_nx; rw [if_pos cc]; omega
          refine ⟨k - 1, by omega, ?_, ?_⟩
          · unfold pc_dr; rw [e2]; exact Or.inl (by omega)
          · rw [e2]; exact pc_nsE hn
      · rw [if_neg z] at hn
        refine ⟨k, hk, ?_, ?_⟩
        · unfold pc_dr; rw [← hc k hk]; exact Or.inr (Or.inl z)
        · rw [en]; exact hn
  · rintro ⟨k, hk, hd, hn⟩
    refine ⟨k, hk, ?_⟩
    by_cases c : k + 1 < n ∧ F (k + 1) = F k
    · unfold pc_se; rw [if_pos c]; unfold pb_nx at hn; rw [if_pos c] at hn; exact hn
    · have en : pb_nx n F k = F k := if_neg c
      have l := pb_le ok k hk
      unfold pc_dr at hd
      rw [en] at hn hd
      unfold pc_se; rw [if_neg c]
      by_cases z : cx (F k) = 0
      · rw [if_pos z]
        rw [hc k hk] at z
        have ek : F k = k := by
          rcases hd with a | a | a
          · omega
          · exact absurd z a
          · exact a
        rw [ek] at hn; exact hn
      · rw [if_neg z]; exact hn
end PPpure
