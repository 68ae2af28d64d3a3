/-! the buffer as an arrangement -/
def isL (c : Nat) : Prop := 97 ≤ c ∧ c ≤ 102
theorem isL_d (c : Nat) : isL c ∨ ¬ isL c := by unfold isL; omega
/-- the signs that the character at i tells; 0 if it can't stand there -/
def ad (t : Nat → Nat) (i : Nat) : Nat := if 97 ≤ t i ∧ t i ≤ 102 then 1 else if (50 ≤ t i ∧ t i ≤ 57) ∧ (1 ≤ i ∧ 97 ≤ t (i - 1) ∧ t (i - 1) ≤ 102) then t i - 49 else 0
def lt (t : Nat → Nat) (i : Nat) : Nat := (if 97 ≤ t i ∧ t i ≤ 102 then t i else t (i - 1)) - 97
def rep (v : Nat) : Nat → Nat → (Nat → Nat) → (Nat → Nat)
  | 0, _, g => g
  | k + 1, s, g => rep v k (s + 1) (gset g s v)
def ps (t : Nat → Nat) : Nat → Nat → Nat → (Nat → Nat) → Nat × Nat × (Nat → Nat)
  | 0, i, s, g => (i, s, g)
  | d + 1, i, s, g => if ad t i = 0 ∨ 11 < s + ad t i then (i, s, g) else ps t d (i + 1) (s + ad t i) (rep (lt t i) (ad t i) s g)
def XI (L : Nat) (t : Nat → Nat) (a : Nat → Int32) : Prop := L ≤ 60 ∧ ∀ i, i < L → a i = nI (t i) ∧ t i ≤ 126
theorem XI.at {L : Nat} {t : Nat → Nat} {a : Nat → Int32} (h : XI L t a) : ∀ i, i < L → a i = nI (t i) := fun i hi => (h.2 i hi).1
theorem XI.le {L : Nat} {t : Nat → Nat} {a : Nat → Int32} (h : XI L t a) {i : Nat} (hi : i < L) : t i ≤ 126 := (h.2 i hi).2
theorem xat_J {L : Nat} {t : Nat → Nat} {a : Nat → Int32} (h : XI L t a) : ∀ i, i < L → F_X4_at (nI L) a (nI i) = some (nI (t i)) := by
  intro i hi
  have h1 := h.1
  unfold F_X4_at
  simp (disch := omega) only [↓qM, zq0, zq1, zq2, zq3, zq4, zq5, zq6, zq7, zq8, zq9, zq10, zq11, zq12, zq13, zq14, zq20, zq33, zq48, zq49, zq50, zq57, zq60, zq61, zq78, zq97, zq102, zq126, zq486, zq600, zq2916, zq4200, le_I, lt_I, eq_I, ne_M, lt_M, cl_I, vin_T, gd_tt, nz_T, nI_add, sub_I, m1_M, pk_mul, div_I, Option.bind_some, Option.map_some, if_pos, if_neg, if_true, if_false, Nat.reduceAdd, Nat.reduceMul, Nat.reduceSub, Nat.zero_add, Nat.add_zero, Ret_s, h.at]
theorem xat_M {L : Nat} {a : Nat → Int32} : F_X4_at (nI L) a nM = some (nI 0) := by
  unfold F_X4_at
  simp (disch := omega) only [↓qM, zq0, zq1, zq2, zq3, zq4, zq5, zq6, zq7, zq8, zq9, zq10, zq11, zq12, zq13, zq14, zq20, zq33, zq48, zq49, zq50, zq57, zq60, zq61, zq78, zq97, zq102, zq126, zq486, zq600, zq2916, zq4200, le_I, lt_I, eq_I, ne_M, lt_M, cl_I, vin_T, gd_tt, nz_T, nI_add, sub_I, m1_M, pk_mul, div_I, Option.bind_some, Option.map_some, if_pos, if_neg, if_true, if_false, Nat.reduceAdd, Nat.reduceMul, Nat.reduceSub, Nat.zero_add, Nat.add_zero, Ret_s, nM_neg]
theorem xlet_I {L i : Nat} {t : Nat → Nat} {a : Nat → Int32} (h : XI L t a) (hi : i < L) : F_X4_isLetter (nI L) a (nI i) = some (nI (b2n (97 ≤ t i ∧ t i ≤ 102))) := by
  have h1 := h.le hi
  unfold F_X4_isLetter
  by_cases e : 97 ≤ t i
  · by_cases e2 : t i ≤ 102
    · rw [b2n_t ⟨e, e2⟩]
      simp (disch := omega) only [↓qM, zq0, zq1, zq2, zq3, zq4, zq5, zq6, zq7, zq8, zq9, zq10, zq11, zq12, zq13, zq14, zq20, zq33, zq48, zq49, zq50, zq57, zq60, zq61, zq78, zq97, zq102, zq126, zq486, zq600, zq2916, zq4200, le_I, lt_I, eq_I, ne_M, lt_M, cl_I, vin_T, gd_tt, nz_T, nI_add, sub_I, m1_M, pk_mul, div_I, Option.bind_some, Option.map_some, if_pos, if_neg, if_true, if_false, Nat.reduceAdd, Nat.reduceMul, Nat.reduceSub, Nat.zero_add, Nat.add_zero, Ret_s, xat_J h]
    · rw [b2n_f (fun q => e2 q.2)]
      simp (disch := omega) only [↓qM, zq0, zq1, zq2, zq3, zq4, zq5, zq6, zq7, zq8, zq9, zq10, zq11, zq12, zq13, zq14, zq20, zq33, zq48, zq49, zq50, zq57, zq60, zq61, zq78, zq97, zq102, zq126, zq486, zq600, zq2916, zq4200, le_I, lt_I, eq_I, ne_M, lt_M, cl_I, vin_T, gd_tt, nz_T, nI_add, sub_I, m1_M, pk_mul, div_I, Option.bind_some, Option.map_some, if_pos, if_neg, if_true, if_false, Nat.reduceAdd, Nat.reduceMul, Nat.reduceSub, Nat.zero_add, Nat.add_zero, Ret_s, xat_J h]
  · rw [b2n_f (fun q => e q.1)]
    simp (disch := omega) only [↓qM, zq0, zq1, zq2, zq3, zq4, zq5, zq6, zq7, zq8, zq9, zq10, zq11, zq12, zq13, zq14, zq20, zq33, zq48, zq49, zq50, zq57, zq60, zq61, zq78, zq97, zq102, zq126, zq486, zq600, zq2916, zq4200, le_I, lt_I, eq_I, ne_M, lt_M, cl_I, vin_T, gd_tt, nz_T, nI_add, sub_I, m1_M, pk_mul, div_I, Option.bind_some, Option.map_some, if_pos, if_neg, if_true, if_false, Nat.reduceAdd, Nat.reduceMul, Nat.reduceSub, Nat.zero_add, Nat.add_zero, Ret_s, xat_J h]
theorem xlet_M {L : Nat} {a : Nat → Int32} : F_X4_isLetter (nI L) a nM = some (nI 0) := by
  unfold F_X4_isLetter
  simp (disch := omega) only [↓qM, zq0, zq1, zq2, zq3, zq4, zq5, zq6, zq7, zq8, zq9, zq10, zq11, zq12, zq13, zq14, zq20, zq33, zq48, zq49, zq50, zq57, zq60, zq61, zq78, zq97, zq102, zq126, zq486, zq600, zq2916, zq4200, le_I, lt_I, eq_I, ne_M, lt_M, cl_I, vin_T, gd_tt, nz_T, nI_add, sub_I, m1_M, pk_mul, div_I, Option.bind_some, Option.map_some, if_pos, if_neg, if_true, if_false, Nat.reduceAdd, Nat.reduceMul, Nat.reduceSub, Nat.zero_add, Nat.add_zero, Ret_s, xat_M]
theorem z1_M : nI 0 - nI 1 = nM := by decide
theorem adds_I {L i : Nat} {t : Nat → Nat} {a : Nat → Int32} (h : XI L t a) (hi : i < L) : F_X4_adds (nI L) a (nI i) = some (nI (ad t i)) := by
  have h1 := h.le hi
  have e1 := xlet_I h hi
  by_cases e : 97 ≤ t i ∧ t i ≤ 102
  · rw [b2n_t e] at e1
    rw [show ad t i = 1 from if_pos e]
    unfold F_X4_adds
    simp (disch := omega) only [↓qM, zq0, zq1, zq2, zq3, zq4, zq5, zq6, zq7, zq8, zq9, zq10, zq11, zq12, zq13, zq14, zq20, zq33, zq48, zq49, zq50, zq57, zq60, zq61, zq78, zq97, zq102, zq126, zq486, zq600, zq2916, zq4200, le_I, lt_I, eq_I, ne_M, lt_M, cl_I, vin_T, gd_tt, nz_T, nI_add, sub_I, m1_M, pk_mul, div_I, Option.bind_some, Option.map_some, if_pos, if_neg, if_true, if_false, Nat.reduceAdd, Nat.reduceMul, Nat.reduceSub, Nat.zero_add, Nat.add_zero, Ret_s, e1]
  · rw [b2n_f e] at e1
    by_cases e2 : 50 ≤ t i
    · by_cases e3 : t i ≤ 57
      · by_cases e4 : i = 0
        · subst e4
          rw [show ad t 0 = 0 by unfold ad; rw [if_neg e, if_neg (fun q => absurd q.2.1 (by omega))]]
          unfold F_X4_adds F_X4_adds_J35
          simp (disch := omega) only [↓qM, zq0, zq1, zq2, zq3, zq4, zq5, zq6, zq7, zq8, zq9, zq10, zq11, zq12, zq13, zq14, zq20, zq33, zq48, zq49, zq50, zq57, zq60, zq61, zq78, zq97, zq102, zq126, zq486, zq600, zq2916, zq4200, le_I, lt_I, eq_I, ne_M, lt_M, cl_I, vin_T, gd_tt, nz_T, nI_add, sub_I, m1_M, pk_mul, div_I, Option.bind_some, Option.map_some, if_pos, if_neg, if_true, if_false, Nat.reduceAdd, Nat.reduceMul, Nat.reduceSub, Nat.zero_add, Nat.add_zero, Ret_s, e1, xat_J h, z1_M, xlet_M]
        · have e5 := xlet_I h (show i - 1 < L by omega)
          by_cases e6 : 97 ≤ t (i - 1) ∧ t (i - 1) ≤ 102
          · rw [b2n_t e6] at e5
            rw [show ad t i = t i - 49 by unfold ad; rw [if_neg e, if_pos ⟨⟨e2, e3⟩, by omega, e6⟩]]
            unfold F_X4_adds F_X4_adds_J35
            simp (disch := omega) only [↓qM, zq0, zq1, zq2, zq3, zq4, zq5, zq6, zq7, zq8, zq9, zq10, zq11, zq12, zq13, zq14, zq20, zq33, zq48, zq49, zq50, zq57, zq60, zq61, zq78, zq97, zq102, zq126, zq486, zq600, zq2916, zq4200, le_I, lt_I, eq_I, ne_M, lt_M, cl_I, vin_T, gd_tt, nz_T, nI_add, sub_I, m1_M, pk_mul, div_I, Option.bind_some, Option.map_some, if_pos, if_neg, if_true, if_false, Nat.reduceAdd, Nat.reduceMul, Nat.reduceSub, Nat.zero_add, Nat.add_zero, Ret_s, e1, xat_J h, e5]
          · rw [b2n_f e6] at e5
            rw [show ad t i = 0 by unfold ad; rw [if_neg e, if_neg (fun q => e6 q.2.2)]]
            unfold F_X4_adds F_X4_adds_J35
            simp (disch := omega) only [↓qM, zq0, zq1, zq2, zq3, zq4, zq5, zq6, zq7, zq8, zq9, zq10, zq11, zq12, zq13, zq14, zq20, zq33, zq48, zq49, zq50, zq57, zq60, zq61, zq78, zq97, zq102, zq126, zq486, zq600, zq2916, zq4200, le_I, lt_I, eq_I, ne_M, lt_M, cl_I, vin_T, gd_tt, nz_T, nI_add, sub_I, m1_M, pk_mul, div_I, Option.bind_some, Option.map_some, if_pos, if_neg, if_true, if_false, Nat.reduceAdd, Nat.reduceMul, Nat.reduceSub, Nat.zero_add, Nat.add_zero, Ret_s, e1, xat_J h, e5]
      · rw [show ad t i = 0 by unfold ad; rw [if_neg e, if_neg (fun q => e3 q.1.2)]]
        unfold F_X4_adds F_X4_adds_J35
        simp (disch := omega) only [↓qM, zq0, zq1, zq2, zq3, zq4, zq5, zq6, zq7, zq8, zq9, zq10, zq11, zq12, zq13, zq14, zq20, zq33, zq48, zq49, zq50, zq57, zq60, zq61, zq78, zq97, zq102, zq126, zq486, zq600, zq2916, zq4200, le_I, lt_I, eq_I, ne_M, lt_M, cl_I, vin_T, gd_tt, nz_T, nI_add, sub_I, m1_M, pk_mul, div_I, Option.bind_some, Option.map_some, if_pos, if_neg, if_true, if_false, Nat.reduceAdd, Nat.reduceMul, Nat.reduceSub, Nat.zero_add, Nat.add_zero, Ret_s, e1, xat_J h]
    · rw [show ad t i = 0 by unfold ad; rw [if_neg e, if_neg (fun q => e2 q.1.1)]]
      unfold F_X4_adds F_X4_adds_J35
      simp (disch := omega) only [↓qM, zq0, zq1, zq2, zq3, zq4, zq5, zq6, zq7, zq8, zq9, zq10, zq11, zq12, zq13, zq14, zq20, zq33, zq48, zq49, zq50, zq57, zq60, zq61, zq78, zq97, zq102, zq126, zq486, zq600, zq2916, zq4200, le_I, lt_I, eq_I, ne_M, lt_M, cl_I, vin_T, gd_tt, nz_T, nI_add, sub_I, m1_M, pk_mul, div_I, Option.bind_some, Option.map_some, if_pos, if_neg, if_true, if_false, Nat.reduceAdd, Nat.reduceMul, Nat.reduceSub, Nat.zero_add, Nat.add_zero, Ret_s, e1, xat_J h]
theorem ad_le {t : Nat → Nat} {i : Nat} : ad t i ≤ 8 := by
  unfold ad
  split
  · omega
  · split <;> omega
theorem fbL_I {L : Nat} {t : Nat → Nat} {a : Nat → Int32} (h : XI L t a) : ∀ (d i s fu : Nat) (g : Nat → Nat), i + d = L → d < fu → s ≤ 11 → F_X4_firstBad_L4 (nI L) a fu (nI s) (nI i) = some (nI (ps t d i s g).1) := by
  have h60 := h.1
  intro d
  induction d with
  | zero =>
    intro i s fu g h1 h2 hs
    obtain ⟨fu, rfl, hf⟩ := fu1 h2
    rw [F_X4_firstBad_L4]
    simp (disch := omega) only [↓qM, zq0, zq1, zq2, zq3, zq4, zq5, zq6, zq7, zq8, zq9, zq10, zq11, zq12, zq13, zq14, zq20, zq33, zq48, zq49, zq50, zq57, zq60, zq61, zq78, zq97, zq102, zq126, zq486, zq600, zq2916, zq4200, le_I, lt_I, eq_I, ne_M, lt_M, cl_I, vin_T, gd_tt, nz_T, nI_add, sub_I, m1_M, pk_mul, div_I, Option.bind_some, Option.map_some, if_pos, if_neg, if_true, if_false, Nat.reduceAdd, Nat.reduceMul, Nat.reduceSub, Nat.zero_add, Nat.add_zero, Ret_s, ps]
    rw [show L = i by omega]
  | succ d ih =>
    intro i s fu g h1 h2 hs
    obtain ⟨fu, rfl, hf⟩ := fu1 h2
    have e1 := adds_I h (show i < L by omega)
    have h3 := ad_le (t := t) (i := i)
    rw [F_X4_firstBad_L4, ps]
    by_cases e : ad t i = 0 ∨ 11 < s + ad t i
    · rw [if_pos e]
      by_cases e2 : ad t i = 0
      · simp (disch := omega) only [↓qM, zq0, zq1, zq2, zq3, zq4, zq5, zq6, zq7, zq8, zq9, zq10, zq11, zq12, zq13, zq14, zq20, zq33, zq48, zq49, zq50, zq57, zq60, zq61, zq78, zq97, zq102, zq126, zq486, zq600, zq2916, zq4200, le_I, lt_I, eq_I, ne_M, lt_M, cl_I, vin_T, gd_tt, nz_T, nI_add, sub_I, m1_M, pk_mul, div_I, Option.bind_some, Option.map_some, if_pos, if_neg, if_true, if_false, Nat.reduceAdd, Nat.reduceMul, Nat.reduceSub, Nat.zero_add, Nat.add_zero, Ret_s, e1]
      · simp (disch := omega) only [↓qM, zq0, zq1, zq2, zq3, zq4, zq5, zq6, zq7, zq8, zq9, zq10, zq11, zq12, zq13, zq14, zq20, zq33, zq48, zq49, zq50, zq57, zq60, zq61, zq78, zq97, zq102, zq126, zq486, zq600, zq2916, zq4200, le_I, lt_I, eq_I, ne_M, lt_M, cl_I, vin_T, gd_tt, nz_T, nI_add, sub_I, m1_M, pk_mul, div_I, Option.bind_some, Option.map_some, if_pos, if_neg, if_true, if_false, Nat.reduceAdd, Nat.reduceMul, Nat.reduceSub, Nat.zero_add, Nat.add_zero, Ret_s, e1]
    · rw [if_neg e]
      have k := ih (i + 1) (s + ad t i) fu (rep (lt t i) (ad t i) s g) (by omega) (by omega) (by omega)
      simp (disch := omega) only [↓qM, zq0, zq1, zq2, zq3, zq4, zq5, zq6, zq7, zq8, zq9, zq10, zq11, zq12, zq13, zq14, zq20, zq33, zq48, zq49, zq50, zq57, zq60, zq61, zq78, zq97, zq102, zq126, zq486, zq600, zq2916, zq4200, le_I, lt_I, eq_I, ne_M, lt_M, cl_I, vin_T, gd_tt, nz_T, nI_add, sub_I, m1_M, pk_mul, div_I, Option.bind_some, Option.map_some, if_pos, if_neg, if_true, if_false, Nat.reduceAdd, Nat.reduceMul, Nat.reduceSub, Nat.zero_add, Nat.add_zero, Ret_s, e1, k]
theorem fb_I {L : Nat} {t : Nat → Nat} {a : Nat → Int32} (h : XI L t a) (g : Nat → Nat) : F_X4_firstBad (nI L) a = some (nI (ps t L 0 0 g).1) := by
  have h60 := h.1
  unfold F_X4_firstBad
  exact fbL_I h L 0 0 FU g (by omega) (FU_lt (by omega)) (by omega)
theorem ps_ge {t : Nat → Nat} : ∀ (d i s : Nat) (g : Nat → Nat), i ≤ (ps t d i s g).1 ∧ (ps t d i s g).1 ≤ i + d := by
  intro d
  induction d with
  | zero => intro i s g; exact ⟨Nat.le_refl _, Nat.le_refl _⟩
  | succ d ih =>
    intro i s g
    rw [ps]
    by_cases e : ad t i = 0 ∨ 11 < s + ad t i
    · rw [if_pos e]; exact ⟨Nat.le_refl _, by show i ≤ i + (d + 1); omega⟩
    · rw [if_neg e]
      obtain ⟨h1, h2⟩ := ih (i + 1) (s + ad t i) (rep (lt t i) (ad t i) s g)
      omega
theorem rep_lo {v : Nat} : ∀ (k s : Nat) (g : Nat → Nat) (i : Nat), i < s → rep v k s g i = g i := by
  intro k
  induction k with
  | zero => intro s g i h; rfl
  | succ k ih => intro s g i h; rw [rep, ih _ _ _ (by omega), gset_n _ _ (by omega)]
theorem rep_in {v : Nat} : ∀ (k s : Nat) (g : Nat → Nat) (i : Nat), s ≤ i → i < s + k → rep v k s g i = v := by
  intro k
  induction k with
  | zero => intro s g i h h2; omega
  | succ k ih =>
    intro s g i h h2
    rw [rep]
    by_cases e : i = s
    · subst e; rw [rep_lo _ _ _ _ (by omega), gset_s]
    · exact ih _ _ _ (by omega) (by omega)
theorem lt_6 {t : Nat → Nat} {i : Nat} (h : ad t i ≠ 0) : lt t i < 6 := by
  unfold ad at h
  unfold lt
  by_cases e : 97 ≤ t i ∧ t i ≤ 102
  · rw [if_pos e]; omega
  · rw [if_neg e] at h ⊢
    by_cases e2 : (50 ≤ t i ∧ t i ≤ 57) ∧ (1 ≤ i ∧ 97 ≤ t (i - 1) ∧ t (i - 1) ≤ 102)
    · omega
    · rw [if_neg e2] at h; omega
theorem ps_RG {t : Nat → Nat} : ∀ (d i s : Nat) (g : Nat → Nat), s ≤ 11 → RG s g → (ps t d i s g).2.1 ≤ 11 ∧ s ≤ (ps t d i s g).2.1 ∧ RG (ps t d i s g).2.1 (ps t d i s g).2.2 ∧ (i < (ps t d i s g).1 → s < (ps t d i s g).2.1) := by
  intro d
  induction d with
  | zero => intro i s g hs hg; exact ⟨hs, Nat.le_refl _, hg, fun h => absurd h (Nat.lt_irrefl _)⟩
  | succ d ih =>
    intro i s g hs hg
    rw [ps]
    by_cases e : ad t i = 0 ∨ 11 < s + ad t i
    · rw [if_pos e]; exact ⟨hs, Nat.le_refl _, hg, fun h => absurd h (Nat.lt_irrefl _)⟩
    · rw [if_neg e]
      have h6 := lt_6 (t := t) (i := i) (by omega)
      obtain ⟨h1, h2, h3, h4⟩ := ih (i + 1) (s + ad t i) (rep (lt t i) (ad t i) s g) (by omega) (fun j hj => by
        by_cases e2 : j < s
        · rw [rep_lo _ _ _ _ e2]; exact hg j e2
        · rw [rep_in _ _ _ _ (by omega) hj]; exact h6)
      exact ⟨h1, by omega, h3, fun _ => by omega⟩
-- the class writes the row
theorem wrI_I {L i : Nat} {cs : Nat → Int32} {t : Nat → Nat} {x v : Nat} {K : Int32 → (Nat → Int32) → Int32 → Option (Int32 × (Nat → Int32))} (hx : x < 200) (hx2 : 97 ≤ x) (hv : v = x - 97) {m : Nat} (hm : m ≤ 8) : ∀ (k j fu s : Nat) (g : Nat → Nat) (a : Nat → Int32), j + k = m → k < fu → s + k ≤ 11 → RA s g a → ∃ a', F_X4_writeTo_L48 K (nI L) cs fu (nI s) a (nI i) (nI x) (nI m) (nI j) = K (nI (s + k)) a' (nI (i + 1)) ∧ RA (s + k) (rep v k s g) a' := by
  intro k
  induction k with
  | zero =>
    intro j fu s g a h1 h2 hs ha
    obtain ⟨fu, rfl, hf⟩ := fu1 h2
    refine ⟨a, ?_, ha⟩
    rw [F_X4_writeTo_L48]
    simp (disch := omega) only [↓qM, zq0, zq1, zq2, zq3, zq4, zq5, zq6, zq7, zq8, zq9, zq10, zq11, zq12, zq13, zq14, zq20, zq33, zq48, zq49, zq50, zq57, zq60, zq61, zq78, zq97, zq102, zq126, zq486, zq600, zq2916, zq4200, le_I, lt_I, eq_I, ne_M, lt_M, cl_I, vin_T, gd_tt, nz_T, nI_add, sub_I, m1_M, pk_mul, div_I, Option.bind_some, Option.map_some, if_pos, if_neg, if_true, if_false, Nat.reduceAdd, Nat.reduceMul, Nat.reduceSub, Nat.zero_add, Nat.add_zero, Ret_s]
  | succ k ih =>
    intro j fu s g a h1 h2 hs ha
    obtain ⟨fu, rfl, hf⟩ := fu1 h2
    have h3 : RA (s + 1) (gset g s v) (upd a s (nI v)) := by
      intro q hq
      by_cases e : q = s
      · subst e; rw [upd_s, gset_s]
      · rw [upd_n _ _ e, gset_n _ _ e]; exact ha q (by omega)
    obtain ⟨a', e1, h4⟩ := ih (j + 1) fu (s + 1) _ _ (by omega) (by omega) (by omega) h3
    have e2 := add_I (n := s) (a := a) (x := nI v) (by omega)
    rw [show s + 1 + k = s + (k + 1) by omega] at e1 h4
    refine ⟨a', ?_, h4⟩
    rw [F_X4_writeTo_L48]
    simp (disch := omega) only [↓qM, zq0, zq1, zq2, zq3, zq4, zq5, zq6, zq7, zq8, zq9, zq10, zq11, zq12, zq13, zq14, zq20, zq33, zq48, zq49, zq50, zq57, zq60, zq61, zq78, zq97, zq102, zq126, zq486, zq600, zq2916, zq4200, le_I, lt_I, eq_I, ne_M, lt_M, cl_I, vin_T, gd_tt, nz_T, nI_add, sub_I, m1_M, pk_mul, div_I, Option.bind_some, Option.map_some, if_pos, if_neg, if_true, if_false, Nat.reduceAdd, Nat.reduceMul, Nat.reduceSub, Nat.zero_add, Nat.add_zero, Ret_s]
    rw [← hv, e2]
    simp (disch := omega) only [↓qM, zq0, zq1, zq2, zq3, zq4, zq5, zq6, zq7, zq8, zq9, zq10, zq11, zq12, zq13, zq14, zq20, zq33, zq48, zq49, zq50, zq57, zq60, zq61, zq78, zq97, zq102, zq126, zq486, zq600, zq2916, zq4200, le_I, lt_I, eq_I, ne_M, lt_M, cl_I, vin_T, gd_tt, nz_T, nI_add, sub_I, m1_M, pk_mul, div_I, Option.bind_some, Option.map_some, if_pos, if_neg, if_true, if_false, Nat.reduceAdd, Nat.reduceMul, Nat.reduceSub, Nat.zero_add, Nat.add_zero, Ret_s, e1]
theorem wr_lt {t : Nat → Nat} {i L : Nat} {a : Nat → Int32} (h : XI L t a) (hi : i < L) (h0 : ad t i ≠ 0) : ∃ x : Nat, 97 ≤ x ∧ x < 200 ∧ lt t i = x - 97 ∧ ((97 ≤ t i ∧ t i ≤ 102 → x = t i) ∧ (¬ (97 ≤ t i ∧ t i ≤ 102) → 1 ≤ i ∧ x = t (i - 1))) := by
  unfold ad at h0
  unfold lt
  by_cases e : 97 ≤ t i ∧ t i ≤ 102
  · rw [if_pos e]; exact ⟨t i, by omega, by omega, rfl, fun _ => rfl, fun q => absurd e q⟩
  · rw [if_neg e] at h0 ⊢
    by_cases e2 : (50 ≤ t i ∧ t i ≤ 57) ∧ (1 ≤ i ∧ 97 ≤ t (i - 1) ∧ t (i - 1) ≤ 102)
    · exact ⟨t (i - 1), by omega, by omega, rfl, fun q => absurd q e, fun _ => ⟨by omega, rfl⟩⟩
    · rw [if_neg e2] at h0; omega
theorem wrO_I {L : Nat} {t : Nat → Nat} {cs : Nat → Int32} (h : XI L t cs) : ∀ (d i s fu : Nat) (g : Nat → Nat) (a : Nat → Int32), i + d = L → d < fu → s ≤ 11 → (ps t d i s g).1 = L → RA s g a → ∃ a', F_X4_writeTo_L6 (nI L) cs fu (nI s) a (nI i) = some (nI (ps t d i s g).2.1, a') ∧ RA (ps t d i s g).2.1 (ps t d i s g).2.2 a' := by
  have h60 := h.1
  intro d
  induction d with
  | zero =>
    intro i s fu g a h1 h2 hs hp ha
    obtain ⟨fu, rfl, hf⟩ := fu1 h2
    refine ⟨a, ?_, ha⟩
    rw [F_X4_writeTo_L6]
    simp (disch := omega) only [↓qM, zq0, zq1, zq2, zq3, zq4, zq5, zq6, zq7, zq8, zq9, zq10, zq11, zq12, zq13, zq14, zq20, zq33, zq48, zq49, zq50, zq57, zq60, zq61, zq78, zq97, zq102, zq126, zq486, zq600, zq2916, zq4200, le_I, lt_I, eq_I, ne_M, lt_M, cl_I, vin_T, gd_tt, nz_T, nI_add, sub_I, m1_M, pk_mul, div_I, Option.bind_some, Option.map_some, if_pos, if_neg, if_true, if_false, Nat.reduceAdd, Nat.reduceMul, Nat.reduceSub, Nat.zero_add, Nat.add_zero, Ret_s, ps]
  | succ d ih =>
    intro i s fu g a h1 h2 hs hp ha
    obtain ⟨fu, rfl, hf⟩ := fu1 h2
    rw [ps] at hp ⊢
    by_cases e : ad t i = 0 ∨ 11 < s + ad t i
    · rw [if_pos e] at hp
      have : i = L := hp
      omega
    · rw [if_neg e] at hp ⊢
      obtain ⟨x, x1, x2, x3, x4, x5⟩ := wr_lt h (show i < L by omega) (by omega)
      have had := ad_le (t := t) (i := i)
      obtain ⟨a1, e1, h3⟩ := wrI_I (L := L) (i := i) (cs := cs) (t := t) (x := x) (v := lt t i) (K := F_X4_writeTo_L6 (nI L) cs fu) x2 x1 x3 had (ad t i) 0 FU s g a (by omega) (FU_lt (by omega)) (by omega) ha
      obtain ⟨a2, e2, h4⟩ := ih (i + 1) (s + ad t i) fu _ a1 (by omega) (by omega) (by omega) hp h3
      have e3 := adds_I h (show i < L by omega)
      have e4 := xlet_I h (show i < L by omega)
      refine ⟨a2, ?_, h4⟩
      rw [F_X4_writeTo_L6]
      unfold F_X4_writeTo_J37
      by_cases e5 : 97 ≤ t i ∧ t i ≤ 102
      · have e6 := x4 e5
        rw [b2n_t e5] at e4
        simp (disch := omega) only [↓qM, zq0, zq1, zq2, zq3, zq4, zq5, zq6, zq7, zq8, zq9, zq10, zq11, zq12, zq13, zq14, zq20, zq33, zq48, zq49, zq50, zq57, zq60, zq61, zq78, zq97, zq102, zq126, zq486, zq600, zq2916, zq4200, le_I, lt_I, eq_I, ne_M, lt_M, cl_I, vin_T, gd_tt, nz_T, nI_add, sub_I, m1_M, pk_mul, div_I, Option.bind_some, Option.map_some, if_pos, if_neg, if_true, if_false, Nat.reduceAdd, Nat.reduceMul, Nat.reduceSub, Nat.zero_add, Nat.add_zero, Ret_s, e4, e3, xat_J h]
        rw [← e6, e1]
        exact e2
      · obtain ⟨e6, e7⟩ := x5 e5
        rw [b2n_f e5] at e4
        simp (disch := omega) only [↓qM, zq0, zq1, zq2, zq3, zq4, zq5, zq6, zq7, zq8, zq9, zq10, zq11, zq12, zq13, zq14, zq20, zq33, zq48, zq49, zq50, zq57, zq60, zq61, zq78, zq97, zq102, zq126, zq486, zq600, zq2916, zq4200, le_I, lt_I, eq_I, ne_M, lt_M, cl_I, vin_T, gd_tt, nz_T, nI_add, sub_I, m1_M, pk_mul, div_I, Option.bind_some, Option.map_some, if_pos, if_neg, if_true, if_false, Nat.reduceAdd, Nat.reduceMul, Nat.reduceSub, Nat.zero_add, Nat.add_zero, Ret_s, e4, e3, xat_J h]
        rw [← e7, e1]
        exact e2
theorem wr_I {L : Nat} {t : Nat → Nat} {cs a : Nat → Int32} {x : Int32} (h : XI L t cs) (g : Nat → Nat) (hp : (ps t L 0 0 g).1 = L) : ∃ a', F_X4_writeTo (nI L) cs x a = some (nI (ps t L 0 0 g).2.1, a') ∧ RA (ps t L 0 0 g).2.1 (ps t L 0 0 g).2.2 a' := by
  have h60 := h.1
  obtain ⟨a', e1, h1⟩ := wrO_I h L 0 0 FU g a (by omega) (FU_lt (by omega)) (by omega) hp (fun i hi => absurd hi (by omega))
  have e0 : F_X1_clear x = some (nI 0) := clr_T x
  refine ⟨a', ?_, h1⟩
  unfold F_X4_writeTo
  simp (disch := omega) only [↓qM, zq0, zq1, zq2, zq3, zq4, zq5, zq6, zq7, zq8, zq9, zq10, zq11, zq12, zq13, zq14, zq20, zq33, zq48, zq49, zq50, zq57, zq60, zq61, zq78, zq97, zq102, zq126, zq486, zq600, zq2916, zq4200, le_I, lt_I, eq_I, ne_M, lt_M, cl_I, vin_T, gd_tt, nz_T, nI_add, sub_I, m1_M, pk_mul, div_I, Option.bind_some, Option.map_some, if_pos, if_neg, if_true, if_false, Nat.reduceAdd, Nat.reduceMul, Nat.reduceSub, Nat.zero_add, Nat.add_zero, Ret_s, e0]
  exact e1
-- the reference reads it
theorem i97 {c : Nat} (hc : c < 97) : nI c - nI 97 < nI 0 := by
  have : ∀ c, c < 97 → nI c - nI 97 < nI 0 := by decide +kernel
  exact this c hc
theorem isLet_I {c : Nat} (hc : c ≤ 126) : F_X6_isSign (nI c - nI 97) = some (nI (b2n (97 ≤ c ∧ c ≤ 102))) := by
  by_cases e : c < 97
  · rw [isSignN (i97 e), b2n_f (by omega)]
  · rw [sub_I (by omega)]
    by_cases e2 : c ≤ 102
    · rw [isSign1 (by omega), b2n_t (by omega)]
    · rw [isSign0 (by omega) (by omega), b2n_f (by omega)]
theorem tkL_I {c v : Nat} {op : Int32} (hc : 50 ≤ c) (hc2 : c ≤ 57) : ∀ (k j fu s : Nat) (g : Nat → Nat) (a : Nat → Int32), j + k = c - 48 → k < fu → s + k ≤ 11 → 1 ≤ s → g (s - 1) = v → RA s g a → ∃ a', F_X6_takes_L91 (nI c) fu (nI s) op a (nI 1) (nI j) = some (nI 1, nI (s + k), nI 0, a') ∧ RA (s + k) (rep v k s g) a' := by
  intro k
  induction k with
  | zero =>
    intro j fu s g a h1 h2 hs h0 hv ha
    obtain ⟨fu, rfl, hf⟩ := fu1 h2
    refine ⟨a, ?_, ha⟩
    rw [F_X6_takes_L91]
    unfold F_X6_takes_J139
    simp (disch := omega) only [↓qM, zq0, zq1, zq2, zq3, zq4, zq5, zq6, zq7, zq8, zq9, zq10, zq11, zq12, zq13, zq14, zq20, zq33, zq48, zq49, zq50, zq57, zq60, zq61, zq78, zq97, zq102, zq126, zq486, zq600, zq2916, zq4200, le_I, lt_I, eq_I, ne_M, lt_M, cl_I, vin_T, gd_tt, nz_T, nI_add, sub_I, m1_M, pk_mul, div_I, Option.bind_some, Option.map_some, if_pos, if_neg, if_true, if_false, Nat.reduceAdd, Nat.reduceMul, Nat.reduceSub, Nat.zero_add, Nat.add_zero, Ret_s, bz1]
  | succ k ih =>
    intro j fu s g a h1 h2 hs h0 hv ha
    obtain ⟨fu, rfl, hf⟩ := fu1 h2
    have h3 : RA (s + 1) (gset g s v) (upd a s (nI v)) := by
      intro q hq
      by_cases e : q = s
      · subst e; rw [upd_s, gset_s]
      · rw [upd_n _ _ e, gset_n _ _ e]; exact ha q (by omega)
    obtain ⟨a', e1, h4⟩ := ih (j + 1) fu (s + 1) _ _ (by omega) (by omega) (by omega) (by omega) (by rw [Nat.add_sub_cancel, gset_s]) h3
    have e2 := ha (s - 1) (by omega)
    rw [hv] at e2
    rw [show s + 1 + k = s + (k + 1) by omega] at e1 h4
    refine ⟨a', ?_, h4⟩
    rw [F_X6_takes_L91]
    simp (disch := omega) only [↓qM, zq0, zq1, zq2, zq3, zq4, zq5, zq6, zq7, zq8, zq9, zq10, zq11, zq12, zq13, zq14, zq20, zq33, zq48, zq49, zq50, zq57, zq60, zq61, zq78, zq97, zq102, zq126, zq486, zq600, zq2916, zq4200, le_I, lt_I, eq_I, ne_M, lt_M, cl_I, vin_T, gd_tt, nz_T, nI_add, sub_I, m1_M, pk_mul, div_I, Option.bind_some, Option.map_some, if_pos, if_neg, if_true, if_false, Nat.reduceAdd, Nat.reduceMul, Nat.reduceSub, Nat.zero_add, Nat.add_zero, Ret_s, e2, e1]
/-- one character -/
theorem tk_I {L i s : Nat} {t g : Nat → Nat} {cs a : Nat → Int32} {op : Int32} (h : XI L t cs) (hi : i < L) (hs : s ≤ 11) (ha : RA s g a) (hop : op = nI (b2n (1 ≤ i ∧ 97 ≤ t (i - 1) ∧ t (i - 1) ≤ 102))) (hg : 1 ≤ i ∧ 97 ≤ t (i - 1) ∧ t (i - 1) ≤ 102 → 1 ≤ s ∧ g (s - 1) = t (i - 1) - 97) : ((ad t i = 0 ∨ 11 < s + ad t i) → ∃ op' , F_X6_takes (nI s) op a (nI (t i)) = some (nI 0, nI s, op', a)) ∧ (¬ (ad t i = 0 ∨ 11 < s + ad t i) → ∃ a', F_X6_takes (nI s) op a (nI (t i)) = some (nI 1, nI (s + ad t i), nI (b2n (97 ≤ t i ∧ t i ≤ 102)), a') ∧ RA (s + ad t i) (rep (lt t i) (ad t i) s g) a') := by
  have h1 := h.le hi
  have e1 := isLet_I h1
  have stop : ∀ fu, F_X6_takes_L91 (nI (t i)) (fu + 1) (nI s) op a (nI 0) (nI 1) = some (nI 0, nI s, nI 0, a) := by
    intro fu
    rw [F_X6_takes_L91]
    unfold F_X6_takes_J139
    simp (disch := omega) only [↓qM, zq0, zq1, zq2, zq3, zq4, zq5, zq6, zq7, zq8, zq9, zq10, zq11, zq12, zq13, zq14, zq20, zq33, zq48, zq49, zq50, zq57, zq60, zq61, zq78, zq97, zq102, zq126, zq486, zq600, zq2916, zq4200, le_I, lt_I, eq_I, ne_M, lt_M, cl_I, vin_T, gd_tt, nz_T, nI_add, sub_I, m1_M, pk_mul, div_I, Option.bind_some, Option.map_some, if_pos, if_neg, if_true, if_false, Nat.reduceAdd, Nat.reduceMul, Nat.reduceSub, Nat.zero_add, Nat.add_zero, Ret_s, bz0]
  obtain ⟨fu, hfu, -⟩ := fu1 (d := 0) (fu := FU) (FU_lt (by omega))
  have stop2 : F_X6_takes_L91 (nI (t i)) FU (nI s) op a (nI 0) (nI 1) = some (nI 0, nI s, nI 0, a) := by rw [hfu]; exact stop fu
  subst hop
  by_cases e : 97 ≤ t i ∧ t i ≤ 102
  · have e2 : ad t i = 1 := if_pos e
    rw [b2n_t e] at e1 ⊢
    rw [sub_I (by omega)] at e1
    rw [e2]
    by_cases e3 : s = 11
    · refine ⟨fun _ => ?_, fun q => absurd (Or.inr (by omega)) q⟩
      subst e3
      refine ⟨nI 0, ?_⟩
      unfold F_X6_takes F_X6_takes_J49
      by_cases e4 : 1 ≤ i ∧ 97 ≤ t (i - 1) ∧ t (i - 1) ≤ 102
      · rw [b2n_t e4] at stop2 ⊢
        have e5 := within0 (x := t i) (a := 50) (b := 57) (by omega) (by omega) (by omega) (by omega)
        simp (disch := omega) only [↓qM, zq0, zq1, zq2, zq3, zq4, zq5, zq6, zq7, zq8, zq9, zq10, zq11, zq12, zq13, zq14, zq20, zq33, zq48, zq49, zq50, zq57, zq60, zq61, zq78, zq97, zq102, zq126, zq486, zq600, zq2916, zq4200, le_I, lt_I, eq_I, ne_M, lt_M, cl_I, vin_T, gd_tt, nz_T, nI_add, sub_I, m1_M, pk_mul, div_I, Option.bind_some, Option.map_some, if_pos, if_neg, if_true, if_false, Nat.reduceAdd, Nat.reduceMul, Nat.reduceSub, Nat.zero_add, Nat.add_zero, Ret_s, e1, e5, stop2]
      · rw [b2n_f e4] at stop2 ⊢
        simp (disch := omega) only [↓qM, zq0, zq1, zq2, zq3, zq4, zq5, zq6, zq7, zq8, zq9, zq10, zq11, zq12, zq13, zq14, zq20, zq33, zq48, zq49, zq50, zq57, zq60, zq61, zq78, zq97, zq102, zq126, zq486, zq600, zq2916, zq4200, le_I, lt_I, eq_I, ne_M, lt_M, cl_I, vin_T, gd_tt, nz_T, nI_add, sub_I, m1_M, pk_mul, div_I, Option.bind_some, Option.map_some, if_pos, if_neg, if_true, if_false, Nat.reduceAdd, Nat.reduceMul, Nat.reduceSub, Nat.zero_add, Nat.add_zero, Ret_s, e1, stop2]
    · refine ⟨fun q => by omega, fun _ => ?_⟩
      have e6 : lt t i = t i - 97 := by unfold lt; rw [if_pos e]
      refine ⟨upd a s (nI (t i - 97)), ?_, ?_⟩
      · unfold F_X6_takes
        simp (disch := omega) only [↓qM, zq0, zq1, zq2, zq3, zq4, zq5, zq6, zq7, zq8, zq9, zq10, zq11, zq12, zq13, zq14, zq20, zq33, zq48, zq49, zq50, zq57, zq60, zq61, zq78, zq97, zq102, zq126, zq486, zq600, zq2916, zq4200, le_I, lt_I, eq_I, ne_M, lt_M, cl_I, vin_T, gd_tt, nz_T, nI_add, sub_I, m1_M, pk_mul, div_I, Option.bind_some, Option.map_some, if_pos, if_neg, if_true, if_false, Nat.reduceAdd, Nat.reduceMul, Nat.reduceSub, Nat.zero_add, Nat.add_zero, Ret_s, e1]
      · rw [e6]
        intro q hq
        show _ = nI (gset g s (t i - 97) q)
        by_cases e7 : q = s
        · subst e7; rw [upd_s, gset_s]
        · rw [upd_n _ _ e7, gset_n _ _ e7]; exact ha q (by omega)
  · rw [b2n_f e] at e1 ⊢
    by_cases e4 : 1 ≤ i ∧ 97 ≤ t (i - 1) ∧ t (i - 1) ≤ 102
    · obtain ⟨g1, g2⟩ := hg e4
      rw [b2n_t e4] at stop2 ⊢
      by_cases e5 : 50 ≤ t i ∧ t i ≤ 57
      · have e2 : ad t i = t i - 49 := by unfold ad; rw [if_neg e, if_pos ⟨e5, e4⟩]
        have e6 := within1 (x := t i) (a := 50) (b := 57) e5.1 e5.2 (by omega)
        rw [e2]
        by_cases e7 : 11 < s + (t i - 49)
        · refine ⟨fun _ => ⟨nI 0, ?_⟩, fun q => absurd (Or.inr e7) q⟩
          unfold F_X6_takes F_X6_takes_J49
          simp (disch := omega) only [↓qM, zq0, zq1, zq2, zq3, zq4, zq5, zq6, zq7, zq8, zq9, zq10, zq11, zq12, zq13, zq14, zq20, zq33, zq48, zq49, zq50, zq57, zq60, zq61, zq78, zq97, zq102, zq126, zq486, zq600, zq2916, zq4200, le_I, lt_I, eq_I, ne_M, lt_M, cl_I, vin_T, gd_tt, nz_T, nI_add, sub_I, m1_M, pk_mul, div_I, Option.bind_some, Option.map_some, if_pos, if_neg, if_true, if_false, Nat.reduceAdd, Nat.reduceMul, Nat.reduceSub, Nat.zero_add, Nat.add_zero, Ret_s, e1, e6, stop2]
        · refine ⟨fun q => by omega, fun _ => ?_⟩
          have e8 : lt t i = t (i - 1) - 97 := by unfold lt; rw [if_neg e]
          rw [← e8] at g2
          obtain ⟨a', e9, h3⟩ := tkL_I (c := t i) (v := lt t i) (op := nI 1) e5.1 e5.2 (t i - 49) 1 FU s g a (by omega) (FU_lt (by omega)) (by omega) g1 g2 ha
          refine ⟨a', ?_, h3⟩
          unfold F_X6_takes F_X6_takes_J49
          simp (disch := omega) only [↓qM, zq0, zq1, zq2, zq3, zq4, zq5, zq6, zq7, zq8, zq9, zq10, zq11, zq12, zq13, zq14, zq20, zq33, zq48, zq49, zq50, zq57, zq60, zq61, zq78, zq97, zq102, zq126, zq486, zq600, zq2916, zq4200, le_I, lt_I, eq_I, ne_M, lt_M, cl_I, vin_T, gd_tt, nz_T, nI_add, sub_I, m1_M, pk_mul, div_I, Option.bind_some, Option.map_some, if_pos, if_neg, if_true, if_false, Nat.reduceAdd, Nat.reduceMul, Nat.reduceSub, Nat.zero_add, Nat.add_zero, Ret_s, e1, e6]
          exact e9
      · have e2 : ad t i = 0 := by unfold ad; rw [if_neg e, if_neg (fun q => e5 q.1)]
        have e6 := within0 (x := t i) (a := 50) (b := 57) (by omega) (by omega) (by omega) (by omega)
        refine ⟨fun _ => ⟨nI 0, ?_⟩, fun q => absurd (Or.inl e2) q⟩
        unfold F_X6_takes F_X6_takes_J49
        simp (disch := omega) only [↓qM, zq0, zq1, zq2, zq3, zq4, zq5, zq6, zq7, zq8, zq9, zq10, zq11, zq12, zq13, zq14, zq20, zq33, zq48, zq49, zq50, zq57, zq60, zq61, zq78, zq97, zq102, zq126, zq486, zq600, zq2916, zq4200, le_I, lt_I, eq_I, ne_M, lt_M, cl_I, vin_T, gd_tt, nz_T, nI_add, sub_I, m1_M, pk_mul, div_I, Option.bind_some, Option.map_some, if_pos, if_neg, if_true, if_false, Nat.reduceAdd, Nat.reduceMul, Nat.reduceSub, Nat.zero_add, Nat.add_zero, Ret_s, e1, e6, stop2]
    · have e2 : ad t i = 0 := by unfold ad; rw [if_neg e, if_neg (fun q => e4 q.2)]
      rw [b2n_f e4] at stop2 ⊢
      refine ⟨fun _ => ⟨nI 0, ?_⟩, fun q => absurd (Or.inl e2) q⟩
      unfold F_X6_takes F_X6_takes_J49
      simp (disch := omega) only [↓qM, zq0, zq1, zq2, zq3, zq4, zq5, zq6, zq7, zq8, zq9, zq10, zq11, zq12, zq13, zq14, zq20, zq33, zq48, zq49, zq50, zq57, zq60, zq61, zq78, zq97, zq102, zq126, zq486, zq600, zq2916, zq4200, le_I, lt_I, eq_I, ne_M, lt_M, cl_I, vin_T, gd_tt, nz_T, nI_add, sub_I, m1_M, pk_mul, div_I, Option.bind_some, Option.map_some, if_pos, if_neg, if_true, if_false, Nat.reduceAdd, Nat.reduceMul, Nat.reduceSub, Nat.zero_add, Nat.add_zero, Ret_s, e1, stop2]
theorem rpL_I {L : Nat} {t : Nat → Nat} {cs : Nat → Int32} (h : XI L t cs) : ∀ (d i s fu : Nat) (g : Nat → Nat) (a : Nat → Int32) (op : Int32), i + d = L → d < fu → s ≤ 11 → RA s g a → op = nI (b2n (1 ≤ i ∧ 97 ≤ t (i - 1) ∧ t (i - 1) ≤ 102)) → (1 ≤ i ∧ 97 ≤ t (i - 1) ∧ t (i - 1) ≤ 102 → 1 ≤ s ∧ g (s - 1) = t (i - 1) - 97) → Ret (F_X6_rightUpTo_L12 (nI L) cs fu (nI s) op a (nI i)) (fun r => r.1 = nI (ps t d i s g).1 ∧ r.2.1 = nI (ps t d i s g).2.1 ∧ RA (ps t d i s g).2.1 (ps t d i s g).2.2 r.2.2.2) := by
  have h60 := h.1
  intro d
  induction d with
  | zero =>
    intro i s fu g a op h1 h2 hs ha hop hg
    obtain ⟨fu, rfl, hf⟩ := fu1 h2
    rw [F_X6_rightUpTo_L12]
    simp (disch := omega) only [↓qM, zq0, zq1, zq2, zq3, zq4, zq5, zq6, zq7, zq8, zq9, zq10, zq11, zq12, zq13, zq14, zq20, zq33, zq48, zq49, zq50, zq57, zq60, zq61, zq78, zq97, zq102, zq126, zq486, zq600, zq2916, zq4200, le_I, lt_I, eq_I, ne_M, lt_M, cl_I, vin_T, gd_tt, nz_T, nI_add, sub_I, m1_M, pk_mul, div_I, Option.bind_some, Option.map_some, if_pos, if_neg, if_true, if_false, Nat.reduceAdd, Nat.reduceMul, Nat.reduceSub, Nat.zero_add, Nat.add_zero, Ret_s, ps]
    exact ⟨(by first | rfl | trivial), (by first | rfl | trivial), ha⟩
  | succ d ih =>
    intro i s fu g a op h1 h2 hs ha hop hg
    obtain ⟨fu, rfl, hf⟩ := fu1 h2
    obtain ⟨k1, k2⟩ := tk_I h (show i < L by omega) hs ha hop hg
    rw [F_X6_rightUpTo_L12, ps]
    by_cases e : ad t i = 0 ∨ 11 < s + ad t i
    · obtain ⟨op', e1⟩ := k1 e
      rw [if_pos e]
      simp (disch := omega) only [↓qM, zq0, zq1, zq2, zq3, zq4, zq5, zq6, zq7, zq8, zq9, zq10, zq11, zq12, zq13, zq14, zq20, zq33, zq48, zq49, zq50, zq57, zq60, zq61, zq78, zq97, zq102, zq126, zq486, zq600, zq2916, zq4200, le_I, lt_I, eq_I, ne_M, lt_M, cl_I, vin_T, gd_tt, nz_T, nI_add, sub_I, m1_M, pk_mul, div_I, Option.bind_some, Option.map_some, if_pos, if_neg, if_true, if_false, Nat.reduceAdd, Nat.reduceMul, Nat.reduceSub, Nat.zero_add, Nat.add_zero, Ret_s, h.at, e1]
      exact ⟨(by first | rfl | trivial), (by first | rfl | trivial), ha⟩
    · obtain ⟨a', e1, ha2⟩ := k2 e
      rw [if_neg e]
      have k := ih (i + 1) (s + ad t i) fu _ a' (nI (b2n (97 ≤ t i ∧ t i ≤ 102))) (by omega) (by omega) (by omega) ha2 (by
        congr 1
        by_cases e2 : 97 ≤ t i ∧ t i ≤ 102
        · rw [b2n_t e2, b2n_t (by rw [Nat.add_sub_cancel]; omega)]
        · rw [b2n_f e2, b2n_f (by rw [Nat.add_sub_cancel]; omega)]) (by
        rw [Nat.add_sub_cancel]
        intro q
        have e2 : ad t i = 1 := if_pos q.2
        have e3 : lt t i = t i - 97 := by unfold lt; rw [if_pos q.2]
        rw [e2, Nat.add_sub_cancel, rep_in _ _ _ _ (Nat.le_refl _) (by omega), e3]
        exact ⟨by omega, rfl⟩)
      simp (disch := omega) only [↓qM, zq0, zq1, zq2, zq3, zq4, zq5, zq6, zq7, zq8, zq9, zq10, zq11, zq12, zq13, zq14, zq20, zq33, zq48, zq49, zq50, zq57, zq60, zq61, zq78, zq97, zq102, zq126, zq486, zq600, zq2916, zq4200, le_I, lt_I, eq_I, ne_M, lt_M, cl_I, vin_T, gd_tt, nz_T, nI_add, sub_I, m1_M, pk_mul, div_I, Option.bind_some, Option.map_some, if_pos, if_neg, if_true, if_false, Nat.reduceAdd, Nat.reduceMul, Nat.reduceSub, Nat.zero_add, Nat.add_zero, Ret_s, h.at, e1]
      exact k
theorem rp_I {L : Nat} {t : Nat → Nat} {cs a : Nat → Int32} {rd op : Int32} (h : XI L t cs) (g : Nat → Nat) : Ret (F_X6_rightUpTo (nI L) rd op a cs) (fun r => r.1 = nI (ps t L 0 0 g).1 ∧ r.2.1 = nI (ps t L 0 0 g).2.1 ∧ RA (ps t L 0 0 g).2.1 (ps t L 0 0 g).2.2 r.2.2.2) := by
  have h60 := h.1
  have k := rpL_I h L 0 0 FU g a (nI 0) (by omega) (FU_lt (by omega)) (by omega) (fun i hi => absurd hi (by omega)) (by rw [b2n_f (by omega)]) (fun q => by omega)
  unfold F_X6_rightUpTo
  simp (disch := omega) only [↓qM, zq0, zq1, zq2, zq3, zq4, zq5, zq6, zq7, zq8, zq9, zq10, zq11, zq12, zq13, zq14, zq20, zq33, zq48, zq49, zq50, zq57, zq60, zq61, zq78, zq97, zq102, zq126, zq486, zq600, zq2916, zq4200, le_I, lt_I, eq_I, ne_M, lt_M, cl_I, vin_T, gd_tt, nz_T, nI_add, sub_I, m1_M, pk_mul, div_I, Option.bind_some, Option.map_some, if_pos, if_neg, if_true, if_false, Nat.reduceAdd, Nat.reduceMul, Nat.reduceSub, Nat.zero_add, Nat.add_zero, Ret_s]
  exact k
theorem rrdL_I {m : Nat} {g : Nat → Nat} {sts ln th op : Int32} {cs hi lf oth sg z0 : Nat → Int32} (h0 : 1 ≤ m) (hm : m ≤ 11) (hg : RG m g) (ha : RA m g sg) : ∀ (d i fu : Nat) (z : Nat → Int32), i + d = 11 → d < fu → z 0 = nI m → (∀ j, j < i → j < m → z (2 + j) = nI (g j)) → ∃ lf' oth' z', F_X6_read_L57 cs fu sts ln th (nI m) op hi lf oth sg z (nI i) = some (nI (rk g m m), sts, ln, th, nI m, op, hi, lf', oth', sg, z') ∧ ZI z' m g ∧ z' 1 = z 1 := by
  intro d
  induction d with
  | zero =>
    intro i fu z h1 h2 hz0 hz
    obtain ⟨fu, rfl, hf⟩ := fu1 h2
    have hzi : ZI z m g := ⟨hz0, fun j hj => hz j (by omega) hj⟩
    obtain ⟨lf', oth', e1⟩ := rankNow_I (o := lf) (a := oth) hzi hm hg
    refine ⟨lf', oth', z, ?_, hzi, rfl⟩
    rw [F_X6_read_L57]
    simp (disch := omega) only [↓qM, zq0, zq1, zq2, zq3, zq4, zq5, zq6, zq7, zq8, zq9, zq10, zq11, zq12, zq13, zq14, zq20, zq33, zq48, zq49, zq50, zq57, zq60, zq61, zq78, zq97, zq102, zq126, zq486, zq600, zq2916, zq4200, le_I, lt_I, eq_I, ne_M, lt_M, cl_I, vin_T, gd_tt, nz_T, nI_add, sub_I, m1_M, pk_mul, div_I, Option.bind_some, Option.map_some, if_pos, if_neg, if_true, if_false, Nat.reduceAdd, Nat.reduceMul, Nat.reduceSub, Nat.zero_add, Nat.add_zero, Ret_s, e1]
  | succ d ih =>
    intro i fu z h1 h2 hz0 hz
    obtain ⟨fu, rfl, hf⟩ := fu1 h2
    by_cases e : i < m
    · have e1 := ha i e
      obtain ⟨lf', oth', z', e2, h3, h4⟩ := ih (i + 1) fu (upd z (2 + i) (nI (g i))) (by omega) (by omega) (by rw [upd_n _ _ (by omega)]; exact hz0) (fun j hj hj2 => by
        by_cases e3 : j = i
        · subst e3; rw [upd_s]
        · rw [upd_n _ _ (by omega)]; exact hz j (by omega) hj2)
      rw [upd_n _ _ (by omega)] at h4
      refine ⟨lf', oth', z', ?_, h3, h4⟩
      rw [F_X6_read_L57]
      unfold F_X6_read_J88
      simp (disch := omega) only [↓qM, zq0, zq1, zq2, zq3, zq4, zq5, zq6, zq7, zq8, zq9, zq10, zq11, zq12, zq13, zq14, zq20, zq33, zq48, zq49, zq50, zq57, zq60, zq61, zq78, zq97, zq102, zq126, zq486, zq600, zq2916, zq4200, le_I, lt_I, eq_I, ne_M, lt_M, cl_I, vin_T, gd_tt, nz_T, nI_add, sub_I, m1_M, pk_mul, div_I, Option.bind_some, Option.map_some, if_pos, if_neg, if_true, if_false, Nat.reduceAdd, Nat.reduceMul, Nat.reduceSub, Nat.zero_add, Nat.add_zero, Ret_s, e1, e2]
    · obtain ⟨lf', oth', z', e2, h3, h4⟩ := ih (i + 1) fu (upd z (2 + i) (nI 0)) (by omega) (by omega) (by rw [upd_n _ _ (by omega)]; exact hz0) (fun j hj hj2 => by rw [upd_n _ _ (by omega)]; exact hz j (by omega) hj2)
      rw [upd_n _ _ (by omega)] at h4
      refine ⟨lf', oth', z', ?_, h3, h4⟩
      rw [F_X6_read_L57]
      unfold F_X6_read_J88
      simp (disch := omega) only [↓qM, zq0, zq1, zq2, zq3, zq4, zq5, zq6, zq7, zq8, zq9, zq10, zq11, zq12, zq13, zq14, zq20, zq33, zq48, zq49, zq50, zq57, zq60, zq61, zq78, zq97, zq102, zq126, zq486, zq600, zq2916, zq4200, le_I, lt_I, eq_I, ne_M, lt_M, cl_I, vin_T, gd_tt, nz_T, nI_add, sub_I, m1_M, pk_mul, div_I, Option.bind_some, Option.map_some, if_pos, if_neg, if_true, if_false, Nat.reduceAdd, Nat.reduceMul, Nat.reduceSub, Nat.zero_add, Nat.add_zero, Ret_s, e2]
