/-! the class's smooth table -/
theorem of_J {c : Nat → Nat} {o : Nat → Int32} (h : BA c o) : ∀ s, s < 6 → F_X0_of o (nI s) = some (nI (c s)) := fun s hs => of_I h hs
def WA (c : Nat → Nat) (k : Nat) (w : Nat → Int32) : Prop := ∀ s, s < k → w s = nI (wt c s)
theorem WA.at {c : Nat → Nat} {w : Nat → Int32} (h : WA c 6 w) : ∀ s, s < 6 → w s = nI (wt c s) := h
theorem WA.upd {c : Nat → Nat} {w : Nat → Int32} {i : Nat} (h : WA c i w) : WA c (i + 1) (upd w i (nI (wt c i))) := by
  intro j hj
  by_cases e : j = i
  · subst e; rw [upd_s]
  · rw [upd_n _ _ e]; exact h j (by omega)
theorem weighL_I {c : Nat → Nat} {mf : Nat → Int32} (h : BA c mf) : ∀ (d i fu : Nat) (w : Nat → Int32), i + d = 6 → d < fu → WA c i w → ∃ w', F_X3_weigh_L4 mf fu w (nI (wt c i)) (nI i) = some (nI (wt c 6), w') ∧ WA c 6 w' := by
  intro d
  induction d with
  | zero =>
    intro i fu w h1 h2 hw
    obtain ⟨fu, rfl, hf⟩ := fu1 h2
    obtain rfl : i = 6 := by omega
    refine ⟨w, ?_, hw⟩
    rw [F_X3_weigh_L4]
    simp (disch := omega) only [↓qM, zq0, zq1, zq2, zq3, zq4, zq5, zq6, zq7, zq8, zq9, zq10, zq11, zq12, zq13, zq14, zq20, zq33, zq48, zq49, zq50, zq57, zq60, zq61, zq78, zq97, zq102, zq126, zq486, zq600, zq2916, zq4200, le_I, lt_I, eq_I, ne_M, lt_M, cl_I, vin_T, gd_tt, nz_T, nI_add, sub_I, m1_M, pk_mul, div_I, Option.bind_some, Option.map_some, if_pos, if_neg, if_true, if_false, Nat.reduceAdd, Nat.reduceMul, Nat.reduceSub, Nat.zero_add, Nat.add_zero, Ret_s]
  | succ d ih =>
    intro i fu w h1 h2 hw
    obtain ⟨fu, rfl, hf⟩ := fu1 h2
    obtain ⟨w', e1, hw1⟩ := ih (i + 1) fu _ (by omega) (by omega) hw.upd
    rw [show wt c (i + 1) = wt c i * (c i + 1) from rfl] at e1
    refine ⟨w', ?_, hw1⟩
    rw [F_X3_weigh_L4]
    simp (disch := omega) only [↓qM, zq0, zq1, zq2, zq3, zq4, zq5, zq6, zq7, zq8, zq9, zq10, zq11, zq12, zq13, zq14, zq20, zq33, zq48, zq49, zq50, zq57, zq60, zq61, zq78, zq97, zq102, zq126, zq486, zq600, zq2916, zq4200, le_I, lt_I, eq_I, ne_M, lt_M, cl_I, vin_T, gd_tt, nz_T, nI_add, sub_I, m1_M, pk_mul, div_I, Option.bind_some, Option.map_some, if_pos, if_neg, if_true, if_false, Nat.reduceAdd, Nat.reduceMul, Nat.reduceSub, Nat.zero_add, Nat.add_zero, Ret_s, h.at, e1]
theorem weigh_I {c : Nat → Nat} {mf w : Nat → Int32} (h : BA c mf) : ∃ w', F_X3_weigh mf w = some (nI (wt c 6), w') ∧ WA c 6 w' := by
  obtain ⟨w', e1, hw⟩ := weighL_I h 6 0 FU w (by omega) (FU_lt (by omega)) (fun s hs => absurd hs (by omega))
  refine ⟨w', ?_, hw⟩
  unfold F_X3_weigh
  exact e1
theorem cellOfL_I {c d : Nat → Nat} {o w : Nat → Int32} (h : BA d o) (hw : WA c 6 w) : ∀ (r i fu : Nat), i + r = 6 → r < fu → F_X3_cellOf_L4 w o fu (nI (cdS c d i)) (nI i) = some (nI (cd c d)) := by
  intro r
  induction r with
  | zero =>
    intro i fu h1 h2
    obtain ⟨fu, rfl, hf⟩ := fu1 h2
    obtain rfl : i = 6 := by omega
    rw [F_X3_cellOf_L4]
    simp (disch := omega) only [↓qM, zq0, zq1, zq2, zq3, zq4, zq5, zq6, zq7, zq8, zq9, zq10, zq11, zq12, zq13, zq14, zq20, zq33, zq48, zq49, zq50, zq57, zq60, zq61, zq78, zq97, zq102, zq126, zq486, zq600, zq2916, zq4200, le_I, lt_I, eq_I, ne_M, lt_M, cl_I, vin_T, gd_tt, nz_T, nI_add, sub_I, m1_M, pk_mul, div_I, Option.bind_some, Option.map_some, if_pos, if_neg, if_true, if_false, Nat.reduceAdd, Nat.reduceMul, Nat.reduceSub, Nat.zero_add, Nat.add_zero, Ret_s, cd]
  | succ r ih =>
    intro i fu h1 h2
    obtain ⟨fu, rfl, hf⟩ := fu1 h2
    have e1 := ih (i + 1) fu (by omega) (by omega)
    rw [show cdS c d (i + 1) = cdS c d i + d i * wt c i from rfl] at e1
    rw [F_X3_cellOf_L4]
    simp (disch := omega) only [↓qM, zq0, zq1, zq2, zq3, zq4, zq5, zq6, zq7, zq8, zq9, zq10, zq11, zq12, zq13, zq14, zq20, zq33, zq48, zq49, zq50, zq57, zq60, zq61, zq78, zq97, zq102, zq126, zq486, zq600, zq2916, zq4200, le_I, lt_I, eq_I, ne_M, lt_M, cl_I, vin_T, gd_tt, nz_T, nI_add, sub_I, m1_M, pk_mul, div_I, Option.bind_some, Option.map_some, if_pos, if_neg, if_true, if_false, Nat.reduceAdd, Nat.reduceMul, Nat.reduceSub, Nat.zero_add, Nat.add_zero, Ret_s, of_J h, hw.at, e1]
theorem cellOf_I {c d : Nat → Nat} {o w : Nat → Int32} (h : BA d o) (hw : WA c 6 w) : F_X3_cellOf w o = some (nI (cd c d)) := by
  unfold F_X3_cellOf
  exact cellOfL_I h hw 6 0 FU (by omega) (FU_lt (by omega))
theorem allOf_I {al : Nat → Int32} {k : Nat} (hk : k < 486) : F_X3_allOf al (nI k) = some (al k) := by
  unfold F_X3_allOf
  simp (disch := omega) only [↓qM, zq0, zq1, zq2, zq3, zq4, zq5, zq6, zq7, zq8, zq9, zq10, zq11, zq12, zq13, zq14, zq20, zq33, zq48, zq49, zq50, zq57, zq60, zq61, zq78, zq97, zq102, zq126, zq486, zq600, zq2916, zq4200, le_I, lt_I, eq_I, ne_M, lt_M, cl_I, vin_T, gd_tt, nz_T, nI_add, sub_I, m1_M, pk_mul, div_I, Option.bind_some, Option.map_some, if_pos, if_neg, if_true, if_false, Nat.reduceAdd, Nat.reduceMul, Nat.reduceSub, Nat.zero_add, Nat.add_zero, Ret_s]
theorem startOf_I {st : Nat → Int32} {k s : Nat} (hk : k < 486) (hs : s < 6) : F_X3_startingOf st (nI k) (nI s) = some (st (k * 6 + s)) := by
  unfold F_X3_startingOf F_X3_startingOf_J26
  simp (disch := omega) only [↓qM, zq0, zq1, zq2, zq3, zq4, zq5, zq6, zq7, zq8, zq9, zq10, zq11, zq12, zq13, zq14, zq20, zq33, zq48, zq49, zq50, zq57, zq60, zq61, zq78, zq97, zq102, zq126, zq486, zq600, zq2916, zq4200, le_I, lt_I, eq_I, ne_M, lt_M, cl_I, vin_T, gd_tt, nz_T, nI_add, sub_I, m1_M, pk_mul, div_I, Option.bind_some, Option.map_some, if_pos, if_neg, if_true, if_false, Nat.reduceAdd, Nat.reduceMul, Nat.reduceSub, Nat.zero_add, Nat.add_zero, Ret_s]
theorem nM_neg : (nM < nI 0) = True := eq_true (by decide)
theorem startOf_M {st : Nat → Int32} {k : Nat} (hk : k < 486) : F_X3_startingOf st (nI k) nM = some (nI 0) := by
  unfold F_X3_startingOf F_X3_startingOf_J26
  simp (disch := omega) only [↓qM, zq0, zq1, zq2, zq3, zq4, zq5, zq6, zq7, zq8, zq9, zq10, zq11, zq12, zq13, zq14, zq20, zq33, zq48, zq49, zq50, zq57, zq60, zq61, zq78, zq97, zq102, zq126, zq486, zq600, zq2916, zq4200, le_I, lt_I, eq_I, ne_M, lt_M, cl_I, vin_T, gd_tt, nz_T, nI_add, sub_I, m1_M, pk_mul, div_I, Option.bind_some, Option.map_some, if_pos, if_neg, if_true, if_false, Nat.reduceAdd, Nat.reduceMul, Nat.reduceSub, Nat.zero_add, Nat.add_zero, Ret_s, nM_neg]
def TB (c : Nat → Nat) (k : Nat) (al st : Nat → Int32) : Prop := ∀ d, Le6 d c → cd c d < k → al (cd c d) = nI (SM d 6) ∧ ∀ s, s < 6 → st (cd c d * 6 + s) = nI (ST d s)
theorem TB.al {c d : Nat → Nat} {k : Nat} {al st : Nat → Int32} (h : TB c k al st) (hd : Le6 d c) (hk : cd c d < k) : al (cd c d) = nI (SM d 6) := (h d hd hk).1
theorem TB.st {c d : Nat → Nat} {k s : Nat} {al st : Nat → Int32} (h : TB c k al st) (hd : Le6 d c) (hk : cd c d < k) (hs : s < 6) : st (cd c d * 6 + s) = nI (ST d s) := (h d hd hk).2 s hs
theorem TB.upd {c : Nat → Nat} {k s : Nat} {al st : Nat → Int32} {x : Int32} (h : TB c k al st) (hs : s < 6) : TB c k al (upd st (k * 6 + s) x) := by
  intro e he hk
  refine ⟨h.al he hk, fun t ht => ?_⟩
  rw [upd_n _ _ (by omega)]
  exact h.st he hk ht
theorem fillCL_I {c d : Nat → Nat} {ic w al : Nat → Int32} (hc : sum6 c ≤ 11) (hd : Le6 d c) (hb : BA d ic) (hw : WA c 6 w) : ∀ (r s fu : Nat) (st : Nat → Int32), s + r = 6 → r < fu → TB c (cd c d) al st → (∀ t, t < s → st (cd c d * 6 + t) = nI (ST d t)) → ∃ al' st', F_X3_fillCell_L12 ic w (nI (cd c d)) fu al st (nI (b2n (sum6 d = 0) + sumL (ST d) 0 s)) (nI s) = some (al', st') ∧ TB c (cd c d + 1) al' st' := by
  have hk := cd_lt hd
  have h486 := wt_486 hc
  intro r
  induction r with
  | zero =>
    intro s fu st h1 h2 ht hs
    obtain ⟨fu, rfl, hf⟩ := fu1 h2
    obtain rfl : s = 6 := by omega
    refine ⟨upd al (cd c d) (nI (SM d 6)), st, ?_, ?_⟩
    · rw [F_X3_fillCell_L12, ← SM_all]
      simp (disch := omega) only [↓qM, zq0, zq1, zq2, zq3, zq4, zq5, zq6, zq7, zq8, zq9, zq10, zq11, zq12, zq13, zq14, zq20, zq33, zq48, zq49, zq50, zq57, zq60, zq61, zq78, zq97, zq102, zq126, zq486, zq600, zq2916, zq4200, le_I, lt_I, eq_I, ne_M, lt_M, cl_I, vin_T, gd_tt, nz_T, nI_add, sub_I, m1_M, pk_mul, div_I, Option.bind_some, Option.map_some, if_pos, if_neg, if_true, if_false, Nat.reduceAdd, Nat.reduceMul, Nat.reduceSub, Nat.zero_add, Nat.add_zero, Ret_s]
    · intro e he hek
      by_cases e1 : cd c e = cd c d
      · have e2 := cd_inj he hd e1
        rw [e1, upd_s, SM_ext e2]
        exact ⟨rfl, fun t ht2 => by rw [hs t ht2, ST_ext e2 ht2]⟩
      · rw [upd_n _ _ e1]
        exact ht e he (by omega)
  | succ r ih =>
    intro s fu st h1 h2 ht hs
    obtain ⟨fu, rfl, hf⟩ := fu1 h2
    have hds := hd s (by omega)
    have hcs := le_sum6 (c := c) (s := s) (by omega)
    obtain ⟨al', st', e1, h3⟩ := ih (s + 1) fu (upd st (cd c d * 6 + s) (nI (ST d s))) (by omega) (by omega) (ht.upd (by omega)) (fun t ht2 => by
      by_cases e : t = s
      · subst e; rw [upd_s]
      · rw [upd_n _ _ (by omega)]; exact hs t (by omega))
    rw [sumL_last, Nat.zero_add, ← Nat.add_assoc] at e1
    refine ⟨al', st', ?_, h3⟩
    rw [F_X3_fillCell_L12]
    unfold F_X3_fillCell_J55
    by_cases e : d s = 0
    · have e2 : ST d s = 0 := if_pos e
      rw [e2] at e1
      simp (disch := omega) only [↓qM, zq0, zq1, zq2, zq3, zq4, zq5, zq6, zq7, zq8, zq9, zq10, zq11, zq12, zq13, zq14, zq20, zq33, zq48, zq49, zq50, zq57, zq60, zq61, zq78, zq97, zq102, zq126, zq486, zq600, zq2916, zq4200, le_I, lt_I, eq_I, ne_M, lt_M, cl_I, vin_T, gd_tt, nz_T, nI_add, sub_I, m1_M, pk_mul, div_I, Option.bind_some, Option.map_some, if_pos, if_neg, if_true, if_false, Nat.reduceAdd, Nat.reduceMul, Nat.reduceSub, Nat.zero_add, Nat.add_zero, Ret_s, hb.at]
      exact e1
    · have h4 := cd_dec (c := c) (d := d) (s := s) (by omega) (by omega)
      have hwp := wt_pos c s
      have e3 : cd c d - wt c s = cd c (dec d s) := by omega
      have e4 := ht.al (Le6_dec hd) (show cd c (dec d s) < cd c d by omega)
      have e5 := ht.st (Le6_dec hd) (show cd c (dec d s) < cd c d by omega) (show s < 6 by omega)
      have e6 := SM_split (d := dec d s) (a := s) (by omega)
      have e7 := allOf_I (al := al) (k := cd c (dec d s)) (by omega)
      have e8 := startOf_I (st := st) (k := cd c (dec d s)) (s := s) (by omega) (by omega)
      have e9 : SM (dec d s) 6 - ST (dec d s) s = ST d s := by rw [← e6, Nat.add_sub_cancel, ST, if_neg e]
      simp (disch := omega) only [↓qM, zq0, zq1, zq2, zq3, zq4, zq5, zq6, zq7, zq8, zq9, zq10, zq11, zq12, zq13, zq14, zq20, zq33, zq48, zq49, zq50, zq57, zq60, zq61, zq78, zq97, zq102, zq126, zq486, zq600, zq2916, zq4200, le_I, lt_I, eq_I, ne_M, lt_M, cl_I, vin_T, gd_tt, nz_T, nI_add, sub_I, m1_M, pk_mul, div_I, Option.bind_some, Option.map_some, if_pos, if_neg, if_true, if_false, Nat.reduceAdd, Nat.reduceMul, Nat.reduceSub, Nat.zero_add, Nat.add_zero, Ret_s, hb.at, hw.at, e3, e7, e8, e4, e5, e9]
      exact e1
theorem fillC_I {c d : Nat → Nat} {ic w al st : Nat → Int32} (hc : sum6 c ≤ 11) (hd : Le6 d c) (hb : BA d ic) (hw : WA c 6 w) (ht : TB c (cd c d) al st) : ∃ al' st', F_X3_fillCell al ic st w (nI (cd c d)) = some (al', st') ∧ TB c (cd c d + 1) al' st' := by
  have hk := cd_lt hd
  have h486 := wt_486 hc
  obtain ⟨al', st', e1, h1⟩ := fillCL_I (al := al) hc hd hb hw 6 0 FU st (by omega) (FU_lt (by omega)) ht (fun t h => absurd h (by omega))
  refine ⟨al', st', ?_, h1⟩
  unfold F_X3_fillCell
  rw [show sumL (ST d) 0 0 = 0 from rfl] at e1
  by_cases e : sum6 d = 0
  · have e2 := (cd_0 (c := c)).mpr e
    rw [b2n_t e, e2] at e1
    rw [e2]
    simp (disch := omega) only [↓qM, zq0, zq1, zq2, zq3, zq4, zq5, zq6, zq7, zq8, zq9, zq10, zq11, zq12, zq13, zq14, zq20, zq33, zq48, zq49, zq50, zq57, zq60, zq61, zq78, zq97, zq102, zq126, zq486, zq600, zq2916, zq4200, le_I, lt_I, eq_I, ne_M, lt_M, cl_I, vin_T, gd_tt, nz_T, nI_add, sub_I, m1_M, pk_mul, div_I, Option.bind_some, Option.map_some, if_pos, if_neg, if_true, if_false, Nat.reduceAdd, Nat.reduceMul, Nat.reduceSub, Nat.zero_add, Nat.add_zero, Ret_s]
    exact e1
  · have e2 : cd c d ≠ 0 := fun h => e (cd_0.mp h)
    rw [b2n_f e] at e1
    simp (disch := omega) only [↓qM, zq0, zq1, zq2, zq3, zq4, zq5, zq6, zq7, zq8, zq9, zq10, zq11, zq12, zq13, zq14, zq20, zq33, zq48, zq49, zq50, zq57, zq60, zq61, zq78, zq97, zq102, zq126, zq486, zq600, zq2916, zq4200, le_I, lt_I, eq_I, ne_M, lt_M, cl_I, vin_T, gd_tt, nz_T, nI_add, sub_I, m1_M, pk_mul, div_I, Option.bind_some, Option.map_some, if_pos, if_neg, if_true, if_false, Nat.reduceAdd, Nat.reduceMul, Nat.reduceSub, Nat.zero_add, Nat.add_zero, Ret_s]
    exact e1
theorem cdS_set {c d : Nat → Nat} {s v : Nat} : ∀ k, cdS c (gset d s v) k + (if s < k then d s * wt c s else 0) = cdS c d k + (if s < k then v * wt c s else 0) := by
  intro k
  induction k with
  | zero => rw [if_neg (by omega), if_neg (by omega)]; rfl
  | succ k ih =>
    rw [cdS, cdS]
    by_cases e : k = s
    · subst e
      rw [if_neg (by omega), if_neg (by omega)] at ih
      rw [if_pos (by omega), if_pos (by omega), gset_s]
      omega
    · rw [gset_n _ _ e]
      by_cases e2 : s < k
      · rw [if_pos e2, if_pos e2] at ih; rw [if_pos (by omega), if_pos (by omega)]; omega
      · rw [if_neg e2, if_neg e2] at ih; rw [if_neg (by omega), if_neg (by omega)]; omega
theorem cd_set {c d : Nat → Nat} {s v : Nat} (hs : s < 6) : cd c (gset d s v) + d s * wt c s = cd c d + v * wt c s := by
  have := cdS_set (c := c) (d := d) (s := s) (v := v) 6
  rw [if_pos hs, if_pos hs] at this
  exact this
theorem goOnL_I {c : Nat → Nat} {mf : Nat → Int32} (hc : sum6 c ≤ 11) (hm : BA c mf) : ∀ (r s fu : Nat) (d : Nat → Nat) (ic : Nat → Int32), s + r = 5 → r < fu → BA d ic → (∀ t, t < 5 → d t ≤ c t) → ∃ ic' d', F_X3_goOn_L2 mf fu ic (nI s) = some ic' ∧ BA d' ic' ∧ (∀ t, t < 5 → d' t ≤ c t) ∧ cd c d' = cd c d + wt c s := by
  intro r
  induction r with
  | zero =>
    intro s fu d ic h1 h2 hb hd
    obtain ⟨fu, rfl, hf⟩ := fu1 h2
    obtain rfl : s = 5 := by omega
    refine ⟨upd ic 5 (nI (d 5 + 1)), gset d 5 (d 5 + 1), ?_, hb.upd 5 _, fun t ht => by rw [gset_n _ _ (by omega)]; exact hd t ht, ?_⟩
    · rw [F_X3_goOn_L2]
      unfold F_X3_goOn_J35
      simp (disch := omega) only [↓qM, zq0, zq1, zq2, zq3, zq4, zq5, zq6, zq7, zq8, zq9, zq10, zq11, zq12, zq13, zq14, zq20, zq33, zq48, zq49, zq50, zq57, zq60, zq61, zq78, zq97, zq102, zq126, zq486, zq600, zq2916, zq4200, le_I, lt_I, eq_I, ne_M, lt_M, cl_I, vin_T, gd_tt, nz_T, nI_add, sub_I, m1_M, pk_mul, div_I, Option.bind_some, Option.map_some, if_pos, if_neg, if_true, if_false, Nat.reduceAdd, Nat.reduceMul, Nat.reduceSub, Nat.zero_add, Nat.add_zero, Ret_s, hb.at]
    · have := cd_set (c := c) (d := d) (s := 5) (v := d 5 + 1) (by omega)
      rw [Nat.succ_mul] at this
      omega
  | succ r ih =>
    intro s fu d ic h1 h2 hb hd
    obtain ⟨fu, rfl, hf⟩ := fu1 h2
    have hds := hd s (by omega)
    have hcs := le_sum6 (c := c) (s := s) (by omega)
    by_cases e : d s < c s
    · refine ⟨upd ic s (nI (d s + 1)), gset d s (d s + 1), ?_, hb.upd s _, fun t ht => ?_, ?_⟩
      · rw [F_X3_goOn_L2]
        unfold F_X3_goOn_J35
        simp (disch := omega) only [↓qM, zq0, zq1, zq2, zq3, zq4, zq5, zq6, zq7, zq8, zq9, zq10, zq11, zq12, zq13, zq14, zq20, zq33, zq48, zq49, zq50, zq57, zq60, zq61, zq78, zq97, zq102, zq126, zq486, zq600, zq2916, zq4200, le_I, lt_I, eq_I, ne_M, lt_M, cl_I, vin_T, gd_tt, nz_T, nI_add, sub_I, m1_M, pk_mul, div_I, Option.bind_some, Option.map_some, if_pos, if_neg, if_true, if_false, Nat.reduceAdd, Nat.reduceMul, Nat.reduceSub, Nat.zero_add, Nat.add_zero, Ret_s, hb.at, hm.at]
      · by_cases e2 : t = s
        · subst e2; rw [gset_s]; omega
        · rw [gset_n _ _ e2]; exact hd t ht
      · have := cd_set (c := c) (d := d) (s := s) (v := d s + 1) (by omega)
        rw [Nat.succ_mul] at this
        omega
    · obtain ⟨ic', d', e1, h3, h4, h5⟩ := ih (s + 1) fu (gset d s 0) (upd ic s (nI 0)) (by omega) (by omega) (hb.upd s 0) (fun t ht => by
        by_cases e2 : t = s
        · subst e2; rw [gset_s]; omega
        · rw [gset_n _ _ e2]; exact hd t ht)
      refine ⟨ic', d', ?_, h3, h4, ?_⟩
      · rw [F_X3_goOn_L2]
        simp (disch := omega) only [↓qM, zq0, zq1, zq2, zq3, zq4, zq5, zq6, zq7, zq8, zq9, zq10, zq11, zq12, zq13, zq14, zq20, zq33, zq48, zq49, zq50, zq57, zq60, zq61, zq78, zq97, zq102, zq126, zq486, zq600, zq2916, zq4200, le_I, lt_I, eq_I, ne_M, lt_M, cl_I, vin_T, gd_tt, nz_T, nI_add, sub_I, m1_M, pk_mul, div_I, Option.bind_some, Option.map_some, if_pos, if_neg, if_true, if_false, Nat.reduceAdd, Nat.reduceMul, Nat.reduceSub, Nat.zero_add, Nat.add_zero, Ret_s, hb.at, hm.at]
        exact e1
      · have h6 := cd_set (c := c) (d := d) (s := s) (v := 0) (by omega)
        have h7 : d s = c s := by omega
        rw [Nat.zero_mul, Nat.add_zero, h7] at h6
        rw [h5, ← h6]
        show cd c (gset d s 0) + wt c s * (c s + 1) = _
        rw [Nat.mul_add, Nat.mul_one, Nat.mul_comm (wt c s)]
        omega
theorem goOn_I {c d : Nat → Nat} {mf ic : Nat → Int32} (hc : sum6 c ≤ 11) (hm : BA c mf) (hb : BA d ic) (hd : ∀ t, t < 5 → d t ≤ c t) : ∃ ic' d', F_X3_goOn ic mf = some ic' ∧ BA d' ic' ∧ (∀ t, t < 5 → d' t ≤ c t) ∧ cd c d' = cd c d + 1 := by
  unfold F_X3_goOn
  exact goOnL_I hc hm 5 0 FU d ic (by omega) (FU_lt (by omega)) hb hd
theorem five {c d : Nat → Nat} (hd : ∀ t, t < 5 → d t ≤ c t) (h : cd c d < wt c 6) : Le6 d c := by
  intro s hs
  by_cases e : s < 5
  · exact hd s e
  · obtain rfl : s = 5 := by omega
    have h1 : cd c d = cdS c d 5 + d 5 * wt c 5 := rfl
    have h2 : wt c 6 = wt c 5 * (c 5 + 1) := rfl
    rcases Nat.lt_or_ge (c 5) (d 5) with h3 | h3
    · have h4 : (c 5 + 1) * wt c 5 ≤ d 5 * wt c 5 := Nat.mul_le_mul_right _ h3
      rw [Nat.mul_comm] at h4
      omega
    · exact h3
theorem prepL_I {c : Nat → Nat} {mf w po : Nat → Int32} (hc : sum6 c ≤ 11) (hm : BA c mf) (hw : WA c 6 w) : ∀ (r k fu : Nat) (d : Nat → Nat) (al ic st : Nat → Int32), k + r = wt c 6 → r < fu → BA d ic → (∀ t, t < 5 → d t ≤ c t) → cd c d = k → TB c k al st → ∃ al' ic' st', F_X3_prepare_L71 po fu al ic mf st w (nI (wt c 6)) (nI k) = some (al', ic', mf, st', w) ∧ TB c (wt c 6) al' st' := by
  have h486 := wt_486 hc
  intro r
  induction r with
  | zero =>
    intro k fu d al ic st h1 h2 hb hd hk ht
    obtain ⟨fu, rfl, hf⟩ := fu1 h2
    obtain rfl : k = wt c 6 := by omega
    refine ⟨al, ic, st, ?_, ht⟩
    rw [F_X3_prepare_L71]
    simp (disch := omega) only [↓qM, zq0, zq1, zq2, zq3, zq4, zq5, zq6, zq7, zq8, zq9, zq10, zq11, zq12, zq13, zq14, zq20, zq33, zq48, zq49, zq50, zq57, zq60, zq61, zq78, zq97, zq102, zq126, zq486, zq600, zq2916, zq4200, le_I, lt_I, eq_I, ne_M, lt_M, cl_I, vin_T, gd_tt, nz_T, nI_add, sub_I, m1_M, pk_mul, div_I, Option.bind_some, Option.map_some, if_pos, if_neg, if_true, if_false, Nat.reduceAdd, Nat.reduceMul, Nat.reduceSub, Nat.zero_add, Nat.add_zero, Ret_s]
  | succ r ih =>
    intro k fu d al ic st h1 h2 hb hd hk ht
    obtain ⟨fu, rfl, hf⟩ := fu1 h2
    subst hk
    obtain ⟨al1, st1, e1, ht1⟩ := fillC_I hc (five hd (by omega)) hb hw ht
    obtain ⟨ic1, d1, e2, hb1, hd1, hk1⟩ := goOn_I hc hm hb hd
    obtain ⟨al2, ic2, st2, e3, ht2⟩ := ih (cd c d + 1) fu d1 al1 ic1 st1 (by omega) (by omega) hb1 hd1 hk1 ht1
    refine ⟨al2, ic2, st2, ?_, ht2⟩
    rw [F_X3_prepare_L71]
    simp (disch := omega) only [↓qM, zq0, zq1, zq2, zq3, zq4, zq5, zq6, zq7, zq8, zq9, zq10, zq11, zq12, zq13, zq14, zq20, zq33, zq48, zq49, zq50, zq57, zq60, zq61, zq78, zq97, zq102, zq126, zq486, zq600, zq2916, zq4200, le_I, lt_I, eq_I, ne_M, lt_M, cl_I, vin_T, gd_tt, nz_T, nI_add, sub_I, m1_M, pk_mul, div_I, Option.bind_some, Option.map_some, if_pos, if_neg, if_true, if_false, Nat.reduceAdd, Nat.reduceMul, Nat.reduceSub, Nat.zero_add, Nat.add_zero, Ret_s, e1, e2, e3]
def TTb (c : Nat → Nat) (al st w : Nat → Int32) : Prop := WA c 6 w ∧ TB c (wt c 6) al st
theorem TTb.ext {c e : Nat → Nat} {al st w : Nat → Int32} (h : TTb c al st w) (hce : ∀ s, s < 6 → c s = e s) : TTb e al st w := by
  have hk : wt c 6 = wt e 6 := wt_ext 6 hce
  refine ⟨fun s hs => by rw [h.1 s hs, wt_ext s (fun t ht => hce t (by omega))], fun d hd hlt => ?_⟩
  have h2 : cd c d = cd e d := cdS_ext 6 hce (fun _ _ => rfl)
  have h3 := h.2 d (fun s hs => by rw [hce s hs]; exact hd s hs) (by omega)
  rw [h2] at h3
  exact h3
/-- what holds of the table between calls -/
def SMI (al mf st w : Nat → Int32) : Prop := ∃ c0 : Nat → Nat, BA c0 mf ∧ (∀ s, s < 6 → c0 s ≤ 11) ∧ ((∀ s, s < 6 → c0 s = 0) ∨ TTb c0 al st w)
theorem prepE0_I {c : Nat → Nat} {al st w o mf ic : Nat → Int32} {fu : Nat} (hc : sum6 c ≤ 11) (hm1 : ∀ t, t < 6 → mf t = nI (c t)) (hi : ∀ t, t < 6 → ic t = nI 0) : ∃ al' ic' mf' st' w', F_X3_prepare_L4 o (fu + 1) al ic mf st w (nI 0) (nI 6) = some (al', ic', mf', st', w') ∧ BA c mf' ∧ TTb c al' st' w' := by
  obtain ⟨w', e1, hw⟩ := weigh_I (w := w) (show BA c mf from hm1)
  have h486 := wt_486 hc
  obtain ⟨al', ic', st', e2, ht⟩ := prepL_I (po := o) hc hm1 hw (wt c 6) 0 FU (fun _ => 0) al ic st (Nat.zero_add _) (FU_lt (by omega)) hi (fun t _ => Nat.zero_le _) (cd_0.mpr rfl) (fun d _ h => absurd h (Nat.not_lt_zero _))
  refine ⟨al', ic', mf, st', w', ?_, hm1, hw, ht⟩
  rw [F_X3_prepare_L4, if_pos (by rw [zq6]; exact Int32.le_refl _), if_pos (by rw [zq0]), e1, Option.bind_some, zq0]
  exact e2
theorem prepE1_I {c : Nat → Nat} {al st w o mf ic : Nat → Int32} {fu : Nat} (hm1 : ∀ t, t < 6 → mf t = nI (c t)) (hT : TTb c al st w) : ∃ al' ic' mf' st' w', F_X3_prepare_L4 o (fu + 1) al ic mf st w (nI 1) (nI 6) = some (al', ic', mf', st', w') ∧ BA c mf' ∧ TTb c al' st' w' := by
  refine ⟨al, ic, mf, st, w, ?_, hm1, hT⟩
  rw [F_X3_prepare_L4]
  simp (disch := omega) only [↓qM, zq0, zq1, zq2, zq3, zq4, zq5, zq6, zq7, zq8, zq9, zq10, zq11, zq12, zq13, zq14, zq20, zq33, zq48, zq49, zq50, zq57, zq60, zq61, zq78, zq97, zq102, zq126, zq486, zq600, zq2916, zq4200, le_I, lt_I, eq_I, ne_M, lt_M, cl_I, vin_T, gd_tt, nz_T, nI_add, sub_I, m1_M, pk_mul, div_I, Option.bind_some, Option.map_some, if_pos, if_neg, if_true, if_false, Nat.reduceAdd, Nat.reduceMul, Nat.reduceSub, Nat.zero_add, Nat.add_zero, Ret_s]
theorem prepO_I {c c0 : Nat → Nat} {al st w o : Nat → Int32} (hc : sum6 c ≤ 11) (h1c : 1 ≤ sum6 c) (hb : BA c o) (h0b : ∀ s, s < 6 → c0 s ≤ 11) (hT : (∀ s, s < 6 → c0 s = 0) ∨ TTb c0 al st w) : ∀ (r i fu y : Nat) (mf ic : Nat → Int32), i + r = 6 → r < fu → (∀ t, t < i → mf t = nI (c t)) → (∀ t, i ≤ t → t < 6 → mf t = nI (c0 t)) → (∀ t, t < i → ic t = nI 0) → (y = 0 ∨ (y = 1 ∧ ∀ t, t < i → c0 t = c t)) → ∃ al' ic' mf' st' w', F_X3_prepare_L4 o fu al ic mf st w (nI y) (nI i) = some (al', ic', mf', st', w') ∧ BA c mf' ∧ TTb c al' st' w' := by
  intro r
  induction r with
  | zero =>
    intro i fu y mf ic h1 h2 hm1 hm2 hi hy
    obtain ⟨fu, rfl, hf⟩ := fu1 h2
    obtain rfl : i = 6 := by omega
    rcases hy with rfl | ⟨rfl, hy⟩
    · exact prepE0_I hc hm1 hi
    · rcases hT with h | h
      · exfalso
        have := (ext6 hy).1
        have h3 : sum6 c0 = 0 := by unfold sum6; rw [h 0 (by omega), h 1 (by omega), h 2 (by omega), h 3 (by omega), h 4 (by omega), h 5 (by omega)]
        omega
      · exact prepE1_I hm1 (h.ext hy)
  | succ r ih =>
    intro i fu y mf ic h1 h2 hm1 hm2 hi hy
    obtain ⟨fu, rfl, hf⟩ := fu1 h2
    have hci := le_sum6 (c := c) (s := i) (by omega)
    have h0i := h0b i (by omega)
    have next : ∀ y2, (y2 = 0 ∨ (y2 = 1 ∧ ∀ t, t < i + 1 → c0 t = c t)) → ∃ al' ic' mf' st' w', F_X3_prepare_L4 o fu al (upd ic i (nI 0)) (upd mf i (nI (c i))) st w (nI y2) (nI (i + 1)) = some (al', ic', mf', st', w') ∧ BA c mf' ∧ TTb c al' st' w' := fun y2 hy2 => ih (i + 1) fu y2 (upd mf i (nI (c i))) (upd ic i (nI 0)) (by omega) (by omega) (fun t ht => by
      by_cases e : t = i
      · subst e; rw [upd_s]
      · rw [upd_n _ _ e]; exact hm1 t (by omega)) (fun t ht ht2 => by rw [upd_n _ _ (by omega)]; exact hm2 t (by omega) ht2) (fun t ht => by
      by_cases e : t = i
      · subst e; rw [upd_s]
      · rw [upd_n _ _ e]; exact hi t (by omega)) hy2
    have em := hm2 i (Nat.le_refl _) (by omega)
    rcases hy with rfl | ⟨rfl, hy⟩
    · obtain ⟨al', ic', mf', st', w', e1, h3⟩ := next 0 (Or.inl rfl)
      refine ⟨al', ic', mf', st', w', ?_, h3⟩
      rw [F_X3_prepare_L4]
      unfold F_X3_prepare_J33
      simp (disch := omega) only [↓qM, zq0, zq1, zq2, zq3, zq4, zq5, zq6, zq7, zq8, zq9, zq10, zq11, zq12, zq13, zq14, zq20, zq33, zq48, zq49, zq50, zq57, zq60, zq61, zq78, zq97, zq102, zq126, zq486, zq600, zq2916, zq4200, le_I, lt_I, eq_I, ne_M, lt_M, cl_I, vin_T, gd_tt, nz_T, nI_add, sub_I, m1_M, pk_mul, div_I, Option.bind_some, Option.map_some, if_pos, if_neg, if_true, if_false, Nat.reduceAdd, Nat.reduceMul, Nat.reduceSub, Nat.zero_add, Nat.add_zero, Ret_s, of_J hb, e1]
    · by_cases e : c0 i = c i
      · obtain ⟨al', ic', mf', st', w', e1, h3⟩ := next 1 (Or.inr ⟨rfl, fun t ht => by
          by_cases e2 : t = i
          · subst e2; exact e
          · exact hy t (by omega)⟩)
        refine ⟨al', ic', mf', st', w', ?_, h3⟩
        rw [F_X3_prepare_L4]
        unfold F_X3_prepare_J33
        simp (disch := omega) only [↓qM, zq0, zq1, zq2, zq3, zq4, zq5, zq6, zq7, zq8, zq9, zq10, zq11, zq12, zq13, zq14, zq20, zq33, zq48, zq49, zq50, zq57, zq60, zq61, zq78, zq97, zq102, zq126, zq486, zq600, zq2916, zq4200, le_I, lt_I, eq_I, ne_M, lt_M, cl_I, vin_T, gd_tt, nz_T, nI_add, sub_I, m1_M, pk_mul, div_I, Option.bind_some, Option.map_some, if_pos, if_neg, if_true, if_false, Nat.reduceAdd, Nat.reduceMul, Nat.reduceSub, Nat.zero_add, Nat.add_zero, Ret_s, of_J hb, em, e1]
      · obtain ⟨al', ic', mf', st', w', e1, h3⟩ := next 0 (Or.inl rfl)
        refine ⟨al', ic', mf', st', w', ?_, h3⟩
        rw [F_X3_prepare_L4]
        unfold F_X3_prepare_J33
        simp (disch := omega) only [↓qM, zq0, zq1, zq2, zq3, zq4, zq5, zq6, zq7, zq8, zq9, zq10, zq11, zq12, zq13, zq14, zq20, zq33, zq48, zq49, zq50, zq57, zq60, zq61, zq78, zq97, zq102, zq126, zq486, zq600, zq2916, zq4200, le_I, lt_I, eq_I, ne_M, lt_M, cl_I, vin_T, gd_tt, nz_T, nI_add, sub_I, m1_M, pk_mul, div_I, Option.bind_some, Option.map_some, if_pos, if_neg, if_true, if_false, Nat.reduceAdd, Nat.reduceMul, Nat.reduceSub, Nat.zero_add, Nat.add_zero, Ret_s, of_J hb, em, e1]
theorem prep_I {c : Nat → Nat} {al ic mf st w o : Nat → Int32} (hS : SMI al mf st w) (hb : BA c o) (hc : sum6 c ≤ 11) (h1c : 1 ≤ sum6 c) : ∃ al' ic' mf' st' w', F_X3_prepare al ic mf st w o = some (al', ic', mf', st', w') ∧ BA c mf' ∧ TTb c al' st' w' := by
  obtain ⟨c0, h0, h0b, hT⟩ := hS
  unfold F_X3_prepare
  exact prepO_I hc h1c hb h0b hT 6 0 FU 1 mf ic (by omega) (FU_lt (by omega)) (fun t ht => absurd ht (by omega)) (fun t _ ht => h0 t ht) (fun t ht => absurd ht (by omega)) (Or.inr ⟨rfl, fun t ht => absurd ht (by omega)⟩)
theorem prepS_I {n : Nat} {g : Nat → Nat} {a o : Nat → Int32} {t : Int32} {al ic mf st w : Nat → Int32} (hn : n ≤ 11) (h0 : 1 ≤ n) (hg : RG n g) (h : RA n g a) (hS : SMI al mf st w) : ∃ o' al' ic' mf' st' w', F_X5_prepareSmooth t o (nI n) a al ic mf st w = some (nI n, o', al', ic', mf', st', w') ∧ BA (cF g n 0) o' ∧ SMI al' mf' st' w' ∧ TTb (cF g n 0) al' st' w' := by
  obtain ⟨o1, e1, hb1⟩ := fill0_I (o := o) (t := t) hn hg h
  have hs : sum6 (cF g n 0) = n := sum6_cnt hg n 0 (by omega)
  obtain ⟨al', ic', mf', st', w', e2, hm, hT⟩ := prep_I (ic := ic) hS hb1 (by omega) (by omega)
  refine ⟨o1, al', ic', mf', st', w', ?_, hb1, ⟨_, hm, fun s hs2 => ?_, Or.inr hT⟩, hT⟩
  · unfold F_X5_prepareSmooth
    simp (disch := omega) only [↓qM, zq0, zq1, zq2, zq3, zq4, zq5, zq6, zq7, zq8, zq9, zq10, zq11, zq12, zq13, zq14, zq20, zq33, zq48, zq49, zq50, zq57, zq60, zq61, zq78, zq97, zq102, zq126, zq486, zq600, zq2916, zq4200, le_I, lt_I, eq_I, ne_M, lt_M, cl_I, vin_T, gd_tt, nz_T, nI_add, sub_I, m1_M, pk_mul, div_I, Option.bind_some, Option.map_some, if_pos, if_neg, if_true, if_false, Nat.reduceAdd, Nat.reduceMul, Nat.reduceSub, Nat.zero_add, Nat.add_zero, Ret_s, e1, e2]
  · have := le_sum6 (c := cF g n 0) hs2; omega
