/-! saved states -/
def bse (S : Nat) : Nat := if S = 6 then 5 else S
def shf (S : Nat) : Nat := if S = 6 then 13 else 0
theorem bse_le {S : Nat} (h : S ≤ 6) : bse S ≤ 5 := by unfold bse; split <;> omega
theorem slot_I {sl : Nat → Int32} {j : Nat} (hj : j < 78) : F_X2_slot sl (nI j) = some (sl j) := by
  unfold F_X2_slot
  simp (disch := omega) only [↓qM, zq0, zq1, zq2, zq3, zq4, zq5, zq6, zq7, zq8, zq9, zq10, zq11, zq12, zq13, zq14, zq20, zq33, zq48, zq49, zq50, zq57, zq60, zq61, zq78, zq97, zq102, zq126, zq486, zq600, zq2916, zq4200, le_I, lt_I, eq_I, ne_M, lt_M, cl_I, vin_T, gd_tt, nz_T, nI_add, sub_I, m1_M, pk_mul, div_I, Option.bind_some, Option.map_some, if_pos, if_neg, if_true, if_false, Nat.reduceAdd, Nat.reduceMul, Nat.reduceSub, Nat.zero_add, Nat.add_zero, Ret_s]
theorem setSlot_I {sl : Nat → Int32} {j : Nat} {x : Int32} (hj : j < 78) : F_X2_setSlot sl (nI j) x = some (upd sl j x) := by
  unfold F_X2_setSlot
  simp (disch := omega) only [↓qM, zq0, zq1, zq2, zq3, zq4, zq5, zq6, zq7, zq8, zq9, zq10, zq11, zq12, zq13, zq14, zq20, zq33, zq48, zq49, zq50, zq57, zq60, zq61, zq78, zq97, zq102, zq126, zq486, zq600, zq2916, zq4200, le_I, lt_I, eq_I, ne_M, lt_M, cl_I, vin_T, gd_tt, nz_T, nI_add, sub_I, m1_M, pk_mul, div_I, Option.bind_some, Option.map_some, if_pos, if_neg, if_true, if_false, Nat.reduceAdd, Nat.reduceMul, Nat.reduceSub, Nat.zero_add, Nat.add_zero, Ret_s]
theorem dropL_I {sl : Nat → Int32} {hd : Int32} : ∀ (d x fu : Nat) (A : Nat → Int32), x + d = 78 → d < fu → 13 ≤ x → (∀ j, j < x - 13 → A j = sl (j + 13)) → (∀ j, x - 13 ≤ j → A j = sl j) → ∃ A', F_X2_dropOldest_L3 fu hd A (nI x) = some (hd - nI 1, A') ∧ ∀ j, j < 65 → A' j = sl (j + 13) := by
  intro d
  induction d with
  | zero =>
    intro x fu A h1 h2 h3 h4 h5
    obtain ⟨fu, rfl, hf⟩ := fu1 h2
    obtain rfl : x = 78 := by omega
    refine ⟨A, ?_, fun j hj => h4 j (by omega)⟩
    rw [F_X2_dropOldest_L3]
    simp (disch := omega) only [↓qM, zq0, zq1, zq2, zq3, zq4, zq5, zq6, zq7, zq8, zq9, zq10, zq11, zq12, zq13, zq14, zq20, zq33, zq48, zq49, zq50, zq57, zq60, zq61, zq78, zq97, zq102, zq126, zq486, zq600, zq2916, zq4200, le_I, lt_I, eq_I, ne_M, lt_M, cl_I, vin_T, gd_tt, nz_T, nI_add, sub_I, m1_M, pk_mul, div_I, Option.bind_some, Option.map_some, if_pos, if_neg, if_true, if_false, Nat.reduceAdd, Nat.reduceMul, Nat.reduceSub, Nat.zero_add, Nat.add_zero, Ret_s]
  | succ d ih =>
    intro x fu A h1 h2 h3 h4 h5
    obtain ⟨fu, rfl, hf⟩ := fu1 h2
    have e1 := slot_I (sl := A) (j := x) (by omega)
    have e2 := setSlot_I (sl := A) (j := x - 13) (x := A x) (by omega)
    obtain ⟨A', e3, h6⟩ := ih (x + 1) fu (upd A (x - 13) (A x)) (by omega) (by omega) (by omega) (fun j hj => by
      by_cases e : j = x - 13
      · subst e; rw [upd_s, h5 x (by omega)]; congr 1; omega
      · rw [upd_n _ _ e]; exact h4 j (by omega)) (fun j hj => by rw [upd_n _ _ (by omega)]; exact h5 j (by omega))
    refine ⟨A', ?_, h6⟩
    rw [F_X2_dropOldest_L3]
    simp (disch := omega) only [↓qM, zq0, zq1, zq2, zq3, zq4, zq5, zq6, zq7, zq8, zq9, zq10, zq11, zq12, zq13, zq14, zq20, zq33, zq48, zq49, zq50, zq57, zq60, zq61, zq78, zq97, zq102, zq126, zq486, zq600, zq2916, zq4200, le_I, lt_I, eq_I, ne_M, lt_M, cl_I, vin_T, gd_tt, nz_T, nI_add, sub_I, m1_M, pk_mul, div_I, Option.bind_some, Option.map_some, if_pos, if_neg, if_true, if_false, Nat.reduceAdd, Nat.reduceMul, Nat.reduceSub, Nat.zero_add, Nat.add_zero, Ret_s, e1, e2, e3]
theorem drop_S {sl : Nat → Int32} {hd : Int32} : ∃ A', F_X2_dropOldest hd sl = some (hd - nI 1, A') ∧ ∀ j, j < 65 → A' j = sl (j + 13) := by
  unfold F_X2_dropOldest
  exact dropL_I 65 13 FU sl (by omega) (FU_lt (by omega)) (by omega) (fun j hj => by omega) (fun j _ => rfl)
theorem keepL_I {n B : Nat} {g : Nat → Nat} {a : Nat → Int32} {x2 hd : Int32} (hn : n ≤ 11) (hB : B ≤ 5) (h : RA n g a) : ∀ (d i fu : Nat) (A : Nat → Int32), i + d = n → d < fu → (∀ j, j < i → A (B * 13 + 2 + j) = nI (g j)) → ∃ A', F_X2_keep_L41 (nI n) a x2 fu hd A (nI (B * 13)) (nI i) = some (hd + nI 1, A') ∧ (∀ j, j < n → A' (B * 13 + 2 + j) = nI (g j)) ∧ ∀ j, j < B * 13 + 2 → A' j = A j := by
  intro d
  induction d with
  | zero =>
    intro i fu A h1 h2 h3
    obtain ⟨fu, rfl, hf⟩ := fu1 h2
    obtain rfl : i = n := by omega
    refine ⟨A, ?_, h3, fun _ _ => rfl⟩
    rw [F_X2_keep_L41]
    simp (disch := omega) only [↓qM, zq0, zq1, zq2, zq3, zq4, zq5, zq6, zq7, zq8, zq9, zq10, zq11, zq12, zq13, zq14, zq20, zq33, zq48, zq49, zq50, zq57, zq60, zq61, zq78, zq97, zq102, zq126, zq486, zq600, zq2916, zq4200, le_I, lt_I, eq_I, ne_M, lt_M, cl_I, vin_T, gd_tt, nz_T, nI_add, sub_I, m1_M, pk_mul, div_I, Option.bind_some, Option.map_some, if_pos, if_neg, if_true, if_false, Nat.reduceAdd, Nat.reduceMul, Nat.reduceSub, Nat.zero_add, Nat.add_zero, Ret_s, len_T]
  | succ d ih =>
    intro i fu A h1 h2 h3
    obtain ⟨fu, rfl, hf⟩ := fu1 h2
    have e1 := setSlot_I (sl := A) (j := B * 13 + 2 + i) (x := nI (g i)) (by omega)
    obtain ⟨A', e2, h4, h5⟩ := ih (i + 1) fu (upd A (B * 13 + 2 + i) (nI (g i))) (by omega) (by omega) (fun j hj => by
      by_cases e : j = i
      · subst e; rw [upd_s]
      · rw [upd_n _ _ (by omega)]; exact h3 j (by omega))
    refine ⟨A', ?_, h4, fun j hj => by rw [h5 j hj, upd_n _ _ (by omega)]⟩
    rw [F_X2_keep_L41]
    simp (disch := omega) only [↓qM, zq0, zq1, zq2, zq3, zq4, zq5, zq6, zq7, zq8, zq9, zq10, zq11, zq12, zq13, zq14, zq20, zq33, zq48, zq49, zq50, zq57, zq60, zq61, zq78, zq97, zq102, zq126, zq486, zq600, zq2916, zq4200, le_I, lt_I, eq_I, ne_M, lt_M, cl_I, vin_T, gd_tt, nz_T, nI_add, sub_I, m1_M, pk_mul, div_I, Option.bind_some, Option.map_some, if_pos, if_neg, if_true, if_false, Nat.reduceAdd, Nat.reduceMul, Nat.reduceSub, Nat.zero_add, Nat.add_zero, Ret_s, len_T, at_J h hn, e1, e2]
theorem keepJ_I {n B : Nat} {g : Nat → Nat} {a sl : Nat → Int32} {x2 : Int32} (hn : n ≤ 11) (hB : B ≤ 5) (h : RA n g a) : ∃ A', F_X2_keep_J13 (nI n) a x2 (nI B) sl = some (nI (B + 1), A') ∧ (∀ j, j < B * 13 → A' j = sl j) ∧ A' (B * 13) = x2 ∧ A' (B * 13 + 1) = nI n ∧ ∀ j, j < n → A' (B * 13 + 2 + j) = nI (g j) := by
  have e1 := setSlot_I (sl := sl) (j := B * 13) (x := x2) (by omega)
  have e2 := setSlot_I (sl := upd sl (B * 13) x2) (j := B * 13 + 1) (x := nI n) (by omega)
  obtain ⟨A', e3, h4, h5⟩ := keepL_I (x2 := x2) (hd := nI B) hn hB h n 0 FU (upd (upd sl (B * 13) x2) (B * 13 + 1) (nI n)) (by omega) (FU_lt (by omega)) (fun j hj => absurd hj (by omega))
  refine ⟨A', ?_, fun j hj => ?_, ?_, ?_, h4⟩
  · unfold F_X2_keep_J13
    rw [nI_add] at e3
    simp (disch := omega) only [↓qM, zq0, zq1, zq2, zq3, zq4, zq5, zq6, zq7, zq8, zq9, zq10, zq11, zq12, zq13, zq14, zq20, zq33, zq48, zq49, zq50, zq57, zq60, zq61, zq78, zq97, zq102, zq126, zq486, zq600, zq2916, zq4200, le_I, lt_I, eq_I, ne_M, lt_M, cl_I, vin_T, gd_tt, nz_T, nI_add, sub_I, m1_M, pk_mul, div_I, Option.bind_some, Option.map_some, if_pos, if_neg, if_true, if_false, Nat.reduceAdd, Nat.reduceMul, Nat.reduceSub, Nat.zero_add, Nat.add_zero, Ret_s, e1, len_T, e2]
    exact e3
  · rw [h5 j (by omega), upd_n _ _ (by omega), upd_n _ _ (by omega)]
  · rw [h5 _ (by omega), upd_n _ _ (by omega), upd_s]
  · rw [h5 _ (by omega), upd_s]
theorem keep_I {n S : Nat} {g : Nat → Nat} {a sl : Nat → Int32} {x2 : Int32} (hn : n ≤ 11) (hS : S ≤ 6) (h : RA n g a) : ∃ A', F_X2_keep (nI S) sl (nI n) a x2 = some (nI (bse S + 1), A') ∧ (∀ j, j < bse S * 13 → A' j = sl (j + shf S)) ∧ A' (bse S * 13) = x2 ∧ A' (bse S * 13 + 1) = nI n ∧ ∀ j, j < n → A' (bse S * 13 + 2 + j) = nI (g j) := by
  unfold bse shf
  by_cases e : S = 6
  · rw [if_pos e, if_pos e]
    subst e
    obtain ⟨A1, e1, h1⟩ := drop_S (sl := sl) (hd := nI 6)
    rw [sub_I (by omega)] at e1
    obtain ⟨A', e2, h2, h3⟩ := keepJ_I (B := 5) (sl := A1) (x2 := x2) hn (by omega) h
    refine ⟨A', ?_, fun j hj => by rw [h2 j hj, h1 j (by omega)], h3⟩
    unfold F_X2_keep
    rw [show (6 : Nat) - 1 = 5 from rfl] at e1
    rw [if_neg (by rw [zq6]; exact Int32.lt_irrefl), e1, Option.bind_some]
    exact e2
  · rw [if_neg e, if_neg e]
    obtain ⟨A', e2, h2, h3⟩ := keepJ_I (B := S) (sl := sl) (x2 := x2) hn (by omega) h
    refine ⟨A', ?_, h2, h3⟩
    unfold F_X2_keep
    rw [if_pos (by rw [zq6, lt_I (by omega) (by omega)]; omega)]
    exact e2
theorem save_I {n S : Nat} {g : Nat → Nat} {a sl : Nat → Int32} {x2 : Int32} (hn : n ≤ 11) (hS : S ≤ 6) (h : RA n g a) : ∃ A', F_X5_save x2 (nI n) a (nI S) sl = some (nI (bse S + 1), A') ∧ (∀ j, j < bse S * 13 → A' j = sl (j + shf S)) ∧ A' (bse S * 13) = x2 ∧ A' (bse S * 13 + 1) = nI n ∧ ∀ j, j < n → A' (bse S * 13 + 2 + j) = nI (g j) := by
  obtain ⟨A', e, h1⟩ := keep_I (sl := sl) (x2 := x2) hn hS h
  refine ⟨A', ?_, h1⟩
  unfold F_X5_save
  simp (disch := omega) only [↓qM, zq0, zq1, zq2, zq3, zq4, zq5, zq6, zq7, zq8, zq9, zq10, zq11, zq12, zq13, zq14, zq20, zq33, zq48, zq49, zq50, zq57, zq60, zq61, zq78, zq97, zq102, zq126, zq486, zq600, zq2916, zq4200, le_I, lt_I, eq_I, ne_M, lt_M, cl_I, vin_T, gd_tt, nz_T, nI_add, sub_I, m1_M, pk_mul, div_I, Option.bind_some, Option.map_some, if_pos, if_neg, if_true, if_false, Nat.reduceAdd, Nat.reduceMul, Nat.reduceSub, Nat.zero_add, Nat.add_zero, Ret_s, e]
theorem rsvL_I {B : Nat} {z : Nat → Int32} (hB : B ≤ 5) : ∀ (d i fu : Nat) (A : Nat → Int32), i + d = 13 → d < fu → (∀ j, j < i → A (13 * B + j) = z j) → ∃ A', F_X6_save_L51 z fu (nI B) A (nI i) = some (nI (B + 1), A') ∧ (∀ j, j < 13 → A' (13 * B + j) = z j) ∧ ∀ j, j < 13 * B → A' j = A j := by
  intro d
  induction d with
  | zero =>
    intro i fu A h1 h2 h3
    obtain ⟨fu, rfl, hf⟩ := fu1 h2
    obtain rfl : i = 13 := by omega
    refine ⟨A, ?_, h3, fun _ _ => rfl⟩
    rw [F_X6_save_L51]
    simp (disch := omega) only [↓qM, zq0, zq1, zq2, zq3, zq4, zq5, zq6, zq7, zq8, zq9, zq10, zq11, zq12, zq13, zq14, zq20, zq33, zq48, zq49, zq50, zq57, zq60, zq61, zq78, zq97, zq102, zq126, zq486, zq600, zq2916, zq4200, le_I, lt_I, eq_I, ne_M, lt_M, cl_I, vin_T, gd_tt, nz_T, nI_add, sub_I, m1_M, pk_mul, div_I, Option.bind_some, Option.map_some, if_pos, if_neg, if_true, if_false, Nat.reduceAdd, Nat.reduceMul, Nat.reduceSub, Nat.zero_add, Nat.add_zero, Ret_s]
  | succ d ih =>
    intro i fu A h1 h2 h3
    obtain ⟨fu, rfl, hf⟩ := fu1 h2
    obtain ⟨A', e2, h4, h5⟩ := ih (i + 1) fu (upd A (13 * B + i) (z i)) (by omega) (by omega) (fun j hj => by
      by_cases e : j = i
      · subst e; rw [upd_s]
      · rw [upd_n _ _ (by omega)]; exact h3 j (by omega))
    refine ⟨A', ?_, h4, fun j hj => by rw [h5 j hj, upd_n _ _ (by omega)]⟩
    rw [F_X6_save_L51]
    simp (disch := omega) only [↓qM, zq0, zq1, zq2, zq3, zq4, zq5, zq6, zq7, zq8, zq9, zq10, zq11, zq12, zq13, zq14, zq20, zq33, zq48, zq49, zq50, zq57, zq60, zq61, zq78, zq97, zq102, zq126, zq486, zq600, zq2916, zq4200, le_I, lt_I, eq_I, ne_M, lt_M, cl_I, vin_T, gd_tt, nz_T, nI_add, sub_I, m1_M, pk_mul, div_I, Option.bind_some, Option.map_some, if_pos, if_neg, if_true, if_false, Nat.reduceAdd, Nat.reduceMul, Nat.reduceSub, Nat.zero_add, Nat.add_zero, Ret_s, e2]
theorem rsvD_I {hi z : Nat → Int32} : ∀ (d x fu : Nat) (A : Nat → Int32), x + d = 78 → d < fu → 13 ≤ x → (∀ j, j < x - 13 → A j = hi (j + 13)) → (∀ j, x - 13 ≤ j → A j = hi j) → ∃ A1 A' : Nat → Int32, F_X6_save_L12 z fu (nI 6) A (nI x) = some (nI 6, A') ∧ (∀ j, j < 65 → A1 j = hi (j + 13)) ∧ (∀ j, j < 13 → A' (13 * 5 + j) = z j) ∧ ∀ j, j < 13 * 5 → A' j = A1 j := by
  intro d
  induction d with
  | zero =>
    intro x fu A h1 h2 h3 h4 h5
    obtain ⟨fu, rfl, hf⟩ := fu1 h2
    obtain rfl : x = 78 := by omega
    obtain ⟨A', e1, h6, h7⟩ := rsvL_I (B := 5) (z := z) (by omega) 13 0 FU A (by omega) (FU_lt (by omega)) (fun j hj => absurd hj (by omega))
    refine ⟨A, A', ?_, fun j hj => h4 j (by omega), h6, h7⟩
    rw [F_X6_save_L12]
    simp (disch := omega) only [↓qM, zq0, zq1, zq2, zq3, zq4, zq5, zq6, zq7, zq8, zq9, zq10, zq11, zq12, zq13, zq14, zq20, zq33, zq48, zq49, zq50, zq57, zq60, zq61, zq78, zq97, zq102, zq126, zq486, zq600, zq2916, zq4200, le_I, lt_I, eq_I, ne_M, lt_M, cl_I, vin_T, gd_tt, nz_T, nI_add, sub_I, m1_M, pk_mul, div_I, Option.bind_some, Option.map_some, if_pos, if_neg, if_true, if_false, Nat.reduceAdd, Nat.reduceMul, Nat.reduceSub, Nat.zero_add, Nat.add_zero, Ret_s]
    exact e1
  | succ d ih =>
    intro x fu A h1 h2 h3 h4 h5
    obtain ⟨fu, rfl, hf⟩ := fu1 h2
    obtain ⟨A1, A', e3, h6⟩ := ih (x + 1) fu (upd A (x - 13) (A x)) (by omega) (by omega) (by omega) (fun j hj => by
      by_cases e : j = x - 13
      · subst e; rw [upd_s, h5 x (by omega)]; congr 1; omega
      · rw [upd_n _ _ e]; exact h4 j (by omega)) (fun j hj => by rw [upd_n _ _ (by omega)]; exact h5 j (by omega))
    refine ⟨A1, A', ?_, h6⟩
    rw [F_X6_save_L12]
    simp (disch := omega) only [↓qM, zq0, zq1, zq2, zq3, zq4, zq5, zq6, zq7, zq8, zq9, zq10, zq11, zq12, zq13, zq14, zq20, zq33, zq48, zq49, zq50, zq57, zq60, zq61, zq78, zq97, zq102, zq126, zq486, zq600, zq2916, zq4200, le_I, lt_I, eq_I, ne_M, lt_M, cl_I, vin_T, gd_tt, nz_T, nI_add, sub_I, m1_M, pk_mul, div_I, Option.bind_some, Option.map_some, if_pos, if_neg, if_true, if_false, Nat.reduceAdd, Nat.reduceMul, Nat.reduceSub, Nat.zero_add, Nat.add_zero, Ret_s, e3]
theorem rsave_I {S : Nat} {hi z : Nat → Int32} (hS : S ≤ 6) : ∃ A', F_X6_save (nI S) hi z = some (nI (bse S + 1), A') ∧ (∀ j, j < 13 * bse S → A' j = hi (j + shf S)) ∧ ∀ j, j < 13 → A' (13 * bse S + j) = z j := by
  unfold bse shf
  by_cases e : S = 6
  · rw [if_pos e, if_pos e]
    subst e
    obtain ⟨A1, A', e1, h1, h2, h3⟩ := rsvD_I (hi := hi) (z := z) 65 13 FU hi (by omega) (FU_lt (by omega)) (by omega) (fun j hj => by omega) (fun j _ => rfl)
    refine ⟨A', ?_, fun j hj => by rw [h3 j hj, h1 j (by omega)], h2⟩
    unfold F_X6_save
    simp (disch := omega) only [↓qM, zq0, zq1, zq2, zq3, zq4, zq5, zq6, zq7, zq8, zq9, zq10, zq11, zq12, zq13, zq14, zq20, zq33, zq48, zq49, zq50, zq57, zq60, zq61, zq78, zq97, zq102, zq126, zq486, zq600, zq2916, zq4200, le_I, lt_I, eq_I, ne_M, lt_M, cl_I, vin_T, gd_tt, nz_T, nI_add, sub_I, m1_M, pk_mul, div_I, Option.bind_some, Option.map_some, if_pos, if_neg, if_true, if_false, Nat.reduceAdd, Nat.reduceMul, Nat.reduceSub, Nat.zero_add, Nat.add_zero, Ret_s]
    exact e1
  · rw [if_neg e, if_neg e]
    obtain ⟨A', e1, h1, h2⟩ := rsvL_I (B := S) (z := z) (by omega) 13 0 FU hi (by omega) (FU_lt (by omega)) (fun j hj => absurd hj (by omega))
    refine ⟨A', ?_, h2, h1⟩
    unfold F_X6_save
    simp (disch := omega) only [↓qM, zq0, zq1, zq2, zq3, zq4, zq5, zq6, zq7, zq8, zq9, zq10, zq11, zq12, zq13, zq14, zq20, zq33, zq48, zq49, zq50, zq57, zq60, zq61, zq78, zq97, zq102, zq126, zq486, zq600, zq2916, zq4200, le_I, lt_I, eq_I, ne_M, lt_M, cl_I, vin_T, gd_tt, nz_T, nI_add, sub_I, m1_M, pk_mul, div_I, Option.bind_some, Option.map_some, if_pos, if_neg, if_true, if_false, Nat.reduceAdd, Nat.reduceMul, Nat.reduceSub, Nat.zero_add, Nat.add_zero, Ret_s]
    exact e1
/-- one saved state, in both -/
def SE (k : Nat) (sl hi : Nat → Int32) : Prop := ∃ (n : Nat) (g : Nat → Nat), 1 ≤ n ∧ n ≤ 11 ∧ RG n g ∧ sl (k * 13 + 1) = nI n ∧ hi (13 * k) = nI n ∧ sl (k * 13) = hi (13 * k + 1) ∧ ∀ i, i < n → sl (k * 13 + 2 + i) = nI (g i) ∧ hi (13 * k + 2 + i) = nI (g i)
def SR (S : Nat) (sl hi : Nat → Int32) : Prop := S ≤ 6 ∧ ∀ k, k < S → SE k sl hi
theorem SR_save {S n : Nat} {g : Nat → Nat} {sl hi sl' hi' z : Nat → Int32} (hR : SR S sl hi) (h0 : 1 ≤ n) (hn : n ≤ 11) (hg : RG n g) (hz : ZI z n g) (h1 : (∀ j, j < bse S * 13 → sl' j = sl (j + shf S)) ∧ sl' (bse S * 13) = z 1 ∧ sl' (bse S * 13 + 1) = nI n ∧ ∀ j, j < n → sl' (bse S * 13 + 2 + j) = nI (g j)) (h2 : (∀ j, j < 13 * bse S → hi' j = hi (j + shf S)) ∧ ∀ j, j < 13 → hi' (13 * bse S + j) = z j) : SR (bse S + 1) sl' hi' := by
  obtain ⟨hS, hE⟩ := hR
  have hB := bse_le hS
  obtain ⟨a1, a2, a3, a4⟩ := h1
  obtain ⟨b1, b2⟩ := h2
  refine ⟨by omega, fun k hk => ?_⟩
  by_cases e : k = bse S
  · subst e
    refine ⟨n, g, h0, hn, hg, a3, ?_, ?_, fun i hi2 => ⟨a4 i hi2, ?_⟩⟩
    · have := b2 0 (by omega); rw [Nat.add_zero] at this; rw [this]; exact hz.n
    · rw [a2, b2 1 (by omega)]
    · have := b2 (2 + i) (by omega)
      rw [← Nat.add_assoc] at this
      rw [this]; exact hz.g i hi2
  · have hs : ∃ m, shf S = 13 * m ∧ k + m < S := by
      unfold shf
      by_cases e6 : S = 6
      · rw [if_pos e6]; unfold bse at hk; rw [if_pos e6] at hk; unfold bse at e; rw [if_pos e6] at e; exact ⟨1, rfl, by omega⟩
      · rw [if_neg e6]; unfold bse at hk; rw [if_neg e6] at hk; unfold bse at e; rw [if_neg e6] at e; exact ⟨0, rfl, by omega⟩
    obtain ⟨m, hm, hkm⟩ := hs
    obtain ⟨n1, g1, c0, c1, c2, c3, c4, c5, c6⟩ := hE (k + m) hkm
    rw [hm] at a1 b1
    refine ⟨n1, g1, c0, c1, c2, ?_, ?_, ?_, fun i hi2 => ?_⟩
    · rw [a1 _ (by omega), show k * 13 + 1 + 13 * m = (k + m) * 13 + 1 by omega]; exact c3
    · rw [b1 _ (by omega), show 13 * k + 13 * m = 13 * (k + m) by omega]; exact c4
    · rw [a1 _ (by omega), b1 _ (by omega), show k * 13 + 13 * m = (k + m) * 13 by omega, show 13 * k + 1 + 13 * m = 13 * (k + m) + 1 by omega]; exact c5
    · obtain ⟨d1, d2⟩ := c6 i hi2
      rw [a1 _ (by omega), b1 _ (by omega), show k * 13 + 2 + i + 13 * m = (k + m) * 13 + 2 + i by omega, show 13 * k + 2 + i + 13 * m = 13 * (k + m) + 2 + i by omega]
      exact ⟨d1, d2⟩
-- undo
theorem restL_I {n k : Nat} {g : Nat → Nat} {sl : Nat → Int32} {hd : Int32} (hn : n ≤ 11) (hk : k ≤ 5) (hsl : ∀ i, i < n → sl (k * 13 + 2 + i) = nI (g i)) : ∀ (d i fu : Nat) (a : Nat → Int32), i + d = n → d < fu → RA i g a → ∃ a', F_X2_restore_L40 sl fu hd (nI i) a (nI (k * 13)) (nI n) (nI i) = some (sl (k * 13), hd, nI n, a') ∧ RA n g a' := by
  intro d
  induction d with
  | zero =>
    intro i fu a h1 h2 ha
    obtain ⟨fu, rfl, hf⟩ := fu1 h2
    obtain rfl : i = n := by omega
    have e1 := slot_I (sl := sl) (j := k * 13) (by omega)
    refine ⟨a, ?_, ha⟩
    rw [F_X2_restore_L40]
    unfold F_X2_restore_J73
    simp (disch := omega) only [↓qM, zq0, zq1, zq2, zq3, zq4, zq5, zq6, zq7, zq8, zq9, zq10, zq11, zq12, zq13, zq14, zq20, zq33, zq48, zq49, zq50, zq57, zq60, zq61, zq78, zq97, zq102, zq126, zq486, zq600, zq2916, zq4200, le_I, lt_I, eq_I, ne_M, lt_M, cl_I, vin_T, gd_tt, nz_T, nI_add, sub_I, m1_M, pk_mul, div_I, Option.bind_some, Option.map_some, if_pos, if_neg, if_true, if_false, Nat.reduceAdd, Nat.reduceMul, Nat.reduceSub, Nat.zero_add, Nat.add_zero, Ret_s, e1]
  | succ d ih =>
    intro i fu a h1 h2 ha
    obtain ⟨fu, rfl, hf⟩ := fu1 h2
    have e1 := slot_I (sl := sl) (j := k * 13 + 2 + i) (by omega)
    rw [hsl i (by omega)] at e1
    have e2 := add_I (n := i) (a := a) (x := nI (g i)) (by omega)
    obtain ⟨a', e3, h3⟩ := ih (i + 1) fu (upd a i (nI (g i))) (by omega) (by omega) (fun j hj => by
      by_cases e : j = i
      · subst e; rw [upd_s]
      · rw [upd_n _ _ e]; exact ha j (by omega))
    refine ⟨a', ?_, h3⟩
    rw [F_X2_restore_L40]
    simp (disch := omega) only [↓qM, zq0, zq1, zq2, zq3, zq4, zq5, zq6, zq7, zq8, zq9, zq10, zq11, zq12, zq13, zq14, zq20, zq33, zq48, zq49, zq50, zq57, zq60, zq61, zq78, zq97, zq102, zq126, zq486, zq600, zq2916, zq4200, le_I, lt_I, eq_I, ne_M, lt_M, cl_I, vin_T, gd_tt, nz_T, nI_add, sub_I, m1_M, pk_mul, div_I, Option.bind_some, Option.map_some, if_pos, if_neg, if_true, if_false, Nat.reduceAdd, Nat.reduceMul, Nat.reduceSub, Nat.zero_add, Nat.add_zero, Ret_s, e1, e2, e3]
theorem rest_I {n k : Nat} {g : Nat → Nat} {sl a : Nat → Int32} {x : Int32} (hn : n ≤ 11) (hk : k ≤ 5) (hsn : sl (k * 13 + 1) = nI n) (hsl : ∀ i, i < n → sl (k * 13 + 2 + i) = nI (g i)) : ∃ a', F_X2_restore (nI (k + 1)) sl x a = some (sl (k * 13), nI k, nI n, a') ∧ RA n g a' := by
  obtain ⟨a', e1, h1⟩ := restL_I (hd := nI k) hn hk hsl n 0 FU a (by omega) (FU_lt (by omega)) (fun i hi => absurd hi (by omega))
  have e2 := slot_I (sl := sl) (j := k * 13 + 1) (by omega)
  rw [hsn] at e2
  refine ⟨a', ?_, h1⟩
  unfold F_X2_restore F_X2_restore_J17
  simp (disch := omega) only [↓qM, zq0, zq1, zq2, zq3, zq4, zq5, zq6, zq7, zq8, zq9, zq10, zq11, zq12, zq13, zq14, zq20, zq33, zq48, zq49, zq50, zq57, zq60, zq61, zq78, zq97, zq102, zq126, zq486, zq600, zq2916, zq4200, le_I, lt_I, eq_I, ne_M, lt_M, cl_I, vin_T, gd_tt, nz_T, nI_add, sub_I, m1_M, pk_mul, div_I, Option.bind_some, Option.map_some, if_pos, if_neg, if_true, if_false, Nat.reduceAdd, Nat.reduceMul, Nat.reduceSub, Nat.zero_add, Nat.add_zero, Ret_s, e2, clr_T, Nat.add_sub_cancel]
  exact e1
theorem runL_I {k : Nat} {th : Int32} {hi : Nat → Int32} (hk : k ≤ 5) : ∀ (d i fu : Nat) (z : Nat → Int32), i + d = 13 → d < fu → (∀ j, j < i → z j = hi (13 * k + j)) → ∃ z', F_X6_undo_L37 hi fu (nI k) th z (nI i) = some (nI k, nI k, th, z') ∧ ∀ j, j < 13 → z' j = hi (13 * k + j) := by
  intro d
  induction d with
  | zero =>
    intro i fu z h1 h2 h3
    obtain ⟨fu, rfl, hf⟩ := fu1 h2
    obtain rfl : i = 13 := by omega
    refine ⟨z, ?_, h3⟩
    rw [F_X6_undo_L37]
    simp (disch := omega) only [↓qM, zq0, zq1, zq2, zq3, zq4, zq5, zq6, zq7, zq8, zq9, zq10, zq11, zq12, zq13, zq14, zq20, zq33, zq48, zq49, zq50, zq57, zq60, zq61, zq78, zq97, zq102, zq126, zq486, zq600, zq2916, zq4200, le_I, lt_I, eq_I, ne_M, lt_M, cl_I, vin_T, gd_tt, nz_T, nI_add, sub_I, m1_M, pk_mul, div_I, Option.bind_some, Option.map_some, if_pos, if_neg, if_true, if_false, Nat.reduceAdd, Nat.reduceMul, Nat.reduceSub, Nat.zero_add, Nat.add_zero, Ret_s]
  | succ d ih =>
    intro i fu z h1 h2 h3
    obtain ⟨fu, rfl, hf⟩ := fu1 h2
    obtain ⟨z', e1, h4⟩ := ih (i + 1) fu (upd z i (hi (13 * k + i))) (by omega) (by omega) (fun j hj => by
      by_cases e : j = i
      · subst e; rw [upd_s]
      · rw [upd_n _ _ e]; exact h3 j (by omega))
    refine ⟨z', ?_, h4⟩
    rw [F_X6_undo_L37]
    simp (disch := omega) only [↓qM, zq0, zq1, zq2, zq3, zq4, zq5, zq6, zq7, zq8, zq9, zq10, zq11, zq12, zq13, zq14, zq20, zq33, zq48, zq49, zq50, zq57, zq60, zq61, zq78, zq97, zq102, zq126, zq486, zq600, zq2916, zq4200, le_I, lt_I, eq_I, ne_M, lt_M, cl_I, vin_T, gd_tt, nz_T, nI_add, sub_I, m1_M, pk_mul, div_I, Option.bind_some, Option.map_some, if_pos, if_neg, if_true, if_false, Nat.reduceAdd, Nat.reduceMul, Nat.reduceSub, Nat.zero_add, Nat.add_zero, Ret_s, e1]
