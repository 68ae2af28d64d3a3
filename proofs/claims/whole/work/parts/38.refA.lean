/-! the reference: its row, counts, rows of what is left, ranks -/
def ZI (z : Nat → Int32) (n : Nat) (g : Nat → Nat) : Prop := z 0 = nI n ∧ ∀ i, i < n → z (2 + i) = nI (g i)
theorem ZI.n {z : Nat → Int32} {n : Nat} {g : Nat → Nat} (h : ZI z n g) : z 0 = nI n := h.1
theorem ZI.g {z : Nat → Int32} {n : Nat} {g : Nat → Nat} (h : ZI z n g) : ∀ i, i < n → z (2 + i) = nI (g i) := h.2
theorem BA.at {c : Nat → Nat} {o : Nat → Int32} (h : BA c o) : ∀ s, s < 6 → o s = nI (c s) := h
theorem RA.at {n : Nat} {g : Nat → Nat} {a : Nat → Int32} (h : RA n g a) : ∀ i, i < n → a i = nI (g i) := h
theorem rem_T {a d : Nat} : nI a - nI (a / d * d) = nI (a % d) := by
  have h1 : a / d * d ≤ a := Nat.div_mul_le_self a d
  have h2 := Nat.div_add_mod a d
  rw [sub_I h1]
  congr 1
  rw [Nat.mul_comm d] at h2
  omega
theorem within1 {x a b : Nat} (h1 : a ≤ x) (h2 : x ≤ b) (hb : b < 2147483648) : F_X6_within (nI x) (nI a) (nI b) = some (nI 1) := by
  unfold F_X6_within
  simp (disch := omega) only [↓qM, zq0, zq1, zq2, zq3, zq4, zq5, zq6, zq7, zq8, zq9, zq10, zq11, zq12, zq13, zq14, zq20, zq33, zq48, zq49, zq50, zq57, zq60, zq61, zq78, zq97, zq102, zq126, zq486, zq600, zq2916, zq4200, le_I, lt_I, eq_I, ne_M, lt_M, cl_I, vin_T, gd_tt, nz_T, nI_add, sub_I, m1_M, pk_mul, div_I, Option.bind_some, Option.map_some, if_pos, if_neg, if_true, if_false, Nat.reduceAdd, Nat.reduceMul, Nat.reduceSub, Nat.zero_add, Nat.add_zero, Ret_s]
theorem within0 {x a b : Nat} (h1 : x < a ∨ b < x) (ha : a < 2147483648) (hx : x < 2147483648) (hb : b < 2147483648) : F_X6_within (nI x) (nI a) (nI b) = some (nI 0) := by
  unfold F_X6_within
  by_cases h : x < a
  · simp (disch := omega) only [↓qM, zq0, zq1, zq2, zq3, zq4, zq5, zq6, zq7, zq8, zq9, zq10, zq11, zq12, zq13, zq14, zq20, zq33, zq48, zq49, zq50, zq57, zq60, zq61, zq78, zq97, zq102, zq126, zq486, zq600, zq2916, zq4200, le_I, lt_I, eq_I, ne_M, lt_M, cl_I, vin_T, gd_tt, nz_T, nI_add, sub_I, m1_M, pk_mul, div_I, Option.bind_some, Option.map_some, if_pos, if_neg, if_true, if_false, Nat.reduceAdd, Nat.reduceMul, Nat.reduceSub, Nat.zero_add, Nat.add_zero, Ret_s]
  · simp (disch := omega) only [↓qM, zq0, zq1, zq2, zq3, zq4, zq5, zq6, zq7, zq8, zq9, zq10, zq11, zq12, zq13, zq14, zq20, zq33, zq48, zq49, zq50, zq57, zq60, zq61, zq78, zq97, zq102, zq126, zq486, zq600, zq2916, zq4200, le_I, lt_I, eq_I, ne_M, lt_M, cl_I, vin_T, gd_tt, nz_T, nI_add, sub_I, m1_M, pk_mul, div_I, Option.bind_some, Option.map_some, if_pos, if_neg, if_true, if_false, Nat.reduceAdd, Nat.reduceMul, Nat.reduceSub, Nat.zero_add, Nat.add_zero, Ret_s]
theorem withinN {x : Int32} {b : Int32} (h1 : x < nI 0) : F_X6_within x (nI 0) b = some (nI 0) := by
  unfold F_X6_within
  simp (disch := omega) only [↓qM, zq0, zq1, zq2, zq3, zq4, zq5, zq6, zq7, zq8, zq9, zq10, zq11, zq12, zq13, zq14, zq20, zq33, zq48, zq49, zq50, zq57, zq60, zq61, zq78, zq97, zq102, zq126, zq486, zq600, zq2916, zq4200, le_I, lt_I, eq_I, ne_M, lt_M, cl_I, vin_T, gd_tt, nz_T, nI_add, sub_I, m1_M, pk_mul, div_I, Option.bind_some, Option.map_some, if_pos, if_neg, if_true, if_false, Nat.reduceAdd, Nat.reduceMul, Nat.reduceSub, Nat.zero_add, Nat.add_zero, Ret_s, h1]
theorem bz1 : bz (nI 1) = true := by decide
theorem bz0 : bz (nI 0) = true := by decide
theorem isPlace1 {z : Nat → Int32} {n p : Nat} {g : Nat → Nat} (hz : ZI z n g) (hp : p < n) (hn : n ≤ 11) : F_X6_isPlace z (nI p) = some (nI 1) := by
  have e := within1 (x := p) (a := 0) (b := n - 1) (by omega) (by omega) (by omega)
  unfold F_X6_isPlace
  simp (disch := omega) only [↓qM, zq0, zq1, zq2, zq3, zq4, zq5, zq6, zq7, zq8, zq9, zq10, zq11, zq12, zq13, zq14, zq20, zq33, zq48, zq49, zq50, zq57, zq60, zq61, zq78, zq97, zq102, zq126, zq486, zq600, zq2916, zq4200, le_I, lt_I, eq_I, ne_M, lt_M, cl_I, vin_T, gd_tt, nz_T, nI_add, sub_I, m1_M, pk_mul, div_I, Option.bind_some, Option.map_some, if_pos, if_neg, if_true, if_false, Nat.reduceAdd, Nat.reduceMul, Nat.reduceSub, Nat.zero_add, Nat.add_zero, Ret_s, hz.n, e, bz1]
theorem isPlace0 {z : Nat → Int32} {n p : Nat} {g : Nat → Nat} (hz : ZI z n g) (hp : n ≤ p) (hp2 : p < 2147483648) (h0 : 1 ≤ n) (hn : n ≤ 11) : F_X6_isPlace z (nI p) = some (nI 0) := by
  have e := within0 (x := p) (a := 0) (b := n - 1) (by omega) (by omega) (by omega) (by omega)
  unfold F_X6_isPlace
  simp (disch := omega) only [↓qM, zq0, zq1, zq2, zq3, zq4, zq5, zq6, zq7, zq8, zq9, zq10, zq11, zq12, zq13, zq14, zq20, zq33, zq48, zq49, zq50, zq57, zq60, zq61, zq78, zq97, zq102, zq126, zq486, zq600, zq2916, zq4200, le_I, lt_I, eq_I, ne_M, lt_M, cl_I, vin_T, gd_tt, nz_T, nI_add, sub_I, m1_M, pk_mul, div_I, Option.bind_some, Option.map_some, if_pos, if_neg, if_true, if_false, Nat.reduceAdd, Nat.reduceMul, Nat.reduceSub, Nat.zero_add, Nat.add_zero, Ret_s, hz.n, e, bz0]
theorem isPlaceN {z : Nat → Int32} {n : Nat} {p : Int32} {g : Nat → Nat} (hz : ZI z n g) (hp : p < nI 0) (h0 : 1 ≤ n) (hn : n ≤ 11) : F_X6_isPlace z p = some (nI 0) := by
  have e := withinN (b := nI (n - 1)) hp
  unfold F_X6_isPlace
  simp (disch := omega) only [↓qM, zq0, zq1, zq2, zq3, zq4, zq5, zq6, zq7, zq8, zq9, zq10, zq11, zq12, zq13, zq14, zq20, zq33, zq48, zq49, zq50, zq57, zq60, zq61, zq78, zq97, zq102, zq126, zq486, zq600, zq2916, zq4200, le_I, lt_I, eq_I, ne_M, lt_M, cl_I, vin_T, gd_tt, nz_T, nI_add, sub_I, m1_M, pk_mul, div_I, Option.bind_some, Option.map_some, if_pos, if_neg, if_true, if_false, Nat.reduceAdd, Nat.reduceMul, Nat.reduceSub, Nat.zero_add, Nat.add_zero, Ret_s, hz.n, e, bz0]
theorem isSign1 {s : Nat} (hs : s < 6) : F_X6_isSign (nI s) = some (nI 1) := by
  have e := within1 (x := s) (a := 0) (b := 5) (by omega) (by omega) (by omega)
  unfold F_X6_isSign
  simp (disch := omega) only [↓qM, zq0, zq1, zq2, zq3, zq4, zq5, zq6, zq7, zq8, zq9, zq10, zq11, zq12, zq13, zq14, zq20, zq33, zq48, zq49, zq50, zq57, zq60, zq61, zq78, zq97, zq102, zq126, zq486, zq600, zq2916, zq4200, le_I, lt_I, eq_I, ne_M, lt_M, cl_I, vin_T, gd_tt, nz_T, nI_add, sub_I, m1_M, pk_mul, div_I, Option.bind_some, Option.map_some, if_pos, if_neg, if_true, if_false, Nat.reduceAdd, Nat.reduceMul, Nat.reduceSub, Nat.zero_add, Nat.add_zero, Ret_s, e, bz1]
theorem isSign0 {s : Nat} (hs : 6 ≤ s) (hs2 : s < 2147483648) : F_X6_isSign (nI s) = some (nI 0) := by
  have e := within0 (x := s) (a := 0) (b := 5) (by omega) (by omega) (by omega) (by omega)
  unfold F_X6_isSign
  simp (disch := omega) only [↓qM, zq0, zq1, zq2, zq3, zq4, zq5, zq6, zq7, zq8, zq9, zq10, zq11, zq12, zq13, zq14, zq20, zq33, zq48, zq49, zq50, zq57, zq60, zq61, zq78, zq97, zq102, zq126, zq486, zq600, zq2916, zq4200, le_I, lt_I, eq_I, ne_M, lt_M, cl_I, vin_T, gd_tt, nz_T, nI_add, sub_I, m1_M, pk_mul, div_I, Option.bind_some, Option.map_some, if_pos, if_neg, if_true, if_false, Nat.reduceAdd, Nat.reduceMul, Nat.reduceSub, Nat.zero_add, Nat.add_zero, Ret_s, e, bz0]
theorem isSignN {s : Int32} (hs : s < nI 0) : F_X6_isSign s = some (nI 0) := by
  have e := withinN (b := nI 5) hs
  unfold F_X6_isSign
  simp (disch := omega) only [↓qM, zq0, zq1, zq2, zq3, zq4, zq5, zq6, zq7, zq8, zq9, zq10, zq11, zq12, zq13, zq14, zq20, zq33, zq48, zq49, zq50, zq57, zq60, zq61, zq78, zq97, zq102, zq126, zq486, zq600, zq2916, zq4200, le_I, lt_I, eq_I, ne_M, lt_M, cl_I, vin_T, gd_tt, nz_T, nI_add, sub_I, m1_M, pk_mul, div_I, Option.bind_some, Option.map_some, if_pos, if_neg, if_true, if_false, Nat.reduceAdd, Nat.reduceMul, Nat.reduceSub, Nat.zero_add, Nat.add_zero, Ret_s, e, bz0]
theorem countI_I {z : Nat → Int32} {n : Nat} {g : Nat → Nat} (hz : ZI z n g) (hn : n ≤ 11) (hg : RG n g) : ∀ (d e fu : Nat) (o : Nat → Int32), e + d = n → d < fu → BA (cnt g 0 e) o → ∃ o', F_X6_countAll_L23 z fu o (nI e) = some o' ∧ BA (cF g n 0) o' := by
  intro d
  induction d with
  | zero =>
    intro e fu o h1 h2 hb
    obtain ⟨fu, rfl, hf⟩ := fu1 h2
    obtain rfl : e = n := by omega
    refine ⟨o, ?_, hb⟩
    rw [F_X6_countAll_L23]
    simp (disch := omega) only [↓qM, zq0, zq1, zq2, zq3, zq4, zq5, zq6, zq7, zq8, zq9, zq10, zq11, zq12, zq13, zq14, zq20, zq33, zq48, zq49, zq50, zq57, zq60, zq61, zq78, zq97, zq102, zq126, zq486, zq600, zq2916, zq4200, le_I, lt_I, eq_I, ne_M, lt_M, cl_I, vin_T, gd_tt, nz_T, nI_add, sub_I, m1_M, pk_mul, div_I, Option.bind_some, Option.map_some, if_pos, if_neg, if_true, if_false, Nat.reduceAdd, Nat.reduceMul, Nat.reduceSub, Nat.zero_add, Nat.add_zero, Ret_s, hz.n]
  | succ d ih =>
    intro e fu o h1 h2 hb
    obtain ⟨fu, rfl, hf⟩ := fu1 h2
    have hge := hg e (by omega)
    obtain ⟨o2, h5, h6⟩ := ih (e + 1) fu (upd o (g e) (nI (cnt g 0 e (g e) + 1))) (by omega) (by omega) ((hb.upd (g e) (cnt g 0 e (g e) + 1)).ext (fun s _ => by rw [cnt_inc, Nat.zero_add]; rfl))
    refine ⟨o2, ?_, h6⟩
    rw [F_X6_countAll_L23]
    simp (disch := omega) only [↓qM, zq0, zq1, zq2, zq3, zq4, zq5, zq6, zq7, zq8, zq9, zq10, zq11, zq12, zq13, zq14, zq20, zq33, zq48, zq49, zq50, zq57, zq60, zq61, zq78, zq97, zq102, zq126, zq486, zq600, zq2916, zq4200, le_I, lt_I, eq_I, ne_M, lt_M, cl_I, vin_T, gd_tt, nz_T, nI_add, sub_I, m1_M, pk_mul, div_I, Option.bind_some, Option.map_some, if_pos, if_neg, if_true, if_false, Nat.reduceAdd, Nat.reduceMul, Nat.reduceSub, Nat.zero_add, Nat.add_zero, Ret_s, hz.n, hz.g, hb.at, h5]
theorem countO_I {z : Nat → Int32} {n : Nat} {g : Nat → Nat} (hz : ZI z n g) (hn : n ≤ 11) (hg : RG n g) : ∀ (d i fu : Nat) (o : Nat → Int32), i + d = 6 → d < fu → (∀ j, j < i → o j = nI 0) → ∃ o', F_X6_countAll_L2 z fu o (nI i) = some o' ∧ BA (cF g n 0) o' := by
  intro d
  induction d with
  | zero =>
    intro i fu o h1 h2 h3
    obtain ⟨fu, rfl, hf⟩ := fu1 h2
    obtain ⟨o', h4, h5⟩ := countI_I hz hn hg n 0 FU o (by omega) (FU_lt (by omega)) (fun s hs => h3 s (by omega))
    refine ⟨o', ?_, h5⟩
    rw [F_X6_countAll_L2]
    simp (disch := omega) only [↓qM, zq0, zq1, zq2, zq3, zq4, zq5, zq6, zq7, zq8, zq9, zq10, zq11, zq12, zq13, zq14, zq20, zq33, zq48, zq49, zq50, zq57, zq60, zq61, zq78, zq97, zq102, zq126, zq486, zq600, zq2916, zq4200, le_I, lt_I, eq_I, ne_M, lt_M, cl_I, vin_T, gd_tt, nz_T, nI_add, sub_I, m1_M, pk_mul, div_I, Option.bind_some, Option.map_some, if_pos, if_neg, if_true, if_false, Nat.reduceAdd, Nat.reduceMul, Nat.reduceSub, Nat.zero_add, Nat.add_zero, Ret_s, h4]
  | succ d ih =>
    intro i fu o h1 h2 h3
    obtain ⟨fu, rfl, hf⟩ := fu1 h2
    obtain ⟨o', h4, h5⟩ := ih (i + 1) fu (upd o i (nI 0)) (by omega) (by omega) (fun j hj => by
      by_cases e : j = i
      · subst e; rw [upd_s]
      · rw [upd_n _ _ e]; exact h3 j (by omega))
    refine ⟨o', ?_, h5⟩
    rw [F_X6_countAll_L2]
    simp (disch := omega) only [↓qM, zq0, zq1, zq2, zq3, zq4, zq5, zq6, zq7, zq8, zq9, zq10, zq11, zq12, zq13, zq14, zq20, zq33, zq48, zq49, zq50, zq57, zq60, zq61, zq78, zq97, zq102, zq126, zq486, zq600, zq2916, zq4200, le_I, lt_I, eq_I, ne_M, lt_M, cl_I, vin_T, gd_tt, nz_T, nI_add, sub_I, m1_M, pk_mul, div_I, Option.bind_some, Option.map_some, if_pos, if_neg, if_true, if_false, Nat.reduceAdd, Nat.reduceMul, Nat.reduceSub, Nat.zero_add, Nat.add_zero, Ret_s, h4]
theorem countAll_I {z o : Nat → Int32} {n : Nat} {g : Nat → Nat} (hz : ZI z n g) (hn : n ≤ 11) (hg : RG n g) : ∃ o', F_X6_countAll o z = some o' ∧ BA (cF g n 0) o' := by
  unfold F_X6_countAll
  exact countO_I hz hn hg 6 0 FU o (by omega) (FU_lt (by omega)) (fun j hj => absurd hj (by omega))
theorem rfactL_I {n : Nat} (hn : n ≤ 11) : ∀ (d k fu : Nat), k + d = n + 1 → d < fu → 2 ≤ k → F_X6_factorial_L4 (nI n) fu (nI (fact (k - 1))) (nI k) = some (nI (fact n)) := by
  intro d
  induction d with
  | zero =>
    intro k fu h1 h2 h3
    obtain ⟨fu, rfl, hf⟩ := fu1 h2
    obtain rfl : k = n + 1 := by omega
    rw [F_X6_factorial_L4, Nat.add_sub_cancel]
    simp (disch := omega) only [↓qM, zq0, zq1, zq2, zq3, zq4, zq5, zq6, zq7, zq8, zq9, zq10, zq11, zq12, zq13, zq14, zq20, zq33, zq48, zq49, zq50, zq57, zq60, zq61, zq78, zq97, zq102, zq126, zq486, zq600, zq2916, zq4200, le_I, lt_I, eq_I, ne_M, lt_M, cl_I, vin_T, gd_tt, nz_T, nI_add, sub_I, m1_M, pk_mul, div_I, Option.bind_some, Option.map_some, if_pos, if_neg, if_true, if_false, Nat.reduceAdd, Nat.reduceMul, Nat.reduceSub, Nat.zero_add, Nat.add_zero, Ret_s]
  | succ d ih =>
    intro k fu h1 h2 h3
    obtain ⟨fu, rfl, hf⟩ := fu1 h2
    have h4 := ih (k + 1) fu (by omega) (by omega) (by omega)
    rw [Nat.add_sub_cancel] at h4
    have h5 : fact (k - 1) * k = fact k := by
      obtain ⟨j, rfl⟩ : ∃ j, k = j + 1 := ⟨k - 1, by omega⟩
      rw [Nat.add_sub_cancel, Nat.mul_comm]; rfl
    rw [F_X6_factorial_L4]
    simp (disch := omega) only [↓qM, zq0, zq1, zq2, zq3, zq4, zq5, zq6, zq7, zq8, zq9, zq10, zq11, zq12, zq13, zq14, zq20, zq33, zq48, zq49, zq50, zq57, zq60, zq61, zq78, zq97, zq102, zq126, zq486, zq600, zq2916, zq4200, le_I, lt_I, eq_I, ne_M, lt_M, cl_I, vin_T, gd_tt, nz_T, nI_add, sub_I, m1_M, pk_mul, div_I, Option.bind_some, Option.map_some, if_pos, if_neg, if_true, if_false, Nat.reduceAdd, Nat.reduceMul, Nat.reduceSub, Nat.zero_add, Nat.add_zero, Ret_s, h5, h4]
theorem rfact_I {n : Nat} (hn : n ≤ 11) : F_X6_factorial (nI n) = some (nI (fact n)) := by
  unfold F_X6_factorial
  by_cases h : n = 0
  · subst h
    obtain ⟨fu, hfu, -⟩ := fu1 (d := 0) (fu := FU) (FU_lt (by omega))
    rw [hfu, F_X6_factorial_L4]
    simp (disch := omega) only [↓qM, zq0, zq1, zq2, zq3, zq4, zq5, zq6, zq7, zq8, zq9, zq10, zq11, zq12, zq13, zq14, zq20, zq33, zq48, zq49, zq50, zq57, zq60, zq61, zq78, zq97, zq102, zq126, zq486, zq600, zq2916, zq4200, le_I, lt_I, eq_I, ne_M, lt_M, cl_I, vin_T, gd_tt, nz_T, nI_add, sub_I, m1_M, pk_mul, div_I, Option.bind_some, Option.map_some, if_pos, if_neg, if_true, if_false, Nat.reduceAdd, Nat.reduceMul, Nat.reduceSub, Nat.zero_add, Nat.add_zero, Ret_s]
    rfl
  · exact rfactL_I hn (n - 1) 2 FU (by omega) (FU_lt (by omega)) (Nat.le_refl 2)
theorem rowsL_I {c : Nat → Nat} {o : Nat → Int32} (h : BA c o) (hc : ∀ s, s < 6 → c s ≤ 11) : ∀ (d s x fu : Nat), s + d = 6 → d < fu → x < 2147483648 → F_X6_rows_L32 o fu (nI x) (nI s) = some (nI (divs c s d x)) := by
  intro d
  induction d with
  | zero =>
    intro s x fu h1 h2 h3
    obtain ⟨fu, rfl, hf⟩ := fu1 h2
    rw [F_X6_rows_L32]
    simp (disch := omega) only [↓qM, zq0, zq1, zq2, zq3, zq4, zq5, zq6, zq7, zq8, zq9, zq10, zq11, zq12, zq13, zq14, zq20, zq33, zq48, zq49, zq50, zq57, zq60, zq61, zq78, zq97, zq102, zq126, zq486, zq600, zq2916, zq4200, le_I, lt_I, eq_I, ne_M, lt_M, cl_I, vin_T, gd_tt, nz_T, nI_add, sub_I, m1_M, pk_mul, div_I, Option.bind_some, Option.map_some, if_pos, if_neg, if_true, if_false, Nat.reduceAdd, Nat.reduceMul, Nat.reduceSub, Nat.zero_add, Nat.add_zero, Ret_s, divs]
  | succ d ih =>
    intro s x fu h1 h2 h3
    obtain ⟨fu, rfl, hf⟩ := fu1 h2
    have hcs := hc s (by omega)
    have hfp := fact_pos (c s)
    have hfb := (fact_11 hcs).1
    have hdv : x / fact (c s) ≤ x := Nat.div_le_self _ _
    have e1 := rfact_I hcs
    have e2 := ih (s + 1) (x / fact (c s)) fu (by omega) (by omega) (by omega)
    rw [F_X6_rows_L32]
    simp (disch := omega) only [↓qM, zq0, zq1, zq2, zq3, zq4, zq5, zq6, zq7, zq8, zq9, zq10, zq11, zq12, zq13, zq14, zq20, zq33, zq48, zq49, zq50, zq57, zq60, zq61, zq78, zq97, zq102, zq126, zq486, zq600, zq2916, zq4200, le_I, lt_I, eq_I, ne_M, lt_M, cl_I, vin_T, gd_tt, nz_T, nI_add, sub_I, m1_M, pk_mul, div_I, Option.bind_some, Option.map_some, if_pos, if_neg, if_true, if_false, Nat.reduceAdd, Nat.reduceMul, Nat.reduceSub, Nat.zero_add, Nat.add_zero, Ret_s, h.at, e1, e2, divs]
theorem rowsS_I {c : Nat → Nat} {o : Nat → Int32} (h : BA c o) (hs : sum6 c ≤ 11) : ∀ (d i fu : Nat), i + d = 6 → d < fu → F_X6_rows_L4 o fu (nI (sumL c 0 i)) (nI i) = some (nI (ways c)) := by
  intro d
  induction d with
  | zero =>
    intro i fu h1 h2
    obtain ⟨fu, rfl, hf⟩ := fu1 h2
    obtain rfl : i = 6 := by omega
    have hb := (fact_11 hs).1
    have e1 := rfact_I hs
    have e2 := rowsL_I h (fun s hs2 => Nat.le_trans (le_sum6 hs2) hs) 6 0 (fact (sum6 c)) FU (by omega) (FU_lt (by omega)) (by omega)
    rw [F_X6_rows_L4, sumL6]
    simp (disch := omega) only [↓qM, zq0, zq1, zq2, zq3, zq4, zq5, zq6, zq7, zq8, zq9, zq10, zq11, zq12, zq13, zq14, zq20, zq33, zq48, zq49, zq50, zq57, zq60, zq61, zq78, zq97, zq102, zq126, zq486, zq600, zq2916, zq4200, le_I, lt_I, eq_I, ne_M, lt_M, cl_I, vin_T, gd_tt, nz_T, nI_add, sub_I, m1_M, pk_mul, div_I, Option.bind_some, Option.map_some, if_pos, if_neg, if_true, if_false, Nat.reduceAdd, Nat.reduceMul, Nat.reduceSub, Nat.zero_add, Nat.add_zero, Ret_s, e1, e2, ways]
  | succ d ih =>
    intro i fu h1 h2
    obtain ⟨fu, rfl, hf⟩ := fu1 h2
    have e := ih (i + 1) fu (by omega) (by omega)
    rw [sumL_last, Nat.zero_add] at e
    rw [F_X6_rows_L4]
    simp (disch := omega) only [↓qM, zq0, zq1, zq2, zq3, zq4, zq5, zq6, zq7, zq8, zq9, zq10, zq11, zq12, zq13, zq14, zq20, zq33, zq48, zq49, zq50, zq57, zq60, zq61, zq78, zq97, zq102, zq126, zq486, zq600, zq2916, zq4200, le_I, lt_I, eq_I, ne_M, lt_M, cl_I, vin_T, gd_tt, nz_T, nI_add, sub_I, m1_M, pk_mul, div_I, Option.bind_some, Option.map_some, if_pos, if_neg, if_true, if_false, Nat.reduceAdd, Nat.reduceMul, Nat.reduceSub, Nat.zero_add, Nat.add_zero, Ret_s, h.at, e]
theorem rows_I {c : Nat → Nat} {o : Nat → Int32} (h : BA c o) (hs : sum6 c ≤ 11) : F_X6_rows o = some (nI (ways c)) := by
  unfold F_X6_rows
  exact rowsS_I h hs 6 0 FU (by omega) (FU_lt (by omega))
theorem rowsWith_I {c : Nat → Nat} {o : Nat → Int32} {s : Nat} (h : BA c o) (hs : sum6 c ≤ 11) (h6 : s < 6) : ∃ o', F_X6_rowsWith o (nI s) = some (nI (wB c s), o') ∧ BA c o' := by
  have hcs : c s ≤ 11 := Nat.le_trans (le_sum6 h6) hs
  by_cases e : c s = 0
  · refine ⟨o, ?_, h⟩
    unfold F_X6_rowsWith
    simp (disch := omega) only [↓qM, zq0, zq1, zq2, zq3, zq4, zq5, zq6, zq7, zq8, zq9, zq10, zq11, zq12, zq13, zq14, zq20, zq33, zq48, zq49, zq50, zq57, zq60, zq61, zq78, zq97, zq102, zq126, zq486, zq600, zq2916, zq4200, le_I, lt_I, eq_I, ne_M, lt_M, cl_I, vin_T, gd_tt, nz_T, nI_add, sub_I, m1_M, pk_mul, div_I, Option.bind_some, Option.map_some, if_pos, if_neg, if_true, if_false, Nat.reduceAdd, Nat.reduceMul, Nat.reduceSub, Nat.zero_add, Nat.add_zero, Ret_s, h.at, wB]
  · have h1 : BA (dec c s) (upd o s (nI (c s - 1))) := h.upd s (c s - 1)
    have hd := sum6_dec (c := c) h6 (by omega)
    have e1 := rows_I h1 (by omega)
    refine ⟨upd (upd o s (nI (c s - 1))) s (nI (c s - 1 + 1)), ?_, (h1.upd s (c s - 1 + 1)).ext (fun t _ => ?_)⟩
    · unfold F_X6_rowsWith
      simp (disch := omega) only [↓qM, zq0, zq1, zq2, zq3, zq4, zq5, zq6, zq7, zq8, zq9, zq10, zq11, zq12, zq13, zq14, zq20, zq33, zq48, zq49, zq50, zq57, zq60, zq61, zq78, zq97, zq102, zq126, zq486, zq600, zq2916, zq4200, le_I, lt_I, eq_I, ne_M, lt_M, cl_I, vin_T, gd_tt, nz_T, nI_add, sub_I, m1_M, pk_mul, div_I, Option.bind_some, Option.map_some, if_pos, if_neg, if_true, if_false, Nat.reduceAdd, Nat.reduceMul, Nat.reduceSub, Nat.zero_add, Nat.add_zero, Ret_s, h.at, e1, upd_s, wB]
    · unfold dec
      by_cases e2 : t = s
      · subst e2; rw [gset_s]; omega
      · rw [gset_n _ _ e2, gset_n _ _ e2]
theorem allRows_I {z o : Nat → Int32} {n : Nat} {g : Nat → Nat} (hz : ZI z n g) (hn : n ≤ 11) (hg : RG n g) : ∃ o', F_X6_allRows o z = some (nI (ways (cF g n 0)), o') ∧ BA (cF g n 0) o' := by
  obtain ⟨o1, e1, h1⟩ := countAll_I (o := o) hz hn hg
  have hs : sum6 (cF g n 0) = n := sum6_cnt hg n 0 (by omega)
  have e2 := rows_I h1 (by omega)
  refine ⟨o1, ?_, h1⟩
  unfold F_X6_allRows
  simp (disch := omega) only [↓qM, zq0, zq1, zq2, zq3, zq4, zq5, zq6, zq7, zq8, zq9, zq10, zq11, zq12, zq13, zq14, zq20, zq33, zq48, zq49, zq50, zq57, zq60, zq61, zq78, zq97, zq102, zq126, zq486, zq600, zq2916, zq4200, le_I, lt_I, eq_I, ne_M, lt_M, cl_I, vin_T, gd_tt, nz_T, nI_add, sub_I, m1_M, pk_mul, div_I, Option.bind_some, Option.map_some, if_pos, if_neg, if_true, if_false, Nat.reduceAdd, Nat.reduceMul, Nat.reduceSub, Nat.zero_add, Nat.add_zero, Ret_s, e1, e2]
theorem copyL_I {z : Nat → Int32} {n : Nat} {g : Nat → Nat} (hz : ZI z n g) (hn : n ≤ 11) : ∀ (d i fu : Nat) (a : Nat → Int32), i + d = n → d < fu → RA i g a → ∃ a', F_X6_copyRow_L2 z fu a (nI i) = some a' ∧ RA n g a' := by
  intro d
  induction d with
  | zero =>
    intro i fu a h1 h2 h
    obtain ⟨fu, rfl, hf⟩ := fu1 h2
    obtain rfl : i = n := by omega
    refine ⟨a, ?_, h⟩
    rw [F_X6_copyRow_L2]
    simp (disch := omega) only [↓qM, zq0, zq1, zq2, zq3, zq4, zq5, zq6, zq7, zq8, zq9, zq10, zq11, zq12, zq13, zq14, zq20, zq33, zq48, zq49, zq50, zq57, zq60, zq61, zq78, zq97, zq102, zq126, zq486, zq600, zq2916, zq4200, le_I, lt_I, eq_I, ne_M, lt_M, cl_I, vin_T, gd_tt, nz_T, nI_add, sub_I, m1_M, pk_mul, div_I, Option.bind_some, Option.map_some, if_pos, if_neg, if_true, if_false, Nat.reduceAdd, Nat.reduceMul, Nat.reduceSub, Nat.zero_add, Nat.add_zero, Ret_s, hz.n]
  | succ d ih =>
    intro i fu a h1 h2 h
    obtain ⟨fu, rfl, hf⟩ := fu1 h2
    have h3 : RA (i + 1) g (upd a i (nI (g i))) := by
      intro j hj
      by_cases e : j = i
      · subst e; rw [upd_s]
      · rw [upd_n _ _ e]; exact h j (by omega)
    obtain ⟨a', h4, h5⟩ := ih (i + 1) fu (upd a i (nI (g i))) (by omega) (by omega) h3
    refine ⟨a', ?_, h5⟩
    rw [F_X6_copyRow_L2]
    simp (disch := omega) only [↓qM, zq0, zq1, zq2, zq3, zq4, zq5, zq6, zq7, zq8, zq9, zq10, zq11, zq12, zq13, zq14, zq20, zq33, zq48, zq49, zq50, zq57, zq60, zq61, zq78, zq97, zq102, zq126, zq486, zq600, zq2916, zq4200, le_I, lt_I, eq_I, ne_M, lt_M, cl_I, vin_T, gd_tt, nz_T, nI_add, sub_I, m1_M, pk_mul, div_I, Option.bind_some, Option.map_some, if_pos, if_neg, if_true, if_false, Nat.reduceAdd, Nat.reduceMul, Nat.reduceSub, Nat.zero_add, Nat.add_zero, Ret_s, hz.n, hz.g, h4]
theorem copyRow_I {z a : Nat → Int32} {n : Nat} {g : Nat → Nat} (hz : ZI z n g) (hn : n ≤ 11) : ∃ a', F_X6_copyRow a z = some a' ∧ RA n g a' := by
  unfold F_X6_copyRow
  exact copyL_I hz hn n 0 FU a (by omega) (FU_lt (by omega)) (fun i hi => absurd hi (by omega))
theorem rlowI_I {n p : Nat} {g : Nat → Nat} {a z : Nat → Int32} {x1 : Int32} {c : Nat → Nat} {K : (Nat → Int32) → Int32 → Int32 → Option (Int32 × (Nat → Int32))} (hn : n ≤ 11) (hg : RG n g) (h : RA n g a) (hp : p < n) (hc : sum6 c ≤ 11) (hcp : 0 < c (g p)) : ∀ (d i fu x : Nat) (o : Nat → Int32), i + d = g p → d < fu → BA c o → ∃ o', F_X6_lowestRank_L16 K a z x1 fu o (nI x) (nI p) (nI i) = K o' (nI (x + sumL (wB c) i d)) (nI (p + 1)) ∧ BA (dec c (g p)) o' := by
  intro d
  induction d with
  | zero =>
    intro i fu x o h1 h2 hb
    obtain ⟨fu, rfl, hf⟩ := fu1 h2
    have hgp := hg p hp
    have hle := le_sum6 (c := c) hgp
    refine ⟨upd o (g p) (nI (c (g p) - 1)), ?_, hb.upd (g p) _⟩
    rw [F_X6_lowestRank_L16]
    simp (disch := omega) only [↓qM, zq0, zq1, zq2, zq3, zq4, zq5, zq6, zq7, zq8, zq9, zq10, zq11, zq12, zq13, zq14, zq20, zq33, zq48, zq49, zq50, zq57, zq60, zq61, zq78, zq97, zq102, zq126, zq486, zq600, zq2916, zq4200, le_I, lt_I, eq_I, ne_M, lt_M, cl_I, vin_T, gd_tt, nz_T, nI_add, sub_I, m1_M, pk_mul, div_I, Option.bind_some, Option.map_some, if_pos, if_neg, if_true, if_false, Nat.reduceAdd, Nat.reduceMul, Nat.reduceSub, Nat.zero_add, Nat.add_zero, Ret_s, h.at, hb.at, sumL]
  | succ d ih =>
    intro i fu x o h1 h2 hb
    obtain ⟨fu, rfl, hf⟩ := fu1 h2
    have hgp := hg p hp
    obtain ⟨o1, e1, hb1⟩ := rowsWith_I (s := i) hb hc (by omega)
    obtain ⟨o2, e2, hb2⟩ := ih (i + 1) fu (x + wB c i) o1 (by omega) (by omega) hb1
    refine ⟨o2, ?_, hb2⟩
    rw [F_X6_lowestRank_L16]
    simp (disch := omega) only [↓qM, zq0, zq1, zq2, zq3, zq4, zq5, zq6, zq7, zq8, zq9, zq10, zq11, zq12, zq13, zq14, zq20, zq33, zq48, zq49, zq50, zq57, zq60, zq61, zq78, zq97, zq102, zq126, zq486, zq600, zq2916, zq4200, le_I, lt_I, eq_I, ne_M, lt_M, cl_I, vin_T, gd_tt, nz_T, nI_add, sub_I, m1_M, pk_mul, div_I, Option.bind_some, Option.map_some, if_pos, if_neg, if_true, if_false, Nat.reduceAdd, Nat.reduceMul, Nat.reduceSub, Nat.zero_add, Nat.add_zero, Ret_s, h.at, e1, e2, sumL, Nat.add_assoc]
theorem rlowL_I {n k : Nat} {g : Nat → Nat} {a z : Nat → Int32} (hn : n ≤ 11) (hg : RG n g) (h : RA n g a) (hk : k ≤ n) : ∀ (d p fu : Nat) (o : Nat → Int32), p + d = k → d < fu → BA (cF g n p) o → ∃ o', F_X6_lowestRank_L8 a z (nI k) fu o (nI (rk g n p)) (nI p) = some (nI (rk g n k), o') ∧ BA (cF g n k) o' := by
  intro d
  induction d with
  | zero =>
    intro p fu o h1 h2 hb
    obtain ⟨fu, rfl, hf⟩ := fu1 h2
    obtain rfl : p = k := by omega
    refine ⟨o, ?_, hb⟩
    rw [F_X6_lowestRank_L8]
    simp (disch := omega) only [↓qM, zq0, zq1, zq2, zq3, zq4, zq5, zq6, zq7, zq8, zq9, zq10, zq11, zq12, zq13, zq14, zq20, zq33, zq48, zq49, zq50, zq57, zq60, zq61, zq78, zq97, zq102, zq126, zq486, zq600, zq2916, zq4200, le_I, lt_I, eq_I, ne_M, lt_M, cl_I, vin_T, gd_tt, nz_T, nI_add, sub_I, m1_M, pk_mul, div_I, Option.bind_some, Option.map_some, if_pos, if_neg, if_true, if_false, Nat.reduceAdd, Nat.reduceMul, Nat.reduceSub, Nat.zero_add, Nat.add_zero, Ret_s]
  | succ d ih =>
    intro p fu o h1 h2 hb
    obtain ⟨fu, rfl, hf⟩ := fu1 h2
    have hgp := hg p (by omega)
    have hs : sum6 (cF g n p) = n - p := sum6_cnt hg (n - p) p (by omega)
    have hcp : 0 < cF g n p (g p) := by unfold cF; rw [show n - p = (n - (p + 1)) + 1 by omega]; exact cnt_pos
    obtain ⟨o1, e1, hb1⟩ := rlowI_I (K := F_X6_lowestRank_L8 a z (nI k) fu) (z := z) (x1 := nI k) hn hg h (p := p) (by omega) (by omega) hcp (g p) 0 FU (rk g n p) o (by omega) (FU_lt (by omega)) hb
    have hb2 : BA (cF g n (p + 1)) o1 := hb1.ext (fun s _ => by
      unfold cF; rw [cnt_dec, show n - (p + 1) + 1 = n - p by omega])
    obtain ⟨o2, e2, hb3⟩ := ih (p + 1) fu o1 (by omega) (by omega) hb2
    refine ⟨o2, ?_, hb3⟩
    rw [show rk g n (p + 1) = rk g n p + rkp g n p by unfold rk; rw [sumL_last, Nat.zero_add]] at e2
    rw [F_X6_lowestRank_L8]
    simp (disch := omega) only [↓qM, zq0, zq1, zq2, zq3, zq4, zq5, zq6, zq7, zq8, zq9, zq10, zq11, zq12, zq13, zq14, zq20, zq33, zq48, zq49, zq50, zq57, zq60, zq61, zq78, zq97, zq102, zq126, zq486, zq600, zq2916, zq4200, le_I, lt_I, eq_I, ne_M, lt_M, cl_I, vin_T, gd_tt, nz_T, nI_add, sub_I, m1_M, pk_mul, div_I, Option.bind_some, Option.map_some, if_pos, if_neg, if_true, if_false, Nat.reduceAdd, Nat.reduceMul, Nat.reduceSub, Nat.zero_add, Nat.add_zero, Ret_s, e1]
    exact e2
/-- of the row in 'other', of the same signs -/
theorem rlow_I {n k : Nat} {g g2 : Nat → Nat} {a z o : Nat → Int32} (hz : ZI z n g2) (hn : n ≤ 11) (hg2 : RG n g2) (hg : RG n g) (h : RA n g a) (hc : ∀ s, s < 6 → cF g2 n 0 s = cF g n 0 s) (hk : k ≤ n) : ∃ o', F_X6_lowestRank o a z (nI k) = some (nI (rk g n k), o') ∧ BA (cF g n k) o' := by
  obtain ⟨o1, e1, h1⟩ := countAll_I (o := o) hz hn hg2
  obtain ⟨o2, e2, h2⟩ := rlowL_I (z := z) hn hg h hk k 0 FU o1 (by omega) (FU_lt (by omega)) (h1.ext hc)
  refine ⟨o2, ?_, h2⟩
  unfold F_X6_lowestRank
  simp (disch := omega) only [↓qM, zq0, zq1, zq2, zq3, zq4, zq5, zq6, zq7, zq8, zq9, zq10, zq11, zq12, zq13, zq14, zq20, zq33, zq48, zq49, zq50, zq57, zq60, zq61, zq78, zq97, zq102, zq126, zq486, zq600, zq2916, zq4200, le_I, lt_I, eq_I, ne_M, lt_M, cl_I, vin_T, gd_tt, nz_T, nI_add, sub_I, m1_M, pk_mul, div_I, Option.bind_some, Option.map_some, if_pos, if_neg, if_true, if_false, Nat.reduceAdd, Nat.reduceMul, Nat.reduceSub, Nat.zero_add, Nat.add_zero, Ret_s, e1]
  exact e2
theorem rankOther_I {n : Nat} {g g2 : Nat → Nat} {a z o : Nat → Int32} (hz : ZI z n g2) (hn : n ≤ 11) (hg2 : RG n g2) (hg : RG n g) (h : RA n g a) (hc : ∀ s, s < 6 → cF g2 n 0 s = cF g n 0 s) : ∃ o', F_X6_rankOfOther o a z = some (nI (rk g n n), o') := by
  obtain ⟨o1, e1, h1⟩ := rlow_I (o := o) (k := n) hz hn hg2 hg h hc (Nat.le_refl n)
  refine ⟨o1, ?_⟩
  unfold F_X6_rankOfOther
  simp (disch := omega) only [↓qM, zq0, zq1, zq2, zq3, zq4, zq5, zq6, zq7, zq8, zq9, zq10, zq11, zq12, zq13, zq14, zq20, zq33, zq48, zq49, zq50, zq57, zq60, zq61, zq78, zq97, zq102, zq126, zq486, zq600, zq2916, zq4200, le_I, lt_I, eq_I, ne_M, lt_M, cl_I, vin_T, gd_tt, nz_T, nI_add, sub_I, m1_M, pk_mul, div_I, Option.bind_some, Option.map_some, if_pos, if_neg, if_true, if_false, Nat.reduceAdd, Nat.reduceMul, Nat.reduceSub, Nat.zero_add, Nat.add_zero, Ret_s, hz.n, e1]
theorem rankNow_I {n : Nat} {g : Nat → Nat} {a z o : Nat → Int32} (hz : ZI z n g) (hn : n ≤ 11) (hg : RG n g) : ∃ o' a', F_X6_rankNow o a z = some (nI (rk g n n), o', a') := by
  obtain ⟨a1, e1, h1⟩ := copyRow_I (a := a) hz hn
  obtain ⟨o1, e2⟩ := rankOther_I (o := o) hz hn hg hg h1 (fun _ _ => rfl)
  refine ⟨o1, a1, ?_⟩
  unfold F_X6_rankNow
  simp (disch := omega) only [↓qM, zq0, zq1, zq2, zq3, zq4, zq5, zq6, zq7, zq8, zq9, zq10, zq11, zq12, zq13, zq14, zq20, zq33, zq48, zq49, zq50, zq57, zq60, zq61, zq78, zq97, zq102, zq126, zq486, zq600, zq2916, zq4200, le_I, lt_I, eq_I, ne_M, lt_M, cl_I, vin_T, gd_tt, nz_T, nI_add, sub_I, m1_M, pk_mul, div_I, Option.bind_some, Option.map_some, if_pos, if_neg, if_true, if_false, Nat.reduceAdd, Nat.reduceMul, Nat.reduceSub, Nat.zero_add, Nat.add_zero, Ret_s, e1, e2]
