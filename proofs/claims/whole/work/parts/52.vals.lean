/-! values of looks, both sides -/
theorem sgn_V {n p : Nat} {g : Nat → Nat} {rs : Nat → Int32} (hn : n ≤ 11) (hr : RA n g rs) (hp : p < n) : F_X5_sign (nI n) rs (nI p) = some (nI (g p)) := by
  have e4 := place_I hp hn
  unfold F_X5_sign
  simp (disch := omega) only [↓qM, zq0, zq1, zq2, zq3, zq4, zq5, zq6, zq7, zq8, zq9, zq10, zq11, zq12, zq13, zq14, zq20, zq33, zq48, zq49, zq50, zq57, zq60, zq61, zq78, zq97, zq102, zq126, zq486, zq600, zq2916, zq4200, le_I, lt_I, eq_I, ne_M, lt_M, cl_I, vin_T, gd_tt, nz_T, nI_add, sub_I, m1_M, pk_mul, div_I, Option.bind_some, Option.map_some, if_pos, if_neg, if_true, if_false, Nat.reduceAdd, Nat.reduceMul, Nat.reduceSub, Nat.zero_add, Nat.add_zero, Ret_s, e4, at_J hr hn]
/-- the digit -/
def dgt (g : Nat → Nat) (n p : Nat) : Nat := sumL (fun t => b2n (0 < cF g n p t)) 0 (g p)
theorem dig_V {n p : Nat} {g : Nat → Nat} {a o : Nat → Int32} {t : Int32} (hn : n ≤ 11) (hg : RG n g) (h : RA n g a) (hp : p < n) : Ret (F_X5_digit t o (nI n) a (nI p)) (fun r => r.1 = nI (dgt g n p)) := digit_I hn hg h hp
theorem rdig_V {n p : Nat} {g : Nat → Nat} {z : Nat → Int32} (hz : ZI z n g) (hn : n ≤ 11) (hg : RG n g) (hp : p < n) : F_X6_digitAt z (nI p) = some (nI (dgt g n p)) := rdigit_I hn hg hz hp
theorem many_V {n s : Nat} {g : Nat → Nat} {a o : Nat → Int32} {t : Int32} (hn : n ≤ 11) (hg : RG n g) (h : RA n g a) (hs : s < 6) : Ret (F_X5_many t o (nI n) a (nI s)) (fun r => r.1 = nI (cF g n 0 s)) := by
  obtain ⟨o1, e1, h1⟩ := fill0_I (o := o) (t := t) hn hg h
  have e4 := sign_I hs
  unfold F_X5_many
  simp (disch := omega) only [↓qM, zq0, zq1, zq2, zq3, zq4, zq5, zq6, zq7, zq8, zq9, zq10, zq11, zq12, zq13, zq14, zq20, zq33, zq48, zq49, zq50, zq57, zq60, zq61, zq78, zq97, zq102, zq126, zq486, zq600, zq2916, zq4200, le_I, lt_I, eq_I, ne_M, lt_M, cl_I, vin_T, gd_tt, nz_T, nI_add, sub_I, m1_M, pk_mul, div_I, Option.bind_some, Option.map_some, if_pos, if_neg, if_true, if_false, Nat.reduceAdd, Nat.reduceMul, Nat.reduceSub, Nat.zero_add, Nat.add_zero, Ret_s, e4, e1, of_J h1]
theorem rmany_V {n s : Nat} {g : Nat → Nat} {z lf : Nat → Int32} (hz : ZI z n g) (hn : n ≤ 11) (hg : RG n g) (hs : s < 6) : Ret (F_X6_manyOf lf z (nI s)) (fun r => r.1 = nI (cF g n 0 s)) := by
  obtain ⟨o1, e1, h1⟩ := countAll_I (o := lf) hz hn hg
  unfold F_X6_manyOf
  simp (disch := omega) only [↓qM, zq0, zq1, zq2, zq3, zq4, zq5, zq6, zq7, zq8, zq9, zq10, zq11, zq12, zq13, zq14, zq20, zq33, zq48, zq49, zq50, zq57, zq60, zq61, zq78, zq97, zq102, zq126, zq486, zq600, zq2916, zq4200, le_I, lt_I, eq_I, ne_M, lt_M, cl_I, vin_T, gd_tt, nz_T, nI_add, sub_I, m1_M, pk_mul, div_I, Option.bind_some, Option.map_some, if_pos, if_neg, if_true, if_false, Nat.reduceAdd, Nat.reduceMul, Nat.reduceSub, Nat.zero_add, Nat.add_zero, Ret_s, e1, h1.at]
/-- a number of a block -/
def blk (g : Nat → Nat) (n k w : Nat) : Nat := if w = 0 then rk g n k else if w = 1 then ways (cF g n k) else swn g n k
theorem three {w : Nat} (h : w < 3) : w = 0 ∨ w = 1 ∨ w = 2 := by omega
theorem blk_V {n k w : Nat} {g : Nat → Nat} {a o : Nat → Int32} {t : Int32} {al ic mf st wg : Nat → Int32} (hn : n ≤ 11) (h0 : 1 ≤ n) (hg : RG n g) (h : RA n g a) (hS : SMI al mf st wg) (hk : k ≤ n) (hw : w < 3) : Ret (F_X5_block t o (nI n) a al ic mf st wg (nI k) (nI w)) (fun r => r.1 = nI (blk g n k w) ∧ SMI r.2.2.2.1 r.2.2.2.2.2.1 r.2.2.2.2.2.2.1 r.2.2.2.2.2.2.2) := by
  unfold F_X5_block F_X5_block_J29
  rcases three hw with rfl | rfl | rfl
  · obtain ⟨o1, e1, -⟩ := low_I (t := t) (o := o) hn hg h hk
    simp (disch := omega) only [↓qM, zq0, zq1, zq2, zq3, zq4, zq5, zq6, zq7, zq8, zq9, zq10, zq11, zq12, zq13, zq14, zq20, zq33, zq48, zq49, zq50, zq57, zq60, zq61, zq78, zq97, zq102, zq126, zq486, zq600, zq2916, zq4200, le_I, lt_I, eq_I, ne_M, lt_M, cl_I, vin_T, gd_tt, nz_T, nI_add, sub_I, m1_M, pk_mul, div_I, Option.bind_some, Option.map_some, if_pos, if_neg, if_true, if_false, Nat.reduceAdd, Nat.reduceMul, Nat.reduceSub, Nat.zero_add, Nat.add_zero, Ret_s, len_T, need1, e1]
    exact ⟨rfl, hS⟩
  · obtain ⟨o1, e1, -⟩ := blockSize_I (t := t) (o := o) hn hg h hk
    simp (disch := omega) only [↓qM, zq0, zq1, zq2, zq3, zq4, zq5, zq6, zq7, zq8, zq9, zq10, zq11, zq12, zq13, zq14, zq20, zq33, zq48, zq49, zq50, zq57, zq60, zq61, zq78, zq97, zq102, zq126, zq486, zq600, zq2916, zq4200, le_I, lt_I, eq_I, ne_M, lt_M, cl_I, vin_T, gd_tt, nz_T, nI_add, sub_I, m1_M, pk_mul, div_I, Option.bind_some, Option.map_some, if_pos, if_neg, if_true, if_false, Nat.reduceAdd, Nat.reduceMul, Nat.reduceSub, Nat.zero_add, Nat.add_zero, Ret_s, len_T, need1, e1]
    exact ⟨rfl, hS⟩
  · obtain ⟨r, e1, h1⟩ := inBlock_I (t := t) (o := o) (ic := ic) hn h0 hg h hS hk
    simp (disch := omega) only [↓qM, zq0, zq1, zq2, zq3, zq4, zq5, zq6, zq7, zq8, zq9, zq10, zq11, zq12, zq13, zq14, zq20, zq33, zq48, zq49, zq50, zq57, zq60, zq61, zq78, zq97, zq102, zq126, zq486, zq600, zq2916, zq4200, le_I, lt_I, eq_I, ne_M, lt_M, cl_I, vin_T, gd_tt, nz_T, nI_add, sub_I, m1_M, pk_mul, div_I, Option.bind_some, Option.map_some, if_pos, if_neg, if_true, if_false, Nat.reduceAdd, Nat.reduceMul, Nat.reduceSub, Nat.zero_add, Nat.add_zero, Ret_s, len_T, need1, e1]
    exact h1
theorem rblk_V {n k w : Nat} {cd : Int32} {g : Nat → Nat} {z lf a sm wts : Nat → Int32} (hz : ZI z n g) (hn : n ≤ 11) (hg : RG n g) (hk : k ≤ n) (hw : w < 3) : Ret (F_X6_blockNow cd lf a sm wts z (nI k) (nI w)) (fun r => r.1 = nI (blk g n k w)) := by
  rcases three hw with rfl | rfl | rfl
  · exact rblock0_I hn hg hz hk
  · exact rblock1_I hn hg hz hk
  · obtain ⟨r, e1, h1⟩ := rsw_I (cc := cd) (lf := lf) (sm := sm) (w := wts) hz hn hg hk
    unfold F_X6_blockNow
    simp (disch := omega) only [↓qM, zq0, zq1, zq2, zq3, zq4, zq5, zq6, zq7, zq8, zq9, zq10, zq11, zq12, zq13, zq14, zq20, zq33, zq48, zq49, zq50, zq57, zq60, zq61, zq78, zq97, zq102, zq126, zq486, zq600, zq2916, zq4200, le_I, lt_I, eq_I, ne_M, lt_M, cl_I, vin_T, gd_tt, nz_T, nI_add, sub_I, m1_M, pk_mul, div_I, Option.bind_some, Option.map_some, if_pos, if_neg, if_true, if_false, Nat.reduceAdd, Nat.reduceMul, Nat.reduceSub, Nat.zero_add, Nat.add_zero, Ret_s, e1]
    exact h1
/-- what count answers -/
def cnv (g : Nat → Nat) (n : Nat) (gone : Int32) (S : Nat) (w : Nat) : Int32 :=
  if w = 0 then nI n else if w = 1 then nI (sumL (fun s => b2n (0 < cF g n 0 s)) 0 6) else if w = 2 then nI (ways (cF g n 0)) else if w = 3 then nI (rk g n n) else if w = 4 then nI (SM (cF g n 0) 6) else if w = 5 then nI (srk g n n 0 6) else if w = 6 then nI (b2n (smooth g n = true)) else if w = 7 then nI (ginv g n) else if w = 8 then nI (sumL (gdes g n) 0 n) else if w = 9 then nI (sumL (fun p => gdes g n p * (p + 1)) 0 n) else if w = 10 then nI (rk (grev 11 g 0 (n - 1)) n n) else if w = 11 then nI (rk g n n) else if w = 12 then gone else nI S
theorem bb (b : Nat) (h : b ≤ 1) : (if nI b = nI 0 then nI 0 else nI 1) = nI b := by
  by_cases e : b = 0
  · subst e; rfl
  · have : b = 1 := by omega
    subst this; rfl
theorem smo_V {n : Nat} {g : Nat → Nat} {rs : Nat → Int32} (hn : n ≤ 11) (hg : RG n g) (hr : RA n g rs) : F_X1_isSmooth (nI n) rs (nI n) = some (nI (b2n (smooth g n = true))) := by
  rw [isSmooth_I hn hg hr (Nat.le_refl n)]
  by_cases e : smooth g n = true
  · rw [if_pos e, b2n_t e]; rfl
  · rw [if_neg e, b2n_f e]; rfl
theorem held_T (x : Int32) : F_X2_held x = some x := Eq.trans (b := some x) rfl rfl
theorem cnt_V0 {n S : Nat} {g : Nat → Nat} {a o ws : Nat → Int32} {t wl gone : Int32} {al ic mf st wg : Nat → Int32} (hn : n ≤ 11) (h0 : 1 ≤ n) (hg : RG n g) (h : RA n g a) (hS : SMI al mf st wg) : Ret (F_X5_count gone t o (nI n) a (nI S) al ic mf st wg wl ws (nI 0)) (fun r => r.1 = cnv g n gone S 0 ∧ SMI r.2.2.2.1 r.2.2.2.2.2.1 r.2.2.2.2.2.2.1 r.2.2.2.2.2.2.2.1) := by
  unfold F_X5_count F_X5_count_J15 cnv
  simp (disch := omega) only [↓qM, zq0, zq1, zq2, zq3, zq4, zq5, zq6, zq7, zq8, zq9, zq10, zq11, zq12, zq13, zq14, zq20, zq33, zq48, zq49, zq50, zq57, zq60, zq61, zq78, zq97, zq102, zq126, zq486, zq600, zq2916, zq4200, le_I, lt_I, eq_I, ne_M, lt_M, cl_I, vin_T, gd_tt, nz_T, nI_add, sub_I, m1_M, pk_mul, div_I, Option.bind_some, Option.map_some, if_pos, if_neg, if_true, if_false, Nat.reduceAdd, Nat.reduceMul, Nat.reduceSub, Nat.zero_add, Nat.add_zero, Ret_s, need1, len_T]
  exact ⟨(by first | rfl | trivial), hS⟩
theorem cnt_V1 {n S : Nat} {g : Nat → Nat} {a o ws : Nat → Int32} {t wl gone : Int32} {al ic mf st wg : Nat → Int32} (hn : n ≤ 11) (h0 : 1 ≤ n) (hg : RG n g) (h : RA n g a) (hS : SMI al mf st wg) : Ret (F_X5_count gone t o (nI n) a (nI S) al ic mf st wg wl ws (nI 1)) (fun r => r.1 = cnv g n gone S 1 ∧ SMI r.2.2.2.1 r.2.2.2.2.2.1 r.2.2.2.2.2.2.1 r.2.2.2.2.2.2.2.1) := by
  obtain ⟨r, e1, h1⟩ := unlikeS_I (t := t) (o := o) hn hg h
  unfold F_X5_count F_X5_count_J15 cnv
  simp (disch := omega) only [↓qM, zq0, zq1, zq2, zq3, zq4, zq5, zq6, zq7, zq8, zq9, zq10, zq11, zq12, zq13, zq14, zq20, zq33, zq48, zq49, zq50, zq57, zq60, zq61, zq78, zq97, zq102, zq126, zq486, zq600, zq2916, zq4200, le_I, lt_I, eq_I, ne_M, lt_M, cl_I, vin_T, gd_tt, nz_T, nI_add, sub_I, m1_M, pk_mul, div_I, Option.bind_some, Option.map_some, if_pos, if_neg, if_true, if_false, Nat.reduceAdd, Nat.reduceMul, Nat.reduceSub, Nat.zero_add, Nat.add_zero, Ret_s, need1, e1, h1]
  exact ⟨(by first | rfl | trivial), hS⟩
theorem cnt_V2 {n S : Nat} {g : Nat → Nat} {a o ws : Nat → Int32} {t wl gone : Int32} {al ic mf st wg : Nat → Int32} (hn : n ≤ 11) (h0 : 1 ≤ n) (hg : RG n g) (h : RA n g a) (hS : SMI al mf st wg) : Ret (F_X5_count gone t o (nI n) a (nI S) al ic mf st wg wl ws (nI 2)) (fun r => r.1 = cnv g n gone S 2 ∧ SMI r.2.2.2.1 r.2.2.2.2.2.1 r.2.2.2.2.2.2.1 r.2.2.2.2.2.2.2.1) := by
  obtain ⟨o1, e1, -⟩ := all_I (t := t) (o := o) hn hg h
  unfold F_X5_count F_X5_count_J15 cnv
  simp (disch := omega) only [↓qM, zq0, zq1, zq2, zq3, zq4, zq5, zq6, zq7, zq8, zq9, zq10, zq11, zq12, zq13, zq14, zq20, zq33, zq48, zq49, zq50, zq57, zq60, zq61, zq78, zq97, zq102, zq126, zq486, zq600, zq2916, zq4200, le_I, lt_I, eq_I, ne_M, lt_M, cl_I, vin_T, gd_tt, nz_T, nI_add, sub_I, m1_M, pk_mul, div_I, Option.bind_some, Option.map_some, if_pos, if_neg, if_true, if_false, Nat.reduceAdd, Nat.reduceMul, Nat.reduceSub, Nat.zero_add, Nat.add_zero, Ret_s, need1, e1]
  exact ⟨(by first | rfl | trivial), hS⟩
theorem cnt_V3 {n S : Nat} {g : Nat → Nat} {a o ws : Nat → Int32} {t wl gone : Int32} {al ic mf st wg : Nat → Int32} (hn : n ≤ 11) (h0 : 1 ≤ n) (hg : RG n g) (h : RA n g a) (hS : SMI al mf st wg) : Ret (F_X5_count gone t o (nI n) a (nI S) al ic mf st wg wl ws (nI 3)) (fun r => r.1 = cnv g n gone S 3 ∧ SMI r.2.2.2.1 r.2.2.2.2.2.1 r.2.2.2.2.2.2.1 r.2.2.2.2.2.2.2.1) := by
  obtain ⟨o1, e1⟩ := rankOf_I (t := t) (o := o) hn hg h
  unfold F_X5_count F_X5_count_J15 cnv
  simp (disch := omega) only [↓qM, zq0, zq1, zq2, zq3, zq4, zq5, zq6, zq7, zq8, zq9, zq10, zq11, zq12, zq13, zq14, zq20, zq33, zq48, zq49, zq50, zq57, zq60, zq61, zq78, zq97, zq102, zq126, zq486, zq600, zq2916, zq4200, le_I, lt_I, eq_I, ne_M, lt_M, cl_I, vin_T, gd_tt, nz_T, nI_add, sub_I, m1_M, pk_mul, div_I, Option.bind_some, Option.map_some, if_pos, if_neg, if_true, if_false, Nat.reduceAdd, Nat.reduceMul, Nat.reduceSub, Nat.zero_add, Nat.add_zero, Ret_s, need1, e1]
  exact ⟨(by first | rfl | trivial), hS⟩
theorem cnt_V4 {n S : Nat} {g : Nat → Nat} {a o ws : Nat → Int32} {t wl gone : Int32} {al ic mf st wg : Nat → Int32} (hn : n ≤ 11) (h0 : 1 ≤ n) (hg : RG n g) (h : RA n g a) (hS : SMI al mf st wg) : Ret (F_X5_count gone t o (nI n) a (nI S) al ic mf st wg wl ws (nI 4)) (fun r => r.1 = cnv g n gone S 4 ∧ SMI r.2.2.2.1 r.2.2.2.2.2.1 r.2.2.2.2.2.2.1 r.2.2.2.2.2.2.2.1) := by
  obtain ⟨r, e1, h1, h2⟩ := allSmooth_I (t := t) (o := o) (ic := ic) hn h0 hg h hS
  unfold F_X5_count F_X5_count_J15 cnv
  simp (disch := omega) only [↓qM, zq0, zq1, zq2, zq3, zq4, zq5, zq6, zq7, zq8, zq9, zq10, zq11, zq12, zq13, zq14, zq20, zq33, zq48, zq49, zq50, zq57, zq60, zq61, zq78, zq97, zq102, zq126, zq486, zq600, zq2916, zq4200, le_I, lt_I, eq_I, ne_M, lt_M, cl_I, vin_T, gd_tt, nz_T, nI_add, sub_I, m1_M, pk_mul, div_I, Option.bind_some, Option.map_some, if_pos, if_neg, if_true, if_false, Nat.reduceAdd, Nat.reduceMul, Nat.reduceSub, Nat.zero_add, Nat.add_zero, Ret_s, need1, e1, h1]
  exact ⟨(by first | rfl | trivial), h2⟩
theorem cnt_V5 {n S : Nat} {g : Nat → Nat} {a o ws : Nat → Int32} {t wl gone : Int32} {al ic mf st wg : Nat → Int32} (hn : n ≤ 11) (h0 : 1 ≤ n) (hg : RG n g) (h : RA n g a) (hS : SMI al mf st wg) : Ret (F_X5_count gone t o (nI n) a (nI S) al ic mf st wg wl ws (nI 5)) (fun r => r.1 = cnv g n gone S 5 ∧ SMI r.2.2.2.1 r.2.2.2.2.2.1 r.2.2.2.2.2.2.1 r.2.2.2.2.2.2.2.1) := by
  obtain ⟨r, e1, h1, h2⟩ := smoothRank_I (t := t) (o := o) (ic := ic) hn h0 hg h hS
  unfold F_X5_count F_X5_count_J15 cnv
  simp (disch := omega) only [↓qM, zq0, zq1, zq2, zq3, zq4, zq5, zq6, zq7, zq8, zq9, zq10, zq11, zq12, zq13, zq14, zq20, zq33, zq48, zq49, zq50, zq57, zq60, zq61, zq78, zq97, zq102, zq126, zq486, zq600, zq2916, zq4200, le_I, lt_I, eq_I, ne_M, lt_M, cl_I, vin_T, gd_tt, nz_T, nI_add, sub_I, m1_M, pk_mul, div_I, Option.bind_some, Option.map_some, if_pos, if_neg, if_true, if_false, Nat.reduceAdd, Nat.reduceMul, Nat.reduceSub, Nat.zero_add, Nat.add_zero, Ret_s, need1, e1, h1]
  exact ⟨(by first | rfl | trivial), h2⟩
theorem cnt_V6 {n S : Nat} {g : Nat → Nat} {a o ws : Nat → Int32} {t wl gone : Int32} {al ic mf st wg : Nat → Int32} (hn : n ≤ 11) (h0 : 1 ≤ n) (hg : RG n g) (h : RA n g a) (hS : SMI al mf st wg) : Ret (F_X5_count gone t o (nI n) a (nI S) al ic mf st wg wl ws (nI 6)) (fun r => r.1 = cnv g n gone S 6 ∧ SMI r.2.2.2.1 r.2.2.2.2.2.1 r.2.2.2.2.2.2.1 r.2.2.2.2.2.2.2.1) := by
  have e1 := smo_V hn hg h
  unfold F_X5_count F_X5_count_J15 cnv
  have hb := b2n_le (smooth g n = true)
  have e2 := bb _ hb
  generalize b2n (smooth g n = true) = b at *
  simp (disch := omega) only [↓qM, zq0, zq1, zq2, zq3, zq4, zq5, zq6, zq7, zq8, zq9, zq10, zq11, zq12, zq13, zq14, zq20, zq33, zq48, zq49, zq50, zq57, zq60, zq61, zq78, zq97, zq102, zq126, zq486, zq600, zq2916, zq4200, le_I, lt_I, eq_I, ne_M, lt_M, cl_I, vin_T, gd_tt, nz_T, nI_add, sub_I, m1_M, pk_mul, div_I, Option.bind_some, Option.map_some, if_pos, if_neg, if_true, if_false, Nat.reduceAdd, Nat.reduceMul, Nat.reduceSub, Nat.zero_add, Nat.add_zero, Ret_s, need1, len_T, e1]
  refine ⟨?_, hS⟩
  by_cases e : b = 0
  · rw [if_pos e, e]
  · rw [if_neg e, show b = 1 by omega]
theorem cnt_V7 {n S : Nat} {g : Nat → Nat} {a o ws : Nat → Int32} {t wl gone : Int32} {al ic mf st wg : Nat → Int32} (hn : n ≤ 11) (h0 : 1 ≤ n) (hg : RG n g) (h : RA n g a) (hS : SMI al mf st wg) : Ret (F_X5_count gone t o (nI n) a (nI S) al ic mf st wg wl ws (nI 7)) (fun r => r.1 = cnv g n gone S 7 ∧ SMI r.2.2.2.1 r.2.2.2.2.2.1 r.2.2.2.2.2.2.1 r.2.2.2.2.2.2.2.1) := by
  have e1 := inversions_I hn hg h
  unfold F_X5_count F_X5_count_J15 cnv
  simp (disch := omega) only [↓qM, zq0, zq1, zq2, zq3, zq4, zq5, zq6, zq7, zq8, zq9, zq10, zq11, zq12, zq13, zq14, zq20, zq33, zq48, zq49, zq50, zq57, zq60, zq61, zq78, zq97, zq102, zq126, zq486, zq600, zq2916, zq4200, le_I, lt_I, eq_I, ne_M, lt_M, cl_I, vin_T, gd_tt, nz_T, nI_add, sub_I, m1_M, pk_mul, div_I, Option.bind_some, Option.map_some, if_pos, if_neg, if_true, if_false, Nat.reduceAdd, Nat.reduceMul, Nat.reduceSub, Nat.zero_add, Nat.add_zero, Ret_s, need1, e1]
  exact ⟨(by first | rfl | trivial), hS⟩
theorem cnt_V8 {n S : Nat} {g : Nat → Nat} {a o ws : Nat → Int32} {t wl gone : Int32} {al ic mf st wg : Nat → Int32} (hn : n ≤ 11) (h0 : 1 ≤ n) (hg : RG n g) (h : RA n g a) (hS : SMI al mf st wg) : Ret (F_X5_count gone t o (nI n) a (nI S) al ic mf st wg wl ws (nI 8)) (fun r => r.1 = cnv g n gone S 8 ∧ SMI r.2.2.2.1 r.2.2.2.2.2.1 r.2.2.2.2.2.2.1 r.2.2.2.2.2.2.2.1) := by
  have e1 := descents_I hn hg h
  unfold F_X5_count F_X5_count_J15 cnv
  simp (disch := omega) only [↓qM, zq0, zq1, zq2, zq3, zq4, zq5, zq6, zq7, zq8, zq9, zq10, zq11, zq12, zq13, zq14, zq20, zq33, zq48, zq49, zq50, zq57, zq60, zq61, zq78, zq97, zq102, zq126, zq486, zq600, zq2916, zq4200, le_I, lt_I, eq_I, ne_M, lt_M, cl_I, vin_T, gd_tt, nz_T, nI_add, sub_I, m1_M, pk_mul, div_I, Option.bind_some, Option.map_some, if_pos, if_neg, if_true, if_false, Nat.reduceAdd, Nat.reduceMul, Nat.reduceSub, Nat.zero_add, Nat.add_zero, Ret_s, need1, e1]
  exact ⟨(by first | rfl | trivial), hS⟩
theorem cnt_V9 {n S : Nat} {g : Nat → Nat} {a o ws : Nat → Int32} {t wl gone : Int32} {al ic mf st wg : Nat → Int32} (hn : n ≤ 11) (h0 : 1 ≤ n) (hg : RG n g) (h : RA n g a) (hS : SMI al mf st wg) : Ret (F_X5_count gone t o (nI n) a (nI S) al ic mf st wg wl ws (nI 9)) (fun r => r.1 = cnv g n gone S 9 ∧ SMI r.2.2.2.1 r.2.2.2.2.2.1 r.2.2.2.2.2.2.1 r.2.2.2.2.2.2.2.1) := by
  have e1 := majorIndex_I hn hg h
  unfold F_X5_count F_X5_count_J15 cnv
  simp (disch := omega) only [↓qM, zq0, zq1, zq2, zq3, zq4, zq5, zq6, zq7, zq8, zq9, zq10, zq11, zq12, zq13, zq14, zq20, zq33, zq48, zq49, zq50, zq57, zq60, zq61, zq78, zq97, zq102, zq126, zq486, zq600, zq2916, zq4200, le_I, lt_I, eq_I, ne_M, lt_M, cl_I, vin_T, gd_tt, nz_T, nI_add, sub_I, m1_M, pk_mul, div_I, Option.bind_some, Option.map_some, if_pos, if_neg, if_true, if_false, Nat.reduceAdd, Nat.reduceMul, Nat.reduceSub, Nat.zero_add, Nat.add_zero, Ret_s, need1, e1]
  exact ⟨(by first | rfl | trivial), hS⟩
theorem cnt_V10 {n S : Nat} {g : Nat → Nat} {a o ws : Nat → Int32} {t wl gone : Int32} {al ic mf st wg : Nat → Int32} (hn : n ≤ 11) (h0 : 1 ≤ n) (hg : RG n g) (h : RA n g a) (hS : SMI al mf st wg) : Ret (F_X5_count gone t o (nI n) a (nI S) al ic mf st wg wl ws (nI 10)) (fun r => r.1 = cnv g n gone S 10 ∧ SMI r.2.2.2.1 r.2.2.2.2.2.1 r.2.2.2.2.2.2.1 r.2.2.2.2.2.2.2.1) := by
  obtain ⟨r, e1, h1⟩ := turned_I (m := 0) (t := t) (o := o) (wl := wl) (w := ws) hn h0 hg h (grev_ok (s := 0) 11 g 0 (n - 1) hg (by omega)).1
  unfold F_X5_count F_X5_count_J15 cnv
  simp (disch := omega) only [↓qM, zq0, zq1, zq2, zq3, zq4, zq5, zq6, zq7, zq8, zq9, zq10, zq11, zq12, zq13, zq14, zq20, zq33, zq48, zq49, zq50, zq57, zq60, zq61, zq78, zq97, zq102, zq126, zq486, zq600, zq2916, zq4200, le_I, lt_I, eq_I, ne_M, lt_M, cl_I, vin_T, gd_tt, nz_T, nI_add, sub_I, m1_M, pk_mul, div_I, Option.bind_some, Option.map_some, if_pos, if_neg, if_true, if_false, Nat.reduceAdd, Nat.reduceMul, Nat.reduceSub, Nat.zero_add, Nat.add_zero, Ret_s, need1, e1, h1]
  exact ⟨(by first | rfl | trivial), hS⟩
theorem cnt_V11 {n S : Nat} {g : Nat → Nat} {a o ws : Nat → Int32} {t wl gone : Int32} {al ic mf st wg : Nat → Int32} (hn : n ≤ 11) (h0 : 1 ≤ n) (hg : RG n g) (h : RA n g a) (hS : SMI al mf st wg) : Ret (F_X5_count gone t o (nI n) a (nI S) al ic mf st wg wl ws (nI 11)) (fun r => r.1 = cnv g n gone S 11 ∧ SMI r.2.2.2.1 r.2.2.2.2.2.1 r.2.2.2.2.2.2.1 r.2.2.2.2.2.2.2.1) := by
  obtain ⟨r, e1, h1⟩ := second_I (t := t) (o := o) hn hg h
  unfold F_X5_count F_X5_count_J15 cnv
  simp (disch := omega) only [↓qM, zq0, zq1, zq2, zq3, zq4, zq5, zq6, zq7, zq8, zq9, zq10, zq11, zq12, zq13, zq14, zq20, zq33, zq48, zq49, zq50, zq57, zq60, zq61, zq78, zq97, zq102, zq126, zq486, zq600, zq2916, zq4200, le_I, lt_I, eq_I, ne_M, lt_M, cl_I, vin_T, gd_tt, nz_T, nI_add, sub_I, m1_M, pk_mul, div_I, Option.bind_some, Option.map_some, if_pos, if_neg, if_true, if_false, Nat.reduceAdd, Nat.reduceMul, Nat.reduceSub, Nat.zero_add, Nat.add_zero, Ret_s, need1, e1, h1]
  exact ⟨(by first | rfl | trivial), hS⟩
theorem cnt_V12 {n S : Nat} {g : Nat → Nat} {a o ws : Nat → Int32} {t wl gone : Int32} {al ic mf st wg : Nat → Int32} (hn : n ≤ 11) (h0 : 1 ≤ n) (hg : RG n g) (h : RA n g a) (hS : SMI al mf st wg) : Ret (F_X5_count gone t o (nI n) a (nI S) al ic mf st wg wl ws (nI 12)) (fun r => r.1 = cnv g n gone S 12 ∧ SMI r.2.2.2.1 r.2.2.2.2.2.1 r.2.2.2.2.2.2.1 r.2.2.2.2.2.2.2.1) := by
  unfold F_X5_count F_X5_count_J15 cnv
  simp (disch := omega) only [↓qM, zq0, zq1, zq2, zq3, zq4, zq5, zq6, zq7, zq8, zq9, zq10, zq11, zq12, zq13, zq14, zq20, zq33, zq48, zq49, zq50, zq57, zq60, zq61, zq78, zq97, zq102, zq126, zq486, zq600, zq2916, zq4200, le_I, lt_I, eq_I, ne_M, lt_M, cl_I, vin_T, gd_tt, nz_T, nI_add, sub_I, m1_M, pk_mul, div_I, Option.bind_some, Option.map_some, if_pos, if_neg, if_true, if_false, Nat.reduceAdd, Nat.reduceMul, Nat.reduceSub, Nat.zero_add, Nat.add_zero, Ret_s, need1]
  exact ⟨(by first | rfl | trivial), hS⟩
theorem cnt_V13 {n S : Nat} {g : Nat → Nat} {a o ws : Nat → Int32} {t wl gone : Int32} {al ic mf st wg : Nat → Int32} (hn : n ≤ 11) (h0 : 1 ≤ n) (hg : RG n g) (h : RA n g a) (hS : SMI al mf st wg) : Ret (F_X5_count gone t o (nI n) a (nI S) al ic mf st wg wl ws (nI 13)) (fun r => r.1 = cnv g n gone S 13 ∧ SMI r.2.2.2.1 r.2.2.2.2.2.1 r.2.2.2.2.2.2.1 r.2.2.2.2.2.2.2.1) := by
  unfold F_X5_count F_X5_count_J15 cnv
  simp (disch := omega) only [↓qM, zq0, zq1, zq2, zq3, zq4, zq5, zq6, zq7, zq8, zq9, zq10, zq11, zq12, zq13, zq14, zq20, zq33, zq48, zq49, zq50, zq57, zq60, zq61, zq78, zq97, zq102, zq126, zq486, zq600, zq2916, zq4200, le_I, lt_I, eq_I, ne_M, lt_M, cl_I, vin_T, gd_tt, nz_T, nI_add, sub_I, m1_M, pk_mul, div_I, Option.bind_some, Option.map_some, if_pos, if_neg, if_true, if_false, Nat.reduceAdd, Nat.reduceMul, Nat.reduceSub, Nat.zero_add, Nat.add_zero, Ret_s, need1, held_T]
  exact ⟨(by first | rfl | trivial), hS⟩
theorem f14 {w : Nat} (h : w < 14) : w = 0 ∨ w = 1 ∨ w = 2 ∨ w = 3 ∨ w = 4 ∨ w = 5 ∨ w = 6 ∨ w = 7 ∨ w = 8 ∨ w = 9 ∨ w = 10 ∨ w = 11 ∨ w = 12 ∨ w = 13 := by omega
theorem cnt_V {n S w : Nat} {g : Nat → Nat} {a o ws : Nat → Int32} {t wl gone : Int32} {al ic mf st wg : Nat → Int32} (hn : n ≤ 11) (h0 : 1 ≤ n) (hg : RG n g) (h : RA n g a) (hS : SMI al mf st wg) (hw : w < 14) : Ret (F_X5_count gone t o (nI n) a (nI S) al ic mf st wg wl ws (nI w)) (fun r => r.1 = cnv g n gone S w ∧ SMI r.2.2.2.1 r.2.2.2.2.2.1 r.2.2.2.2.2.2.1 r.2.2.2.2.2.2.2.1) := by
  rcases f14 hw with rfl | rfl | rfl | rfl | rfl | rfl | rfl | rfl | rfl | rfl | rfl | rfl | rfl | rfl
  · exact cnt_V0 hn h0 hg h hS
  · exact cnt_V1 hn h0 hg h hS
  · exact cnt_V2 hn h0 hg h hS
  · exact cnt_V3 hn h0 hg h hS
  · exact cnt_V4 hn h0 hg h hS
  · exact cnt_V5 hn h0 hg h hS
  · exact cnt_V6 hn h0 hg h hS
  · exact cnt_V7 hn h0 hg h hS
  · exact cnt_V8 hn h0 hg h hS
  · exact cnt_V9 hn h0 hg h hS
  · exact cnt_V10 hn h0 hg h hS
  · exact cnt_V11 hn h0 hg h hS
  · exact cnt_V12 hn h0 hg h hS
  · exact cnt_V13 hn h0 hg h hS
theorem rcnt_V0 {n S : Nat} {g : Nat → Nat} {z lf oth sm wts : Nat → Int32} {cc : Int32} (hz : ZI z n g) (h0 : 1 ≤ n) (hn : n ≤ 11) (hg : RG n g) : Ret (F_X6_counted (nI S) cc lf oth sm wts z (nI 0)) (fun r => r.1 = cnv g n (z 1) S 0) := by
  unfold F_X6_counted F_X6_counted_J85 F_X6_counted_J118 F_X6_counted_J130 cnv
  simp (disch := omega) only [↓qM, zq0, zq1, zq2, zq3, zq4, zq5, zq6, zq7, zq8, zq9, zq10, zq11, zq12, zq13, zq14, zq20, zq33, zq48, zq49, zq50, zq57, zq60, zq61, zq78, zq97, zq102, zq126, zq486, zq600, zq2916, zq4200, le_I, lt_I, eq_I, ne_M, lt_M, cl_I, vin_T, gd_tt, nz_T, nI_add, sub_I, m1_M, pk_mul, div_I, Option.bind_some, Option.map_some, if_pos, if_neg, if_true, if_false, Nat.reduceAdd, Nat.reduceMul, Nat.reduceSub, Nat.zero_add, Nat.add_zero, Ret_s, hz.n]
theorem rcnt_V1 {n S : Nat} {g : Nat → Nat} {z lf oth sm wts : Nat → Int32} {cc : Int32} (hz : ZI z n g) (h0 : 1 ≤ n) (hn : n ≤ 11) (hg : RG n g) : Ret (F_X6_counted (nI S) cc lf oth sm wts z (nI 1)) (fun r => r.1 = cnv g n (z 1) S 1) := by
  obtain ⟨o1, e1⟩ := runlike_I (o := lf) hz hn hg
  unfold F_X6_counted F_X6_counted_J85 F_X6_counted_J118 F_X6_counted_J130 cnv
  simp (disch := omega) only [↓qM, zq0, zq1, zq2, zq3, zq4, zq5, zq6, zq7, zq8, zq9, zq10, zq11, zq12, zq13, zq14, zq20, zq33, zq48, zq49, zq50, zq57, zq60, zq61, zq78, zq97, zq102, zq126, zq486, zq600, zq2916, zq4200, le_I, lt_I, eq_I, ne_M, lt_M, cl_I, vin_T, gd_tt, nz_T, nI_add, sub_I, m1_M, pk_mul, div_I, Option.bind_some, Option.map_some, if_pos, if_neg, if_true, if_false, Nat.reduceAdd, Nat.reduceMul, Nat.reduceSub, Nat.zero_add, Nat.add_zero, Ret_s, e1]
theorem rcnt_V2 {n S : Nat} {g : Nat → Nat} {z lf oth sm wts : Nat → Int32} {cc : Int32} (hz : ZI z n g) (h0 : 1 ≤ n) (hn : n ≤ 11) (hg : RG n g) : Ret (F_X6_counted (nI S) cc lf oth sm wts z (nI 2)) (fun r => r.1 = cnv g n (z 1) S 2) := by
  obtain ⟨o1, e1, -⟩ := allRows_I (o := lf) hz hn hg
  unfold F_X6_counted F_X6_counted_J85 F_X6_counted_J118 F_X6_counted_J130 cnv
  simp (disch := omega) only [↓qM, zq0, zq1, zq2, zq3, zq4, zq5, zq6, zq7, zq8, zq9, zq10, zq11, zq12, zq13, zq14, zq20, zq33, zq48, zq49, zq50, zq57, zq60, zq61, zq78, zq97, zq102, zq126, zq486, zq600, zq2916, zq4200, le_I, lt_I, eq_I, ne_M, lt_M, cl_I, vin_T, gd_tt, nz_T, nI_add, sub_I, m1_M, pk_mul, div_I, Option.bind_some, Option.map_some, if_pos, if_neg, if_true, if_false, Nat.reduceAdd, Nat.reduceMul, Nat.reduceSub, Nat.zero_add, Nat.add_zero, Ret_s, e1]
theorem rcnt_V3 {n S : Nat} {g : Nat → Nat} {z lf oth sm wts : Nat → Int32} {cc : Int32} (hz : ZI z n g) (h0 : 1 ≤ n) (hn : n ≤ 11) (hg : RG n g) : Ret (F_X6_counted (nI S) cc lf oth sm wts z (nI 3)) (fun r => r.1 = cnv g n (z 1) S 3) := by
  obtain ⟨o1, a1, e1⟩ := rankNow_I (o := lf) (a := oth) hz hn hg
  unfold F_X6_counted F_X6_counted_J85 F_X6_counted_J118 F_X6_counted_J130 cnv
  simp (disch := omega) only [↓qM, zq0, zq1, zq2, zq3, zq4, zq5, zq6, zq7, zq8, zq9, zq10, zq11, zq12, zq13, zq14, zq20, zq33, zq48, zq49, zq50, zq57, zq60, zq61, zq78, zq97, zq102, zq126, zq486, zq600, zq2916, zq4200, le_I, lt_I, eq_I, ne_M, lt_M, cl_I, vin_T, gd_tt, nz_T, nI_add, sub_I, m1_M, pk_mul, div_I, Option.bind_some, Option.map_some, if_pos, if_neg, if_true, if_false, Nat.reduceAdd, Nat.reduceMul, Nat.reduceSub, Nat.zero_add, Nat.add_zero, Ret_s, e1]
theorem rcnt_V4 {n S : Nat} {g : Nat → Nat} {z lf oth sm wts : Nat → Int32} {cc : Int32} (hz : ZI z n g) (h0 : 1 ≤ n) (hn : n ≤ 11) (hg : RG n g) : Ret (F_X6_counted (nI S) cc lf oth sm wts z (nI 4)) (fun r => r.1 = cnv g n (z 1) S 4) := by
  obtain ⟨r, e1, h1⟩ := rallS_I (cc := cc) (lf := lf) (sm := sm) (w := wts) hz hn hg
  unfold F_X6_counted F_X6_counted_J85 F_X6_counted_J118 F_X6_counted_J130 cnv
  simp (disch := omega) only [↓qM, zq0, zq1, zq2, zq3, zq4, zq5, zq6, zq7, zq8, zq9, zq10, zq11, zq12, zq13, zq14, zq20, zq33, zq48, zq49, zq50, zq57, zq60, zq61, zq78, zq97, zq102, zq126, zq486, zq600, zq2916, zq4200, le_I, lt_I, eq_I, ne_M, lt_M, cl_I, vin_T, gd_tt, nz_T, nI_add, sub_I, m1_M, pk_mul, div_I, Option.bind_some, Option.map_some, if_pos, if_neg, if_true, if_false, Nat.reduceAdd, Nat.reduceMul, Nat.reduceSub, Nat.zero_add, Nat.add_zero, Ret_s, e1, h1]
theorem rcnt_V5 {n S : Nat} {g : Nat → Nat} {z lf oth sm wts : Nat → Int32} {cc : Int32} (hz : ZI z n g) (h0 : 1 ≤ n) (hn : n ≤ 11) (hg : RG n g) : Ret (F_X6_counted (nI S) cc lf oth sm wts z (nI 5)) (fun r => r.1 = cnv g n (z 1) S 5) := by
  obtain ⟨r, e1, h1⟩ := rsRank_I (cc := cc) (lf := lf) (sm := sm) (w := wts) hz hn hg
  unfold F_X6_counted F_X6_counted_J85 F_X6_counted_J118 F_X6_counted_J130 cnv
  simp (disch := omega) only [↓qM, zq0, zq1, zq2, zq3, zq4, zq5, zq6, zq7, zq8, zq9, zq10, zq11, zq12, zq13, zq14, zq20, zq33, zq48, zq49, zq50, zq57, zq60, zq61, zq78, zq97, zq102, zq126, zq486, zq600, zq2916, zq4200, le_I, lt_I, eq_I, ne_M, lt_M, cl_I, vin_T, gd_tt, nz_T, nI_add, sub_I, m1_M, pk_mul, div_I, Option.bind_some, Option.map_some, if_pos, if_neg, if_true, if_false, Nat.reduceAdd, Nat.reduceMul, Nat.reduceSub, Nat.zero_add, Nat.add_zero, Ret_s, e1, h1]
theorem rcnt_V6 {n S : Nat} {g : Nat → Nat} {z lf oth sm wts : Nat → Int32} {cc : Int32} (hz : ZI z n g) (h0 : 1 ≤ n) (hn : n ≤ 11) (hg : RG n g) : Ret (F_X6_counted (nI S) cc lf oth sm wts z (nI 6)) (fun r => r.1 = cnv g n (z 1) S 6) := by
  obtain ⟨r, e1, h1⟩ := risS_I (cc := cc) (lf := lf) (sm := sm) (w := wts) hz hn hg
  unfold F_X6_counted F_X6_counted_J85 F_X6_counted_J118 F_X6_counted_J130 cnv
  have hb := b2n_le (smooth g n = true)
  generalize b2n (smooth g n = true) = b at *
  simp (disch := omega) only [↓qM, zq0, zq1, zq2, zq3, zq4, zq5, zq6, zq7, zq8, zq9, zq10, zq11, zq12, zq13, zq14, zq20, zq33, zq48, zq49, zq50, zq57, zq60, zq61, zq78, zq97, zq102, zq126, zq486, zq600, zq2916, zq4200, le_I, lt_I, eq_I, ne_M, lt_M, cl_I, vin_T, gd_tt, nz_T, nI_add, sub_I, m1_M, pk_mul, div_I, Option.bind_some, Option.map_some, if_pos, if_neg, if_true, if_false, Nat.reduceAdd, Nat.reduceMul, Nat.reduceSub, Nat.zero_add, Nat.add_zero, Ret_s, e1, h1]
  by_cases e : b = 0
  · rw [if_pos e, e]
  · rw [if_neg e, show b = 1 by omega]
theorem rcnt_V7 {n S : Nat} {g : Nat → Nat} {z lf oth sm wts : Nat → Int32} {cc : Int32} (hz : ZI z n g) (h0 : 1 ≤ n) (hn : n ≤ 11) (hg : RG n g) : Ret (F_X6_counted (nI S) cc lf oth sm wts z (nI 7)) (fun r => r.1 = cnv g n (z 1) S 7) := by
  have e1 := rinversions_I hn hg hz
  unfold F_X6_counted F_X6_counted_J85 F_X6_counted_J118 F_X6_counted_J130 cnv
  simp (disch := omega) only [↓qM, zq0, zq1, zq2, zq3, zq4, zq5, zq6, zq7, zq8, zq9, zq10, zq11, zq12, zq13, zq14, zq20, zq33, zq48, zq49, zq50, zq57, zq60, zq61, zq78, zq97, zq102, zq126, zq486, zq600, zq2916, zq4200, le_I, lt_I, eq_I, ne_M, lt_M, cl_I, vin_T, gd_tt, nz_T, nI_add, sub_I, m1_M, pk_mul, div_I, Option.bind_some, Option.map_some, if_pos, if_neg, if_true, if_false, Nat.reduceAdd, Nat.reduceMul, Nat.reduceSub, Nat.zero_add, Nat.add_zero, Ret_s, e1]
theorem rcnt_V8 {n S : Nat} {g : Nat → Nat} {z lf oth sm wts : Nat → Int32} {cc : Int32} (hz : ZI z n g) (h0 : 1 ≤ n) (hn : n ≤ 11) (hg : RG n g) : Ret (F_X6_counted (nI S) cc lf oth sm wts z (nI 8)) (fun r => r.1 = cnv g n (z 1) S 8) := by
  have e1 := rdescents_I (w := 0) h0 hn hg hz (by omega)
  unfold F_X6_counted F_X6_counted_J85 F_X6_counted_J118 F_X6_counted_J130 cnv
  have e2 : sumL (fun p => gdes g n p * (if (0 : Nat) = 0 then 1 else p + 1)) 0 n = sumL (gdes g n) 0 n := sumL_ext n 0 (fun j _ _ => by rw [if_pos rfl, Nat.mul_one])
  rw [e2] at e1
  simp (disch := omega) only [↓qM, zq0, zq1, zq2, zq3, zq4, zq5, zq6, zq7, zq8, zq9, zq10, zq11, zq12, zq13, zq14, zq20, zq33, zq48, zq49, zq50, zq57, zq60, zq61, zq78, zq97, zq102, zq126, zq486, zq600, zq2916, zq4200, le_I, lt_I, eq_I, ne_M, lt_M, cl_I, vin_T, gd_tt, nz_T, nI_add, sub_I, m1_M, pk_mul, div_I, Option.bind_some, Option.map_some, if_pos, if_neg, if_true, if_false, Nat.reduceAdd, Nat.reduceMul, Nat.reduceSub, Nat.zero_add, Nat.add_zero, Ret_s, e1]
theorem rcnt_V9 {n S : Nat} {g : Nat → Nat} {z lf oth sm wts : Nat → Int32} {cc : Int32} (hz : ZI z n g) (h0 : 1 ≤ n) (hn : n ≤ 11) (hg : RG n g) : Ret (F_X6_counted (nI S) cc lf oth sm wts z (nI 9)) (fun r => r.1 = cnv g n (z 1) S 9) := by
  have e1 := rdescents_I (w := 1) h0 hn hg hz (by omega)
  unfold F_X6_counted F_X6_counted_J85 F_X6_counted_J118 F_X6_counted_J130 cnv
  have e2 : sumL (fun p => gdes g n p * (if (1 : Nat) = 0 then 1 else p + 1)) 0 n = sumL (fun p => gdes g n p * (p + 1)) 0 n := sumL_ext n 0 (fun j _ _ => by rw [if_neg (by omega)])
  rw [e2] at e1
  simp (disch := omega) only [↓qM, zq0, zq1, zq2, zq3, zq4, zq5, zq6, zq7, zq8, zq9, zq10, zq11, zq12, zq13, zq14, zq20, zq33, zq48, zq49, zq50, zq57, zq60, zq61, zq78, zq97, zq102, zq126, zq486, zq600, zq2916, zq4200, le_I, lt_I, eq_I, ne_M, lt_M, cl_I, vin_T, gd_tt, nz_T, nI_add, sub_I, m1_M, pk_mul, div_I, Option.bind_some, Option.map_some, if_pos, if_neg, if_true, if_false, Nat.reduceAdd, Nat.reduceMul, Nat.reduceSub, Nat.zero_add, Nat.add_zero, Ret_s, e1]
theorem rcnt_V10 {n S : Nat} {g : Nat → Nat} {z lf oth sm wts : Nat → Int32} {cc : Int32} (hz : ZI z n g) (h0 : 1 ≤ n) (hn : n ≤ 11) (hg : RG n g) : Ret (F_X6_counted (nI S) cc lf oth sm wts z (nI 10)) (fun r => r.1 = cnv g n (z 1) S 10) := by
  obtain ⟨r, e1, h1⟩ := rturned_I (lf := lf) (a := oth) h0 hn hg hz
  unfold F_X6_counted F_X6_counted_J85 F_X6_counted_J118 F_X6_counted_J130 cnv
  simp (disch := omega) only [↓qM, zq0, zq1, zq2, zq3, zq4, zq5, zq6, zq7, zq8, zq9, zq10, zq11, zq12, zq13, zq14, zq20, zq33, zq48, zq49, zq50, zq57, zq60, zq61, zq78, zq97, zq102, zq126, zq486, zq600, zq2916, zq4200, le_I, lt_I, eq_I, ne_M, lt_M, cl_I, vin_T, gd_tt, nz_T, nI_add, sub_I, m1_M, pk_mul, div_I, Option.bind_some, Option.map_some, if_pos, if_neg, if_true, if_false, Nat.reduceAdd, Nat.reduceMul, Nat.reduceSub, Nat.zero_add, Nat.add_zero, Ret_s, e1, h1]
theorem rcnt_V11 {n S : Nat} {g : Nat → Nat} {z lf oth sm wts : Nat → Int32} {cc : Int32} (hz : ZI z n g) (h0 : 1 ≤ n) (hn : n ≤ 11) (hg : RG n g) : Ret (F_X6_counted (nI S) cc lf oth sm wts z (nI 11)) (fun r => r.1 = cnv g n (z 1) S 11) := by
  obtain ⟨o1, a1, e1⟩ := rankNow_I (o := lf) (a := oth) hz hn hg
  unfold F_X6_counted F_X6_counted_J85 F_X6_counted_J118 F_X6_counted_J130 cnv
  simp (disch := omega) only [↓qM, zq0, zq1, zq2, zq3, zq4, zq5, zq6, zq7, zq8, zq9, zq10, zq11, zq12, zq13, zq14, zq20, zq33, zq48, zq49, zq50, zq57, zq60, zq61, zq78, zq97, zq102, zq126, zq486, zq600, zq2916, zq4200, le_I, lt_I, eq_I, ne_M, lt_M, cl_I, vin_T, gd_tt, nz_T, nI_add, sub_I, m1_M, pk_mul, div_I, Option.bind_some, Option.map_some, if_pos, if_neg, if_true, if_false, Nat.reduceAdd, Nat.reduceMul, Nat.reduceSub, Nat.zero_add, Nat.add_zero, Ret_s, e1]
theorem rcnt_V12 {n S : Nat} {g : Nat → Nat} {z lf oth sm wts : Nat → Int32} {cc : Int32} (hz : ZI z n g) (h0 : 1 ≤ n) (hn : n ≤ 11) (hg : RG n g) : Ret (F_X6_counted (nI S) cc lf oth sm wts z (nI 12)) (fun r => r.1 = cnv g n (z 1) S 12) := by
  unfold F_X6_counted F_X6_counted_J85 F_X6_counted_J118 F_X6_counted_J130 cnv
  simp (disch := omega) only [↓qM, zq0, zq1, zq2, zq3, zq4, zq5, zq6, zq7, zq8, zq9, zq10, zq11, zq12, zq13, zq14, zq20, zq33, zq48, zq49, zq50, zq57, zq60, zq61, zq78, zq97, zq102, zq126, zq486, zq600, zq2916, zq4200, le_I, lt_I, eq_I, ne_M, lt_M, cl_I, vin_T, gd_tt, nz_T, nI_add, sub_I, m1_M, pk_mul, div_I, Option.bind_some, Option.map_some, if_pos, if_neg, if_true, if_false, Nat.reduceAdd, Nat.reduceMul, Nat.reduceSub, Nat.zero_add, Nat.add_zero, Ret_s]
theorem rcnt_V13 {n S : Nat} {g : Nat → Nat} {z lf oth sm wts : Nat → Int32} {cc : Int32} (hz : ZI z n g) (h0 : 1 ≤ n) (hn : n ≤ 11) (hg : RG n g) : Ret (F_X6_counted (nI S) cc lf oth sm wts z (nI 13)) (fun r => r.1 = cnv g n (z 1) S 13) := by
  unfold F_X6_counted F_X6_counted_J85 F_X6_counted_J118 F_X6_counted_J130 cnv
  simp (disch := omega) only [↓qM, zq0, zq1, zq2, zq3, zq4, zq5, zq6, zq7, zq8, zq9, zq10, zq11, zq12, zq13, zq14, zq20, zq33, zq48, zq49, zq50, zq57, zq60, zq61, zq78, zq97, zq102, zq126, zq486, zq600, zq2916, zq4200, le_I, lt_I, eq_I, ne_M, lt_M, cl_I, vin_T, gd_tt, nz_T, nI_add, sub_I, m1_M, pk_mul, div_I, Option.bind_some, Option.map_some, if_pos, if_neg, if_true, if_false, Nat.reduceAdd, Nat.reduceMul, Nat.reduceSub, Nat.zero_add, Nat.add_zero, Ret_s]
theorem rcnt_V {n S w : Nat} {g : Nat → Nat} {z lf oth sm wts : Nat → Int32} {cc : Int32} (hz : ZI z n g) (h0 : 1 ≤ n) (hn : n ≤ 11) (hg : RG n g) (hw : w < 14) : Ret (F_X6_counted (nI S) cc lf oth sm wts z (nI w)) (fun r => r.1 = cnv g n (z 1) S w) := by
  rcases f14 hw with rfl | rfl | rfl | rfl | rfl | rfl | rfl | rfl | rfl | rfl | rfl | rfl | rfl | rfl
  · exact rcnt_V0 hz h0 hn hg
  · exact rcnt_V1 hz h0 hn hg
  · exact rcnt_V2 hz h0 hn hg
  · exact rcnt_V3 hz h0 hn hg
  · exact rcnt_V4 hz h0 hn hg
  · exact rcnt_V5 hz h0 hn hg
  · exact rcnt_V6 hz h0 hn hg
  · exact rcnt_V7 hz h0 hn hg
  · exact rcnt_V8 hz h0 hn hg
  · exact rcnt_V9 hz h0 hn hg
  · exact rcnt_V10 hz h0 hn hg
  · exact rcnt_V11 hz h0 hn hg
  · exact rcnt_V12 hz h0 hn hg
  · exact rcnt_V13 hz h0 hn hg
theorem ifS_V {n p q : Nat} {g : Nat → Nat} {a o ws : Nat → Int32} {t wl : Int32} (hn : n ≤ 11) (hg : RG n g) (h : RA n g a) (hp : p < n) (hq : q < n) : Ret (F_X5_ifSwapped t o (nI n) a wl ws (nI p) (nI q)) (fun r => r.1 = nI (rk (gswap g p q) n n)) := by
  obtain ⟨r, e1, h1⟩ := ifEx_I (t := t) (o := o) (wl := wl) (w := ws) hn hp hq hg h (gswap_RG hg hp hq)
  have e4 := place_I hp hn
  have e7 := place_I hq hn
  unfold F_X5_ifSwapped
  simp (disch := omega) only [↓qM, zq0, zq1, zq2, zq3, zq4, zq5, zq6, zq7, zq8, zq9, zq10, zq11, zq12, zq13, zq14, zq20, zq33, zq48, zq49, zq50, zq57, zq60, zq61, zq78, zq97, zq102, zq126, zq486, zq600, zq2916, zq4200, le_I, lt_I, eq_I, ne_M, lt_M, cl_I, vin_T, gd_tt, nz_T, nI_add, sub_I, m1_M, pk_mul, div_I, Option.bind_some, Option.map_some, if_pos, if_neg, if_true, if_false, Nat.reduceAdd, Nat.reduceMul, Nat.reduceSub, Nat.zero_add, Nat.add_zero, Ret_s, e4, e7, e1]
  exact h1
theorem sgo_V {n p x : Nat} {g : Nat → Nat} {a o ws : Nat → Int32} {t wl : Int32} (hn : n ≤ 11) (hg : RG n g) (h : RA n g a) (hp : p < n) (hx : x < ways (cF g n 0)) : Ret (F_X5_signOf t o (nI n) a wl ws (nI x) (nI p)) (fun r => r.1 = nI (gl g n x p)) := by
  have e4 := place_I hp hn
  obtain ⟨⟨t1, o1⟩, e1⟩ := needRank_R (t := t) (o := o) hn hg h hx
  obtain ⟨⟨t2, o2, wl2, ws2⟩, e2, h1, h2⟩ := layOut_I (t := t1) (o := o1) (w := ws) (wl := wl) hn hg h hx
  have h1 : wl2 = nI n := h1
  subst h1
  have h2 : RA n (gl g n x) ws2 := h2
  unfold F_X5_signOf
  simp (disch := omega) only [↓qM, zq0, zq1, zq2, zq3, zq4, zq5, zq6, zq7, zq8, zq9, zq10, zq11, zq12, zq13, zq14, zq20, zq33, zq48, zq49, zq50, zq57, zq60, zq61, zq78, zq97, zq102, zq126, zq486, zq600, zq2916, zq4200, le_I, lt_I, eq_I, ne_M, lt_M, cl_I, vin_T, gd_tt, nz_T, nI_add, sub_I, m1_M, pk_mul, div_I, Option.bind_some, Option.map_some, if_pos, if_neg, if_true, if_false, Nat.reduceAdd, Nat.reduceMul, Nat.reduceSub, Nat.zero_add, Nat.add_zero, Ret_s, e4, e1, e2, at_J h2 hn]
theorem rsgo_V {n p x : Nat} {g : Nat → Nat} {z lf oth : Nat → Int32} (hz : ZI z n g) (hn : n ≤ 11) (hg : RG n g) (hp : p < n) (hx : x < ways (cF g n 0)) : Ret (F_X6_signAt lf oth z (nI x) (nI p)) (fun r => r.1 = nI (gl g n x p)) := by
  obtain ⟨lf2, oth2, e9, h9⟩ := rlay_I (o := lf) (a := oth) hz hn hg hx
  unfold F_X6_signAt
  simp (disch := omega) only [↓qM, zq0, zq1, zq2, zq3, zq4, zq5, zq6, zq7, zq8, zq9, zq10, zq11, zq12, zq13, zq14, zq20, zq33, zq48, zq49, zq50, zq57, zq60, zq61, zq78, zq97, zq102, zq126, zq486, zq600, zq2916, zq4200, le_I, lt_I, eq_I, ne_M, lt_M, cl_I, vin_T, gd_tt, nz_T, nI_add, sub_I, m1_M, pk_mul, div_I, Option.bind_some, Option.map_some, if_pos, if_neg, if_true, if_false, Nat.reduceAdd, Nat.reduceMul, Nat.reduceSub, Nat.zero_add, Nat.add_zero, Ret_s, e9, h9.at]
theorem hav_V {n a b p s : Nat} {g : Nat → Nat} {rs o ws : Nat → Int32} {t wl : Int32} (hn : n ≤ 11) (h0 : 1 ≤ n) (hg : RG n g) (h : RA n g rs) (hp : p < n) (hs : s < 6) (hab : a ≤ b) (hb : b ≤ ways (cF g n 0)) : Ret (F_X5_having t o (nI n) rs wl ws (nI a) (nI b) (nI p) (nI s)) (fun r => r.1 = nI (hv g n p s b) - nI (hv g n p s a)) := by
  have hN := N_11 hn hg
  have e4 := place_I hp hn
  have e7 := sign_I hs
  obtain ⟨o1, e1, -⟩ := all_I (t := t) (o := o) hn hg h
  obtain ⟨⟨x1, t2, o2, wl2, ws2⟩, e2, h2⟩ := hBel_I (bt := nI n) (o := o1) (wl := wl) (wk := ws) hn h0 hg h hp hs hb
  have h2 : x1 = nI (hv g n p s b) := h2
  obtain ⟨⟨x2, t3, o3, wl3, ws3⟩, e3, h3⟩ := hBel_I (bt := t2) (o := o2) (wl := wl2) (wk := ws2) hn h0 hg h hp hs (show a ≤ ways (cF g n 0) by omega)
  have h3 : x2 = nI (hv g n p s a) := h3
  unfold F_X5_having F_X5_having_J27
  refine ⟨(x1 - x2, t3, o3, wl3, ws3), ?_, by rw [h2, h3]⟩
  simp (disch := omega) only [↓qM, zq0, zq1, zq2, zq3, zq4, zq5, zq6, zq7, zq8, zq9, zq10, zq11, zq12, zq13, zq14, zq20, zq33, zq48, zq49, zq50, zq57, zq60, zq61, zq78, zq97, zq102, zq126, zq486, zq600, zq2916, zq4200, le_I, lt_I, eq_I, ne_M, lt_M, cl_I, vin_T, gd_tt, nz_T, nI_add, sub_I, m1_M, pk_mul, div_I, Option.bind_some, Option.map_some, if_pos, if_neg, if_true, if_false, Nat.reduceAdd, Nat.reduceMul, Nat.reduceSub, Nat.zero_add, Nat.add_zero, Ret_s, e4, e1, need1, e7, e2, e3]
theorem rhav_V {n a b p s : Nat} {g : Nat → Nat} {z lf oth : Nat → Int32} (hz : ZI z n g) (hn : n ≤ 11) (hg : RG n g) (hp : p < n) (hs : s < 6) (hab : a ≤ b) (hb : b ≤ ways (cF g n 0)) : Ret (F_X6_havingIn lf oth z (nI a) (nI b) (nI p) (nI s)) (fun r => r.1 = nI (hv g n p s b) - nI (hv g n p s a)) := by
  obtain ⟨⟨x1, lf1, oth1⟩, e2, h2⟩ := rhBel_I (lf := lf) (oth := oth) hz hn hg hp hs hb
  have h2 : x1 = nI (hv g n p s b) := h2
  obtain ⟨⟨x2, lf2, oth2⟩, e3, h3⟩ := rhBel_I (lf := lf1) (oth := oth1) hz hn hg hp hs (show a ≤ ways (cF g n 0) by omega)
  have h3 : x2 = nI (hv g n p s a) := h3
  unfold F_X6_havingIn
  refine ⟨(x1 - x2, lf2, oth2), ?_, by rw [h2, h3]⟩
  simp (disch := omega) only [↓qM, zq0, zq1, zq2, zq3, zq4, zq5, zq6, zq7, zq8, zq9, zq10, zq11, zq12, zq13, zq14, zq20, zq33, zq48, zq49, zq50, zq57, zq60, zq61, zq78, zq97, zq102, zq126, zq486, zq600, zq2916, zq4200, le_I, lt_I, eq_I, ne_M, lt_M, cl_I, vin_T, gd_tt, nz_T, nI_add, sub_I, m1_M, pk_mul, div_I, Option.bind_some, Option.map_some, if_pos, if_neg, if_true, if_false, Nat.reduceAdd, Nat.reduceMul, Nat.reduceSub, Nat.zero_add, Nat.add_zero, Ret_s, e2, e3]
-- the share
def shv (g : Nat → Nat) (n : Nat) : UInt64 := FP.ddiv (FP.i2d (nI (rk g n n))) (FP.i2d (nI (ways (cF g n 0))))
theorem shv_c {r N : Nat} (h1 : r < N) (h2 : N ≤ 39916800) : FP.ddiv (FP.i2d (nI r)) (FP.i2d (nI N)) = FP.dconst0 ∨ ∃ c k : Nat, FP.Core.val64 (FP.ddiv (FP.i2d (nI r)) (FP.i2d (nI N))) = .fin false c (-52 - (k : Int)) ∧ 4503599627370496 ≤ c ∧ c < 9007199254740992 ∧ k ≤ 26 := by
  by_cases e : r = 0
  · subst e
    exact Or.inl (fp_zero (nI_toInt (by omega)) (by omega))
  · exact Or.inr (fp_div (nI_toInt (by omega)) (nI_toInt (by omega)) (by omega) h1 h2)
theorem nn_of {x : UInt64} (h : FP.Core.val64 x ≠ .nan) : nn x = true := decide_eq_true (fp_no h)
theorem nn_0 : nn FP.dconst0 = true := by decide
theorem shv_nn {r N : Nat} (h1 : r < N) (h2 : N ≤ 39916800) : nn (FP.ddiv (FP.i2d (nI r)) (FP.i2d (nI N))) = true := by
  rcases shv_c h1 h2 with h | ⟨c, k, h, -⟩
  · rw [h]; exact nn_0
  · exact nn_of (fp_fin h)
theorem shr_V {n : Nat} {g : Nat → Nat} {rs o : Nat → Int32} {t : Int32} (hn : n ≤ 11) (hg : RG n g) (h : RA n g rs) : Ret (F_X5_share t o (nI n) rs) (fun r => r.1 = shv g n) := by
  have hN := N_11 hn hg
  have hrk := rk_all hg
  obtain ⟨o1, e1, -⟩ := all_I (t := t) (o := o) hn hg h
  obtain ⟨o2, e2⟩ := rankOf_I (t := nI n) (o := o1) hn hg h
  have e3 := shv_nn hrk hN
  unfold F_X5_share shv
  simp (disch := omega) only [↓qM, zq0, zq1, zq2, zq3, zq4, zq5, zq6, zq7, zq8, zq9, zq10, zq11, zq12, zq13, zq14, zq20, zq33, zq48, zq49, zq50, zq57, zq60, zq61, zq78, zq97, zq102, zq126, zq486, zq600, zq2916, zq4200, le_I, lt_I, eq_I, ne_M, lt_M, cl_I, vin_T, gd_tt, nz_T, nI_add, sub_I, m1_M, pk_mul, div_I, Option.bind_some, Option.map_some, if_pos, if_neg, if_true, if_false, Nat.reduceAdd, Nat.reduceMul, Nat.reduceSub, Nat.zero_add, Nat.add_zero, Ret_s, e1, e2, e3]
theorem rshr_V {n : Nat} {g : Nat → Nat} {z lf oth : Nat → Int32} (hz : ZI z n g) (hn : n ≤ 11) (hg : RG n g) : Ret (F_X6_shareNow lf oth z) (fun r => r.1 = shv g n) := by
  have hN := N_11 hn hg
  have hrk := rk_all hg
  obtain ⟨lf1, oth1, e1⟩ := rankNow_I (o := lf) (a := oth) hz hn hg
  obtain ⟨lf2, e2, -⟩ := allRows_I (o := lf1) hz hn hg
  have e3 := shv_nn hrk hN
  unfold F_X6_shareNow shv
  simp (disch := omega) only [↓qM, zq0, zq1, zq2, zq3, zq4, zq5, zq6, zq7, zq8, zq9, zq10, zq11, zq12, zq13, zq14, zq20, zq33, zq48, zq49, zq50, zq57, zq60, zq61, zq78, zq97, zq102, zq126, zq486, zq600, zq2916, zq4200, le_I, lt_I, eq_I, ne_M, lt_M, cl_I, vin_T, gd_tt, nz_T, nI_add, sub_I, m1_M, pk_mul, div_I, Option.bind_some, Option.map_some, if_pos, if_neg, if_true, if_false, Nat.reduceAdd, Nat.reduceMul, Nat.reduceSub, Nat.zero_add, Nat.add_zero, Ret_s, e1, e2, e3]
