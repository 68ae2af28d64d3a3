/-! the looks and the texts keep the relation -/
theorem ok_sign {X : XS} {M : MS} (h : RelX X M) (x1 : Int32) : Ok_sign RelX X M x1 := by
  refine RelX_e (P := fun X M => Ok_sign RelX X M x1) h ?_
  intro n g S L t rs wl ws ql qs bt bo mf wg ic al st tc sl th cc rd op hash z hi tx lf oth sm wts sg wkd h0 hn hg hr hz hS hx1 hx2 hR
  have hN := N_11 hn hg
  have hS6 := hR.1
  rcases plc n x1 with ⟨p, hp, rfl⟩ | hp
  · have e5 := sgn_V hn hr hp
    skip
    have e11 := isPlace1 hz hp hn
    have R : Ret (F_X6_sign th z (nI p)) (fun r => r.1 = nI (g p) ∧ r.2 = nI 0) := by
      unfold F_X6_sign F_X6_sign_J14
      simp (disch := omega) only [↓qM, zq0, zq1, zq2, zq3, zq4, zq5, zq6, zq7, zq8, zq9, zq10, zq11, zq12, zq13, zq14, zq20, zq33, zq48, zq49, zq50, zq57, zq60, zq61, zq78, zq97, zq102, zq126, zq486, zq600, zq2916, zq4200, le_I, lt_I, eq_I, ne_M, lt_M, cl_I, vin_T, gd_tt, nz_T, nI_add, sub_I, m1_M, pk_mul, div_I, Option.bind_some, Option.map_some, if_pos, if_neg, if_true, if_false, Nat.reduceAdd, Nat.reduceMul, Nat.reduceSub, Nat.zero_add, Nat.add_zero, Ret_s, e11, hz.g]
      exact ⟨(by first | rfl | trivial), (by first | rfl | trivial)⟩
    obtain ⟨r6, e6, a6⟩ := R
    exact ⟨_, _, mapR e6 a6.1, Or.inl ⟨_, mapR e5 rfl, a6.2, RelX_k n g S L t h0 hn hg rfl hr hz rfl hS rfl rfl hx1 hx2 rfl rfl hR⟩⟩
  · have e8 := placeT_B hp
    have e12 := isPlace_B hz hp h0 hn
    have e5 : F_X5_sign_T (nI n) rs x1 = some 3 := by
      unfold F_X5_sign_T
      simp (disch := omega) only [↓qM, zq0, zq1, zq2, zq3, zq4, zq5, zq6, zq7, zq8, zq9, zq10, zq11, zq12, zq13, zq14, zq20, zq33, zq48, zq49, zq50, zq57, zq60, zq61, zq78, zq97, zq102, zq126, zq486, zq600, zq2916, zq4200, le_I, lt_I, eq_I, ne_M, lt_M, cl_I, vin_T, gd_tt, nz_T, nI_add, sub_I, m1_M, pk_mul, div_I, Option.bind_some, Option.map_some, if_pos, if_neg, if_true, if_false, Nat.reduceAdd, Nat.reduceMul, Nat.reduceSub, Nat.zero_add, Nat.add_zero, Ret_s, e8, opc_s]
    have e6' : F_X6_sign th z x1 = some (nI 0, nI 1) := by
      unfold F_X6_sign F_X6_sign_J14
      simp (disch := omega) only [↓qM, zq0, zq1, zq2, zq3, zq4, zq5, zq6, zq7, zq8, zq9, zq10, zq11, zq12, zq13, zq14, zq20, zq33, zq48, zq49, zq50, zq57, zq60, zq61, zq78, zq97, zq102, zq126, zq486, zq600, zq2916, zq4200, le_I, lt_I, eq_I, ne_M, lt_M, cl_I, vin_T, gd_tt, nz_T, nI_add, sub_I, m1_M, pk_mul, div_I, Option.bind_some, Option.map_some, if_pos, if_neg, if_true, if_false, Nat.reduceAdd, Nat.reduceMul, Nat.reduceSub, Nat.zero_add, Nat.add_zero, Ret_s, e12]
    exact ⟨_, _, mapR e6' rfl, Or.inr ⟨_, mapR e5 rfl, rfl, RelX_k n g S L t h0 hn hg rfl hr hz rfl hS rfl rfl hx1 hx2 rfl rfl hR⟩⟩
theorem ok_digit {X : XS} {M : MS} (h : RelX X M) (x1 : Int32) : Ok_digit RelX X M x1 := by
  refine RelX_e (P := fun X M => Ok_digit RelX X M x1) h ?_
  intro n g S L t rs wl ws ql qs bt bo mf wg ic al st tc sl th cc rd op hash z hi tx lf oth sm wts sg wkd h0 hn hg hr hz hS hx1 hx2 hR
  have hN := N_11 hn hg
  have hS6 := hR.1
  rcases plc n x1 with ⟨p, hp, rfl⟩ | hp
  · obtain ⟨r5, e5, a5⟩ := dig_V (t := bt) (o := bo) hn hg hr hp
    have e7 := rdig_V hz hn hg hp
    have e11 := isPlace1 hz hp hn
    have R : Ret (F_X6_digit th z (nI p)) (fun r => r.1 = nI (dgt g n p) ∧ r.2 = nI 0) := by
      unfold F_X6_digit F_X6_digit_J14
      simp (disch := omega) only [↓qM, zq0, zq1, zq2, zq3, zq4, zq5, zq6, zq7, zq8, zq9, zq10, zq11, zq12, zq13, zq14, zq20, zq33, zq48, zq49, zq50, zq57, zq60, zq61, zq78, zq97, zq102, zq126, zq486, zq600, zq2916, zq4200, le_I, lt_I, eq_I, ne_M, lt_M, cl_I, vin_T, gd_tt, nz_T, nI_add, sub_I, m1_M, pk_mul, div_I, Option.bind_some, Option.map_some, if_pos, if_neg, if_true, if_false, Nat.reduceAdd, Nat.reduceMul, Nat.reduceSub, Nat.zero_add, Nat.add_zero, Ret_s, e11, hz.g, e7]
      exact ⟨(by first | rfl | trivial), (by first | rfl | trivial)⟩
    obtain ⟨r6, e6, a6⟩ := R
    exact ⟨_, _, mapR e6 a6.1, Or.inl ⟨_, mapR e5 a5, a6.2, RelX_k n g S L t h0 hn hg rfl hr hz rfl hS rfl rfl hx1 hx2 rfl rfl hR⟩⟩
  · have e8 := placeT_B hp
    have e12 := isPlace_B hz hp h0 hn
    have e5 : F_X5_digit_T bt bo (nI n) rs x1 = some (3, bt, bo) := by
      unfold F_X5_digit_T
      simp (disch := omega) only [↓qM, zq0, zq1, zq2, zq3, zq4, zq5, zq6, zq7, zq8, zq9, zq10, zq11, zq12, zq13, zq14, zq20, zq33, zq48, zq49, zq50, zq57, zq60, zq61, zq78, zq97, zq102, zq126, zq486, zq600, zq2916, zq4200, le_I, lt_I, eq_I, ne_M, lt_M, cl_I, vin_T, gd_tt, nz_T, nI_add, sub_I, m1_M, pk_mul, div_I, Option.bind_some, Option.map_some, if_pos, if_neg, if_true, if_false, Nat.reduceAdd, Nat.reduceMul, Nat.reduceSub, Nat.zero_add, Nat.add_zero, Ret_s, e8, opc_s]
    have e6' : F_X6_digit th z x1 = some (nI 0, nI 1) := by
      unfold F_X6_digit F_X6_digit_J14
      simp (disch := omega) only [↓qM, zq0, zq1, zq2, zq3, zq4, zq5, zq6, zq7, zq8, zq9, zq10, zq11, zq12, zq13, zq14, zq20, zq33, zq48, zq49, zq50, zq57, zq60, zq61, zq78, zq97, zq102, zq126, zq486, zq600, zq2916, zq4200, le_I, lt_I, eq_I, ne_M, lt_M, cl_I, vin_T, gd_tt, nz_T, nI_add, sub_I, m1_M, pk_mul, div_I, Option.bind_some, Option.map_some, if_pos, if_neg, if_true, if_false, Nat.reduceAdd, Nat.reduceMul, Nat.reduceSub, Nat.zero_add, Nat.add_zero, Ret_s, e12]
    exact ⟨_, _, mapR e6' rfl, Or.inr ⟨_, mapR e5 rfl, rfl, RelX_k n g S L t h0 hn hg rfl hr hz rfl hS rfl rfl hx1 hx2 rfl rfl hR⟩⟩
theorem ok_many {X : XS} {M : MS} (h : RelX X M) (x1 : Int32) : Ok_many RelX X M x1 := by
  refine RelX_e (P := fun X M => Ok_many RelX X M x1) h ?_
  intro n g S L t rs wl ws ql qs bt bo mf wg ic al st tc sl th cc rd op hash z hi tx lf oth sm wts sg wkd h0 hn hg hr hz hS hx1 hx2 hR
  have hN := N_11 hn hg
  have hS6 := hR.1
  rcases plc 6 x1 with ⟨s, hs, rfl⟩ | hs
  · obtain ⟨r5, e5, a5⟩ := many_V (t := bt) (o := bo) hn hg hr hs
    obtain ⟨r7, e7, a7⟩ := rmany_V (lf := lf) hz hn hg hs
    have e11 := isSign1 hs
    have R : Ret (F_X6_many th lf z (nI s)) (fun r => r.1 = nI (cF g n 0 s) ∧ r.2.1 = nI 0) := by
      unfold F_X6_many F_X6_many_J13
      simp (disch := omega) only [↓qM, zq0, zq1, zq2, zq3, zq4, zq5, zq6, zq7, zq8, zq9, zq10, zq11, zq12, zq13, zq14, zq20, zq33, zq48, zq49, zq50, zq57, zq60, zq61, zq78, zq97, zq102, zq126, zq486, zq600, zq2916, zq4200, le_I, lt_I, eq_I, ne_M, lt_M, cl_I, vin_T, gd_tt, nz_T, nI_add, sub_I, m1_M, pk_mul, div_I, Option.bind_some, Option.map_some, if_pos, if_neg, if_true, if_false, Nat.reduceAdd, Nat.reduceMul, Nat.reduceSub, Nat.zero_add, Nat.add_zero, Ret_s, e11, e7]
      exact ⟨a7, (by first | rfl | trivial)⟩
    obtain ⟨r6, e6, a6⟩ := R
    exact ⟨_, _, mapR e6 a6.1, Or.inl ⟨_, mapR e5 a5, a6.2, RelX_k n g S L t h0 hn hg rfl hr hz rfl hS rfl rfl hx1 hx2 rfl rfl hR⟩⟩
  · have e8 := signT_B hs
    have e12 := isSign_B hs
    have e5 : F_X5_many_T bt bo (nI n) rs x1 = some (1, bt, bo) := by
      unfold F_X5_many_T
      simp (disch := omega) only [↓qM, zq0, zq1, zq2, zq3, zq4, zq5, zq6, zq7, zq8, zq9, zq10, zq11, zq12, zq13, zq14, zq20, zq33, zq48, zq49, zq50, zq57, zq60, zq61, zq78, zq97, zq102, zq126, zq486, zq600, zq2916, zq4200, le_I, lt_I, eq_I, ne_M, lt_M, cl_I, vin_T, gd_tt, nz_T, nI_add, sub_I, m1_M, pk_mul, div_I, Option.bind_some, Option.map_some, if_pos, if_neg, if_true, if_false, Nat.reduceAdd, Nat.reduceMul, Nat.reduceSub, Nat.zero_add, Nat.add_zero, Ret_s, e8, opc_s]
    have e6' : F_X6_many th lf z x1 = some (nI 0, nI 1, lf) := by
      unfold F_X6_many F_X6_many_J13
      simp (disch := omega) only [↓qM, zq0, zq1, zq2, zq3, zq4, zq5, zq6, zq7, zq8, zq9, zq10, zq11, zq12, zq13, zq14, zq20, zq33, zq48, zq49, zq50, zq57, zq60, zq61, zq78, zq97, zq102, zq126, zq486, zq600, zq2916, zq4200, le_I, lt_I, eq_I, ne_M, lt_M, cl_I, vin_T, gd_tt, nz_T, nI_add, sub_I, m1_M, pk_mul, div_I, Option.bind_some, Option.map_some, if_pos, if_neg, if_true, if_false, Nat.reduceAdd, Nat.reduceMul, Nat.reduceSub, Nat.zero_add, Nat.add_zero, Ret_s, e12]
    exact ⟨_, _, mapR e6' rfl, Or.inr ⟨_, mapR e5 rfl, rfl, RelX_k n g S L t h0 hn hg rfl hr hz rfl hS rfl rfl hx1 hx2 rfl rfl hR⟩⟩
theorem ok_block {X : XS} {M : MS} (h : RelX X M) (x1 : Int32) (x2 : Int32) : Ok_block RelX X M x1 x2 := by
  refine RelX_e (P := fun X M => Ok_block RelX X M x1 x2) h ?_
  intro n g S L t rs wl ws ql qs bt bo mf wg ic al st tc sl th cc rd op hash z hi tx lf oth sm wts sg wkd h0 hn hg hr hz hS hx1 hx2 hR
  have hN := N_11 hn hg
  have hS6 := hR.1
  rcases plc (n + 1) x1 with ⟨k, hk, rfl⟩ | hk
  · have e11 := within_G (b := n) hk (by omega)
    rcases plc 3 x2 with ⟨v, hv, rfl⟩ | hv
    · have e12 := within_G (b := 2) hv (by omega)
      obtain ⟨r5, e5, a5⟩ := blk_V (t := bt) (o := bo) (ic := ic) hn h0 hg hr hS (show k ≤ n by omega) hv
      obtain ⟨r7, e7, a7⟩ := rblk_V (cd := cc) (lf := lf) (a := oth) (sm := sm) (wts := wts) hz hn hg (show k ≤ n by omega) hv
      have R : Ret (F_X6_block th cc lf oth sm wts z (nI k) (nI v)) (fun r => r.1 = nI (blk g n k v) ∧ r.2.1 = nI 0) := by
        unfold F_X6_block F_X6_block_J29
        simp (disch := omega) only [↓qM, zq0, zq1, zq2, zq3, zq4, zq5, zq6, zq7, zq8, zq9, zq10, zq11, zq12, zq13, zq14, zq20, zq33, zq48, zq49, zq50, zq57, zq60, zq61, zq78, zq97, zq102, zq126, zq486, zq600, zq2916, zq4200, le_I, lt_I, eq_I, ne_M, lt_M, cl_I, vin_T, gd_tt, nz_T, nI_add, sub_I, m1_M, pk_mul, div_I, Option.bind_some, Option.map_some, if_pos, if_neg, if_true, if_false, Nat.reduceAdd, Nat.reduceMul, Nat.reduceSub, Nat.zero_add, Nat.add_zero, Ret_s, hz.n, e11, e12, e7]
        exact ⟨a7, (by first | rfl | trivial)⟩
      obtain ⟨r6, e6, a6⟩ := R
      exact ⟨_, _, mapR e6 a6.1, Or.inl ⟨_, mapR e5 a5.1, a6.2, RelX_k n g S L t h0 hn hg rfl hr hz rfl a5.2 rfl rfl hx1 hx2 rfl rfl hR⟩⟩
    · have e12 := within_B (b := 2) hv (by omega)
      rcases hv with hv | ⟨v, k1, k2, rfl⟩
      · skip
        have e5 : F_X5_block_T bt bo (nI n) rs al ic mf st wg (nI k) x2 = some (1, bt, bo, al, ic, mf, st, wg) := by
          unfold F_X5_block_T F_X5_block_T_J29
          simp (disch := omega) only [↓qM, zq0, zq1, zq2, zq3, zq4, zq5, zq6, zq7, zq8, zq9, zq10, zq11, zq12, zq13, zq14, zq20, zq33, zq48, zq49, zq50, zq57, zq60, zq61, zq78, zq97, zq102, zq126, zq486, zq600, zq2916, zq4200, le_I, lt_I, eq_I, ne_M, lt_M, cl_I, vin_T, gd_tt, nz_T, nI_add, sub_I, m1_M, pk_mul, div_I, Option.bind_some, Option.map_some, if_pos, if_neg, if_true, if_false, Nat.reduceAdd, Nat.reduceMul, Nat.reduceSub, Nat.zero_add, Nat.add_zero, Ret_s, len_T, hv, needT0, opc_s]
        have e6' : F_X6_block th cc lf oth sm wts z (nI k) x2 = some (nI 0, nI 1, cc, lf, oth, sm, wts) := by
          unfold F_X6_block F_X6_block_J29
          simp (disch := omega) only [↓qM, zq0, zq1, zq2, zq3, zq4, zq5, zq6, zq7, zq8, zq9, zq10, zq11, zq12, zq13, zq14, zq20, zq33, zq48, zq49, zq50, zq57, zq60, zq61, zq78, zq97, zq102, zq126, zq486, zq600, zq2916, zq4200, le_I, lt_I, eq_I, ne_M, lt_M, cl_I, vin_T, gd_tt, nz_T, nI_add, sub_I, m1_M, pk_mul, div_I, Option.bind_some, Option.map_some, if_pos, if_neg, if_true, if_false, Nat.reduceAdd, Nat.reduceMul, Nat.reduceSub, Nat.zero_add, Nat.add_zero, Ret_s, hz.n, e11, e12]
        exact ⟨_, _, mapR e6' rfl, Or.inr ⟨_, mapR e5 rfl, rfl, RelX_k n g S L t h0 hn hg rfl hr hz rfl hS rfl rfl hx1 hx2 rfl rfl hR⟩⟩
      · skip
        have e5 : F_X5_block_T bt bo (nI n) rs al ic mf st wg (nI k) (nI v) = some (1, bt, bo, al, ic, mf, st, wg) := by
          unfold F_X5_block_T F_X5_block_T_J29
          simp (disch := omega) only [↓qM, zq0, zq1, zq2, zq3, zq4, zq5, zq6, zq7, zq8, zq9, zq10, zq11, zq12, zq13, zq14, zq20, zq33, zq48, zq49, zq50, zq57, zq60, zq61, zq78, zq97, zq102, zq126, zq486, zq600, zq2916, zq4200, le_I, lt_I, eq_I, ne_M, lt_M, cl_I, vin_T, gd_tt, nz_T, nI_add, sub_I, m1_M, pk_mul, div_I, Option.bind_some, Option.map_some, if_pos, if_neg, if_true, if_false, Nat.reduceAdd, Nat.reduceMul, Nat.reduceSub, Nat.zero_add, Nat.add_zero, Ret_s, len_T, needT0, opc_s]
        have e6' : F_X6_block th cc lf oth sm wts z (nI k) (nI v) = some (nI 0, nI 1, cc, lf, oth, sm, wts) := by
          unfold F_X6_block F_X6_block_J29
          simp (disch := omega) only [↓qM, zq0, zq1, zq2, zq3, zq4, zq5, zq6, zq7, zq8, zq9, zq10, zq11, zq12, zq13, zq14, zq20, zq33, zq48, zq49, zq50, zq57, zq60, zq61, zq78, zq97, zq102, zq126, zq486, zq600, zq2916, zq4200, le_I, lt_I, eq_I, ne_M, lt_M, cl_I, vin_T, gd_tt, nz_T, nI_add, sub_I, m1_M, pk_mul, div_I, Option.bind_some, Option.map_some, if_pos, if_neg, if_true, if_false, Nat.reduceAdd, Nat.reduceMul, Nat.reduceSub, Nat.zero_add, Nat.add_zero, Ret_s, hz.n, e11, e12]
        exact ⟨_, _, mapR e6' rfl, Or.inr ⟨_, mapR e5 rfl, rfl, RelX_k n g S L t h0 hn hg rfl hr hz rfl hS rfl rfl hx1 hx2 rfl rfl hR⟩⟩
  · have e11 := within_B (b := n) hk (by omega)
    rcases hk with hk | ⟨k, k1, k2, rfl⟩
    · skip
      have e5 : F_X5_block_T bt bo (nI n) rs al ic mf st wg x1 x2 = some (1, bt, bo, al, ic, mf, st, wg) := by
        unfold F_X5_block_T F_X5_block_T_J29
        simp (disch := omega) only [↓qM, zq0, zq1, zq2, zq3, zq4, zq5, zq6, zq7, zq8, zq9, zq10, zq11, zq12, zq13, zq14, zq20, zq33, zq48, zq49, zq50, zq57, zq60, zq61, zq78, zq97, zq102, zq126, zq486, zq600, zq2916, zq4200, le_I, lt_I, eq_I, ne_M, lt_M, cl_I, vin_T, gd_tt, nz_T, nI_add, sub_I, m1_M, pk_mul, div_I, Option.bind_some, Option.map_some, if_pos, if_neg, if_true, if_false, Nat.reduceAdd, Nat.reduceMul, Nat.reduceSub, Nat.zero_add, Nat.add_zero, Ret_s, hk, needT0, opc_s]
      have e6' : F_X6_block th cc lf oth sm wts z x1 x2 = some (nI 0, nI 1, cc, lf, oth, sm, wts) := by
        unfold F_X6_block F_X6_block_J29
        simp (disch := omega) only [↓qM, zq0, zq1, zq2, zq3, zq4, zq5, zq6, zq7, zq8, zq9, zq10, zq11, zq12, zq13, zq14, zq20, zq33, zq48, zq49, zq50, zq57, zq60, zq61, zq78, zq97, zq102, zq126, zq486, zq600, zq2916, zq4200, le_I, lt_I, eq_I, ne_M, lt_M, cl_I, vin_T, gd_tt, nz_T, nI_add, sub_I, m1_M, pk_mul, div_I, Option.bind_some, Option.map_some, if_pos, if_neg, if_true, if_false, Nat.reduceAdd, Nat.reduceMul, Nat.reduceSub, Nat.zero_add, Nat.add_zero, Ret_s, hz.n, e11]
      exact ⟨_, _, mapR e6' rfl, Or.inr ⟨_, mapR e5 rfl, rfl, RelX_k n g S L t h0 hn hg rfl hr hz rfl hS rfl rfl hx1 hx2 rfl rfl hR⟩⟩
    · skip
      have e5 : F_X5_block_T bt bo (nI n) rs al ic mf st wg (nI k) x2 = some (1, bt, bo, al, ic, mf, st, wg) := by
        unfold F_X5_block_T F_X5_block_T_J29
        simp (disch := omega) only [↓qM, zq0, zq1, zq2, zq3, zq4, zq5, zq6, zq7, zq8, zq9, zq10, zq11, zq12, zq13, zq14, zq20, zq33, zq48, zq49, zq50, zq57, zq60, zq61, zq78, zq97, zq102, zq126, zq486, zq600, zq2916, zq4200, le_I, lt_I, eq_I, ne_M, lt_M, cl_I, vin_T, gd_tt, nz_T, nI_add, sub_I, m1_M, pk_mul, div_I, Option.bind_some, Option.map_some, if_pos, if_neg, if_true, if_false, Nat.reduceAdd, Nat.reduceMul, Nat.reduceSub, Nat.zero_add, Nat.add_zero, Ret_s, len_T, needT0, opc_s]
      have e6' : F_X6_block th cc lf oth sm wts z (nI k) x2 = some (nI 0, nI 1, cc, lf, oth, sm, wts) := by
        unfold F_X6_block F_X6_block_J29
        simp (disch := omega) only [↓qM, zq0, zq1, zq2, zq3, zq4, zq5, zq6, zq7, zq8, zq9, zq10, zq11, zq12, zq13, zq14, zq20, zq33, zq48, zq49, zq50, zq57, zq60, zq61, zq78, zq97, zq102, zq126, zq486, zq600, zq2916, zq4200, le_I, lt_I, eq_I, ne_M, lt_M, cl_I, vin_T, gd_tt, nz_T, nI_add, sub_I, m1_M, pk_mul, div_I, Option.bind_some, Option.map_some, if_pos, if_neg, if_true, if_false, Nat.reduceAdd, Nat.reduceMul, Nat.reduceSub, Nat.zero_add, Nat.add_zero, Ret_s, hz.n, e11]
      exact ⟨_, _, mapR e6' rfl, Or.inr ⟨_, mapR e5 rfl, rfl, RelX_k n g S L t h0 hn hg rfl hr hz rfl hS rfl rfl hx1 hx2 rfl rfl hR⟩⟩
theorem ok_count {X : XS} {M : MS} (h : RelX X M) (x1 : Int32) : Ok_count RelX X M x1 := by
  refine RelX_e (P := fun X M => Ok_count RelX X M x1) h ?_
  intro n g S L t rs wl ws ql qs bt bo mf wg ic al st tc sl th cc rd op hash z hi tx lf oth sm wts sg wkd h0 hn hg hr hz hS hx1 hx2 hR
  have hN := N_11 hn hg
  have hS6 := hR.1
  rcases plc 14 x1 with ⟨k, hk, rfl⟩ | hk
  · have e11 := within_G (b := 13) hk (by omega)
    obtain ⟨r5, e5, a5⟩ := cnt_V (S := S) (gone := z 1) (t := bt) (o := bo) (ic := ic) (wl := wl) (ws := ws) hn h0 hg hr hS hk
    obtain ⟨r7, e7, a7⟩ := rcnt_V (S := S) (cc := cc) (lf := lf) (oth := oth) (sm := sm) (wts := wts) hz h0 hn hg hk
    have R : Ret (F_X6_count (nI S) th cc lf oth sm wts z (nI k)) (fun r => r.1 = cnv g n (z 1) S k ∧ r.2.1 = nI 0) := by
      unfold F_X6_count F_X6_count_J16
      simp (disch := omega) only [↓qM, zq0, zq1, zq2, zq3, zq4, zq5, zq6, zq7, zq8, zq9, zq10, zq11, zq12, zq13, zq14, zq20, zq33, zq48, zq49, zq50, zq57, zq60, zq61, zq78, zq97, zq102, zq126, zq486, zq600, zq2916, zq4200, le_I, lt_I, eq_I, ne_M, lt_M, cl_I, vin_T, gd_tt, nz_T, nI_add, sub_I, m1_M, pk_mul, div_I, Option.bind_some, Option.map_some, if_pos, if_neg, if_true, if_false, Nat.reduceAdd, Nat.reduceMul, Nat.reduceSub, Nat.zero_add, Nat.add_zero, Ret_s, e11, e7]
      exact ⟨a7, (by first | rfl | trivial)⟩
    obtain ⟨r6, e6, a6⟩ := R
    exact ⟨_, _, mapR e6 a6.1, Or.inl ⟨_, mapR e5 a5.1, a6.2, RelX_k n g S L t h0 hn hg rfl hr hz rfl a5.2 rfl rfl hx1 hx2 rfl rfl hR⟩⟩
  · have e11 := within_B (b := 13) hk (by omega)
    rcases hk with hk | ⟨k, k1, k2, rfl⟩
    · skip
      have e5 : F_X5_count_T (z 1) bt bo (nI n) rs (nI S) al ic mf st wg wl ws x1 = some (1, bt, bo, al, ic, mf, st, wg, wl, ws) := by
        unfold F_X5_count_T F_X5_count_T_J15
        simp (disch := omega) only [↓qM, zq0, zq1, zq2, zq3, zq4, zq5, zq6, zq7, zq8, zq9, zq10, zq11, zq12, zq13, zq14, zq20, zq33, zq48, zq49, zq50, zq57, zq60, zq61, zq78, zq97, zq102, zq126, zq486, zq600, zq2916, zq4200, le_I, lt_I, eq_I, ne_M, lt_M, cl_I, vin_T, gd_tt, nz_T, nI_add, sub_I, m1_M, pk_mul, div_I, Option.bind_some, Option.map_some, if_pos, if_neg, if_true, if_false, Nat.reduceAdd, Nat.reduceMul, Nat.reduceSub, Nat.zero_add, Nat.add_zero, Ret_s, hk, needT0, opc_s]
      have e6' : F_X6_count (nI S) th cc lf oth sm wts z x1 = some (nI 0, nI 1, cc, lf, oth, sm, wts) := by
        unfold F_X6_count F_X6_count_J16
        simp (disch := omega) only [↓qM, zq0, zq1, zq2, zq3, zq4, zq5, zq6, zq7, zq8, zq9, zq10, zq11, zq12, zq13, zq14, zq20, zq33, zq48, zq49, zq50, zq57, zq60, zq61, zq78, zq97, zq102, zq126, zq486, zq600, zq2916, zq4200, le_I, lt_I, eq_I, ne_M, lt_M, cl_I, vin_T, gd_tt, nz_T, nI_add, sub_I, m1_M, pk_mul, div_I, Option.bind_some, Option.map_some, if_pos, if_neg, if_true, if_false, Nat.reduceAdd, Nat.reduceMul, Nat.reduceSub, Nat.zero_add, Nat.add_zero, Ret_s, e11]
      exact ⟨_, _, mapR e6' rfl, Or.inr ⟨_, mapR e5 rfl, rfl, RelX_k n g S L t h0 hn hg rfl hr hz rfl hS rfl rfl hx1 hx2 rfl rfl hR⟩⟩
    · skip
      have e5 : F_X5_count_T (z 1) bt bo (nI n) rs (nI S) al ic mf st wg wl ws (nI k) = some (1, bt, bo, al, ic, mf, st, wg, wl, ws) := by
        unfold F_X5_count_T F_X5_count_T_J15
        simp (disch := omega) only [↓qM, zq0, zq1, zq2, zq3, zq4, zq5, zq6, zq7, zq8, zq9, zq10, zq11, zq12, zq13, zq14, zq20, zq33, zq48, zq49, zq50, zq57, zq60, zq61, zq78, zq97, zq102, zq126, zq486, zq600, zq2916, zq4200, le_I, lt_I, eq_I, ne_M, lt_M, cl_I, vin_T, gd_tt, nz_T, nI_add, sub_I, m1_M, pk_mul, div_I, Option.bind_some, Option.map_some, if_pos, if_neg, if_true, if_false, Nat.reduceAdd, Nat.reduceMul, Nat.reduceSub, Nat.zero_add, Nat.add_zero, Ret_s, needT0, opc_s]
      have e6' : F_X6_count (nI S) th cc lf oth sm wts z (nI k) = some (nI 0, nI 1, cc, lf, oth, sm, wts) := by
        unfold F_X6_count F_X6_count_J16
        simp (disch := omega) only [↓qM, zq0, zq1, zq2, zq3, zq4, zq5, zq6, zq7, zq8, zq9, zq10, zq11, zq12, zq13, zq14, zq20, zq33, zq48, zq49, zq50, zq57, zq60, zq61, zq78, zq97, zq102, zq126, zq486, zq600, zq2916, zq4200, le_I, lt_I, eq_I, ne_M, lt_M, cl_I, vin_T, gd_tt, nz_T, nI_add, sub_I, m1_M, pk_mul, div_I, Option.bind_some, Option.map_some, if_pos, if_neg, if_true, if_false, Nat.reduceAdd, Nat.reduceMul, Nat.reduceSub, Nat.zero_add, Nat.add_zero, Ret_s, e11]
      exact ⟨_, _, mapR e6' rfl, Or.inr ⟨_, mapR e5 rfl, rfl, RelX_k n g S L t h0 hn hg rfl hr hz rfl hS rfl rfl hx1 hx2 rfl rfl hR⟩⟩
theorem ok_ifSwapped {X : XS} {M : MS} (h : RelX X M) (x1 : Int32) (x2 : Int32) : Ok_ifSwapped RelX X M x1 x2 := by
  refine RelX_e (P := fun X M => Ok_ifSwapped RelX X M x1 x2) h ?_
  intro n g S L t rs wl ws ql qs bt bo mf wg ic al st tc sl th cc rd op hash z hi tx lf oth sm wts sg wkd h0 hn hg hr hz hS hx1 hx2 hR
  have hN := N_11 hn hg
  have hS6 := hR.1
  rcases plc n x1 with ⟨p, hp, rfl⟩ | hp
  · have e4 := place_I hp hn
    have e4t := placeT_I hp hn
    have e11 := isPlace1 hz hp hn
    rcases plc n x2 with ⟨q, hq, rfl⟩ | hq
    · have e12 := isPlace1 hz hq hn
      obtain ⟨r5, e5, a5⟩ := ifS_V (t := bt) (o := bo) (wl := wl) (ws := ws) hn hg hr hp hq
      obtain ⟨r7, e7, a7⟩ := rswapped_I (lf := lf) (a := oth) hn hg hz hp hq
      have R : Ret (F_X6_ifSwapped th lf oth z (nI p) (nI q)) (fun r => r.1 = nI (rk (gswap g p q) n n) ∧ r.2.1 = nI 0) := by
        unfold F_X6_ifSwapped F_X6_ifSwapped_J22
        simp (disch := omega) only [↓qM, zq0, zq1, zq2, zq3, zq4, zq5, zq6, zq7, zq8, zq9, zq10, zq11, zq12, zq13, zq14, zq20, zq33, zq48, zq49, zq50, zq57, zq60, zq61, zq78, zq97, zq102, zq126, zq486, zq600, zq2916, zq4200, le_I, lt_I, eq_I, ne_M, lt_M, cl_I, vin_T, gd_tt, nz_T, nI_add, sub_I, m1_M, pk_mul, div_I, Option.bind_some, Option.map_some, if_pos, if_neg, if_true, if_false, Nat.reduceAdd, Nat.reduceMul, Nat.reduceSub, Nat.zero_add, Nat.add_zero, Ret_s, e11, e12, e7]
        exact ⟨a7, (by first | rfl | trivial)⟩
      obtain ⟨r6, e6, a6⟩ := R
      exact ⟨_, _, mapR e6 a6.1, Or.inl ⟨_, mapR e5 a5, a6.2, RelX_k n g S L t h0 hn hg rfl hr hz rfl hS rfl rfl hx1 hx2 rfl rfl hR⟩⟩
    · have e8 := placeT_B hq
      have e12 := isPlace_B hz hq h0 hn
      have e5 : F_X5_ifSwapped_T bt bo (nI n) rs wl ws (nI p) x2 = some (3, bt, bo, wl, ws) := by
        unfold F_X5_ifSwapped_T
        simp (disch := omega) only [↓qM, zq0, zq1, zq2, zq3, zq4, zq5, zq6, zq7, zq8, zq9, zq10, zq11, zq12, zq13, zq14, zq20, zq33, zq48, zq49, zq50, zq57, zq60, zq61, zq78, zq97, zq102, zq126, zq486, zq600, zq2916, zq4200, le_I, lt_I, eq_I, ne_M, lt_M, cl_I, vin_T, gd_tt, nz_T, nI_add, sub_I, m1_M, pk_mul, div_I, Option.bind_some, Option.map_some, if_pos, if_neg, if_true, if_false, Nat.reduceAdd, Nat.reduceMul, Nat.reduceSub, Nat.zero_add, Nat.add_zero, Ret_s, e4t, opc_n, e4, e8, opc_s]
      have e6' : F_X6_ifSwapped th lf oth z (nI p) x2 = some (nI 0, nI 1, lf, oth) := by
        unfold F_X6_ifSwapped F_X6_ifSwapped_J22
        simp (disch := omega) only [↓qM, zq0, zq1, zq2, zq3, zq4, zq5, zq6, zq7, zq8, zq9, zq10, zq11, zq12, zq13, zq14, zq20, zq33, zq48, zq49, zq50, zq57, zq60, zq61, zq78, zq97, zq102, zq126, zq486, zq600, zq2916, zq4200, le_I, lt_I, eq_I, ne_M, lt_M, cl_I, vin_T, gd_tt, nz_T, nI_add, sub_I, m1_M, pk_mul, div_I, Option.bind_some, Option.map_some, if_pos, if_neg, if_true, if_false, Nat.reduceAdd, Nat.reduceMul, Nat.reduceSub, Nat.zero_add, Nat.add_zero, Ret_s, e11, e12]
      exact ⟨_, _, mapR e6' rfl, Or.inr ⟨_, mapR e5 rfl, rfl, RelX_k n g S L t h0 hn hg rfl hr hz rfl hS rfl rfl hx1 hx2 rfl rfl hR⟩⟩
  · have e8 := placeT_B hp
    have e12 := isPlace_B hz hp h0 hn
    have e5 : F_X5_ifSwapped_T bt bo (nI n) rs wl ws x1 x2 = some (3, bt, bo, wl, ws) := by
      unfold F_X5_ifSwapped_T
      simp (disch := omega) only [↓qM, zq0, zq1, zq2, zq3, zq4, zq5, zq6, zq7, zq8, zq9, zq10, zq11, zq12, zq13, zq14, zq20, zq33, zq48, zq49, zq50, zq57, zq60, zq61, zq78, zq97, zq102, zq126, zq486, zq600, zq2916, zq4200, le_I, lt_I, eq_I, ne_M, lt_M, cl_I, vin_T, gd_tt, nz_T, nI_add, sub_I, m1_M, pk_mul, div_I, Option.bind_some, Option.map_some, if_pos, if_neg, if_true, if_false, Nat.reduceAdd, Nat.reduceMul, Nat.reduceSub, Nat.zero_add, Nat.add_zero, Ret_s, e8, opc_s]
    have e6' : F_X6_ifSwapped th lf oth z x1 x2 = some (nI 0, nI 1, lf, oth) := by
      unfold F_X6_ifSwapped F_X6_ifSwapped_J22
      simp (disch := omega) only [↓qM, zq0, zq1, zq2, zq3, zq4, zq5, zq6, zq7, zq8, zq9, zq10, zq11, zq12, zq13, zq14, zq20, zq33, zq48, zq49, zq50, zq57, zq60, zq61, zq78, zq97, zq102, zq126, zq486, zq600, zq2916, zq4200, le_I, lt_I, eq_I, ne_M, lt_M, cl_I, vin_T, gd_tt, nz_T, nI_add, sub_I, m1_M, pk_mul, div_I, Option.bind_some, Option.map_some, if_pos, if_neg, if_true, if_false, Nat.reduceAdd, Nat.reduceMul, Nat.reduceSub, Nat.zero_add, Nat.add_zero, Ret_s, e12]
    exact ⟨_, _, mapR e6' rfl, Or.inr ⟨_, mapR e5 rfl, rfl, RelX_k n g S L t h0 hn hg rfl hr hz rfl hS rfl rfl hx1 hx2 rfl rfl hR⟩⟩
theorem ok_signOf {X : XS} {M : MS} (h : RelX X M) (x1 : Int32) (x2 : Int32) : Ok_signOf RelX X M x1 x2 := by
  refine RelX_e (P := fun X M => Ok_signOf RelX X M x1 x2) h ?_
  intro n g S L t rs wl ws ql qs bt bo mf wg ic al st tc sl th cc rd op hash z hi tx lf oth sm wts sg wkd h0 hn hg hr hz hS hx1 hx2 hR
  have hN := N_11 hn hg
  have hS6 := hR.1
  rcases plc n x2 with ⟨p, hp, rfl⟩ | hp
  · have e4 := place_I hp hn
    have e4t := placeT_I hp hn
    have e11 := isPlace1 hz hp hn
    rcases plc (ways (cF g n 0)) x1 with ⟨x, hx, rfl⟩ | hx
    · obtain ⟨r5, e5, a5⟩ := sgo_V (t := bt) (o := bo) (wl := wl) (ws := ws) hn hg hr hp hx
      obtain ⟨lf1, e12⟩ := isRk_I (lf := lf) hz hn hg hx
      obtain ⟨r7, e7, a7⟩ := rsgo_V (lf := lf1) (oth := oth) hz hn hg hp hx
      have R : Ret (F_X6_signOf th lf oth z (nI x) (nI p)) (fun r => r.1 = nI (gl g n x p) ∧ r.2.1 = nI 0) := by
        unfold F_X6_signOf F_X6_signOf_J26
        simp (disch := omega) only [↓qM, zq0, zq1, zq2, zq3, zq4, zq5, zq6, zq7, zq8, zq9, zq10, zq11, zq12, zq13, zq14, zq20, zq33, zq48, zq49, zq50, zq57, zq60, zq61, zq78, zq97, zq102, zq126, zq486, zq600, zq2916, zq4200, le_I, lt_I, eq_I, ne_M, lt_M, cl_I, vin_T, gd_tt, nz_T, nI_add, sub_I, m1_M, pk_mul, div_I, Option.bind_some, Option.map_some, if_pos, if_neg, if_true, if_false, Nat.reduceAdd, Nat.reduceMul, Nat.reduceSub, Nat.zero_add, Nat.add_zero, Ret_s, e11, e12, e7]
        exact ⟨a7, (by first | rfl | trivial)⟩
      obtain ⟨r6, e6, a6⟩ := R
      exact ⟨_, _, mapR e6 a6.1, Or.inl ⟨_, mapR e5 a5, a6.2, RelX_k n g S L t h0 hn hg rfl hr hz rfl hS rfl rfl hx1 hx2 rfl rfl hR⟩⟩
    · obtain ⟨⟨k, bt1, bo1⟩, e8, h1⟩ := rkT_B (t := bt) (o := bo) hn hg hr hx
      have h1 : k = 1 := h1
      subst h1
      obtain ⟨lf1, e12⟩ := isRk_B (lf := lf) hz hn hg hx
      have e5 : F_X5_signOf_T bt bo (nI n) rs wl ws x1 (nI p) = some (1, bt1, bo1, wl, ws) := by
        unfold F_X5_signOf_T
        simp (disch := omega) only [↓qM, zq0, zq1, zq2, zq3, zq4, zq5, zq6, zq7, zq8, zq9, zq10, zq11, zq12, zq13, zq14, zq20, zq33, zq48, zq49, zq50, zq57, zq60, zq61, zq78, zq97, zq102, zq126, zq486, zq600, zq2916, zq4200, le_I, lt_I, eq_I, ne_M, lt_M, cl_I, vin_T, gd_tt, nz_T, nI_add, sub_I, m1_M, pk_mul, div_I, Option.bind_some, Option.map_some, if_pos, if_neg, if_true, if_false, Nat.reduceAdd, Nat.reduceMul, Nat.reduceSub, Nat.zero_add, Nat.add_zero, Ret_s, e4t, opc_n, e4, e8, opc_s]
      have e6' : F_X6_signOf th lf oth z x1 (nI p) = some (nI 0, nI 2, lf1, oth) := by
        unfold F_X6_signOf F_X6_signOf_J26
        simp (disch := omega) only [↓qM, zq0, zq1, zq2, zq3, zq4, zq5, zq6, zq7, zq8, zq9, zq10, zq11, zq12, zq13, zq14, zq20, zq33, zq48, zq49, zq50, zq57, zq60, zq61, zq78, zq97, zq102, zq126, zq486, zq600, zq2916, zq4200, le_I, lt_I, eq_I, ne_M, lt_M, cl_I, vin_T, gd_tt, nz_T, nI_add, sub_I, m1_M, pk_mul, div_I, Option.bind_some, Option.map_some, if_pos, if_neg, if_true, if_false, Nat.reduceAdd, Nat.reduceMul, Nat.reduceSub, Nat.zero_add, Nat.add_zero, Ret_s, e11, e12]
      exact ⟨_, _, mapR e6' rfl, Or.inr (Or.inr ⟨_, mapR e5 rfl, rfl, RelX_k n g S L t h0 hn hg rfl hr hz rfl hS rfl rfl hx1 hx2 rfl rfl hR⟩)⟩
  · have e8 := placeT_B hp
    have e12 := isPlace_B hz hp h0 hn
    have e5 : F_X5_signOf_T bt bo (nI n) rs wl ws x1 x2 = some (3, bt, bo, wl, ws) := by
      unfold F_X5_signOf_T
      simp (disch := omega) only [↓qM, zq0, zq1, zq2, zq3, zq4, zq5, zq6, zq7, zq8, zq9, zq10, zq11, zq12, zq13, zq14, zq20, zq33, zq48, zq49, zq50, zq57, zq60, zq61, zq78, zq97, zq102, zq126, zq486, zq600, zq2916, zq4200, le_I, lt_I, eq_I, ne_M, lt_M, cl_I, vin_T, gd_tt, nz_T, nI_add, sub_I, m1_M, pk_mul, div_I, Option.bind_some, Option.map_some, if_pos, if_neg, if_true, if_false, Nat.reduceAdd, Nat.reduceMul, Nat.reduceSub, Nat.zero_add, Nat.add_zero, Ret_s, e8, opc_s]
    have e6' : F_X6_signOf th lf oth z x1 x2 = some (nI 0, nI 1, lf, oth) := by
      unfold F_X6_signOf F_X6_signOf_J26
      simp (disch := omega) only [↓qM, zq0, zq1, zq2, zq3, zq4, zq5, zq6, zq7, zq8, zq9, zq10, zq11, zq12, zq13, zq14, zq20, zq33, zq48, zq49, zq50, zq57, zq60, zq61, zq78, zq97, zq102, zq126, zq486, zq600, zq2916, zq4200, le_I, lt_I, eq_I, ne_M, lt_M, cl_I, vin_T, gd_tt, nz_T, nI_add, sub_I, m1_M, pk_mul, div_I, Option.bind_some, Option.map_some, if_pos, if_neg, if_true, if_false, Nat.reduceAdd, Nat.reduceMul, Nat.reduceSub, Nat.zero_add, Nat.add_zero, Ret_s, e12]
    exact ⟨_, _, mapR e6' rfl, Or.inr (Or.inl ⟨_, mapR e5 rfl, rfl, RelX_k n g S L t h0 hn hg rfl hr hz rfl hS rfl rfl hx1 hx2 rfl rfl hR⟩)⟩
theorem ok_stepsTo {X : XS} {M : MS} (h : RelX X M) (x1 : Int32) : Ok_stepsTo RelX X M x1 := by
  refine RelX_e (P := fun X M => Ok_stepsTo RelX X M x1) h ?_
  intro n g S L t rs wl ws ql qs bt bo mf wg ic al st tc sl th cc rd op hash z hi tx lf oth sm wts sg wkd h0 hn hg hr hz hS hx1 hx2 hR
  have hN := N_11 hn hg
  have hS6 := hR.1
  rcases plc (ways (cF g n 0)) x1 with ⟨x, hx, rfl⟩ | hx
  · obtain ⟨r5, e5, a5⟩ := steps_I (bt := bt) (o := bo) (rl := ql) (ra := qs) (wl := wl) (wk := ws) hn hg hr hx
    obtain ⟨lf1, e12⟩ := isRk_I (lf := lf) hz hn hg hx
    obtain ⟨r7, e7, a7⟩ := rsteps_I (lf := lf1) (oth := oth) (wkd := wkd) hz hn hg hx
    have R : Ret (F_X6_stepsTo th lf oth wkd z (nI x)) (fun r => r.1 = nI (stN (gl g n x) n n g 0) ∧ r.2.1 = nI 0) := by
      unfold F_X6_stepsTo F_X6_stepsTo_J14
      simp (disch := omega) only [↓qM, zq0, zq1, zq2, zq3, zq4, zq5, zq6, zq7, zq8, zq9, zq10, zq11, zq12, zq13, zq14, zq20, zq33, zq48, zq49, zq50, zq57, zq60, zq61, zq78, zq97, zq102, zq126, zq486, zq600, zq2916, zq4200, le_I, lt_I, eq_I, ne_M, lt_M, cl_I, vin_T, gd_tt, nz_T, nI_add, sub_I, m1_M, pk_mul, div_I, Option.bind_some, Option.map_some, if_pos, if_neg, if_true, if_false, Nat.reduceAdd, Nat.reduceMul, Nat.reduceSub, Nat.zero_add, Nat.add_zero, Ret_s, e12, e7]
      exact ⟨a7, (by first | rfl | trivial)⟩
    obtain ⟨r6, e6, a6⟩ := R
    exact ⟨_, _, mapR e6 a6.1, Or.inl ⟨_, mapR e5 a5, a6.2, RelX_k n g S L t h0 hn hg rfl hr hz rfl hS rfl rfl hx1 hx2 rfl rfl hR⟩⟩
  · obtain ⟨⟨k, bt1, bo1⟩, e8, h1⟩ := rkT_B (t := bt) (o := bo) hn hg hr hx
    have h1 : k = 1 := h1
    subst h1
    obtain ⟨lf1, e12⟩ := isRk_B (lf := lf) hz hn hg hx
    have e5 : F_X5_stepsTo_T bt bo ql qs (nI n) rs wl ws x1 = some (1, bt1, bo1, ql, qs, wl, ws) := by
      unfold F_X5_stepsTo_T
      simp (disch := omega) only [↓qM, zq0, zq1, zq2, zq3, zq4, zq5, zq6, zq7, zq8, zq9, zq10, zq11, zq12, zq13, zq14, zq20, zq33, zq48, zq49, zq50, zq57, zq60, zq61, zq78, zq97, zq102, zq126, zq486, zq600, zq2916, zq4200, le_I, lt_I, eq_I, ne_M, lt_M, cl_I, vin_T, gd_tt, nz_T, nI_add, sub_I, m1_M, pk_mul, div_I, Option.bind_some, Option.map_some, if_pos, if_neg, if_true, if_false, Nat.reduceAdd, Nat.reduceMul, Nat.reduceSub, Nat.zero_add, Nat.add_zero, Ret_s, e8, opc_s]
    have e6' : F_X6_stepsTo th lf oth wkd z x1 = some (nI 0, nI 1, lf1, oth, wkd) := by
      unfold F_X6_stepsTo F_X6_stepsTo_J14
      simp (disch := omega) only [↓qM, zq0, zq1, zq2, zq3, zq4, zq5, zq6, zq7, zq8, zq9, zq10, zq11, zq12, zq13, zq14, zq20, zq33, zq48, zq49, zq50, zq57, zq60, zq61, zq78, zq97, zq102, zq126, zq486, zq600, zq2916, zq4200, le_I, lt_I, eq_I, ne_M, lt_M, cl_I, vin_T, gd_tt, nz_T, nI_add, sub_I, m1_M, pk_mul, div_I, Option.bind_some, Option.map_some, if_pos, if_neg, if_true, if_false, Nat.reduceAdd, Nat.reduceMul, Nat.reduceSub, Nat.zero_add, Nat.add_zero, Ret_s, e12]
    exact ⟨_, _, mapR e6' rfl, Or.inr ⟨_, mapR e5 rfl, rfl, RelX_k n g S L t h0 hn hg rfl hr hz rfl hS rfl rfl hx1 hx2 rfl rfl hR⟩⟩
theorem ok_bestSwap {X : XS} {M : MS} (h : RelX X M) (x1 : Int32) : Ok_bestSwap RelX X M x1 := by
  refine RelX_e (P := fun X M => Ok_bestSwap RelX X M x1) h ?_
  intro n g S L t rs wl ws ql qs bt bo mf wg ic al st tc sl th cc rd op hash z hi tx lf oth sm wts sg wkd h0 hn hg hr hz hS hx1 hx2 hR
  have hN := N_11 hn hg
  have hS6 := hR.1
  rcases plc 3 x1 with ⟨k, hk, rfl⟩ | hk
  · have e11 := within_G (b := 2) hk (by omega)
    obtain ⟨r5, e5, a5⟩ := best_I (bt := bt) (o := bo) (wl := wl) (wk := ws) hn hg hr hk
    obtain ⟨r7, e7, a7⟩ := rbest_I (lf := lf) (oth := oth) (y := nI k) hz hn hg
    have R : Ret (F_X6_bestSwap th lf oth z (nI k)) (fun r => r.1 = bst g n (nI k) ∧ r.2.1 = nI 0) := by
      unfold F_X6_bestSwap F_X6_bestSwap_J15
      simp (disch := omega) only [↓qM, zq0, zq1, zq2, zq3, zq4, zq5, zq6, zq7, zq8, zq9, zq10, zq11, zq12, zq13, zq14, zq20, zq33, zq48, zq49, zq50, zq57, zq60, zq61, zq78, zq97, zq102, zq126, zq486, zq600, zq2916, zq4200, le_I, lt_I, eq_I, ne_M, lt_M, cl_I, vin_T, gd_tt, nz_T, nI_add, sub_I, m1_M, pk_mul, div_I, Option.bind_some, Option.map_some, if_pos, if_neg, if_true, if_false, Nat.reduceAdd, Nat.reduceMul, Nat.reduceSub, Nat.zero_add, Nat.add_zero, Ret_s, e11, e7]
      exact ⟨a7, (by first | rfl | trivial)⟩
    obtain ⟨r6, e6, a6⟩ := R
    exact ⟨_, _, mapR e6 a6.1, Or.inl ⟨_, mapR e5 a5, a6.2, RelX_k n g S L t h0 hn hg rfl hr hz rfl hS rfl rfl hx1 hx2 rfl rfl hR⟩⟩
  · have e11 := within_B (b := 2) hk (by omega)
    rcases hk with hk | ⟨k, k1, k2, rfl⟩
    · skip
      have e5 : F_X5_bestSwap_T bt bo (nI n) rs wl ws x1 = some (1, bt, bo, wl, ws) := by
        unfold F_X5_bestSwap_T F_X5_bestSwap_T_J14
        simp (disch := omega) only [↓qM, zq0, zq1, zq2, zq3, zq4, zq5, zq6, zq7, zq8, zq9, zq10, zq11, zq12, zq13, zq14, zq20, zq33, zq48, zq49, zq50, zq57, zq60, zq61, zq78, zq97, zq102, zq126, zq486, zq600, zq2916, zq4200, le_I, lt_I, eq_I, ne_M, lt_M, cl_I, vin_T, gd_tt, nz_T, nI_add, sub_I, m1_M, pk_mul, div_I, Option.bind_some, Option.map_some, if_pos, if_neg, if_true, if_false, Nat.reduceAdd, Nat.reduceMul, Nat.reduceSub, Nat.zero_add, Nat.add_zero, Ret_s, hk, needT0, opc_s]
      have e6' : F_X6_bestSwap th lf oth z x1 = some (nI 0, nI 1, lf, oth) := by
        unfold F_X6_bestSwap F_X6_bestSwap_J15
        simp (disch := omega) only [↓qM, zq0, zq1, zq2, zq3, zq4, zq5, zq6, zq7, zq8, zq9, zq10, zq11, zq12, zq13, zq14, zq20, zq33, zq48, zq49, zq50, zq57, zq60, zq61, zq78, zq97, zq102, zq126, zq486, zq600, zq2916, zq4200, le_I, lt_I, eq_I, ne_M, lt_M, cl_I, vin_T, gd_tt, nz_T, nI_add, sub_I, m1_M, pk_mul, div_I, Option.bind_some, Option.map_some, if_pos, if_neg, if_true, if_false, Nat.reduceAdd, Nat.reduceMul, Nat.reduceSub, Nat.zero_add, Nat.add_zero, Ret_s, e11]
      exact ⟨_, _, mapR e6' rfl, Or.inr ⟨_, mapR e5 rfl, rfl, RelX_k n g S L t h0 hn hg rfl hr hz rfl hS rfl rfl hx1 hx2 rfl rfl hR⟩⟩
    · skip
      have e5 : F_X5_bestSwap_T bt bo (nI n) rs wl ws (nI k) = some (1, bt, bo, wl, ws) := by
        unfold F_X5_bestSwap_T F_X5_bestSwap_T_J14
        simp (disch := omega) only [↓qM, zq0, zq1, zq2, zq3, zq4, zq5, zq6, zq7, zq8, zq9, zq10, zq11, zq12, zq13, zq14, zq20, zq33, zq48, zq49, zq50, zq57, zq60, zq61, zq78, zq97, zq102, zq126, zq486, zq600, zq2916, zq4200, le_I, lt_I, eq_I, ne_M, lt_M, cl_I, vin_T, gd_tt, nz_T, nI_add, sub_I, m1_M, pk_mul, div_I, Option.bind_some, Option.map_some, if_pos, if_neg, if_true, if_false, Nat.reduceAdd, Nat.reduceMul, Nat.reduceSub, Nat.zero_add, Nat.add_zero, Ret_s, needT0, opc_s]
      have e6' : F_X6_bestSwap th lf oth z (nI k) = some (nI 0, nI 1, lf, oth) := by
        unfold F_X6_bestSwap F_X6_bestSwap_J15
        simp (disch := omega) only [↓qM, zq0, zq1, zq2, zq3, zq4, zq5, zq6, zq7, zq8, zq9, zq10, zq11, zq12, zq13, zq14, zq20, zq33, zq48, zq49, zq50, zq57, zq60, zq61, zq78, zq97, zq102, zq126, zq486, zq600, zq2916, zq4200, le_I, lt_I, eq_I, ne_M, lt_M, cl_I, vin_T, gd_tt, nz_T, nI_add, sub_I, m1_M, pk_mul, div_I, Option.bind_some, Option.map_some, if_pos, if_neg, if_true, if_false, Nat.reduceAdd, Nat.reduceMul, Nat.reduceSub, Nat.zero_add, Nat.add_zero, Ret_s, e11]
      exact ⟨_, _, mapR e6' rfl, Or.inr ⟨_, mapR e5 rfl, rfl, RelX_k n g S L t h0 hn hg rfl hr hz rfl hS rfl rfl hx1 hx2 rfl rfl hR⟩⟩
theorem havT_B {n : Nat} {g : Nat → Nat} {rs bo ws : Nat → Int32} {bt wl x1 x2 x4 : Int32} {p : Nat} (hn : n ≤ 11) (hg : RG n g) (hr : RA n g rs) (hp : p < n) (hb : x1 < nI 0 ∨ ∃ a, a < 2147483648 ∧ x1 = nI a ∧ (x2 < nI 0 ∨ ∃ b, b < 2147483648 ∧ x2 = nI b ∧ (b < a ∨ ways (cF g n 0) < b))) : Ret (F_X5_having_T bt bo (nI n) rs wl ws x1 x2 (nI p) x4) (fun r => r.1 = 1) := by
  have hN := N_11 hn hg
  have e4 := place_I hp hn
  have e4t := placeT_I hp hn
  obtain ⟨o1, e1, -⟩ := all_I (t := bt) (o := bo) hn hg hr
  unfold F_X5_having_T F_X5_having_T_J27
  rcases hb with h1 | ⟨a, ha, rfl, h1 | ⟨b, hb, rfl, h1⟩⟩
  · simp (disch := omega) only [↓qM, zq0, zq1, zq2, zq3, zq4, zq5, zq6, zq7, zq8, zq9, zq10, zq11, zq12, zq13, zq14, zq20, zq33, zq48, zq49, zq50, zq57, zq60, zq61, zq78, zq97, zq102, zq126, zq486, zq600, zq2916, zq4200, le_I, lt_I, eq_I, ne_M, lt_M, cl_I, vin_T, gd_tt, nz_T, nI_add, sub_I, m1_M, pk_mul, div_I, Option.bind_some, Option.map_some, if_pos, if_neg, if_true, if_false, Nat.reduceAdd, Nat.reduceMul, Nat.reduceSub, Nat.zero_add, Nat.add_zero, Ret_s, e4t, opc_n, e4, h1, needT0, opc_s]
  · have h2 := neg_le h1 ha
    simp (disch := omega) only [↓qM, zq0, zq1, zq2, zq3, zq4, zq5, zq6, zq7, zq8, zq9, zq10, zq11, zq12, zq13, zq14, zq20, zq33, zq48, zq49, zq50, zq57, zq60, zq61, zq78, zq97, zq102, zq126, zq486, zq600, zq2916, zq4200, le_I, lt_I, eq_I, ne_M, lt_M, cl_I, vin_T, gd_tt, nz_T, nI_add, sub_I, m1_M, pk_mul, div_I, Option.bind_some, Option.map_some, if_pos, if_neg, if_true, if_false, Nat.reduceAdd, Nat.reduceMul, Nat.reduceSub, Nat.zero_add, Nat.add_zero, Ret_s, e4t, opc_n, e4, h2, needT0, opc_s]
  · by_cases h2 : b < a
    · simp (disch := omega) only [↓qM, zq0, zq1, zq2, zq3, zq4, zq5, zq6, zq7, zq8, zq9, zq10, zq11, zq12, zq13, zq14, zq20, zq33, zq48, zq49, zq50, zq57, zq60, zq61, zq78, zq97, zq102, zq126, zq486, zq600, zq2916, zq4200, le_I, lt_I, eq_I, ne_M, lt_M, cl_I, vin_T, gd_tt, nz_T, nI_add, sub_I, m1_M, pk_mul, div_I, Option.bind_some, Option.map_some, if_pos, if_neg, if_true, if_false, Nat.reduceAdd, Nat.reduceMul, Nat.reduceSub, Nat.zero_add, Nat.add_zero, Ret_s, e4t, opc_n, e4, needT0, opc_s]
    · have h3 : ways (cF g n 0) < b := by omega
      simp (disch := omega) only [↓qM, zq0, zq1, zq2, zq3, zq4, zq5, zq6, zq7, zq8, zq9, zq10, zq11, zq12, zq13, zq14, zq20, zq33, zq48, zq49, zq50, zq57, zq60, zq61, zq78, zq97, zq102, zq126, zq486, zq600, zq2916, zq4200, le_I, lt_I, eq_I, ne_M, lt_M, cl_I, vin_T, gd_tt, nz_T, nI_add, sub_I, m1_M, pk_mul, div_I, Option.bind_some, Option.map_some, if_pos, if_neg, if_true, if_false, Nat.reduceAdd, Nat.reduceMul, Nat.reduceSub, Nat.zero_add, Nat.add_zero, Ret_s, e4t, opc_n, e4, e1, needT0, opc_s]
theorem rhav_B {n : Nat} {g : Nat → Nat} {z lf oth : Nat → Int32} {th x1 x2 x4 : Int32} {p : Nat} (hz : ZI z n g) (hn : n ≤ 11) (hg : RG n g) (hp : p < n) (hb : x1 < nI 0 ∨ ∃ a, a < 2147483648 ∧ x1 = nI a ∧ (x2 < nI 0 ∨ ∃ b, b < 2147483648 ∧ x2 = nI b ∧ (b < a ∨ ways (cF g n 0) < b))) : Ret (F_X6_having th lf oth z x1 x2 (nI p) x4) (fun r => r.1 = nI 0 ∧ r.2.1 = nI 2) := by
  have hN := N_11 hn hg
  have e11 := isPlace1 hz hp hn
  obtain ⟨lf1, e1, -⟩ := allRows_I (o := lf) hz hn hg
  have bad : F_X6_within x2 (nI 0) (nI (ways (cF g n 0))) = some (nI 0) ∨ (F_X6_within x2 (nI 0) (nI (ways (cF g n 0))) = some (nI 1) ∧ F_X6_within x1 (nI 0) x2 = some (nI 0)) := by
    rcases i32 x2 with h2 | ⟨b, hb2, rfl⟩
    · exact Or.inl (withinN h2)
    · by_cases h3 : b ≤ ways (cF g n 0)
      · refine Or.inr ⟨within1 (Nat.zero_le _) h3 (by omega), ?_⟩
        rcases hb with h1 | ⟨a, ha, rfl, h1 | ⟨b2, hb3, h4, h1⟩⟩
        · exact withinN h1
        · exact absurd h1 (fun q => nl0_I hb2 q)
        · have h5 : b = b2 := (eq_I hb2 hb3).mp h4
          exact within0 (Or.inr (by omega)) (by omega) ha hb2
      · exact Or.inl (within0 (Or.inr (by omega)) (by omega) hb2 (by omega))
  unfold F_X6_having F_X6_having_J26 F_X6_having_J59
  rcases bad with h | ⟨h, h2⟩
  · simp (disch := omega) only [↓qM, zq0, zq1, zq2, zq3, zq4, zq5, zq6, zq7, zq8, zq9, zq10, zq11, zq12, zq13, zq14, zq20, zq33, zq48, zq49, zq50, zq57, zq60, zq61, zq78, zq97, zq102, zq126, zq486, zq600, zq2916, zq4200, le_I, lt_I, eq_I, ne_M, lt_M, cl_I, vin_T, gd_tt, nz_T, nI_add, sub_I, m1_M, pk_mul, div_I, Option.bind_some, Option.map_some, if_pos, if_neg, if_true, if_false, Nat.reduceAdd, Nat.reduceMul, Nat.reduceSub, Nat.zero_add, Nat.add_zero, Ret_s, e1, h, e11]
    exact ⟨(by first | rfl | trivial), (by first | rfl | trivial)⟩
  · simp (disch := omega) only [↓qM, zq0, zq1, zq2, zq3, zq4, zq5, zq6, zq7, zq8, zq9, zq10, zq11, zq12, zq13, zq14, zq20, zq33, zq48, zq49, zq50, zq57, zq60, zq61, zq78, zq97, zq102, zq126, zq486, zq600, zq2916, zq4200, le_I, lt_I, eq_I, ne_M, lt_M, cl_I, vin_T, gd_tt, nz_T, nI_add, sub_I, m1_M, pk_mul, div_I, Option.bind_some, Option.map_some, if_pos, if_neg, if_true, if_false, Nat.reduceAdd, Nat.reduceMul, Nat.reduceSub, Nat.zero_add, Nat.add_zero, Ret_s, e1, h, h2, e11]
    exact ⟨(by first | rfl | trivial), (by first | rfl | trivial)⟩
theorem ok_having {X : XS} {M : MS} (h : RelX X M) (x1 : Int32) (x2 : Int32) (x3 : Int32) (x4 : Int32) : Ok_having RelX X M x1 x2 x3 x4 := by
  refine RelX_e (P := fun X M => Ok_having RelX X M x1 x2 x3 x4) h ?_
  intro n g S L t rs wl ws ql qs bt bo mf wg ic al st tc sl th cc rd op hash z hi tx lf oth sm wts sg wkd h0 hn hg hr hz hS hx1 hx2 hR
  have hN := N_11 hn hg
  have hS6 := hR.1
  rcases plc n x3 with ⟨p, hp, rfl⟩ | hp
  · have e4 := place_I hp hn
    have e4t := placeT_I hp hn
    have e11 := isPlace1 hz hp hn
    have cas : (∃ a b, x1 = nI a ∧ x2 = nI b ∧ a ≤ b ∧ b ≤ ways (cF g n 0)) ∨ (x1 < nI 0 ∨ ∃ a, a < 2147483648 ∧ x1 = nI a ∧ (x2 < nI 0 ∨ ∃ b, b < 2147483648 ∧ x2 = nI b ∧ (b < a ∨ ways (cF g n 0) < b))) := by
      rcases i32 x1 with h1 | ⟨a, ha, rfl⟩
      · exact Or.inr (Or.inl h1)
      · rcases i32 x2 with h2 | ⟨b, hb, rfl⟩
        · exact Or.inr (Or.inr ⟨a, ha, rfl, Or.inl h2⟩)
        · by_cases h3 : a ≤ b ∧ b ≤ ways (cF g n 0)
          · exact Or.inl ⟨a, b, rfl, rfl, h3.1, h3.2⟩
          · exact Or.inr (Or.inr ⟨a, ha, rfl, Or.inr ⟨b, hb, rfl, by omega⟩⟩)
    rcases cas with ⟨a, b, rfl, rfl, hab, hb⟩ | hb
    · have e13 := within1 (x := b) (a := 0) (b := ways (cF g n 0)) (Nat.zero_le _) hb (by omega)
      have e14 := within1 (x := a) (a := 0) (b := b) (Nat.zero_le _) hab (by omega)
      obtain ⟨lf1, e1, -⟩ := allRows_I (o := lf) hz hn hg
      rcases plc 6 x4 with ⟨s, hs, rfl⟩ | hs
      · have e12 := isSign1 hs
        obtain ⟨r5, e5, a5⟩ := hav_V (t := bt) (o := bo) (wl := wl) (ws := ws) hn h0 hg hr hp hs hab hb
        obtain ⟨r7, e7, a7⟩ := rhav_V (lf := lf1) (oth := oth) hz hn hg hp hs hab hb
        have R : Ret (F_X6_having th lf oth z (nI a) (nI b) (nI p) (nI s)) (fun r => r.1 = nI (hv g n p s b) - nI (hv g n p s a) ∧ r.2.1 = nI 0) := by
          unfold F_X6_having F_X6_having_J26 F_X6_having_J59
          simp (disch := omega) only [↓qM, zq0, zq1, zq2, zq3, zq4, zq5, zq6, zq7, zq8, zq9, zq10, zq11, zq12, zq13, zq14, zq20, zq33, zq48, zq49, zq50, zq57, zq60, zq61, zq78, zq97, zq102, zq126, zq486, zq600, zq2916, zq4200, le_I, lt_I, eq_I, ne_M, lt_M, cl_I, vin_T, gd_tt, nz_T, nI_add, sub_I, m1_M, pk_mul, div_I, Option.bind_some, Option.map_some, if_pos, if_neg, if_true, if_false, Nat.reduceAdd, Nat.reduceMul, Nat.reduceSub, Nat.zero_add, Nat.add_zero, Ret_s, e1, e13, e14, e11, e12, e7]
          exact ⟨a7, (by first | rfl | trivial)⟩
        obtain ⟨r6, e6, a6⟩ := R
        exact ⟨_, _, mapR e6 a6.1, Or.inl ⟨_, mapR e5 a5, a6.2, RelX_k n g S L t h0 hn hg rfl hr hz rfl hS rfl rfl hx1 hx2 rfl rfl hR⟩⟩
      · have e12 := isSign_B hs
        have e8 := signT_B hs
        obtain ⟨bo1, e2, -⟩ := all_I (t := bt) (o := bo) hn hg hr
        have e5 : F_X5_having_T bt bo (nI n) rs wl ws (nI a) (nI b) (nI p) x4 = some (1, nI n, bo1, wl, ws) := by
          unfold F_X5_having_T F_X5_having_T_J27
          simp (disch := omega) only [↓qM, zq0, zq1, zq2, zq3, zq4, zq5, zq6, zq7, zq8, zq9, zq10, zq11, zq12, zq13, zq14, zq20, zq33, zq48, zq49, zq50, zq57, zq60, zq61, zq78, zq97, zq102, zq126, zq486, zq600, zq2916, zq4200, le_I, lt_I, eq_I, ne_M, lt_M, cl_I, vin_T, gd_tt, nz_T, nI_add, sub_I, m1_M, pk_mul, div_I, Option.bind_some, Option.map_some, if_pos, if_neg, if_true, if_false, Nat.reduceAdd, Nat.reduceMul, Nat.reduceSub, Nat.zero_add, Nat.add_zero, Ret_s, e4t, opc_n, e4, e2, needT1, need1, e8, opc_s]
        have e6' : F_X6_having th lf oth z (nI a) (nI b) (nI p) x4 = some (nI 0, nI 2, lf1, oth) := by
          unfold F_X6_having F_X6_having_J26 F_X6_having_J59
          simp (disch := omega) only [↓qM, zq0, zq1, zq2, zq3, zq4, zq5, zq6, zq7, zq8, zq9, zq10, zq11, zq12, zq13, zq14, zq20, zq33, zq48, zq49, zq50, zq57, zq60, zq61, zq78, zq97, zq102, zq126, zq486, zq600, zq2916, zq4200, le_I, lt_I, eq_I, ne_M, lt_M, cl_I, vin_T, gd_tt, nz_T, nI_add, sub_I, m1_M, pk_mul, div_I, Option.bind_some, Option.map_some, if_pos, if_neg, if_true, if_false, Nat.reduceAdd, Nat.reduceMul, Nat.reduceSub, Nat.zero_add, Nat.add_zero, Ret_s, e1, e13, e14, e11, e12]
        exact ⟨_, _, mapR e6' rfl, Or.inr (Or.inr ⟨_, mapR e5 rfl, rfl, RelX_k n g S L t h0 hn hg rfl hr hz rfl hS rfl rfl hx1 hx2 rfl rfl hR⟩)⟩
    · obtain ⟨r5, e5, a5⟩ := havT_B (bt := bt) (bo := bo) (wl := wl) (ws := ws) (x4 := x4) hn hg hr hp hb
      obtain ⟨r6, e6, a6⟩ := rhav_B (lf := lf) (oth := oth) (th := th) (x4 := x4) hz hn hg hp hb
      exact ⟨_, _, mapR e6 a6.1, Or.inr (Or.inr ⟨_, mapR e5 a5, a6.2, RelX_k n g S L t h0 hn hg rfl hr hz rfl hS rfl rfl hx1 hx2 rfl rfl hR⟩)⟩
  · have e8 := placeT_B hp
    have e12 := isPlace_B hz hp h0 hn
    have e5 : F_X5_having_T bt bo (nI n) rs wl ws x1 x2 x3 x4 = some (3, bt, bo, wl, ws) := by
      unfold F_X5_having_T
      simp (disch := omega) only [↓qM, zq0, zq1, zq2, zq3, zq4, zq5, zq6, zq7, zq8, zq9, zq10, zq11, zq12, zq13, zq14, zq20, zq33, zq48, zq49, zq50, zq57, zq60, zq61, zq78, zq97, zq102, zq126, zq486, zq600, zq2916, zq4200, le_I, lt_I, eq_I, ne_M, lt_M, cl_I, vin_T, gd_tt, nz_T, nI_add, sub_I, m1_M, pk_mul, div_I, Option.bind_some, Option.map_some, if_pos, if_neg, if_true, if_false, Nat.reduceAdd, Nat.reduceMul, Nat.reduceSub, Nat.zero_add, Nat.add_zero, Ret_s, e8, opc_s]
    have R : Ret (F_X6_having th lf oth z x1 x2 x3 x4) (fun r => r.1 = nI 0 ∧ r.2.1 = nI 1) := by
      obtain ⟨lf1, e1, -⟩ := allRows_I (o := lf) hz hn hg
      obtain ⟨v, e2, hv⟩ : Ret (F_X6_within x2 (nI 0) (nI (ways (cF g n 0)))) (fun v => v = nI 0 ∨ v = nI 1) := by
        rcases plc (ways (cF g n 0) + 1) x2 with ⟨b, hb, rfl⟩ | hb
        · exact ⟨_, within_G hb (by omega), Or.inr rfl⟩
        · exact ⟨_, within_B hb (by omega), Or.inl rfl⟩
      unfold F_X6_having F_X6_having_J26 F_X6_having_J59
      rcases hv with rfl | rfl
      · simp (disch := omega) only [↓qM, zq0, zq1, zq2, zq3, zq4, zq5, zq6, zq7, zq8, zq9, zq10, zq11, zq12, zq13, zq14, zq20, zq33, zq48, zq49, zq50, zq57, zq60, zq61, zq78, zq97, zq102, zq126, zq486, zq600, zq2916, zq4200, le_I, lt_I, eq_I, ne_M, lt_M, cl_I, vin_T, gd_tt, nz_T, nI_add, sub_I, m1_M, pk_mul, div_I, Option.bind_some, Option.map_some, if_pos, if_neg, if_true, if_false, Nat.reduceAdd, Nat.reduceMul, Nat.reduceSub, Nat.zero_add, Nat.add_zero, Ret_s, e1, e2, e12]
        exact ⟨(by first | rfl | trivial), (by first | rfl | trivial)⟩
      · obtain ⟨u, e3⟩ : ∃ u, F_X6_within x1 (nI 0) x2 = some u := by
          unfold F_X6_within
          by_cases q1 : x1 < nI 0
          · exact ⟨nI 0, by simp (disch := omega) only [↓qM, zq0, zq1, zq2, zq3, zq4, zq5, zq6, zq7, zq8, zq9, zq10, zq11, zq12, zq13, zq14, zq20, zq33, zq48, zq49, zq50, zq57, zq60, zq61, zq78, zq97, zq102, zq126, zq486, zq600, zq2916, zq4200, le_I, lt_I, eq_I, ne_M, lt_M, cl_I, vin_T, gd_tt, nz_T, nI_add, sub_I, m1_M, pk_mul, div_I, Option.bind_some, Option.map_some, if_pos, if_neg, if_true, if_false, Nat.reduceAdd, Nat.reduceMul, Nat.reduceSub, Nat.zero_add, Nat.add_zero, Ret_s, q1]⟩
          · by_cases q2 : x2 < x1
            · exact ⟨nI 0, by simp (disch := omega) only [↓qM, zq0, zq1, zq2, zq3, zq4, zq5, zq6, zq7, zq8, zq9, zq10, zq11, zq12, zq13, zq14, zq20, zq33, zq48, zq49, zq50, zq57, zq60, zq61, zq78, zq97, zq102, zq126, zq486, zq600, zq2916, zq4200, le_I, lt_I, eq_I, ne_M, lt_M, cl_I, vin_T, gd_tt, nz_T, nI_add, sub_I, m1_M, pk_mul, div_I, Option.bind_some, Option.map_some, if_pos, if_neg, if_true, if_false, Nat.reduceAdd, Nat.reduceMul, Nat.reduceSub, Nat.zero_add, Nat.add_zero, Ret_s, q1, q2]⟩
            · exact ⟨nI 1, by simp (disch := omega) only [↓qM, zq0, zq1, zq2, zq3, zq4, zq5, zq6, zq7, zq8, zq9, zq10, zq11, zq12, zq13, zq14, zq20, zq33, zq48, zq49, zq50, zq57, zq60, zq61, zq78, zq97, zq102, zq126, zq486, zq600, zq2916, zq4200, le_I, lt_I, eq_I, ne_M, lt_M, cl_I, vin_T, gd_tt, nz_T, nI_add, sub_I, m1_M, pk_mul, div_I, Option.bind_some, Option.map_some, if_pos, if_neg, if_true, if_false, Nat.reduceAdd, Nat.reduceMul, Nat.reduceSub, Nat.zero_add, Nat.add_zero, Ret_s, q1, q2]⟩
        simp (disch := omega) only [↓qM, zq0, zq1, zq2, zq3, zq4, zq5, zq6, zq7, zq8, zq9, zq10, zq11, zq12, zq13, zq14, zq20, zq33, zq48, zq49, zq50, zq57, zq60, zq61, zq78, zq97, zq102, zq126, zq486, zq600, zq2916, zq4200, le_I, lt_I, eq_I, ne_M, lt_M, cl_I, vin_T, gd_tt, nz_T, nI_add, sub_I, m1_M, pk_mul, div_I, Option.bind_some, Option.map_some, if_pos, if_neg, if_true, if_false, Nat.reduceAdd, Nat.reduceMul, Nat.reduceSub, Nat.zero_add, Nat.add_zero, Ret_s, e1, e2, e3, e12]
        exact ⟨(by first | rfl | trivial), (by first | rfl | trivial)⟩
    obtain ⟨r6, e6, a6⟩ := R
    exact ⟨_, _, mapR e6 a6.1, Or.inr (Or.inl ⟨_, mapR e5 rfl, a6.2, RelX_k n g S L t h0 hn hg rfl hr hz rfl hS rfl rfl hx1 hx2 rfl rfl hR⟩)⟩
theorem ok_share {X : XS} {M : MS} (h : RelX X M) : Ok_share RelX X M := by
  refine RelX_e (P := fun X M => Ok_share RelX X M) h ?_
  intro n g S L t rs wl ws ql qs bt bo mf wg ic al st tc sl th cc rd op hash z hi tx lf oth sm wts sg wkd h0 hn hg hr hz hS hx1 hx2 hR
  have hN := N_11 hn hg
  have hS6 := hR.1
  obtain ⟨r5, e5, a5⟩ := shr_V (t := bt) (o := bo) hn hg hr
  obtain ⟨r7, e7, a7⟩ := rshr_V (lf := lf) (oth := oth) hz hn hg
  have R : Ret (F_X6_share th lf oth z) (fun r => r.1 = shv g n) := by
    unfold F_X6_share
    simp (disch := omega) only [↓qM, zq0, zq1, zq2, zq3, zq4, zq5, zq6, zq7, zq8, zq9, zq10, zq11, zq12, zq13, zq14, zq20, zq33, zq48, zq49, zq50, zq57, zq60, zq61, zq78, zq97, zq102, zq126, zq486, zq600, zq2916, zq4200, le_I, lt_I, eq_I, ne_M, lt_M, cl_I, vin_T, gd_tt, nz_T, nI_add, sub_I, m1_M, pk_mul, div_I, Option.bind_some, Option.map_some, if_pos, if_neg, if_true, if_false, Nat.reduceAdd, Nat.reduceMul, Nat.reduceSub, Nat.zero_add, Nat.add_zero, Ret_s, e7]
    exact a7
  obtain ⟨r6, e6, a6⟩ := R
  exact ⟨_, _, _, mapR e6 a6, mapR e5 a5, RelX_k n g S L t h0 hn hg rfl hr hz rfl hS rfl rfl hx1 hx2 rfl rfl hR⟩
theorem xadd_I {L : Nat} {tc : Nat → Int32} {c : Int32} (hL : L < 60) : F_X4_add (nI L) tc c = some (nI (L + 1), upd tc L c) := by
  unfold F_X4_add
  simp (disch := omega) only [↓qM, zq0, zq1, zq2, zq3, zq4, zq5, zq6, zq7, zq8, zq9, zq10, zq11, zq12, zq13, zq14, zq20, zq33, zq48, zq49, zq50, zq57, zq60, zq61, zq78, zq97, zq102, zq126, zq486, zq600, zq2916, zq4200, le_I, lt_I, eq_I, ne_M, lt_M, cl_I, vin_T, gd_tt, nz_T, nI_add, sub_I, m1_M, pk_mul, div_I, Option.bind_some, Option.map_some, if_pos, if_neg, if_true, if_false, Nat.reduceAdd, Nat.reduceMul, Nat.reduceSub, Nat.zero_add, Nat.add_zero, Ret_s]
theorem xlen_T (x : Int32) : F_X4_length x = some x := Eq.trans (b := some x) rfl rfl
theorem xclr_T (x : Int32) : F_X4_clear x = some (nI 0) := Eq.trans (b := some (nI 0)) rfl rfl
theorem XI_u {L c : Nat} {t : Nat → Nat} {a : Nat → Int32} (h : XI L t a) (hL : L < 60) (hc : c ≤ 126) : XI (L + 1) (gset t L c) (upd a L (nI c)) := by
  refine ⟨by omega, fun i hi => ?_⟩
  by_cases e : i = L
  · subst e; rw [upd_s, gset_s]; exact ⟨rfl, hc⟩
  · rw [upd_n _ _ e, gset_n _ _ e]; exact h.2 i (by omega)
theorem XI_0 {t : Nat → Nat} {a : Nat → Int32} : XI 0 t a := ⟨by omega, fun i hi => absurd hi (by omega)⟩
theorem ok_append {X : XS} {M : MS} (h : RelX X M) (x1 : Int32) : Ok_append RelX X M x1 := by
  refine RelX_e (P := fun X M => Ok_append RelX X M x1) h ?_
  intro n g S L t rs wl ws ql qs bt bo mf wg ic al st tc sl th cc rd op hash z hi tx lf oth sm wts sg wkd h0 hn hg hr hz hS hx1 hx2 hR
  have hN := N_11 hn hg
  have hS6 := hR.1
  have hL := hx1.1
  have cas : (∃ c, 33 ≤ c ∧ c ≤ 126 ∧ x1 = nI c) ∨ (x1 < nI 33 ∨ ∃ c, 126 < c ∧ c < 2147483648 ∧ x1 = nI c) := by
    rcases i32 x1 with h1 | ⟨c, hc, rfl⟩
    · exact Or.inr (Or.inl (neg_le h1 (by omega)))
    · by_cases h2 : 33 ≤ c
      · by_cases h3 : c ≤ 126
        · exact Or.inl ⟨c, h2, h3, rfl⟩
        · exact Or.inr (Or.inr ⟨c, by omega, hc, rfl⟩)
      · exact Or.inr (Or.inl ((lt_I hc (by omega)).mpr (by omega)))
  rcases cas with ⟨c, hc1, hc2, rfl⟩ | hb
  · have e11 := within1 (x := c) (a := 33) (b := 126) hc1 hc2 (by omega)
    by_cases hL2 : L < 60
    · have e1 := xadd_I (tc := tc) (c := nI c) hL2
      have e5 : F_X5_append (nI L) tc (nI c) = some (nI (L + 1), nI (L + 1), upd tc L (nI c)) := by
        unfold F_X5_append F_X5_append_J17
        simp (disch := omega) only [↓qM, zq0, zq1, zq2, zq3, zq4, zq5, zq6, zq7, zq8, zq9, zq10, zq11, zq12, zq13, zq14, zq20, zq33, zq48, zq49, zq50, zq57, zq60, zq61, zq78, zq97, zq102, zq126, zq486, zq600, zq2916, zq4200, le_I, lt_I, eq_I, ne_M, lt_M, cl_I, vin_T, gd_tt, nz_T, nI_add, sub_I, m1_M, pk_mul, div_I, Option.bind_some, Option.map_some, if_pos, if_neg, if_true, if_false, Nat.reduceAdd, Nat.reduceMul, Nat.reduceSub, Nat.zero_add, Nat.add_zero, Ret_s, need1, xlen_T, e1]
      have e6' : F_X6_append (nI L) th tx (nI c) = some (nI (L + 1), nI (L + 1), nI 0, upd tx L (nI c)) := by
        unfold F_X6_append F_X6_append_J30
        simp (disch := omega) only [↓qM, zq0, zq1, zq2, zq3, zq4, zq5, zq6, zq7, zq8, zq9, zq10, zq11, zq12, zq13, zq14, zq20, zq33, zq48, zq49, zq50, zq57, zq60, zq61, zq78, zq97, zq102, zq126, zq486, zq600, zq2916, zq4200, le_I, lt_I, eq_I, ne_M, lt_M, cl_I, vin_T, gd_tt, nz_T, nI_add, sub_I, m1_M, pk_mul, div_I, Option.bind_some, Option.map_some, if_pos, if_neg, if_true, if_false, Nat.reduceAdd, Nat.reduceMul, Nat.reduceSub, Nat.zero_add, Nat.add_zero, Ret_s, e11]
      exact ⟨_, _, mapR e6' rfl, Or.inl ⟨_, mapR e5 rfl, rfl, RelX_k n g S (L + 1) (gset t L c) h0 hn hg rfl hr hz rfl hS rfl rfl (XI_u hx1 hL2 hc2) (XI_u hx2 hL2 hc2) rfl rfl hR⟩⟩
    · skip
      have e5 : F_X5_append_T (nI L) tc (nI c) = some (2, nI L, tc) := by
        unfold F_X5_append_T F_X5_append_T_J17
        simp (disch := omega) only [↓qM, zq0, zq1, zq2, zq3, zq4, zq5, zq6, zq7, zq8, zq9, zq10, zq11, zq12, zq13, zq14, zq20, zq33, zq48, zq49, zq50, zq57, zq60, zq61, zq78, zq97, zq102, zq126, zq486, zq600, zq2916, zq4200, le_I, lt_I, eq_I, ne_M, lt_M, cl_I, vin_T, gd_tt, nz_T, nI_add, sub_I, m1_M, pk_mul, div_I, Option.bind_some, Option.map_some, if_pos, if_neg, if_true, if_false, Nat.reduceAdd, Nat.reduceMul, Nat.reduceSub, Nat.zero_add, Nat.add_zero, Ret_s, needT1, opc_n, need1, xlen_T]
      have e6' : F_X6_append (nI L) th tx (nI c) = some (nI 0, nI L, nI 2, tx) := by
        unfold F_X6_append F_X6_append_J30
        simp (disch := omega) only [↓qM, zq0, zq1, zq2, zq3, zq4, zq5, zq6, zq7, zq8, zq9, zq10, zq11, zq12, zq13, zq14, zq20, zq33, zq48, zq49, zq50, zq57, zq60, zq61, zq78, zq97, zq102, zq126, zq486, zq600, zq2916, zq4200, le_I, lt_I, eq_I, ne_M, lt_M, cl_I, vin_T, gd_tt, nz_T, nI_add, sub_I, m1_M, pk_mul, div_I, Option.bind_some, Option.map_some, if_pos, if_neg, if_true, if_false, Nat.reduceAdd, Nat.reduceMul, Nat.reduceSub, Nat.zero_add, Nat.add_zero, Ret_s, e11]
      exact ⟨_, _, mapR e6' rfl, Or.inr (Or.inr ⟨_, mapR e5 rfl, rfl, RelX_k n g S L t h0 hn hg rfl hr hz rfl hS rfl rfl hx1 hx2 rfl rfl hR⟩)⟩
  · rcases hb with h1 | ⟨c, h1, h2, rfl⟩
    · have e11 : F_X6_within x1 (nI 33) (nI 126) = some (nI 0) := by
        unfold F_X6_within
        simp (disch := omega) only [↓qM, zq0, zq1, zq2, zq3, zq4, zq5, zq6, zq7, zq8, zq9, zq10, zq11, zq12, zq13, zq14, zq20, zq33, zq48, zq49, zq50, zq57, zq60, zq61, zq78, zq97, zq102, zq126, zq486, zq600, zq2916, zq4200, le_I, lt_I, eq_I, ne_M, lt_M, cl_I, vin_T, gd_tt, nz_T, nI_add, sub_I, m1_M, pk_mul, div_I, Option.bind_some, Option.map_some, if_pos, if_neg, if_true, if_false, Nat.reduceAdd, Nat.reduceMul, Nat.reduceSub, Nat.zero_add, Nat.add_zero, Ret_s, h1]
      have e5 : F_X5_append_T (nI L) tc x1 = some (1, nI L, tc) := by
        unfold F_X5_append_T F_X5_append_T_J17
        simp (disch := omega) only [↓qM, zq0, zq1, zq2, zq3, zq4, zq5, zq6, zq7, zq8, zq9, zq10, zq11, zq12, zq13, zq14, zq20, zq33, zq48, zq49, zq50, zq57, zq60, zq61, zq78, zq97, zq102, zq126, zq486, zq600, zq2916, zq4200, le_I, lt_I, eq_I, ne_M, lt_M, cl_I, vin_T, gd_tt, nz_T, nI_add, sub_I, m1_M, pk_mul, div_I, Option.bind_some, Option.map_some, if_pos, if_neg, if_true, if_false, Nat.reduceAdd, Nat.reduceMul, Nat.reduceSub, Nat.zero_add, Nat.add_zero, Ret_s, h1, needT0, opc_s]
      have e6' : F_X6_append (nI L) th tx x1 = some (nI 0, nI L, nI 1, tx) := by
        unfold F_X6_append F_X6_append_J30
        simp (disch := omega) only [↓qM, zq0, zq1, zq2, zq3, zq4, zq5, zq6, zq7, zq8, zq9, zq10, zq11, zq12, zq13, zq14, zq20, zq33, zq48, zq49, zq50, zq57, zq60, zq61, zq78, zq97, zq102, zq126, zq486, zq600, zq2916, zq4200, le_I, lt_I, eq_I, ne_M, lt_M, cl_I, vin_T, gd_tt, nz_T, nI_add, sub_I, m1_M, pk_mul, div_I, Option.bind_some, Option.map_some, if_pos, if_neg, if_true, if_false, Nat.reduceAdd, Nat.reduceMul, Nat.reduceSub, Nat.zero_add, Nat.add_zero, Ret_s, e11]
      exact ⟨_, _, mapR e6' rfl, Or.inr (Or.inl ⟨_, mapR e5 rfl, rfl, RelX_k n g S L t h0 hn hg rfl hr hz rfl hS rfl rfl hx1 hx2 rfl rfl hR⟩)⟩
    · have e11 := within0 (x := c) (a := 33) (b := 126) (Or.inr h1) (by omega) h2 (by omega)
      have e5 : F_X5_append_T (nI L) tc (nI c) = some (1, nI L, tc) := by
        unfold F_X5_append_T F_X5_append_T_J17
        simp (disch := omega) only [↓qM, zq0, zq1, zq2, zq3, zq4, zq5, zq6, zq7, zq8, zq9, zq10, zq11, zq12, zq13, zq14, zq20, zq33, zq48, zq49, zq50, zq57, zq60, zq61, zq78, zq97, zq102, zq126, zq486, zq600, zq2916, zq4200, le_I, lt_I, eq_I, ne_M, lt_M, cl_I, vin_T, gd_tt, nz_T, nI_add, sub_I, m1_M, pk_mul, div_I, Option.bind_some, Option.map_some, if_pos, if_neg, if_true, if_false, Nat.reduceAdd, Nat.reduceMul, Nat.reduceSub, Nat.zero_add, Nat.add_zero, Ret_s, needT0, opc_s]
      have e6' : F_X6_append (nI L) th tx (nI c) = some (nI 0, nI L, nI 1, tx) := by
        unfold F_X6_append F_X6_append_J30
        simp (disch := omega) only [↓qM, zq0, zq1, zq2, zq3, zq4, zq5, zq6, zq7, zq8, zq9, zq10, zq11, zq12, zq13, zq14, zq20, zq33, zq48, zq49, zq50, zq57, zq60, zq61, zq78, zq97, zq102, zq126, zq486, zq600, zq2916, zq4200, le_I, lt_I, eq_I, ne_M, lt_M, cl_I, vin_T, gd_tt, nz_T, nI_add, sub_I, m1_M, pk_mul, div_I, Option.bind_some, Option.map_some, if_pos, if_neg, if_true, if_false, Nat.reduceAdd, Nat.reduceMul, Nat.reduceSub, Nat.zero_add, Nat.add_zero, Ret_s, e11]
      exact ⟨_, _, mapR e6' rfl, Or.inr (Or.inl ⟨_, mapR e5 rfl, rfl, RelX_k n g S L t h0 hn hg rfl hr hz rfl hS rfl rfl hx1 hx2 rfl rfl hR⟩)⟩
theorem ok_clearBuffer {X : XS} {M : MS} (h : RelX X M) : Ok_clearBuffer RelX X M := by
  refine RelX_e (P := fun X M => Ok_clearBuffer RelX X M) h ?_
  intro n g S L t rs wl ws ql qs bt bo mf wg ic al st tc sl th cc rd op hash z hi tx lf oth sm wts sg wkd h0 hn hg hr hz hS hx1 hx2 hR
  have hN := N_11 hn hg
  have hS6 := hR.1
  have e5 : F_X5_clearBuffer (nI L) = some (nI L, nI 0) := by
    unfold F_X5_clearBuffer
    simp (disch := omega) only [↓qM, zq0, zq1, zq2, zq3, zq4, zq5, zq6, zq7, zq8, zq9, zq10, zq11, zq12, zq13, zq14, zq20, zq33, zq48, zq49, zq50, zq57, zq60, zq61, zq78, zq97, zq102, zq126, zq486, zq600, zq2916, zq4200, le_I, lt_I, eq_I, ne_M, lt_M, cl_I, vin_T, gd_tt, nz_T, nI_add, sub_I, m1_M, pk_mul, div_I, Option.bind_some, Option.map_some, if_pos, if_neg, if_true, if_false, Nat.reduceAdd, Nat.reduceMul, Nat.reduceSub, Nat.zero_add, Nat.add_zero, Ret_s, xlen_T, xclr_T]
  have e6' : F_X6_clearBuffer (nI L) th = some (nI L, nI 0, nI 0) := by
    unfold F_X6_clearBuffer
    simp (disch := omega) only [↓qM, zq0, zq1, zq2, zq3, zq4, zq5, zq6, zq7, zq8, zq9, zq10, zq11, zq12, zq13, zq14, zq20, zq33, zq48, zq49, zq50, zq57, zq60, zq61, zq78, zq97, zq102, zq126, zq486, zq600, zq2916, zq4200, le_I, lt_I, eq_I, ne_M, lt_M, cl_I, vin_T, gd_tt, nz_T, nI_add, sub_I, m1_M, pk_mul, div_I, Option.bind_some, Option.map_some, if_pos, if_neg, if_true, if_false, Nat.reduceAdd, Nat.reduceMul, Nat.reduceSub, Nat.zero_add, Nat.add_zero, Ret_s]
  exact ⟨_, _, _, mapR e6' rfl, mapR e5 rfl, RelX_k n g S (0) (t) h0 hn hg rfl hr hz rfl hS rfl rfl XI_0 XI_0 rfl rfl hR⟩
theorem ok_firstError {X : XS} {M : MS} (h : RelX X M) : Ok_firstError RelX X M := by
  refine RelX_e (P := fun X M => Ok_firstError RelX X M) h ?_
  intro n g S L t rs wl ws ql qs bt bo mf wg ic al st tc sl th cc rd op hash z hi tx lf oth sm wts sg wkd h0 hn hg hr hz hS hx1 hx2 hR
  have hN := N_11 hn hg
  have hS6 := hR.1
  have e1 := fb_I hx1 g
  have e5 : F_X5_firstError (nI L) tc = some (nI (ps t L 0 0 g).1) := by
    unfold F_X5_firstError
    simp (disch := omega) only [↓qM, zq0, zq1, zq2, zq3, zq4, zq5, zq6, zq7, zq8, zq9, zq10, zq11, zq12, zq13, zq14, zq20, zq33, zq48, zq49, zq50, zq57, zq60, zq61, zq78, zq97, zq102, zq126, zq486, zq600, zq2916, zq4200, le_I, lt_I, eq_I, ne_M, lt_M, cl_I, vin_T, gd_tt, nz_T, nI_add, sub_I, m1_M, pk_mul, div_I, Option.bind_some, Option.map_some, if_pos, if_neg, if_true, if_false, Nat.reduceAdd, Nat.reduceMul, Nat.reduceSub, Nat.zero_add, Nat.add_zero, Ret_s, e1]
  obtain ⟨r7, e7, a7⟩ := rp_I (rd := rd) (op := op) (a := sg) hx2 g
  have R : Ret (F_X6_firstError (nI L) th rd op sg tx) (fun r => r.1 = nI (ps t L 0 0 g).1) := by
    unfold F_X6_firstError
    simp (disch := omega) only [↓qM, zq0, zq1, zq2, zq3, zq4, zq5, zq6, zq7, zq8, zq9, zq10, zq11, zq12, zq13, zq14, zq20, zq33, zq48, zq49, zq50, zq57, zq60, zq61, zq78, zq97, zq102, zq126, zq486, zq600, zq2916, zq4200, le_I, lt_I, eq_I, ne_M, lt_M, cl_I, vin_T, gd_tt, nz_T, nI_add, sub_I, m1_M, pk_mul, div_I, Option.bind_some, Option.map_some, if_pos, if_neg, if_true, if_false, Nat.reduceAdd, Nat.reduceMul, Nat.reduceSub, Nat.zero_add, Nat.add_zero, Ret_s, e7]
    exact a7.1
  obtain ⟨r6, e6, a6⟩ := R
  exact ⟨_, _, _, mapR e6 a6, mapR e5 rfl, RelX_k n g S L t h0 hn hg rfl hr hz rfl hS rfl rfl hx1 hx2 rfl rfl hR⟩
theorem red6 {m S : Nat} {r : Int32} {cs hi hi' lf oth sg lf' oth' z z' : Nat → Int32} {ln op th : Int32} (e8 : F_X6_save (nI S) hi z = some (nI (bse S + 1), hi')) (e9 : F_X6_read_L57 cs FU (nI (bse S + 1)) (nI 0) (nI 0) (nI m) op hi' lf oth sg (upd z 0 (nI m)) (nI 0) = some (r, nI (bse S + 1), nI 0, nI 0, nI m, op, hi', lf', oth', sg, z')) : F_X6_read_J24 cs (nI S) ln th (nI m) op hi lf oth sg z (nI 0) = some (r, nI (bse S + 1), nI 0, nI 0, nI m, op, hi', lf', oth', sg, z') := by
  unfold F_X6_read_J24
  rw [if_pos n00, e8, Option.bind_some, gd_t _ v0_13, zq0]
  exact e9
theorem ok_read {X : XS} {M : MS} (h : RelX X M) : Ok_read RelX X M := by
  refine RelX_e (P := fun X M => Ok_read RelX X M) h ?_
  intro n g S L t rs wl ws ql qs bt bo mf wg ic al st tc sl th cc rd op hash z hi tx lf oth sm wts sg wkd h0 hn hg hr hz hS hx1 hx2 hR
  have hN := N_11 hn hg
  have hS6 := hR.1
  have hL := hx1.1
  have e1 := fb_I hx1 g
  have hge := ps_ge (t := t) L 0 0 g
  obtain ⟨⟨r1, r2, r3, r4⟩, e7, a1, a2, a3⟩ := rp_I (rd := rd) (op := op) (a := sg) hx2 g
  have a1 : r1 = nI (ps t L 0 0 g).1 := a1
  have a2 : r2 = nI (ps t L 0 0 g).2.1 := a2
  have a3 : RA (ps t L 0 0 g).2.1 (ps t L 0 0 g).2.2 r4 := a3
  subst a1 a2
  by_cases hq : (ps t L 0 0 g).1 = L ∧ 0 < L
  · obtain ⟨q1, q2⟩ := hq
    obtain ⟨hm, -, hG, hp⟩ := ps_RG (t := t) L 0 0 g (by omega) (fun i hi => absurd hi (by omega))
    obtain ⟨rs', e2, h2⟩ := wr_I (a := rs) (x := nI n) hx1 g q1
    rw [q1] at e1 e7 hp
    have hm0 := hp q2
    generalize (ps t L 0 0 g).2.1 = m at *
    generalize (ps t L 0 0 g).2.2 = G at *
    obtain ⟨sl', e3, h1⟩ := sav_I (sl := sl) (x2 := z 1) hn hS6 hr
    obtain ⟨bo', e4⟩ := rankOf_I (t := bt) (o := bo) hm hG h2
    have e5 : F_X5_read (z 1) bt bo (nI n) rs (nI S) sl (nI L) tc = some (nI (rk G m m), nI 0, bo', nI m, rs', nI (bse S + 1), sl', nI 0) := by
      unfold F_X5_read
      simp (disch := omega) only [↓qM, zq0, zq1, zq2, zq3, zq4, zq5, zq6, zq7, zq8, zq9, zq10, zq11, zq12, zq13, zq14, zq20, zq33, zq48, zq49, zq50, zq57, zq60, zq61, zq78, zq97, zq102, zq126, zq486, zq600, zq2916, zq4200, le_I, lt_I, eq_I, ne_M, lt_M, cl_I, vin_T, gd_tt, nz_T, nI_add, sub_I, m1_M, pk_mul, div_I, Option.bind_some, Option.map_some, if_pos, if_neg, if_true, if_false, Nat.reduceAdd, Nat.reduceMul, Nat.reduceSub, Nat.zero_add, Nat.add_zero, Ret_s, xlen_T, e1, e3, e2, xclr_T, e4]
    obtain ⟨hi', e8, h8⟩ := rsav_I (hi := hi) (z := z) hS6
    obtain ⟨lf', oth', z', e9, h9, h10⟩ := rrdL_I (sts := nI (bse S + 1)) (ln := nI 0) (th := nI 0) (op := r3) (cs := tx) (hi := hi') (lf := lf) (oth := oth) (z0 := z) (show 1 ≤ m by omega) hm hG a3 11 0 FU (upd z 0 (nI m)) (by omega) (FU_lt (by omega)) (upd_s _ _ _) (fun j hj => absurd hj (by omega))
    rw [upd_n _ _ (by omega)] at h10
    have e10 := red6 (ln := nI L) (th := th) e8 e9
    have e6' : F_X6_read (nI S) (nI L) th rd op hi lf oth sg tx z = some (nI (rk G m m), nI (bse S + 1), nI 0, nI 0, nI m, r3, hi', lf', oth', r4, z') := by
      unfold F_X6_read
      simp (disch := omega) only [↓qM, zq0, zq1, zq2, zq3, zq4, zq5, zq6, zq7, zq8, zq9, zq10, zq11, zq12, zq13, zq14, zq20, zq33, zq48, zq49, zq50, zq57, zq60, zq61, zq78, zq97, zq102, zq126, zq486, zq600, zq2916, zq4200, le_I, lt_I, eq_I, ne_M, lt_M, cl_I, vin_T, gd_tt, nz_T, nI_add, sub_I, m1_M, pk_mul, div_I, Option.bind_some, Option.map_some, if_pos, if_neg, if_true, if_false, Nat.reduceAdd, Nat.reduceMul, Nat.reduceSub, Nat.zero_add, Nat.add_zero, Ret_s, e7, e10]
    exact ⟨_, _, mapR e6' rfl, Or.inl ⟨_, mapR e5 rfl, rfl, RelX_k m G (bse S + 1) 0 t (by omega) hm hG rfl h2 h9 h10.symm hS rfl rfl XI_0 XI_0 rfl rfl (SR_s hR h0 hn hg hz h1 h8)⟩⟩
  · have e5 : F_X5_read_T (z 1) bt bo (nI n) rs (nI S) sl (nI L) tc = some (1, bt, bo, nI n, rs, nI S, sl, nI L) := by
      unfold F_X5_read_T
      by_cases q2 : L = 0
      · simp (disch := omega) only [↓qM, zq0, zq1, zq2, zq3, zq4, zq5, zq6, zq7, zq8, zq9, zq10, zq11, zq12, zq13, zq14, zq20, zq33, zq48, zq49, zq50, zq57, zq60, zq61, zq78, zq97, zq102, zq126, zq486, zq600, zq2916, zq4200, le_I, lt_I, eq_I, ne_M, lt_M, cl_I, vin_T, gd_tt, nz_T, nI_add, sub_I, m1_M, pk_mul, div_I, Option.bind_some, Option.map_some, if_pos, if_neg, if_true, if_false, Nat.reduceAdd, Nat.reduceMul, Nat.reduceSub, Nat.zero_add, Nat.add_zero, Ret_s, xlen_T]
      · have q3 : ¬ L ≤ (ps t L 0 0 g).1 := by omega
        simp (disch := omega) only [↓qM, zq0, zq1, zq2, zq3, zq4, zq5, zq6, zq7, zq8, zq9, zq10, zq11, zq12, zq13, zq14, zq20, zq33, zq48, zq49, zq50, zq57, zq60, zq61, zq78, zq97, zq102, zq126, zq486, zq600, zq2916, zq4200, le_I, lt_I, eq_I, ne_M, lt_M, cl_I, vin_T, gd_tt, nz_T, nI_add, sub_I, m1_M, pk_mul, div_I, Option.bind_some, Option.map_some, if_pos, if_neg, if_true, if_false, Nat.reduceAdd, Nat.reduceMul, Nat.reduceSub, Nat.zero_add, Nat.add_zero, Ret_s, xlen_T, e1]
    have e6' : F_X6_read (nI S) (nI L) th rd op hi lf oth sg tx z = some (nI 0, nI S, nI L, nI 1, nI (ps t L 0 0 g).2.1, r3, hi, lf, oth, r4, z) := by
      unfold F_X6_read F_X6_read_J24
      by_cases q2 : L = 0
      · have q3 : (ps t L 0 0 g).1 = L := by omega
        simp (disch := omega) only [↓qM, zq0, zq1, zq2, zq3, zq4, zq5, zq6, zq7, zq8, zq9, zq10, zq11, zq12, zq13, zq14, zq20, zq33, zq48, zq49, zq50, zq57, zq60, zq61, zq78, zq97, zq102, zq126, zq486, zq600, zq2916, zq4200, le_I, lt_I, eq_I, ne_M, lt_M, cl_I, vin_T, gd_tt, nz_T, nI_add, sub_I, m1_M, pk_mul, div_I, Option.bind_some, Option.map_some, if_pos, if_neg, if_true, if_false, Nat.reduceAdd, Nat.reduceMul, Nat.reduceSub, Nat.zero_add, Nat.add_zero, Ret_s, e7]
      · have q3 : ¬ (ps t L 0 0 g).1 = L := by omega
        simp (disch := omega) only [↓qM, zq0, zq1, zq2, zq3, zq4, zq5, zq6, zq7, zq8, zq9, zq10, zq11, zq12, zq13, zq14, zq20, zq33, zq48, zq49, zq50, zq57, zq60, zq61, zq78, zq97, zq102, zq126, zq486, zq600, zq2916, zq4200, le_I, lt_I, eq_I, ne_M, lt_M, cl_I, vin_T, gd_tt, nz_T, nI_add, sub_I, m1_M, pk_mul, div_I, Option.bind_some, Option.map_some, if_pos, if_neg, if_true, if_false, Nat.reduceAdd, Nat.reduceMul, Nat.reduceSub, Nat.zero_add, Nat.add_zero, Ret_s, e7]
    exact ⟨_, _, mapR e6' rfl, Or.inr ⟨_, mapR e5 rfl, rfl, RelX_k n g S L t h0 hn hg rfl hr hz rfl hS rfl rfl hx1 hx2 rfl rfl hR⟩⟩
theorem und6 {k : Nat} {hi z z' : Nat → Int32} {th : Int32} (e9 : F_X6_undo_L37 hi FU (nI k) (nI 0) z (nI 0) = some (nI k, nI k, nI 0, z')) (hk : k ≤ 5) : F_X6_undo (nI (k + 1)) th hi z = some (nI k, nI k, nI 0, z') := by
  unfold F_X6_undo F_X6_undo_J13
  have c : (if nI (k + 1) ≤ 0 then (1 : Int32) else (0 : Int32)) = nI 0 := by
    simp (disch := omega) only [↓qM, zq0, zq1, zq2, zq3, zq4, zq5, zq6, zq7, zq8, zq9, zq10, zq11, zq12, zq13, zq14, zq20, zq33, zq48, zq49, zq50, zq57, zq60, zq61, zq78, zq97, zq102, zq126, zq486, zq600, zq2916, zq4200, le_I, lt_I, eq_I, ne_M, lt_M, cl_I, vin_T, gd_tt, nz_T, nI_add, sub_I, m1_M, pk_mul, div_I, Option.bind_some, Option.map_some, if_pos, if_neg, if_true, if_false, Nat.reduceAdd, Nat.reduceMul, Nat.reduceSub, Nat.zero_add, Nat.add_zero, Ret_s]
  have c2 : nI (k + 1) - (1 : Int32) = nI k := by rw [zq1, sub_I (by omega), Nat.add_sub_cancel]
  rw [c, if_pos n00, c2, zq0]
  exact e9
theorem ok_undo {X : XS} {M : MS} (h : RelX X M) : Ok_undo RelX X M := by
  refine RelX_e (P := fun X M => Ok_undo RelX X M) h ?_
  intro n g S L t rs wl ws ql qs bt bo mf wg ic al st tc sl th cc rd op hash z hi tx lf oth sm wts sg wkd h0 hn hg hr hz hS hx1 hx2 hR
  have hN := N_11 hn hg
  have hS6 := hR.1
  by_cases hS0 : S = 0
  · have e5 : F_X5_undo_T (z 1) (nI n) rs (nI S) sl = some (2, z 1, nI n, rs, nI S) := by
      unfold F_X5_undo_T
      simp (disch := omega) only [↓qM, zq0, zq1, zq2, zq3, zq4, zq5, zq6, zq7, zq8, zq9, zq10, zq11, zq12, zq13, zq14, zq20, zq33, zq48, zq49, zq50, zq57, zq60, zq61, zq78, zq97, zq102, zq126, zq486, zq600, zq2916, zq4200, le_I, lt_I, eq_I, ne_M, lt_M, cl_I, vin_T, gd_tt, nz_T, nI_add, sub_I, m1_M, pk_mul, div_I, Option.bind_some, Option.map_some, if_pos, if_neg, if_true, if_false, Nat.reduceAdd, Nat.reduceMul, Nat.reduceSub, Nat.zero_add, Nat.add_zero, Ret_s, held_T]
    have e6' : F_X6_undo (nI S) th hi z = some (nI 0, nI S, nI 1, z) := by
      unfold F_X6_undo F_X6_undo_J13
      simp (disch := omega) only [↓qM, zq0, zq1, zq2, zq3, zq4, zq5, zq6, zq7, zq8, zq9, zq10, zq11, zq12, zq13, zq14, zq20, zq33, zq48, zq49, zq50, zq57, zq60, zq61, zq78, zq97, zq102, zq126, zq486, zq600, zq2916, zq4200, le_I, lt_I, eq_I, ne_M, lt_M, cl_I, vin_T, gd_tt, nz_T, nI_add, sub_I, m1_M, pk_mul, div_I, Option.bind_some, Option.map_some, if_pos, if_neg, if_true, if_false, Nat.reduceAdd, Nat.reduceMul, Nat.reduceSub, Nat.zero_add, Nat.add_zero, Ret_s]
    exact ⟨_, _, mapR e6' rfl, Or.inr ⟨_, mapR e5 rfl, rfl, RelX_k n g S L t h0 hn hg rfl hr hz rfl hS rfl rfl hx1 hx2 rfl rfl hR⟩⟩
  · obtain ⟨k, hk⟩ : ∃ k, S = k + 1 := ⟨S - 1, by omega⟩
    obtain ⟨n1, g1, b0, b1, b2, b3, b4, b5, b6⟩ := hR.2 k (by omega)
    obtain ⟨rs', e1, h1⟩ := rest_I (a := rs) (x := nI n) b1 (show k ≤ 5 by omega) b3 (fun i hi2 => (b6 i hi2).1)
    rw [← hk] at e1
    have e5 : F_X5_undo (z 1) (nI n) rs (nI S) sl = some (nI k, sl (k * 13), nI n1, rs', nI k) := by
      unfold F_X5_undo
      simp (disch := omega) only [↓qM, zq0, zq1, zq2, zq3, zq4, zq5, zq6, zq7, zq8, zq9, zq10, zq11, zq12, zq13, zq14, zq20, zq33, zq48, zq49, zq50, zq57, zq60, zq61, zq78, zq97, zq102, zq126, zq486, zq600, zq2916, zq4200, le_I, lt_I, eq_I, ne_M, lt_M, cl_I, vin_T, gd_tt, nz_T, nI_add, sub_I, m1_M, pk_mul, div_I, Option.bind_some, Option.map_some, if_pos, if_neg, if_true, if_false, Nat.reduceAdd, Nat.reduceMul, Nat.reduceSub, Nat.zero_add, Nat.add_zero, Ret_s, held_T, e1]
    obtain ⟨z', e2, h2⟩ := runL_I (th := nI 0) (hi := hi) (show k ≤ 5 by omega) 13 0 FU z (by omega) (FU_lt (by omega)) (fun j hj => absurd hj (by omega))
    have e6' := und6 (th := th) e2 (by omega)
    rw [← hk] at e6'
    have hz' : ZI z' n1 g1 := by
      refine ⟨?_, fun i hi2 => ?_⟩
      · rw [h2 0 (by omega), Nat.add_zero]; exact b4
      · rw [h2 (2 + i) (by omega), ← Nat.add_assoc]; exact (b6 i hi2).2
    have hg' : sl (k * 13) = z' 1 := by rw [h2 1 (by omega)]; exact b5
    exact ⟨_, _, mapR e6' rfl, Or.inl ⟨_, mapR e5 rfl, rfl, RelX_k n1 g1 k L t b0 b1 b2 rfl h1 hz' hg' hS rfl rfl hx1 hx2 rfl rfl ⟨by omega, fun j hj => hR.2 j (by omega)⟩⟩⟩
