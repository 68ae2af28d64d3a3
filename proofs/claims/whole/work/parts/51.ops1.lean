/-! the operations that change the row -/
theorem RelX_k {X : XS} {M : MS} (n : Nat) (g : Nat → Nat) (S L : Nat) (t : Nat → Nat) (a1 : 1 ≤ n) (a2 : n ≤ 11) (a3 : RG n g) (a4 : X.2.1 = nI n) (a5 : RA n g X.2.2.1) (a6 : ZI M.2.2.2.2.2.2.2.1 n g) (a7 : X.1 = M.2.2.2.2.2.2.2.1 1) (a8 : SMI X.2.2.2.2.2.2.2.2.2.2.2.2.1 X.2.2.2.2.2.2.2.2.2.1 X.2.2.2.2.2.2.2.2.2.2.2.2.2.1 X.2.2.2.2.2.2.2.2.2.2.1) (a9 : X.2.2.2.2.2.2.2.2.2.2.2.2.2.2.1 = nI L) (a10 : M.2.1 = nI L) (a11 : XI L t X.2.2.2.2.2.2.2.2.2.2.2.2.2.2.2.1) (a12 : XI L t M.2.2.2.2.2.2.2.2.2.1) (a13 : X.2.2.2.2.2.2.2.2.2.2.2.2.2.2.2.2.1 = nI S) (a14 : M.1 = nI S) (a15 : SR S X.2.2.2.2.2.2.2.2.2.2.2.2.2.2.2.2.2 M.2.2.2.2.2.2.2.2.1) : RelX X M := ⟨n, g, S, L, t, a1, a2, a3, a4, a5, a6, a7, a8, a9, a10, a11, a12, a13, a14, a15⟩
theorem z0M : nI 0 + nM = nM := by decide
theorem nM_add {a : Nat} (h : 1 ≤ a) : nM + nI a = nI (a - 1) := by rw [Int32.add_comm]; exact m1_M h
-- long arithmetic of a jump
theorem jv {r : Nat} {x : Int32} (hr : r < 2147483648) : ((nI r).toInt64 + x.toInt64).toInt = (r : Int) + x.toInt := by
  have h1 := x.toInt_lt
  have h2 := x.le_toInt
  have h3 := nI_toInt (n := r) hr
  rw [Int64.toInt_add, Int32.toInt_toInt64, Int32.toInt_toInt64, h3, Int.bmod_def]
  omega
theorem jlt {v : Int64} {N : Nat} (hN : N < 2147483648) : (lg_cmp v (nI N).toInt64 < nI 0) ↔ v.toInt < N := by
  show (lg_cmp v (nI N).toInt64 < 0) ↔ _
  rw [lg_cmp_lt, Int64.lt_iff_toInt_lt, Int32.toInt_toInt64, nI_toInt hN]
theorem jge {v : Int64} {N : Nat} (hN : N < 2147483648) : (nI 0 ≤ lg_cmp v (nI N).toInt64) ↔ ¬ v.toInt < N := by
  show (0 ≤ lg_cmp v (nI N).toInt64) ↔ _
  rw [lg_cmp_ge, Int64.le_iff_toInt_le, Int32.toInt_toInt64, nI_toInt hN]
  omega
theorem jneg {v : Int64} : (lg_cmp v (0 : Int64) < nI 0) ↔ v.toInt < 0 := by
  show (lg_cmp v 0 < 0) ↔ _
  rw [lg_cmp_lt, Int64.lt_iff_toInt_lt]
  exact Iff.rfl
theorem j32 {v : Int64} {y : Nat} (hy : y < 2147483648) (h : v.toInt = y) : v.toInt32 = nI y := by
  refine Int32.toInt_inj.mp ?_
  rw [Int64.toInt_toInt32, h, nI_toInt hy, Int.bmod_def]
  omega
theorem v0_13 : vin (0 : Int32) 13 = true := by decide
theorem n10 : ¬ nI 1 = (0 : Int32) := by decide
theorem n00 : nI 0 ≤ (0 : Int32) := by decide
theorem cry5 {n m p S : Nat} {g : Nat → Nat} {z rs sl sl' rs' : Nat → Int32} (hm : m < 21) (e4 : F_X5_needPlace (nI n) (nI p) = some ()) (e1 : F_X5_save (z 1) (nI n) rs (nI S) sl = some (nI (bse S + 1), sl')) (e2 : F_X5_carry_L32 (z 1) (nI n) (nI p) (nI m) FU rs (nI (bse S + 1)) sl' (nI p) (nI 0) = some (nI (cstN n m g p).2, rs', nI (bse S + 1), sl')) : F_X5_carry (z 1) (nI n) rs (nI S) sl (nI p) (nI m) = some (nI (cstN n m g p).2, rs', nI (bse S + 1), sl') := by
  unfold F_X5_carry F_X5_carry_J20
  have c : (if nI m < 0 then (0 : Int32) else (if (20 : Int32) < nI m then (0 : Int32) else (1 : Int32))) = nI 1 := by
    simp (disch := omega) only [↓qM, zq0, zq1, zq2, zq3, zq4, zq5, zq6, zq7, zq8, zq9, zq10, zq11, zq12, zq13, zq14, zq20, zq33, zq48, zq49, zq50, zq57, zq60, zq61, zq78, zq97, zq102, zq126, zq486, zq600, zq2916, zq4200, le_I, lt_I, eq_I, ne_M, lt_M, cl_I, vin_T, gd_tt, nz_T, nI_add, sub_I, m1_M, pk_mul, div_I, Option.bind_some, Option.map_some, if_pos, if_neg, if_true, if_false, Nat.reduceAdd, Nat.reduceMul, Nat.reduceSub, Nat.zero_add, Nat.add_zero, Ret_s]
  rw [e4, Option.bind_some, c, need1, Option.bind_some, e1, Option.bind_some, zq0]
  exact e2
theorem cry6 {n m p S : Nat} {g : Nat → Nat} {z z' hi hi' : Nat → Int32} {th : Int32} (e11 : F_X6_isPlace z (nI p) = some (nI 1)) (e12 : F_X6_within (nI m) (0 : Int32) (20 : Int32) = some (nI 1)) (e8 : F_X6_save (nI S) hi z = some (nI (bse S + 1), hi')) (e9 : F_X6_carry_L49 (nI p) (nI m) FU (nI (bse S + 1)) (nI 0) hi' z (nI p) (nI 0) = some (nI (cstN n m g p).2, nI (bse S + 1), nI 0, hi', z')) : F_X6_carry (nI S) th hi z (nI p) (nI m) = some (nI (cstN n m g p).2, nI (bse S + 1), nI 0, hi', z') := by
  unfold F_X6_carry F_X6_carry_J28
  have c : (if nI 1 = 0 then (2 : Int32) else (0 : Int32)) = nI 0 := by decide
  rw [e11, Option.bind_some, if_neg n10, e12, Option.bind_some, c, if_pos n00, e8, Option.bind_some, zq0]
  exact e9
theorem put6 {n p v S : Nat} {r : Int32} {z z' hi hi' lf lf' : Nat → Int32} {th : Int32} {g : Nat → Nat} (hz : ZI z n g) (hn2 : n < 11) (e11 : F_X6_within (nI p) (0 : Int32) (nI n) = some (nI 1)) (e12 : F_X6_isSign (nI v) = some (nI 1)) (e8 : F_X6_save (nI S) hi z = some (nI (bse S + 1), hi')) (e9 : F_X6_put_L71 (nI p) (nI v) FU (nI (bse S + 1)) (nI 0) hi' lf z (nI (2 + n)) = some (r, nI (bse S + 1), nI 0, hi', lf', z')) : F_X6_put (nI S) th hi lf z (nI p) (nI v) = some (r, nI (bse S + 1), nI 0, hi', lf', z') := by
  unfold F_X6_put F_X6_put_J46
  have hz0 : z ((0 : Int32)).toNatClampNeg = nI n := hz.n
  have c : (if nI n = (11 : Int32) then (3 : Int32) else (0 : Int32)) = nI 0 := by
    simp (disch := omega) only [↓qM, zq0, zq1, zq2, zq3, zq4, zq5, zq6, zq7, zq8, zq9, zq10, zq11, zq12, zq13, zq14, zq20, zq33, zq48, zq49, zq50, zq57, zq60, zq61, zq78, zq97, zq102, zq126, zq486, zq600, zq2916, zq4200, le_I, lt_I, eq_I, ne_M, lt_M, cl_I, vin_T, gd_tt, nz_T, nI_add, sub_I, m1_M, pk_mul, div_I, Option.bind_some, Option.map_some, if_pos, if_neg, if_true, if_false, Nat.reduceAdd, Nat.reduceMul, Nat.reduceSub, Nat.zero_add, Nat.add_zero, Ret_s]
  rw [gd_t _ v0_13, hz0, e11, Option.bind_some, if_neg n10, e12, Option.bind_some, if_neg n10, gd_t _ v0_13, c, if_pos n00, e8, Option.bind_some, gd_t _ v0_13, zq2, nI_add]
  exact e9
theorem tak6 {n p S : Nat} {z z' hi hi' : Nat → Int32} {th : Int32} {g : Nat → Nat} (hz : ZI z n g) (hn : n ≤ 11) (hn2 : 1 < n) (hp : p < n) (e11 : F_X6_isPlace z (nI p) = some (nI 1)) (e8 : F_X6_save (nI S) hi z = some (nI (bse S + 1), hi')) (e9 : F_X6_take_L67 (nI p) FU (nI (bse S + 1)) (nI 0) hi' (upd z 0 (nI (n - 1))) (nI (g p)) (nI (2 + p)) = some (nI (g p), nI (bse S + 1), nI 0, hi', z')) : F_X6_take (nI S) th hi z (nI p) = some (nI (g p), nI (bse S + 1), nI 0, hi', z') := by
  unfold F_X6_take F_X6_take_J28
  have hz0 : z ((0 : Int32)).toNatClampNeg = nI n := hz.n
  have c : (if nI n = (1 : Int32) then (2 : Int32) else (0 : Int32)) = nI 0 := by
    simp (disch := omega) only [↓qM, zq0, zq1, zq2, zq3, zq4, zq5, zq6, zq7, zq8, zq9, zq10, zq11, zq12, zq13, zq14, zq20, zq33, zq48, zq49, zq50, zq57, zq60, zq61, zq78, zq97, zq102, zq126, zq486, zq600, zq2916, zq4200, le_I, lt_I, eq_I, ne_M, lt_M, cl_I, vin_T, gd_tt, nz_T, nI_add, sub_I, m1_M, pk_mul, div_I, Option.bind_some, Option.map_some, if_pos, if_neg, if_true, if_false, Nat.reduceAdd, Nat.reduceMul, Nat.reduceSub, Nat.zero_add, Nat.add_zero, Ret_s]
  have c2 : nI n - (1 : Int32) = nI (n - 1) := by rw [zq1, sub_I (by omega)]
  have c3 : (nI (2 + p)).toNatClampNeg = 2 + p := cl_I (by omega)
  rw [e11, Option.bind_some, if_neg n10, gd_t _ v0_13, hz0, c, if_pos n00, e8, Option.bind_some, zq2, nI_add, gd_t _ (vin_I (by omega) (by omega)), gd_t _ v0_13, gd_t _ v0_13, c2, c3, hz.g p hp]
  exact e9
theorem ok_goTo {X : XS} {M : MS} (h : RelX X M) (x1 : Int32) : Ok_goTo RelX X M x1 := by
  refine RelX_e (P := fun X M => Ok_goTo RelX X M x1) h ?_
  intro n g S L t rs wl ws ql qs bt bo mf wg ic al st tc sl th cc rd op hash z hi tx lf oth sm wts sg wkd h0 hn hg hr hz hS hx1 hx2 hR
  have hN := N_11 hn hg
  have hS6 := hR.1
  rcases plc (ways (cF g n 0)) x1 with ⟨x, hx, rfl⟩ | hx
  · obtain ⟨⟨bt0, bo0⟩, e0⟩ := needRank_R (t := bt) (o := bo) hn hg hr hx
    obtain ⟨bo1, e1⟩ := rankOf_I (t := bt0) (o := bo0) hn hg hr
    obtain ⟨bt2, bo2, rs', sl', wk', e2, h2, h3⟩ := goRk_I (bt := nI 0) (bo := bo1) (wl := wl) (wk := ws) (sl := sl) (gone := z 1) hn hS6 hg hr hx
    have e5 : F_X5_goTo (z 1) bt bo (nI n) rs (nI S) sl wl ws (nI x) = some (nI (rk g n n), z 1 + nI 1, bt2, bo2, nI n, rs', nI (bse S + 1), sl', nI n, wk') := by
      unfold F_X5_goTo
      simp (disch := omega) only [↓qM, zq0, zq1, zq2, zq3, zq4, zq5, zq6, zq7, zq8, zq9, zq10, zq11, zq12, zq13, zq14, zq20, zq33, zq48, zq49, zq50, zq57, zq60, zq61, zq78, zq97, zq102, zq126, zq486, zq600, zq2916, zq4200, le_I, lt_I, eq_I, ne_M, lt_M, cl_I, vin_T, gd_tt, nz_T, nI_add, sub_I, m1_M, pk_mul, div_I, Option.bind_some, Option.map_some, if_pos, if_neg, if_true, if_false, Nat.reduceAdd, Nat.reduceMul, Nat.reduceSub, Nat.zero_add, Nat.add_zero, Ret_s, e0, e1, e2]
    obtain ⟨lf0, e6⟩ := isRk_I (lf := lf) hz hn hg hx
    obtain ⟨lf1, oth1, e7⟩ := rankNow_I (o := lf0) (a := oth) hz hn hg
    obtain ⟨hi', e8, h8⟩ := rsav_I (hi := hi) (z := z) hS6
    obtain ⟨lf2, oth2, e9, h9⟩ := rlay_I (o := lf1) (a := oth1) hz hn hg hx
    obtain ⟨z', e10, h10, h11⟩ := rgoes_I hz hn hg (gl_sp hg hx).1 h9
    have e6' : F_X6_goTo (nI S) th hi lf oth z (nI x) = some (nI (rk g n n), nI (bse S + 1), nI 0, hi', lf2, oth2, z') := by
      unfold F_X6_goTo F_X6_goTo_J14
      simp (disch := omega) only [↓qM, zq0, zq1, zq2, zq3, zq4, zq5, zq6, zq7, zq8, zq9, zq10, zq11, zq12, zq13, zq14, zq20, zq33, zq48, zq49, zq50, zq57, zq60, zq61, zq78, zq97, zq102, zq126, zq486, zq600, zq2916, zq4200, le_I, lt_I, eq_I, ne_M, lt_M, cl_I, vin_T, gd_tt, nz_T, nI_add, sub_I, m1_M, pk_mul, div_I, Option.bind_some, Option.map_some, if_pos, if_neg, if_true, if_false, Nat.reduceAdd, Nat.reduceMul, Nat.reduceSub, Nat.zero_add, Nat.add_zero, Ret_s, e6, e7, e8, e9, e10]
    exact ⟨_, _, mapR e6' rfl, Or.inl ⟨_, mapR e5 rfl, rfl, RelX_k n (gl g n x) (bse S + 1) L t h0 hn (gl_sp hg hx).1 rfl h2 h10 h11.symm hS rfl rfl hx1 hx2 rfl rfl (SR_s hR h0 hn hg hz h3 h8)⟩⟩
  · obtain ⟨⟨k, bt1, bo1⟩, e1, h1⟩ := rkT_B (t := bt) (o := bo) hn hg hr hx
    have h1 : k = 1 := h1
    subst h1
    have e5 : F_X5_goTo_T (z 1) bt bo (nI n) rs (nI S) sl wl ws x1 = some (1, z 1, bt1, bo1, nI n, rs, nI S, sl, wl, ws) := by
      unfold F_X5_goTo_T
      simp (disch := omega) only [↓qM, zq0, zq1, zq2, zq3, zq4, zq5, zq6, zq7, zq8, zq9, zq10, zq11, zq12, zq13, zq14, zq20, zq33, zq48, zq49, zq50, zq57, zq60, zq61, zq78, zq97, zq102, zq126, zq486, zq600, zq2916, zq4200, le_I, lt_I, eq_I, ne_M, lt_M, cl_I, vin_T, gd_tt, nz_T, nI_add, sub_I, m1_M, pk_mul, div_I, Option.bind_some, Option.map_some, if_pos, if_neg, if_true, if_false, Nat.reduceAdd, Nat.reduceMul, Nat.reduceSub, Nat.zero_add, Nat.add_zero, Ret_s, e1, opc_s]
    obtain ⟨lf0, e6⟩ := isRk_B (lf := lf) hz hn hg hx
    have e6' : F_X6_goTo (nI S) th hi lf oth z x1 = some (nI 0, nI S, nI 1, hi, lf0, oth, z) := by
      unfold F_X6_goTo F_X6_goTo_J14
      simp (disch := omega) only [↓qM, zq0, zq1, zq2, zq3, zq4, zq5, zq6, zq7, zq8, zq9, zq10, zq11, zq12, zq13, zq14, zq20, zq33, zq48, zq49, zq50, zq57, zq60, zq61, zq78, zq97, zq102, zq126, zq486, zq600, zq2916, zq4200, le_I, lt_I, eq_I, ne_M, lt_M, cl_I, vin_T, gd_tt, nz_T, nI_add, sub_I, m1_M, pk_mul, div_I, Option.bind_some, Option.map_some, if_pos, if_neg, if_true, if_false, Nat.reduceAdd, Nat.reduceMul, Nat.reduceSub, Nat.zero_add, Nat.add_zero, Ret_s, e6]
    exact ⟨_, _, mapR e6' rfl, Or.inr ⟨_, mapR e5 rfl, rfl, RelX_k n g S L t h0 hn hg rfl hr hz rfl hS rfl rfl hx1 hx2 rfl rfl hR⟩⟩
theorem ok_jump {X : XS} {M : MS} (h : RelX X M) (x1 : Int32) : Ok_jump RelX X M x1 := by
  refine RelX_e (P := fun X M => Ok_jump RelX X M x1) h ?_
  intro n g S L t rs wl ws ql qs bt bo mf wg ic al st tc sl th cc rd op hash z hi tx lf oth sm wts sg wkd h0 hn hg hr hz hS hx1 hx2 hR
  have hN := N_11 hn hg
  have hS6 := hR.1
  have hrk := rk_all hg
  obtain ⟨bo1, e1⟩ := rankOf_I (t := bt) (o := bo) hn hg hr
  obtain ⟨bo2, e2, -⟩ := all_I (o := bo1) (t := nI 0) hn hg hr
  obtain ⟨lf1, oth1, e3⟩ := rankNow_I (o := lf) (a := oth) hz hn hg
  obtain ⟨lf2, e4, -⟩ := allRows_I (o := lf1) hz hn hg
  have v1 := jv (r := rk g n n) (x := x1) (by omega)
  have c1 := jneg (v := (nI (rk g n n)).toInt64 + x1.toInt64)
  have c2 := jlt (v := (nI (rk g n n)).toInt64 + x1.toInt64) (N := ways (cF g n 0)) (by omega)
  have c3 := jge (v := (nI (rk g n n)).toInt64 + x1.toInt64) (N := ways (cF g n 0)) (by omega)
  rw [v1] at c1 c2 c3
  have c4 := fun y (hy : y < 2147483648) => j32 (v := (nI (rk g n n)).toInt64 + x1.toInt64) (y := y) hy
  rw [v1] at c4
  generalize GG : (nI (rk g n n)).toInt64 + x1.toInt64 = v at c1 c2 c3 c4
  by_cases k1 : (rk g n n : Int) + x1.toInt < 0
  · have d1 : (lg_cmp v 0 < nI 0) = True := eq_true (c1.mpr k1)
    have e5 : F_X5_jump_T (z 1) bt bo (nI n) rs (nI S) sl wl ws x1 = some (2, z 1, nI 0, bo1, nI n, rs, nI S, sl, wl, ws) := by
      unfold F_X5_jump_T
      simp (disch := omega) only [↓qM, zq0, zq1, zq2, zq3, zq4, zq5, zq6, zq7, zq8, zq9, zq10, zq11, zq12, zq13, zq14, zq20, zq33, zq48, zq49, zq50, zq57, zq60, zq61, zq78, zq97, zq102, zq126, zq486, zq600, zq2916, zq4200, le_I, lt_I, eq_I, ne_M, lt_M, cl_I, vin_T, gd_tt, nz_T, nI_add, sub_I, m1_M, pk_mul, div_I, Option.bind_some, Option.map_some, if_pos, if_neg, if_true, if_false, Nat.reduceAdd, Nat.reduceMul, Nat.reduceSub, Nat.zero_add, Nat.add_zero, Ret_s, e1, GG, d1]
    have e6' : F_X6_jump (nI S) th hi lf oth z x1 = some (nI 0, nI S, nI 1, hi, lf1, oth1, z) := by
      unfold F_X6_jump F_X6_jump_J31
      simp (disch := omega) only [↓qM, zq0, zq1, zq2, zq3, zq4, zq5, zq6, zq7, zq8, zq9, zq10, zq11, zq12, zq13, zq14, zq20, zq33, zq48, zq49, zq50, zq57, zq60, zq61, zq78, zq97, zq102, zq126, zq486, zq600, zq2916, zq4200, le_I, lt_I, eq_I, ne_M, lt_M, cl_I, vin_T, gd_tt, nz_T, nI_add, sub_I, m1_M, pk_mul, div_I, Option.bind_some, Option.map_some, if_pos, if_neg, if_true, if_false, Nat.reduceAdd, Nat.reduceMul, Nat.reduceSub, Nat.zero_add, Nat.add_zero, Ret_s, e3, GG, d1]
    exact ⟨_, _, mapR e6' rfl, Or.inr ⟨_, mapR e5 rfl, rfl, RelX_k n g S L t h0 hn hg rfl hr hz rfl hS rfl rfl hx1 hx2 rfl rfl hR⟩⟩
  · have d1 : (lg_cmp v 0 < nI 0) = False := eq_false (fun q => k1 (c1.mp q))
    by_cases k2 : (rk g n n : Int) + x1.toInt < ways (cF g n 0)
    · obtain ⟨x, hxe⟩ : ∃ x : Nat, (rk g n n : Int) + x1.toInt = x := ⟨((rk g n n : Int) + x1.toInt).toNat, by omega⟩
      have hx : x < ways (cF g n 0) := by omega
      have d2 : (lg_cmp v (nI (ways (cF g n 0))).toInt64 < nI 0) = True := eq_true (c2.mpr k2)
      have d3 : (nI 0 ≤ lg_cmp v (nI (ways (cF g n 0))).toInt64) = False := eq_false (fun q => (c3.mp q) k2)
      have d4 := c4 x (by omega) hxe
      obtain ⟨bt2, bo3, rs', sl', wk', e5, h2, h3⟩ := goRk_I (bt := nI n) (bo := bo2) (wl := wl) (wk := ws) (sl := sl) (gone := z 1) hn hS6 hg hr hx
      have e6 : F_X5_jump (z 1) bt bo (nI n) rs (nI S) sl wl ws x1 = some (nI x, z 1 + nI 1, bt2, bo3, nI n, rs', nI (bse S + 1), sl', nI n, wk') := by
        unfold F_X5_jump
        simp (disch := omega) only [↓qM, zq0, zq1, zq2, zq3, zq4, zq5, zq6, zq7, zq8, zq9, zq10, zq11, zq12, zq13, zq14, zq20, zq33, zq48, zq49, zq50, zq57, zq60, zq61, zq78, zq97, zq102, zq126, zq486, zq600, zq2916, zq4200, le_I, lt_I, eq_I, ne_M, lt_M, cl_I, vin_T, gd_tt, nz_T, nI_add, sub_I, m1_M, pk_mul, div_I, Option.bind_some, Option.map_some, if_pos, if_neg, if_true, if_false, Nat.reduceAdd, Nat.reduceMul, Nat.reduceSub, Nat.zero_add, Nat.add_zero, Ret_s, e1, GG, d1, e2, d2, d4, e5]
      obtain ⟨hi', e8, h8⟩ := rsav_I (hi := hi) (z := z) hS6
      obtain ⟨lf3, oth2, e9, h9⟩ := rlay_I (o := lf2) (a := oth1) hz hn hg hx
      obtain ⟨z', e10, h10, h11⟩ := rgoes_I hz hn hg (gl_sp hg hx).1 h9
      have e6' : F_X6_jump (nI S) th hi lf oth z x1 = some (nI x, nI (bse S + 1), nI 0, hi', lf3, oth2, z') := by
        unfold F_X6_jump F_X6_jump_J31
        simp (disch := omega) only [↓qM, zq0, zq1, zq2, zq3, zq4, zq5, zq6, zq7, zq8, zq9, zq10, zq11, zq12, zq13, zq14, zq20, zq33, zq48, zq49, zq50, zq57, zq60, zq61, zq78, zq97, zq102, zq126, zq486, zq600, zq2916, zq4200, le_I, lt_I, eq_I, ne_M, lt_M, cl_I, vin_T, gd_tt, nz_T, nI_add, sub_I, m1_M, pk_mul, div_I, Option.bind_some, Option.map_some, if_pos, if_neg, if_true, if_false, Nat.reduceAdd, Nat.reduceMul, Nat.reduceSub, Nat.zero_add, Nat.add_zero, Ret_s, e3, GG, d1, e4, d3, e8, d4, e9, e10]
      exact ⟨_, _, mapR e6' rfl, Or.inl ⟨_, mapR e6 rfl, rfl, RelX_k n (gl g n x) (bse S + 1) L t h0 hn (gl_sp hg hx).1 rfl h2 h10 h11.symm hS rfl rfl hx1 hx2 rfl rfl (SR_s hR h0 hn hg hz h3 h8)⟩⟩
    · have d2 : (lg_cmp v (nI (ways (cF g n 0))).toInt64 < nI 0) = False := eq_false (fun q => k2 (c2.mp q))
      have d3 : (nI 0 ≤ lg_cmp v (nI (ways (cF g n 0))).toInt64) = True := eq_true (c3.mpr k2)
      have e5 : F_X5_jump_T (z 1) bt bo (nI n) rs (nI S) sl wl ws x1 = some (2, z 1, nI n, bo2, nI n, rs, nI S, sl, wl, ws) := by
        unfold F_X5_jump_T
        simp (disch := omega) only [↓qM, zq0, zq1, zq2, zq3, zq4, zq5, zq6, zq7, zq8, zq9, zq10, zq11, zq12, zq13, zq14, zq20, zq33, zq48, zq49, zq50, zq57, zq60, zq61, zq78, zq97, zq102, zq126, zq486, zq600, zq2916, zq4200, le_I, lt_I, eq_I, ne_M, lt_M, cl_I, vin_T, gd_tt, nz_T, nI_add, sub_I, m1_M, pk_mul, div_I, Option.bind_some, Option.map_some, if_pos, if_neg, if_true, if_false, Nat.reduceAdd, Nat.reduceMul, Nat.reduceSub, Nat.zero_add, Nat.add_zero, Ret_s, e1, GG, d1, e2, d2]
      have e6' : F_X6_jump (nI S) th hi lf oth z x1 = some (nI 0, nI S, nI 1, hi, lf2, oth1, z) := by
        unfold F_X6_jump F_X6_jump_J31
        simp (disch := omega) only [↓qM, zq0, zq1, zq2, zq3, zq4, zq5, zq6, zq7, zq8, zq9, zq10, zq11, zq12, zq13, zq14, zq20, zq33, zq48, zq49, zq50, zq57, zq60, zq61, zq78, zq97, zq102, zq126, zq486, zq600, zq2916, zq4200, le_I, lt_I, eq_I, ne_M, lt_M, cl_I, vin_T, gd_tt, nz_T, nI_add, sub_I, m1_M, pk_mul, div_I, Option.bind_some, Option.map_some, if_pos, if_neg, if_true, if_false, Nat.reduceAdd, Nat.reduceMul, Nat.reduceSub, Nat.zero_add, Nat.add_zero, Ret_s, e3, GG, d1, e4, d3]
      exact ⟨_, _, mapR e6' rfl, Or.inr ⟨_, mapR e5 rfl, rfl, RelX_k n g S L t h0 hn hg rfl hr hz rfl hS rfl rfl hx1 hx2 rfl rfl hR⟩⟩
theorem ok_next {X : XS} {M : MS} (h : RelX X M) : Ok_next RelX X M := by
  refine RelX_e (P := fun X M => Ok_next RelX X M) h ?_
  intro n g S L t rs wl ws ql qs bt bo mf wg ic al st tc sl th cc rd op hash z hi tx lf oth sm wts sg wkd h0 hn hg hr hz hS hx1 hx2 hR
  have hN := N_11 hn hg
  have hS6 := hR.1
  have hrk := rk_all hg
  have hwp := ways_pos (cF g n 0)
  obtain ⟨x, hxe⟩ : ∃ x : Nat, x = if rk g n n + 1 < ways (cF g n 0) then rk g n n + 1 else 0 := ⟨_, rfl⟩
  have hx : x < ways (cF g n 0) := by rw [hxe]; split <;> omega
  obtain ⟨bo1, e1⟩ := rankOf_I (t := bt) (o := bo) hn hg hr
  obtain ⟨bo2, e2, -⟩ := all_I (o := bo1) (t := nI 0) hn hg hr
  have hm : (rk g n n + 1 + ways (cF g n 0)) % ways (cF g n 0) = x := by
    rw [hxe]
    split
    · rw [Nat.add_mod_right, Nat.mod_eq_of_lt (by omega)]
    · rw [show rk g n n + 1 = ways (cF g n 0) by omega, Nat.add_mod_right, Nat.mod_self]
  obtain ⟨lf1, e3, -⟩ := allRows_I (o := lf) hz hn hg
  obtain ⟨lf2, oth1, e4⟩ := rankNow_I (o := lf1) (a := oth) hz hn hg
  obtain ⟨hi', e8, h8⟩ := rsav_I (hi := hi) (z := z) hS6
  obtain ⟨lf3, oth2, e9, h9⟩ := rlay_I (o := lf2) (a := oth1) hz hn hg hx
  obtain ⟨z', e10, h10, h11⟩ := rgoes_I hz hn hg (gl_sp hg hx).1 h9
  have e6' : F_X6_next (nI S) th hi lf oth z = some (nI (chg g (gl g n x) n), nI (bse S + 1), nI 0, hi', lf3, oth2, z') := by
    unfold F_X6_next F_X6_goesBy
    simp (disch := omega) only [↓qM, zq0, zq1, zq2, zq3, zq4, zq5, zq6, zq7, zq8, zq9, zq10, zq11, zq12, zq13, zq14, zq20, zq33, zq48, zq49, zq50, zq57, zq60, zq61, zq78, zq97, zq102, zq126, zq486, zq600, zq2916, zq4200, le_I, lt_I, eq_I, ne_M, lt_M, cl_I, vin_T, gd_tt, nz_T, nI_add, sub_I, m1_M, pk_mul, div_I, Option.bind_some, Option.map_some, if_pos, if_neg, if_true, if_false, Nat.reduceAdd, Nat.reduceMul, Nat.reduceSub, Nat.zero_add, Nat.add_zero, Ret_s, e8, e3, e4, rem_T, hm, e9, e10]
  obtain ⟨bt2, bo3, rs', sl', wk', e5, h2, h3⟩ := goRk_I (bt := nI n) (bo := bo2) (wl := wl) (wk := ws) (sl := sl) (gone := z 1) hn hS6 hg hr hx
  have e7 : F_X5_next (z 1) bt bo (nI n) rs (nI S) sl wl ws = some (nI (chg g (gl g n x) n), z 1 + nI 1, bt2, bo3, nI n, rs', nI (bse S + 1), sl', nI n, wk') := by
    unfold F_X5_next F_X5_next_J25
    by_cases e : rk g n n + 1 < ways (cF g n 0)
    · rw [if_pos e] at hxe
      rw [hxe] at e5 ⊢
      simp (disch := omega) only [↓qM, zq0, zq1, zq2, zq3, zq4, zq5, zq6, zq7, zq8, zq9, zq10, zq11, zq12, zq13, zq14, zq20, zq33, zq48, zq49, zq50, zq57, zq60, zq61, zq78, zq97, zq102, zq126, zq486, zq600, zq2916, zq4200, le_I, lt_I, eq_I, ne_M, lt_M, cl_I, vin_T, gd_tt, nz_T, nI_add, sub_I, m1_M, pk_mul, div_I, Option.bind_some, Option.map_some, if_pos, if_neg, if_true, if_false, Nat.reduceAdd, Nat.reduceMul, Nat.reduceSub, Nat.zero_add, Nat.add_zero, Ret_s, e1, e2, e5]
    · rw [if_neg e] at hxe
      rw [hxe] at e5 ⊢
      simp (disch := omega) only [↓qM, zq0, zq1, zq2, zq3, zq4, zq5, zq6, zq7, zq8, zq9, zq10, zq11, zq12, zq13, zq14, zq20, zq33, zq48, zq49, zq50, zq57, zq60, zq61, zq78, zq97, zq102, zq126, zq486, zq600, zq2916, zq4200, le_I, lt_I, eq_I, ne_M, lt_M, cl_I, vin_T, gd_tt, nz_T, nI_add, sub_I, m1_M, pk_mul, div_I, Option.bind_some, Option.map_some, if_pos, if_neg, if_true, if_false, Nat.reduceAdd, Nat.reduceMul, Nat.reduceSub, Nat.zero_add, Nat.add_zero, Ret_s, e1, e2, e5]
  exact ⟨_, _, _, mapR e6' rfl, mapR e7 rfl, RelX_k n (gl g n x) (bse S + 1) L t h0 hn (gl_sp hg hx).1 rfl h2 h10 h11.symm hS rfl rfl hx1 hx2 rfl rfl (SR_s hR h0 hn hg hz h3 h8)⟩
theorem ok_previous {X : XS} {M : MS} (h : RelX X M) : Ok_previous RelX X M := by
  refine RelX_e (P := fun X M => Ok_previous RelX X M) h ?_
  intro n g S L t rs wl ws ql qs bt bo mf wg ic al st tc sl th cc rd op hash z hi tx lf oth sm wts sg wkd h0 hn hg hr hz hS hx1 hx2 hR
  have hN := N_11 hn hg
  have hS6 := hR.1
  have hrk := rk_all hg
  have hwp := ways_pos (cF g n 0)
  obtain ⟨x, hxe⟩ : ∃ x : Nat, x = if 0 < rk g n n then rk g n n - 1 else ways (cF g n 0) - 1 := ⟨_, rfl⟩
  have hx : x < ways (cF g n 0) := by rw [hxe]; split <;> omega
  obtain ⟨bo1, e1⟩ := rankOf_I (t := bt) (o := bo) hn hg hr
  obtain ⟨bo2, e2, -⟩ := all_I (o := bo1) (t := nI 0) hn hg hr
  have hm : (rk g n n + ways (cF g n 0) - 1) % ways (cF g n 0) = x := by
    rw [hxe]
    split
    · rw [show rk g n n + ways (cF g n 0) - 1 = (rk g n n - 1) + ways (cF g n 0) by omega, Nat.add_mod_right, Nat.mod_eq_of_lt (by omega)]
    · rw [Nat.mod_eq_of_lt (by omega)]; omega
  obtain ⟨lf1, e3, -⟩ := allRows_I (o := lf) hz hn hg
  obtain ⟨lf2, oth1, e4⟩ := rankNow_I (o := lf1) (a := oth) hz hn hg
  obtain ⟨hi', e8, h8⟩ := rsav_I (hi := hi) (z := z) hS6
  obtain ⟨lf3, oth2, e9, h9⟩ := rlay_I (o := lf2) (a := oth1) hz hn hg hx
  obtain ⟨z', e10, h10, h11⟩ := rgoes_I hz hn hg (gl_sp hg hx).1 h9
  have e6' : F_X6_previous (nI S) th hi lf oth z = some (nI (chg g (gl g n x) n), nI (bse S + 1), nI 0, hi', lf3, oth2, z') := by
    unfold F_X6_previous F_X6_goesBy
    have s1 : nI (rk g n n) + nM + nI (ways (cF g n 0)) = nI (rk g n n + ways (cF g n 0) - 1) := by
      by_cases e : 0 < rk g n n
      · rw [m1_M (by omega), nI_add]; congr 1; omega
      · rw [show rk g n n = 0 by omega, z0M, nM_add (by omega)]; congr 1; omega
    simp (disch := omega) only [↓qM, zq0, zq1, zq2, zq3, zq4, zq5, zq6, zq7, zq8, zq9, zq10, zq11, zq12, zq13, zq14, zq20, zq33, zq48, zq49, zq50, zq57, zq60, zq61, zq78, zq97, zq102, zq126, zq486, zq600, zq2916, zq4200, le_I, lt_I, eq_I, ne_M, lt_M, cl_I, vin_T, gd_tt, nz_T, nI_add, sub_I, m1_M, pk_mul, div_I, Option.bind_some, Option.map_some, if_pos, if_neg, if_true, if_false, Nat.reduceAdd, Nat.reduceMul, Nat.reduceSub, Nat.zero_add, Nat.add_zero, Ret_s, e8, e3, e4, s1, rem_T, hm, e9, e10]
  by_cases e : 0 < rk g n n
  · obtain ⟨bt2, bo3, rs', sl', wk', e5, h2, h3⟩ := goRk_I (bt := nI 0) (bo := bo1) (wl := wl) (wk := ws) (sl := sl) (gone := z 1) hn hS6 hg hr hx
    have e7 : F_X5_previous (z 1) bt bo (nI n) rs (nI S) sl wl ws = some (nI (chg g (gl g n x) n), z 1 + nI 1, bt2, bo3, nI n, rs', nI (bse S + 1), sl', nI n, wk') := by
      unfold F_X5_previous F_X5_previous_J22
      rw [if_pos e] at hxe
      rw [hxe] at e5 ⊢
      simp (disch := omega) only [↓qM, zq0, zq1, zq2, zq3, zq4, zq5, zq6, zq7, zq8, zq9, zq10, zq11, zq12, zq13, zq14, zq20, zq33, zq48, zq49, zq50, zq57, zq60, zq61, zq78, zq97, zq102, zq126, zq486, zq600, zq2916, zq4200, le_I, lt_I, eq_I, ne_M, lt_M, cl_I, vin_T, gd_tt, nz_T, nI_add, sub_I, m1_M, pk_mul, div_I, Option.bind_some, Option.map_some, if_pos, if_neg, if_true, if_false, Nat.reduceAdd, Nat.reduceMul, Nat.reduceSub, Nat.zero_add, Nat.add_zero, Ret_s, e1, e5]
    exact ⟨_, _, _, mapR e6' rfl, mapR e7 rfl, RelX_k n (gl g n x) (bse S + 1) L t h0 hn (gl_sp hg hx).1 rfl h2 h10 h11.symm hS rfl rfl hx1 hx2 rfl rfl (SR_s hR h0 hn hg hz h3 h8)⟩
  · obtain ⟨bt2, bo3, rs', sl', wk', e5, h2, h3⟩ := goRk_I (bt := nI n) (bo := bo2) (wl := wl) (wk := ws) (sl := sl) (gone := z 1) hn hS6 hg hr hx
    have e7 : F_X5_previous (z 1) bt bo (nI n) rs (nI S) sl wl ws = some (nI (chg g (gl g n x) n), z 1 + nI 1, bt2, bo3, nI n, rs', nI (bse S + 1), sl', nI n, wk') := by
      unfold F_X5_previous F_X5_previous_J22
      rw [if_neg e] at hxe
      rw [hxe] at e5 ⊢
      simp (disch := omega) only [↓qM, zq0, zq1, zq2, zq3, zq4, zq5, zq6, zq7, zq8, zq9, zq10, zq11, zq12, zq13, zq14, zq20, zq33, zq48, zq49, zq50, zq57, zq60, zq61, zq78, zq97, zq102, zq126, zq486, zq600, zq2916, zq4200, le_I, lt_I, eq_I, ne_M, lt_M, cl_I, vin_T, gd_tt, nz_T, nI_add, sub_I, m1_M, pk_mul, div_I, Option.bind_some, Option.map_some, if_pos, if_neg, if_true, if_false, Nat.reduceAdd, Nat.reduceMul, Nat.reduceSub, Nat.zero_add, Nat.add_zero, Ret_s, e1, e2, e5]
    exact ⟨_, _, _, mapR e6' rfl, mapR e7 rfl, RelX_k n (gl g n x) (bse S + 1) L t h0 hn (gl_sp hg hx).1 rfl h2 h10 h11.symm hS rfl rfl hx1 hx2 rfl rfl (SR_s hR h0 hn hg hz h3 h8)⟩
theorem ok_goToSmooth {X : XS} {M : MS} (h : RelX X M) (x1 : Int32) : Ok_goToSmooth RelX X M x1 := by
  refine RelX_e (P := fun X M => Ok_goToSmooth RelX X M x1) h ?_
  intro n g S L t rs wl ws ql qs bt bo mf wg ic al st tc sl th cc rd op hash z hi tx lf oth sm wts sg wkd h0 hn hg hr hz hS hx1 hx2 hR
  have hN := N_11 hn hg
  have hS6 := hR.1
  have hM := SM_le (d := cF g n 0) (a := 6) (by have := cF_sum (p := 0) hg (by omega); omega)
  obtain ⟨⟨r0, bt0, bo0, al0, ic0, mf0, st0, wg0⟩, e0, a0, hS0⟩ := allSmooth_I (t := bt) (o := bo) (ic := ic) hn h0 hg hr hS
  have a0 : r0 = nI (SM (cF g n 0) 6) := a0
  subst a0
  have hS0 : SMI al0 mf0 st0 wg0 := hS0
  obtain ⟨⟨r6, cc1, lf1, sm1, wt1⟩, e6, a6⟩ := rallS_I (cc := cc) (lf := lf) (sm := sm) (w := wts) hz hn hg
  have a6 : r6 = nI (SM (cF g n 0) 6) := a6
  subst a6
  rcases plc (SM (cF g n 0) 6) x1 with ⟨x, hx, rfl⟩ | hx
  · skip
    obtain ⟨⟨bt1, bo1, al1, ic1, mf1, st1, wg1, wl1, wk1⟩, e2, h1, h2, h3⟩ := layOutS_I (t := bt0) (o := bo0) (ic := ic0) (wl := wl) (ws := ws) hn h0 hg hr hS0 hx
    have h1 : wl1 = nI n := h1
    subst h1
    have h2 : RA n (gls g n x) wk1 := h2
    have h3 : SMI al1 mf1 st1 wg1 := h3
    obtain ⟨hW, -⟩ := gls_sp hg hx
    obtain ⟨bt2, bo2, rs', sl', e3, h4, h5⟩ := arrive_I (bt := bt1) (bo := bo1) (sl := sl) (gone := z 1) hn hS6 hr hW h2
    have e5 : F_X5_goToSmooth (z 1) bt bo (nI n) rs (nI S) sl al ic mf st wg wl ws (nI x) = some (nI (rk (gls g n x) n n), z 1 + nI 1, bt2, bo2, nI n, rs', nI (bse S + 1), sl', al1, ic1, mf1, st1, wg1, nI n, wk1) := by
      unfold F_X5_goToSmooth
      simp (disch := omega) only [↓qM, zq0, zq1, zq2, zq3, zq4, zq5, zq6, zq7, zq8, zq9, zq10, zq11, zq12, zq13, zq14, zq20, zq33, zq48, zq49, zq50, zq57, zq60, zq61, zq78, zq97, zq102, zq126, zq486, zq600, zq2916, zq4200, le_I, lt_I, eq_I, ne_M, lt_M, cl_I, vin_T, gd_tt, nz_T, nI_add, sub_I, m1_M, pk_mul, div_I, Option.bind_some, Option.map_some, if_pos, if_neg, if_true, if_false, Nat.reduceAdd, Nat.reduceMul, Nat.reduceSub, Nat.zero_add, Nat.add_zero, Ret_s, e0, e2, e3]
    obtain ⟨hi', e8, h8⟩ := rsav_I (hi := hi) (z := z) hS6
    obtain ⟨⟨cc2, lf2, oth2, sm2, wt2⟩, e9, h9⟩ := rlsr_I (cc := cc1) (lf := lf1) (oth := oth) (sm := sm1) (w := wt1) hz hn hg hx
    have h9 : RA n (gls g n x) oth2 := h9
    obtain ⟨z', e10, h10, h11⟩ := rgoes_I hz hn hg hW h9
    obtain ⟨lf3, oth3, e11⟩ := rankNow_I (o := lf2) (a := oth2) h10 hn hW
    have e6' : F_X6_goToSmooth (nI S) th cc hi lf oth sm wts z (nI x) = some (nI (rk (gls g n x) n n), nI (bse S + 1), nI 0, cc2, hi', lf3, oth3, sm2, wt2, z') := by
      unfold F_X6_goToSmooth F_X6_goToSmooth_J18
      simp (disch := omega) only [↓qM, zq0, zq1, zq2, zq3, zq4, zq5, zq6, zq7, zq8, zq9, zq10, zq11, zq12, zq13, zq14, zq20, zq33, zq48, zq49, zq50, zq57, zq60, zq61, zq78, zq97, zq102, zq126, zq486, zq600, zq2916, zq4200, le_I, lt_I, eq_I, ne_M, lt_M, cl_I, vin_T, gd_tt, nz_T, nI_add, sub_I, m1_M, pk_mul, div_I, Option.bind_some, Option.map_some, if_pos, if_neg, if_true, if_false, Nat.reduceAdd, Nat.reduceMul, Nat.reduceSub, Nat.zero_add, Nat.add_zero, Ret_s, e6, e8, e9, e10, e11]
    exact ⟨_, _, mapR e6' rfl, Or.inl ⟨_, mapR e5 rfl, rfl, RelX_k n (gls g n x) (bse S + 1) L t h0 hn hW rfl h4 h10 h11.symm h3 rfl rfl hx1 hx2 rfl rfl (SR_s hR h0 hn hg hz h5 h8)⟩⟩
  · rcases hx with hx | ⟨p, k1, k2, rfl⟩
    · have e5 : F_X5_goToSmooth_T (z 1) bt bo (nI n) rs (nI S) sl al ic mf st wg wl ws x1 = some (1, z 1, bt, bo, nI n, rs, nI S, sl, al, ic, mf, st, wg, wl, ws) := by
        unfold F_X5_goToSmooth_T
        simp (disch := omega) only [↓qM, zq0, zq1, zq2, zq3, zq4, zq5, zq6, zq7, zq8, zq9, zq10, zq11, zq12, zq13, zq14, zq20, zq33, zq48, zq49, zq50, zq57, zq60, zq61, zq78, zq97, zq102, zq126, zq486, zq600, zq2916, zq4200, le_I, lt_I, eq_I, ne_M, lt_M, cl_I, vin_T, gd_tt, nz_T, nI_add, sub_I, m1_M, pk_mul, div_I, Option.bind_some, Option.map_some, if_pos, if_neg, if_true, if_false, Nat.reduceAdd, Nat.reduceMul, Nat.reduceSub, Nat.zero_add, Nat.add_zero, Ret_s, hx]
      have e6' : F_X6_goToSmooth (nI S) th cc hi lf oth sm wts z x1 = some (nI 0, nI S, nI 1, cc, hi, lf, oth, sm, wts, z) := by
        unfold F_X6_goToSmooth F_X6_goToSmooth_J18
        simp (disch := omega) only [↓qM, zq0, zq1, zq2, zq3, zq4, zq5, zq6, zq7, zq8, zq9, zq10, zq11, zq12, zq13, zq14, zq20, zq33, zq48, zq49, zq50, zq57, zq60, zq61, zq78, zq97, zq102, zq126, zq486, zq600, zq2916, zq4200, le_I, lt_I, eq_I, ne_M, lt_M, cl_I, vin_T, gd_tt, nz_T, nI_add, sub_I, m1_M, pk_mul, div_I, Option.bind_some, Option.map_some, if_pos, if_neg, if_true, if_false, Nat.reduceAdd, Nat.reduceMul, Nat.reduceSub, Nat.zero_add, Nat.add_zero, Ret_s, hx]
      exact ⟨_, _, mapR e6' rfl, Or.inr ⟨_, mapR e5 rfl, rfl, RelX_k n g S L t h0 hn hg rfl hr hz rfl hS rfl rfl hx1 hx2 rfl rfl hR⟩⟩
    · have e5 : F_X5_goToSmooth_T (z 1) bt bo (nI n) rs (nI S) sl al ic mf st wg wl ws (nI p) = some (1, z 1, bt0, bo0, nI n, rs, nI S, sl, al0, ic0, mf0, st0, wg0, wl, ws) := by
        unfold F_X5_goToSmooth_T
        simp (disch := omega) only [↓qM, zq0, zq1, zq2, zq3, zq4, zq5, zq6, zq7, zq8, zq9, zq10, zq11, zq12, zq13, zq14, zq20, zq33, zq48, zq49, zq50, zq57, zq60, zq61, zq78, zq97, zq102, zq126, zq486, zq600, zq2916, zq4200, le_I, lt_I, eq_I, ne_M, lt_M, cl_I, vin_T, gd_tt, nz_T, nI_add, sub_I, m1_M, pk_mul, div_I, Option.bind_some, Option.map_some, if_pos, if_neg, if_true, if_false, Nat.reduceAdd, Nat.reduceMul, Nat.reduceSub, Nat.zero_add, Nat.add_zero, Ret_s, e0]
      have e6' : F_X6_goToSmooth (nI S) th cc hi lf oth sm wts z (nI p) = some (nI 0, nI S, nI 1, cc1, hi, lf1, oth, sm1, wt1, z) := by
        unfold F_X6_goToSmooth F_X6_goToSmooth_J18
        simp (disch := omega) only [↓qM, zq0, zq1, zq2, zq3, zq4, zq5, zq6, zq7, zq8, zq9, zq10, zq11, zq12, zq13, zq14, zq20, zq33, zq48, zq49, zq50, zq57, zq60, zq61, zq78, zq97, zq102, zq126, zq486, zq600, zq2916, zq4200, le_I, lt_I, eq_I, ne_M, lt_M, cl_I, vin_T, gd_tt, nz_T, nI_add, sub_I, m1_M, pk_mul, div_I, Option.bind_some, Option.map_some, if_pos, if_neg, if_true, if_false, Nat.reduceAdd, Nat.reduceMul, Nat.reduceSub, Nat.zero_add, Nat.add_zero, Ret_s, e6]
      exact ⟨_, _, mapR e6' rfl, Or.inr ⟨_, mapR e5 rfl, rfl, RelX_k n g S L t h0 hn hg rfl hr hz rfl hS0 rfl rfl hx1 hx2 rfl rfl hR⟩⟩
theorem ok_nextSmooth {X : XS} {M : MS} (h : RelX X M) : Ok_nextSmooth RelX X M := by
  refine RelX_e (P := fun X M => Ok_nextSmooth RelX X M) h ?_
  intro n g S L t rs wl ws ql qs bt bo mf wg ic al st tc sl th cc rd op hash z hi tx lf oth sm wts sg wkd h0 hn hg hr hz hS hx1 hx2 hR
  have hN := N_11 hn hg
  have hS6 := hR.1
  have hM := SM_le (d := cF g n 0) (a := 6) (by have := cF_sum (p := 0) hg (by omega); omega)
  have hk := srk_le hn hg n 0 6 (by omega)
  have hb := b2n_le (smooth g n = true)
  obtain ⟨⟨r1, bt1, bo1, al1, ic1, mf1, st1, wg1⟩, e1, a1, hS1⟩ := smoothRank_I (t := bt) (o := bo) (ic := ic) hn h0 hg hr hS
  have a1 : r1 = nI (srk g n n 0 6) := a1
  subst a1
  have hS1 : SMI al1 mf1 st1 wg1 := hS1
  have e2 := isSmooth_I hn hg hr (Nat.le_refl n)
  have e2' : F_X1_isSmooth (nI n) rs (nI n) = some (nI (b2n (smooth g n = true))) := by
    rw [e2]
    by_cases e : smooth g n = true
    · rw [if_pos e, b2n_t e]; rfl
    · rw [if_neg e, b2n_f e]; rfl
  obtain ⟨⟨r0, bt0, bo0, al0, ic0, mf0, st0, wg0⟩, e0, a0, hS0⟩ := allSmooth_I (t := bt1) (o := bo1) (ic := ic1) hn h0 hg hr hS1
  have a0 : r0 = nI (SM (cF g n 0) 6) := a0
  subst a0
  have hS0 : SMI al0 mf0 st0 wg0 := hS0
  obtain ⟨⟨q1, cc1, lf1, sm1, wt1⟩, e3, a3⟩ := rsRank_I (cc := cc) (lf := lf) (sm := sm) (w := wts) hz hn hg
  have a3 : q1 = nI (srk g n n 0 6) := a3
  subst a3
  obtain ⟨⟨q2, cc3, lf3, sm3, wt3⟩, e4, a4⟩ := risS_I (cc := cc1) (lf := lf1) (sm := sm1) (w := wt1) hz hn hg
  have a4 : q2 = nI (b2n (smooth g n = true)) := a4
  subst a4
  obtain ⟨⟨q3, cc4, lf4, sm4, wt4⟩, e6, a6⟩ := rallS_I (cc := cc3) (lf := lf3) (sm := sm3) (w := wt3) hz hn hg
  have a6 : q3 = nI (SM (cF g n 0) 6) := a6
  subst a6
  have eb : (if b2n (smooth g n = true) = 0 then nI 0 else nI 1) = nI (b2n (smooth g n = true)) := by
    by_cases e : b2n (smooth g n = true) = 0
    · rw [if_pos e, e]
    · rw [if_neg e]; congr 1; omega
  generalize b2n (smooth g n = true) = b at *
  obtain ⟨x, hxe⟩ : ∃ x : Nat, x = srk g n n 0 6 + b := ⟨_, rfl⟩
  by_cases hx : x < SM (cF g n 0) 6
  · skip
    obtain ⟨⟨bt3, bo3, al2, ic2, mf2, st2, wg2, wl1, wk1⟩, e7, h1, h2, h3⟩ := layOutS_I (t := bt0) (o := bo0) (ic := ic0) (wl := wl) (ws := ws) hn h0 hg hr hS0 hx
    have h1 : wl1 = nI n := h1
    subst h1
    have h2 : RA n (gls g n x) wk1 := h2
    have h3 : SMI al2 mf2 st2 wg2 := h3
    obtain ⟨hW, -⟩ := gls_sp hg hx
    obtain ⟨bt2, bo2, rs', sl', e12, h4, h5⟩ := arrive_I (bt := bt3) (bo := bo3) (sl := sl) (gone := z 1) hn hS6 hr hW h2
    have e5 : F_X5_nextSmooth (z 1) bt bo (nI n) rs (nI S) sl al ic mf st wg wl ws = some (nI (rk (gls g n x) n n), z 1 + nI 1, bt2, bo2, nI n, rs', nI (bse S + 1), sl', al2, ic2, mf2, st2, wg2, nI n, wk1) := by
      unfold F_X5_nextSmooth F_X5_nextSmooth_J26
      simp (disch := omega) only [↓qM, zq0, zq1, zq2, zq3, zq4, zq5, zq6, zq7, zq8, zq9, zq10, zq11, zq12, zq13, zq14, zq20, zq33, zq48, zq49, zq50, zq57, zq60, zq61, zq78, zq97, zq102, zq126, zq486, zq600, zq2916, zq4200, le_I, lt_I, eq_I, ne_M, lt_M, cl_I, vin_T, gd_tt, nz_T, nI_add, sub_I, m1_M, pk_mul, div_I, Option.bind_some, Option.map_some, if_pos, if_neg, if_true, if_false, Nat.reduceAdd, Nat.reduceMul, Nat.reduceSub, Nat.zero_add, Nat.add_zero, Ret_s, e1, len_T, e2', eb, e0, ← hxe, e7, e12]
    obtain ⟨hi', e8, h8⟩ := rsav_I (hi := hi) (z := z) hS6
    obtain ⟨⟨cc2, lf2, oth2, sm2, wt2⟩, e9, h9⟩ := rlsr_I (cc := cc4) (lf := lf4) (oth := oth) (sm := sm4) (w := wt4) hz hn hg hx
    have h9 : RA n (gls g n x) oth2 := h9
    obtain ⟨z', e10, h10, h11⟩ := rgoes_I hz hn hg hW h9
    obtain ⟨lf5, oth3, e11⟩ := rankNow_I (o := lf2) (a := oth2) h10 hn hW
    have e6' : F_X6_nextSmooth (nI S) th cc hi lf oth sm wts z = some (nI (rk (gls g n x) n n), nI (bse S + 1), nI 0, cc2, hi', lf5, oth3, sm2, wt2, z') := by
      unfold F_X6_nextSmooth F_X6_nextSmooth_J16 F_X6_nextSmooth_J32
      simp (disch := omega) only [↓qM, zq0, zq1, zq2, zq3, zq4, zq5, zq6, zq7, zq8, zq9, zq10, zq11, zq12, zq13, zq14, zq20, zq33, zq48, zq49, zq50, zq57, zq60, zq61, zq78, zq97, zq102, zq126, zq486, zq600, zq2916, zq4200, le_I, lt_I, eq_I, ne_M, lt_M, cl_I, vin_T, gd_tt, nz_T, nI_add, sub_I, m1_M, pk_mul, div_I, Option.bind_some, Option.map_some, if_pos, if_neg, if_true, if_false, Nat.reduceAdd, Nat.reduceMul, Nat.reduceSub, Nat.zero_add, Nat.add_zero, Ret_s, e3, e4, eb, e6, ← hxe, e8, e9, e10, e11]
    exact ⟨_, _, mapR e6' rfl, Or.inl ⟨_, mapR e5 rfl, rfl, RelX_k n (gls g n x) (bse S + 1) L t h0 hn hW rfl h4 h10 h11.symm h3 rfl rfl hx1 hx2 rfl rfl (SR_s hR h0 hn hg hz h5 h8)⟩⟩
  · have e5 : F_X5_nextSmooth_T (z 1) bt bo (nI n) rs (nI S) sl al ic mf st wg wl ws = some (2, z 1, bt0, bo0, nI n, rs, nI S, sl, al0, ic0, mf0, st0, wg0, wl, ws) := by
      unfold F_X5_nextSmooth_T F_X5_nextSmooth_T_J26
      simp (disch := omega) only [↓qM, zq0, zq1, zq2, zq3, zq4, zq5, zq6, zq7, zq8, zq9, zq10, zq11, zq12, zq13, zq14, zq20, zq33, zq48, zq49, zq50, zq57, zq60, zq61, zq78, zq97, zq102, zq126, zq486, zq600, zq2916, zq4200, le_I, lt_I, eq_I, ne_M, lt_M, cl_I, vin_T, gd_tt, nz_T, nI_add, sub_I, m1_M, pk_mul, div_I, Option.bind_some, Option.map_some, if_pos, if_neg, if_true, if_false, Nat.reduceAdd, Nat.reduceMul, Nat.reduceSub, Nat.zero_add, Nat.add_zero, Ret_s, e1, len_T, e2', eb, e0, ← hxe]
    have e6' : F_X6_nextSmooth (nI S) th cc hi lf oth sm wts z = some (nI 0, nI S, nI 1, cc4, hi, lf4, oth, sm4, wt4, z) := by
      unfold F_X6_nextSmooth F_X6_nextSmooth_J16 F_X6_nextSmooth_J32
      simp (disch := omega) only [↓qM, zq0, zq1, zq2, zq3, zq4, zq5, zq6, zq7, zq8, zq9, zq10, zq11, zq12, zq13, zq14, zq20, zq33, zq48, zq49, zq50, zq57, zq60, zq61, zq78, zq97, zq102, zq126, zq486, zq600, zq2916, zq4200, le_I, lt_I, eq_I, ne_M, lt_M, cl_I, vin_T, gd_tt, nz_T, nI_add, sub_I, m1_M, pk_mul, div_I, Option.bind_some, Option.map_some, if_pos, if_neg, if_true, if_false, Nat.reduceAdd, Nat.reduceMul, Nat.reduceSub, Nat.zero_add, Nat.add_zero, Ret_s, e3, e4, eb, e6, ← hxe]
    exact ⟨_, _, mapR e6' rfl, Or.inr ⟨_, mapR e5 rfl, rfl, RelX_k n g S L t h0 hn hg rfl hr hz rfl hS0 rfl rfl hx1 hx2 rfl rfl hR⟩⟩
theorem ok_swap {X : XS} {M : MS} (h : RelX X M) (x1 : Int32) (x2 : Int32) : Ok_swap RelX X M x1 x2 := by
  refine RelX_e (P := fun X M => Ok_swap RelX X M x1 x2) h ?_
  intro n g S L t rs wl ws ql qs bt bo mf wg ic al st tc sl th cc rd op hash z hi tx lf oth sm wts sg wkd h0 hn hg hr hz hS hx1 hx2 hR
  have hN := N_11 hn hg
  have hS6 := hR.1
  rcases plc n x1 with ⟨p, hp, rfl⟩ | hp
  · rcases plc n x2 with ⟨q, hq, rfl⟩ | hq
    · obtain ⟨sl', e1, h1⟩ := sav_I (sl := sl) (x2 := z 1) hn hS6 hr
      obtain ⟨rs', e2, h2⟩ := exchange_I (p := p) (q := q) hr hp hq hn
      have hW := gswap_RG hg hp hq
      obtain ⟨bo', e3⟩ := rankOf_I (t := bt) (o := bo) hn hW h2
      have e4 := place_I hp hn
      have e7 := place_I hq hn
      have e5 : F_X5_swap (z 1) bt bo (nI n) rs (nI S) sl (nI p) (nI q) = some (nI (rk (gswap g p q) n n), nI 0, bo', rs', nI (bse S + 1), sl') := by
        unfold F_X5_swap
        simp (disch := omega) only [↓qM, zq0, zq1, zq2, zq3, zq4, zq5, zq6, zq7, zq8, zq9, zq10, zq11, zq12, zq13, zq14, zq20, zq33, zq48, zq49, zq50, zq57, zq60, zq61, zq78, zq97, zq102, zq126, zq486, zq600, zq2916, zq4200, le_I, lt_I, eq_I, ne_M, lt_M, cl_I, vin_T, gd_tt, nz_T, nI_add, sub_I, m1_M, pk_mul, div_I, Option.bind_some, Option.map_some, if_pos, if_neg, if_true, if_false, Nat.reduceAdd, Nat.reduceMul, Nat.reduceSub, Nat.zero_add, Nat.add_zero, Ret_s, e4, e7, e1, e2, e3]
      obtain ⟨hi', e8, h8⟩ := rsav_I (hi := hi) (z := z) hS6
      obtain ⟨z', e9, h9, h10⟩ := rexch_I hz hn hp hq
      obtain ⟨lf', oth', e10⟩ := rankNow_I (o := lf) (a := oth) h9 hn hW
      have e11 := isPlace1 hz hp hn
      have e12 := isPlace1 hz hq hn
      have e6' : F_X6_swap (nI S) th hi lf oth z (nI p) (nI q) = some (nI (rk (gswap g p q) n n), nI (bse S + 1), nI 0, hi', lf', oth', z') := by
        unfold F_X6_swap F_X6_swap_J22
        simp (disch := omega) only [↓qM, zq0, zq1, zq2, zq3, zq4, zq5, zq6, zq7, zq8, zq9, zq10, zq11, zq12, zq13, zq14, zq20, zq33, zq48, zq49, zq50, zq57, zq60, zq61, zq78, zq97, zq102, zq126, zq486, zq600, zq2916, zq4200, le_I, lt_I, eq_I, ne_M, lt_M, cl_I, vin_T, gd_tt, nz_T, nI_add, sub_I, m1_M, pk_mul, div_I, Option.bind_some, Option.map_some, if_pos, if_neg, if_true, if_false, Nat.reduceAdd, Nat.reduceMul, Nat.reduceSub, Nat.zero_add, Nat.add_zero, Ret_s, e11, e12, e8, e9, e10]
      exact ⟨_, _, mapR e6' rfl, Or.inl ⟨_, mapR e5 rfl, rfl, RelX_k n (gswap g p q) (bse S + 1) L t h0 hn hW rfl h2 h9 h10.symm hS rfl rfl hx1 hx2 rfl rfl (SR_s hR h0 hn hg hz h1 h8)⟩⟩
    · have e4 := place_I hp hn
      have e7 := placeT_I hp hn
      have e8 := placeT_B hq
      have e11 := isPlace1 hz hp hn
      have e12 := isPlace_B hz hq h0 hn
      have e5 : F_X5_swap_T (z 1) bt bo (nI n) rs (nI S) sl (nI p) x2 = some (3, bt, bo, rs, nI S, sl) := by
        unfold F_X5_swap_T
        simp (disch := omega) only [↓qM, zq0, zq1, zq2, zq3, zq4, zq5, zq6, zq7, zq8, zq9, zq10, zq11, zq12, zq13, zq14, zq20, zq33, zq48, zq49, zq50, zq57, zq60, zq61, zq78, zq97, zq102, zq126, zq486, zq600, zq2916, zq4200, le_I, lt_I, eq_I, ne_M, lt_M, cl_I, vin_T, gd_tt, nz_T, nI_add, sub_I, m1_M, pk_mul, div_I, Option.bind_some, Option.map_some, if_pos, if_neg, if_true, if_false, Nat.reduceAdd, Nat.reduceMul, Nat.reduceSub, Nat.zero_add, Nat.add_zero, Ret_s, e7, opc_n, e4, e8, opc_s]
      have e6' : F_X6_swap (nI S) th hi lf oth z (nI p) x2 = some (nI 0, nI S, nI 1, hi, lf, oth, z) := by
        unfold F_X6_swap F_X6_swap_J22
        simp (disch := omega) only [↓qM, zq0, zq1, zq2, zq3, zq4, zq5, zq6, zq7, zq8, zq9, zq10, zq11, zq12, zq13, zq14, zq20, zq33, zq48, zq49, zq50, zq57, zq60, zq61, zq78, zq97, zq102, zq126, zq486, zq600, zq2916, zq4200, le_I, lt_I, eq_I, ne_M, lt_M, cl_I, vin_T, gd_tt, nz_T, nI_add, sub_I, m1_M, pk_mul, div_I, Option.bind_some, Option.map_some, if_pos, if_neg, if_true, if_false, Nat.reduceAdd, Nat.reduceMul, Nat.reduceSub, Nat.zero_add, Nat.add_zero, Ret_s, e11, e12]
      exact ⟨_, _, mapR e6' rfl, Or.inr ⟨_, mapR e5 rfl, rfl, RelX_k n g S L t h0 hn hg rfl hr hz rfl hS rfl rfl hx1 hx2 rfl rfl hR⟩⟩
  · have e8 := placeT_B hp
    have e12 := isPlace_B hz hp h0 hn
    have e5 : F_X5_swap_T (z 1) bt bo (nI n) rs (nI S) sl x1 x2 = some (3, bt, bo, rs, nI S, sl) := by
      unfold F_X5_swap_T
      simp (disch := omega) only [↓qM, zq0, zq1, zq2, zq3, zq4, zq5, zq6, zq7, zq8, zq9, zq10, zq11, zq12, zq13, zq14, zq20, zq33, zq48, zq49, zq50, zq57, zq60, zq61, zq78, zq97, zq102, zq126, zq486, zq600, zq2916, zq4200, le_I, lt_I, eq_I, ne_M, lt_M, cl_I, vin_T, gd_tt, nz_T, nI_add, sub_I, m1_M, pk_mul, div_I, Option.bind_some, Option.map_some, if_pos, if_neg, if_true, if_false, Nat.reduceAdd, Nat.reduceMul, Nat.reduceSub, Nat.zero_add, Nat.add_zero, Ret_s, e8, opc_s]
    have e6' : F_X6_swap (nI S) th hi lf oth z x1 x2 = some (nI 0, nI S, nI 1, hi, lf, oth, z) := by
      unfold F_X6_swap F_X6_swap_J22
      simp (disch := omega) only [↓qM, zq0, zq1, zq2, zq3, zq4, zq5, zq6, zq7, zq8, zq9, zq10, zq11, zq12, zq13, zq14, zq20, zq33, zq48, zq49, zq50, zq57, zq60, zq61, zq78, zq97, zq102, zq126, zq486, zq600, zq2916, zq4200, le_I, lt_I, eq_I, ne_M, lt_M, cl_I, vin_T, gd_tt, nz_T, nI_add, sub_I, m1_M, pk_mul, div_I, Option.bind_some, Option.map_some, if_pos, if_neg, if_true, if_false, Nat.reduceAdd, Nat.reduceMul, Nat.reduceSub, Nat.zero_add, Nat.add_zero, Ret_s, e12]
    exact ⟨_, _, mapR e6' rfl, Or.inr ⟨_, mapR e5 rfl, rfl, RelX_k n g S L t h0 hn hg rfl hr hz rfl hS rfl rfl hx1 hx2 rfl rfl hR⟩⟩
theorem ok_turn {X : XS} {M : MS} (h : RelX X M) (x1 : Int32) (x2 : Int32) : Ok_turn RelX X M x1 x2 := by
  refine RelX_e (P := fun X M => Ok_turn RelX X M x1 x2) h ?_
  intro n g S L t rs wl ws ql qs bt bo mf wg ic al st tc sl th cc rd op hash z hi tx lf oth sm wts sg wkd h0 hn hg hr hz hS hx1 hx2 hR
  have hN := N_11 hn hg
  have hS6 := hR.1
  rcases plc n x1 with ⟨p, hp, rfl⟩ | hp
  · rcases plc n x2 with ⟨q, hq, rfl⟩ | hq
    · have e4 := place_I hp hn
      have e7 := place_I hq hn
      have e4t := placeT_I hp hn
      have e7t := placeT_I hq hn
      have e11 := isPlace1 hz hp hn
      have e12 := isPlace1 hz hq hn
      by_cases hpq : p ≤ q
      · obtain ⟨sl', e1, h1⟩ := sav_I (sl := sl) (x2 := z 1) hn hS6 hr
        obtain ⟨rs', e2, h2⟩ := reverse_I (lo := p) (hi := q) hr hn hq (by omega)
        have hW := (grev_ok (s := 0) 11 g p q hg hq).1
        obtain ⟨bo', e3⟩ := rankOf_I (t := bt) (o := bo) hn hW h2
        have e5 : F_X5_turn (z 1) bt bo (nI n) rs (nI S) sl (nI p) (nI q) = some (nI (rk (grev 11 g p q) n n), nI 0, bo', rs', nI (bse S + 1), sl') := by
          unfold F_X5_turn F_X5_turn_J20
          simp (disch := omega) only [↓qM, zq0, zq1, zq2, zq3, zq4, zq5, zq6, zq7, zq8, zq9, zq10, zq11, zq12, zq13, zq14, zq20, zq33, zq48, zq49, zq50, zq57, zq60, zq61, zq78, zq97, zq102, zq126, zq486, zq600, zq2916, zq4200, le_I, lt_I, eq_I, ne_M, lt_M, cl_I, vin_T, gd_tt, nz_T, nI_add, sub_I, m1_M, pk_mul, div_I, Option.bind_some, Option.map_some, if_pos, if_neg, if_true, if_false, Nat.reduceAdd, Nat.reduceMul, Nat.reduceSub, Nat.zero_add, Nat.add_zero, Ret_s, e4, e7, need1, e1, e2, e3]
        obtain ⟨hi', e8, h8⟩ := rsav_I (hi := hi) (z := z) hS6
        obtain ⟨z', e9, h9, h10⟩ := rturn_I hn hp hq 11 0 FU g z (by omega) (FU_lt (by omega)) (by omega) hz
        have h9 : ZI z' n (grev 11 g p q) := h9
        have e9' : F_X6_turnAround z (nI p) (nI q) = some z' := e9
        obtain ⟨lf', oth', e10⟩ := rankNow_I (o := lf) (a := oth) h9 hn hW
        have e6' : F_X6_turn (nI S) th hi lf oth z (nI p) (nI q) = some (nI (rk (grev 11 g p q) n n), nI (bse S + 1), nI 0, hi', lf', oth', z') := by
          unfold F_X6_turn F_X6_turn_J31
          simp (disch := omega) only [↓qM, zq0, zq1, zq2, zq3, zq4, zq5, zq6, zq7, zq8, zq9, zq10, zq11, zq12, zq13, zq14, zq20, zq33, zq48, zq49, zq50, zq57, zq60, zq61, zq78, zq97, zq102, zq126, zq486, zq600, zq2916, zq4200, le_I, lt_I, eq_I, ne_M, lt_M, cl_I, vin_T, gd_tt, nz_T, nI_add, sub_I, m1_M, pk_mul, div_I, Option.bind_some, Option.map_some, if_pos, if_neg, if_true, if_false, Nat.reduceAdd, Nat.reduceMul, Nat.reduceSub, Nat.zero_add, Nat.add_zero, Ret_s, e11, e12, e8, e9', e10]
        exact ⟨_, _, mapR e6' rfl, Or.inl ⟨_, mapR e5 rfl, rfl, RelX_k n (grev 11 g p q) (bse S + 1) L t h0 hn hW rfl h2 h9 h10.symm hS rfl rfl hx1 hx2 rfl rfl (SR_s hR h0 hn hg hz h1 h8)⟩⟩
      · skip
        have e5 : F_X5_turn_T (z 1) bt bo (nI n) rs (nI S) sl (nI p) (nI q) = some (1, bt, bo, rs, nI S, sl) := by
          unfold F_X5_turn_T F_X5_turn_T_J20
          simp (disch := omega) only [↓qM, zq0, zq1, zq2, zq3, zq4, zq5, zq6, zq7, zq8, zq9, zq10, zq11, zq12, zq13, zq14, zq20, zq33, zq48, zq49, zq50, zq57, zq60, zq61, zq78, zq97, zq102, zq126, zq486, zq600, zq2916, zq4200, le_I, lt_I, eq_I, ne_M, lt_M, cl_I, vin_T, gd_tt, nz_T, nI_add, sub_I, m1_M, pk_mul, div_I, Option.bind_some, Option.map_some, if_pos, if_neg, if_true, if_false, Nat.reduceAdd, Nat.reduceMul, Nat.reduceSub, Nat.zero_add, Nat.add_zero, Ret_s, e4t, opc_n, e4, e7t, e7, needT0, opc_s]
        have e6' : F_X6_turn (nI S) th hi lf oth z (nI p) (nI q) = some (nI 0, nI S, nI 2, hi, lf, oth, z) := by
          unfold F_X6_turn F_X6_turn_J31
          simp (disch := omega) only [↓qM, zq0, zq1, zq2, zq3, zq4, zq5, zq6, zq7, zq8, zq9, zq10, zq11, zq12, zq13, zq14, zq20, zq33, zq48, zq49, zq50, zq57, zq60, zq61, zq78, zq97, zq102, zq126, zq486, zq600, zq2916, zq4200, le_I, lt_I, eq_I, ne_M, lt_M, cl_I, vin_T, gd_tt, nz_T, nI_add, sub_I, m1_M, pk_mul, div_I, Option.bind_some, Option.map_some, if_pos, if_neg, if_true, if_false, Nat.reduceAdd, Nat.reduceMul, Nat.reduceSub, Nat.zero_add, Nat.add_zero, Ret_s, e11, e12]
        exact ⟨_, _, mapR e6' rfl, Or.inr (Or.inr ⟨_, mapR e5 rfl, rfl, RelX_k n g S L t h0 hn hg rfl hr hz rfl hS rfl rfl hx1 hx2 rfl rfl hR⟩)⟩
    · have e4 := place_I hp hn
      have e4t := placeT_I hp hn
      have e8 := placeT_B hq
      have e11 := isPlace1 hz hp hn
      have e12 := isPlace_B hz hq h0 hn
      have e5 : F_X5_turn_T (z 1) bt bo (nI n) rs (nI S) sl (nI p) x2 = some (3, bt, bo, rs, nI S, sl) := by
        unfold F_X5_turn_T
        simp (disch := omega) only [↓qM, zq0, zq1, zq2, zq3, zq4, zq5, zq6, zq7, zq8, zq9, zq10, zq11, zq12, zq13, zq14, zq20, zq33, zq48, zq49, zq50, zq57, zq60, zq61, zq78, zq97, zq102, zq126, zq486, zq600, zq2916, zq4200, le_I, lt_I, eq_I, ne_M, lt_M, cl_I, vin_T, gd_tt, nz_T, nI_add, sub_I, m1_M, pk_mul, div_I, Option.bind_some, Option.map_some, if_pos, if_neg, if_true, if_false, Nat.reduceAdd, Nat.reduceMul, Nat.reduceSub, Nat.zero_add, Nat.add_zero, Ret_s, e4t, opc_n, e4, e8, opc_s]
      have e6' : F_X6_turn (nI S) th hi lf oth z (nI p) x2 = some (nI 0, nI S, nI 1, hi, lf, oth, z) := by
        unfold F_X6_turn F_X6_turn_J31
        simp (disch := omega) only [↓qM, zq0, zq1, zq2, zq3, zq4, zq5, zq6, zq7, zq8, zq9, zq10, zq11, zq12, zq13, zq14, zq20, zq33, zq48, zq49, zq50, zq57, zq60, zq61, zq78, zq97, zq102, zq126, zq486, zq600, zq2916, zq4200, le_I, lt_I, eq_I, ne_M, lt_M, cl_I, vin_T, gd_tt, nz_T, nI_add, sub_I, m1_M, pk_mul, div_I, Option.bind_some, Option.map_some, if_pos, if_neg, if_true, if_false, Nat.reduceAdd, Nat.reduceMul, Nat.reduceSub, Nat.zero_add, Nat.add_zero, Ret_s, e11, e12]
      exact ⟨_, _, mapR e6' rfl, Or.inr (Or.inl ⟨_, mapR e5 rfl, rfl, RelX_k n g S L t h0 hn hg rfl hr hz rfl hS rfl rfl hx1 hx2 rfl rfl hR⟩)⟩
  · have e8 := placeT_B hp
    have e12 := isPlace_B hz hp h0 hn
    have e5 : F_X5_turn_T (z 1) bt bo (nI n) rs (nI S) sl x1 x2 = some (3, bt, bo, rs, nI S, sl) := by
      unfold F_X5_turn_T
      simp (disch := omega) only [↓qM, zq0, zq1, zq2, zq3, zq4, zq5, zq6, zq7, zq8, zq9, zq10, zq11, zq12, zq13, zq14, zq20, zq33, zq48, zq49, zq50, zq57, zq60, zq61, zq78, zq97, zq102, zq126, zq486, zq600, zq2916, zq4200, le_I, lt_I, eq_I, ne_M, lt_M, cl_I, vin_T, gd_tt, nz_T, nI_add, sub_I, m1_M, pk_mul, div_I, Option.bind_some, Option.map_some, if_pos, if_neg, if_true, if_false, Nat.reduceAdd, Nat.reduceMul, Nat.reduceSub, Nat.zero_add, Nat.add_zero, Ret_s, e8, opc_s]
    have e6' : F_X6_turn (nI S) th hi lf oth z x1 x2 = some (nI 0, nI S, nI 1, hi, lf, oth, z) := by
      unfold F_X6_turn F_X6_turn_J31
      simp (disch := omega) only [↓qM, zq0, zq1, zq2, zq3, zq4, zq5, zq6, zq7, zq8, zq9, zq10, zq11, zq12, zq13, zq14, zq20, zq33, zq48, zq49, zq50, zq57, zq60, zq61, zq78, zq97, zq102, zq126, zq486, zq600, zq2916, zq4200, le_I, lt_I, eq_I, ne_M, lt_M, cl_I, vin_T, gd_tt, nz_T, nI_add, sub_I, m1_M, pk_mul, div_I, Option.bind_some, Option.map_some, if_pos, if_neg, if_true, if_false, Nat.reduceAdd, Nat.reduceMul, Nat.reduceSub, Nat.zero_add, Nat.add_zero, Ret_s, e12]
    exact ⟨_, _, mapR e6' rfl, Or.inr (Or.inl ⟨_, mapR e5 rfl, rfl, RelX_k n g S L t h0 hn hg rfl hr hz rfl hS rfl rfl hx1 hx2 rfl rfl hR⟩)⟩
theorem ok_carry {X : XS} {M : MS} (h : RelX X M) (x1 : Int32) (x2 : Int32) : Ok_carry RelX X M x1 x2 := by
  refine RelX_e (P := fun X M => Ok_carry RelX X M x1 x2) h ?_
  intro n g S L t rs wl ws ql qs bt bo mf wg ic al st tc sl th cc rd op hash z hi tx lf oth sm wts sg wkd h0 hn hg hr hz hS hx1 hx2 hR
  have hN := N_11 hn hg
  have hS6 := hR.1
  rcases plc n x1 with ⟨p, hp, rfl⟩ | hp
  · have e4 := place_I hp hn
    have e4t := placeT_I hp hn
    have e11 := isPlace1 hz hp hn
    rcases plc 21 x2 with ⟨m, hm, rfl⟩ | hm
    · have e12 := within_G (b := 20) hm (by omega)
      obtain ⟨sl', e1, h1⟩ := sav_I (sl := sl) (x2 := z 1) hn hS6 hr
      obtain ⟨rs', e2, h2, hW⟩ := carryL_I (gone := z 1) (x1 := nI p) (sh := nI (bse S + 1)) (ss := sl') (m := m) hn (by omega) m 0 p FU g rs (by omega) (FU_lt (by omega)) hp hg hr
      have e5 : F_X5_carry (z 1) (nI n) rs (nI S) sl (nI p) (nI m) = some (nI (cstN n m g p).2, rs', nI (bse S + 1), sl') := by
        exact cry5 hm e4 e1 e2
      obtain ⟨hi', e8, h8⟩ := rsav_I (hi := hi) (z := z) hS6
      obtain ⟨z', e9, h9, h10⟩ := rcarryL_I (x1 := nI p) (sts := nI (bse S + 1)) (thr := nI 0) (hi := hi') (m := m) hn (by omega) m 0 p FU g z (by omega) (FU_lt (by omega)) hp hg hz
      have e6' : F_X6_carry (nI S) th hi z (nI p) (nI m) = some (nI (cstN n m g p).2, nI (bse S + 1), nI 0, hi', z') := by
        exact cry6 e11 e12 e8 e9
      exact ⟨_, _, mapR e6' rfl, Or.inl ⟨_, mapR e5 rfl, rfl, RelX_k n (cstN n m g p).1 (bse S + 1) L t h0 hn hW rfl h2 h9 h10.symm hS rfl rfl hx1 hx2 rfl rfl (SR_s hR h0 hn hg hz h1 h8)⟩⟩
    · have e12 := within_B (b := 20) hm (by omega)
      rcases hm with hm | ⟨m, k1, k2, rfl⟩
      · skip
        have e5 : F_X5_carry_T (z 1) (nI n) rs (nI S) sl (nI p) x2 = some (1, rs, nI S, sl) := by
          unfold F_X5_carry_T F_X5_carry_T_J20
          simp (disch := omega) only [↓qM, zq0, zq1, zq2, zq3, zq4, zq5, zq6, zq7, zq8, zq9, zq10, zq11, zq12, zq13, zq14, zq20, zq33, zq48, zq49, zq50, zq57, zq60, zq61, zq78, zq97, zq102, zq126, zq486, zq600, zq2916, zq4200, le_I, lt_I, eq_I, ne_M, lt_M, cl_I, vin_T, gd_tt, nz_T, nI_add, sub_I, m1_M, pk_mul, div_I, Option.bind_some, Option.map_some, if_pos, if_neg, if_true, if_false, Nat.reduceAdd, Nat.reduceMul, Nat.reduceSub, Nat.zero_add, Nat.add_zero, Ret_s, e4t, opc_n, e4, hm, needT0, opc_s]
        have e6' : F_X6_carry (nI S) th hi z (nI p) x2 = some (nI 0, nI S, nI 2, hi, z) := by
          unfold F_X6_carry F_X6_carry_J28
          simp (disch := omega) only [↓qM, zq0, zq1, zq2, zq3, zq4, zq5, zq6, zq7, zq8, zq9, zq10, zq11, zq12, zq13, zq14, zq20, zq33, zq48, zq49, zq50, zq57, zq60, zq61, zq78, zq97, zq102, zq126, zq486, zq600, zq2916, zq4200, le_I, lt_I, eq_I, ne_M, lt_M, cl_I, vin_T, gd_tt, nz_T, nI_add, sub_I, m1_M, pk_mul, div_I, Option.bind_some, Option.map_some, if_pos, if_neg, if_true, if_false, Nat.reduceAdd, Nat.reduceMul, Nat.reduceSub, Nat.zero_add, Nat.add_zero, Ret_s, e11, e12]
        exact ⟨_, _, mapR e6' rfl, Or.inr (Or.inr ⟨_, mapR e5 rfl, rfl, RelX_k n g S L t h0 hn hg rfl hr hz rfl hS rfl rfl hx1 hx2 rfl rfl hR⟩)⟩
      · skip
        have e5 : F_X5_carry_T (z 1) (nI n) rs (nI S) sl (nI p) (nI m) = some (1, rs, nI S, sl) := by
          unfold F_X5_carry_T F_X5_carry_T_J20
          simp (disch := omega) only [↓qM, zq0, zq1, zq2, zq3, zq4, zq5, zq6, zq7, zq8, zq9, zq10, zq11, zq12, zq13, zq14, zq20, zq33, zq48, zq49, zq50, zq57, zq60, zq61, zq78, zq97, zq102, zq126, zq486, zq600, zq2916, zq4200, le_I, lt_I, eq_I, ne_M, lt_M, cl_I, vin_T, gd_tt, nz_T, nI_add, sub_I, m1_M, pk_mul, div_I, Option.bind_some, Option.map_some, if_pos, if_neg, if_true, if_false, Nat.reduceAdd, Nat.reduceMul, Nat.reduceSub, Nat.zero_add, Nat.add_zero, Ret_s, e4t, opc_n, e4, needT0, opc_s]
        have e6' : F_X6_carry (nI S) th hi z (nI p) (nI m) = some (nI 0, nI S, nI 2, hi, z) := by
          unfold F_X6_carry F_X6_carry_J28
          simp (disch := omega) only [↓qM, zq0, zq1, zq2, zq3, zq4, zq5, zq6, zq7, zq8, zq9, zq10, zq11, zq12, zq13, zq14, zq20, zq33, zq48, zq49, zq50, zq57, zq60, zq61, zq78, zq97, zq102, zq126, zq486, zq600, zq2916, zq4200, le_I, lt_I, eq_I, ne_M, lt_M, cl_I, vin_T, gd_tt, nz_T, nI_add, sub_I, m1_M, pk_mul, div_I, Option.bind_some, Option.map_some, if_pos, if_neg, if_true, if_false, Nat.reduceAdd, Nat.reduceMul, Nat.reduceSub, Nat.zero_add, Nat.add_zero, Ret_s, e11, e12]
        exact ⟨_, _, mapR e6' rfl, Or.inr (Or.inr ⟨_, mapR e5 rfl, rfl, RelX_k n g S L t h0 hn hg rfl hr hz rfl hS rfl rfl hx1 hx2 rfl rfl hR⟩)⟩
  · have e8 := placeT_B hp
    have e12 := isPlace_B hz hp h0 hn
    have e5 : F_X5_carry_T (z 1) (nI n) rs (nI S) sl x1 x2 = some (3, rs, nI S, sl) := by
      unfold F_X5_carry_T
      simp (disch := omega) only [↓qM, zq0, zq1, zq2, zq3, zq4, zq5, zq6, zq7, zq8, zq9, zq10, zq11, zq12, zq13, zq14, zq20, zq33, zq48, zq49, zq50, zq57, zq60, zq61, zq78, zq97, zq102, zq126, zq486, zq600, zq2916, zq4200, le_I, lt_I, eq_I, ne_M, lt_M, cl_I, vin_T, gd_tt, nz_T, nI_add, sub_I, m1_M, pk_mul, div_I, Option.bind_some, Option.map_some, if_pos, if_neg, if_true, if_false, Nat.reduceAdd, Nat.reduceMul, Nat.reduceSub, Nat.zero_add, Nat.add_zero, Ret_s, e8, opc_s]
    have e6' : F_X6_carry (nI S) th hi z x1 x2 = some (nI 0, nI S, nI 1, hi, z) := by
      unfold F_X6_carry F_X6_carry_J28
      simp (disch := omega) only [↓qM, zq0, zq1, zq2, zq3, zq4, zq5, zq6, zq7, zq8, zq9, zq10, zq11, zq12, zq13, zq14, zq20, zq33, zq48, zq49, zq50, zq57, zq60, zq61, zq78, zq97, zq102, zq126, zq486, zq600, zq2916, zq4200, le_I, lt_I, eq_I, ne_M, lt_M, cl_I, vin_T, gd_tt, nz_T, nI_add, sub_I, m1_M, pk_mul, div_I, Option.bind_some, Option.map_some, if_pos, if_neg, if_true, if_false, Nat.reduceAdd, Nat.reduceMul, Nat.reduceSub, Nat.zero_add, Nat.add_zero, Ret_s, e12]
    exact ⟨_, _, mapR e6' rfl, Or.inr (Or.inl ⟨_, mapR e5 rfl, rfl, RelX_k n g S L t h0 hn hg rfl hr hz rfl hS rfl rfl hx1 hx2 rfl rfl hR⟩)⟩
theorem ok_put {X : XS} {M : MS} (h : RelX X M) (x1 : Int32) (x2 : Int32) : Ok_put RelX X M x1 x2 := by
  refine RelX_e (P := fun X M => Ok_put RelX X M x1 x2) h ?_
  intro n g S L t rs wl ws ql qs bt bo mf wg ic al st tc sl th cc rd op hash z hi tx lf oth sm wts sg wkd h0 hn hg hr hz hS hx1 hx2 hR
  have hN := N_11 hn hg
  have hS6 := hR.1
  rcases plc (n + 1) x1 with ⟨p, hp, rfl⟩ | hp
  · have e11 := within_G (b := n) hp (by omega)
    rcases plc 6 x2 with ⟨v, hv, rfl⟩ | hv
    · have e12 := isSign1 hv
      have e4 := sign_I hv
      have e4t := signT_I hv
      by_cases hn2 : n < 11
      · obtain ⟨sl', e1, h1⟩ := sav_I (sl := sl) (x2 := z 1) hn hS6 hr
        obtain ⟨rs', e2, h2⟩ := insert_I (v := v) hr hn2 (show p ≤ n by omega)
        have hW := gins_RG (p := p) (v := v) hg (by omega) hv
        obtain ⟨bo', e3, -⟩ := all_I (t := bt) (o := bo) (show n + 1 ≤ 11 by omega) hW h2
        have e5 : F_X5_put (z 1) bt bo (nI n) rs (nI S) sl (nI p) (nI v) = some (nI (ways (cF (gins g n p v) (n + 1) 0)), nI (n + 1), bo', nI (n + 1), rs', nI (bse S + 1), sl') := by
          unfold F_X5_put
          simp (disch := omega) only [↓qM, zq0, zq1, zq2, zq3, zq4, zq5, zq6, zq7, zq8, zq9, zq10, zq11, zq12, zq13, zq14, zq20, zq33, zq48, zq49, zq50, zq57, zq60, zq61, zq78, zq97, zq102, zq126, zq486, zq600, zq2916, zq4200, le_I, lt_I, eq_I, ne_M, lt_M, cl_I, vin_T, gd_tt, nz_T, nI_add, sub_I, m1_M, pk_mul, div_I, Option.bind_some, Option.map_some, if_pos, if_neg, if_true, if_false, Nat.reduceAdd, Nat.reduceMul, Nat.reduceSub, Nat.zero_add, Nat.add_zero, Ret_s, len_T, e4, e1, e2, e3]
        obtain ⟨hi', e8, h8⟩ := rsav_I (hi := hi) (z := z) hS6
        obtain ⟨lf', z', e9, h9, h10⟩ := rputL_I (sts := nI (bse S + 1)) (thr := nI 0) (hi := hi') hn2 hg (show p ≤ n by omega) hv (n - p) FU z lf (FU_lt (by omega)) (by omega) hz.n (fun j _ hj => hz.g j hj) (fun j hj hj2 => by omega)
        rw [show p + (n - p) = n by omega] at e9
        have e6' : F_X6_put (nI S) th hi lf z (nI p) (nI v) = some (nI (ways (cF (gins g n p v) (n + 1) 0)), nI (bse S + 1), nI 0, hi', lf', z') := by
          exact put6 hz hn2 e11 e12 e8 e9
        exact ⟨_, _, mapR e6' rfl, Or.inl ⟨_, mapR e5 rfl, rfl, RelX_k (n + 1) (gins g n p v) (bse S + 1) L t (by omega) (by omega) hW rfl h2 h9 h10.symm hS rfl rfl hx1 hx2 rfl rfl (SR_s hR h0 hn hg hz h1 h8)⟩⟩
      · skip
        have e5 : F_X5_put_T (z 1) bt bo (nI n) rs (nI S) sl (nI p) (nI v) = some (2, bt, bo, nI n, rs, nI S, sl) := by
          unfold F_X5_put_T
          simp (disch := omega) only [↓qM, zq0, zq1, zq2, zq3, zq4, zq5, zq6, zq7, zq8, zq9, zq10, zq11, zq12, zq13, zq14, zq20, zq33, zq48, zq49, zq50, zq57, zq60, zq61, zq78, zq97, zq102, zq126, zq486, zq600, zq2916, zq4200, le_I, lt_I, eq_I, ne_M, lt_M, cl_I, vin_T, gd_tt, nz_T, nI_add, sub_I, m1_M, pk_mul, div_I, Option.bind_some, Option.map_some, if_pos, if_neg, if_true, if_false, Nat.reduceAdd, Nat.reduceMul, Nat.reduceSub, Nat.zero_add, Nat.add_zero, Ret_s, len_T, e4t, opc_n, e4]
        have e6' : F_X6_put (nI S) th hi lf z (nI p) (nI v) = some (nI 0, nI S, nI 3, hi, lf, z) := by
          unfold F_X6_put F_X6_put_J46
          simp (disch := omega) only [↓qM, zq0, zq1, zq2, zq3, zq4, zq5, zq6, zq7, zq8, zq9, zq10, zq11, zq12, zq13, zq14, zq20, zq33, zq48, zq49, zq50, zq57, zq60, zq61, zq78, zq97, zq102, zq126, zq486, zq600, zq2916, zq4200, le_I, lt_I, eq_I, ne_M, lt_M, cl_I, vin_T, gd_tt, nz_T, nI_add, sub_I, m1_M, pk_mul, div_I, Option.bind_some, Option.map_some, if_pos, if_neg, if_true, if_false, Nat.reduceAdd, Nat.reduceMul, Nat.reduceSub, Nat.zero_add, Nat.add_zero, Ret_s, hz.n, e11, e12]
        exact ⟨_, _, mapR e6' rfl, Or.inr (Or.inr (Or.inr ⟨_, mapR e5 rfl, rfl, RelX_k n g S L t h0 hn hg rfl hr hz rfl hS rfl rfl hx1 hx2 rfl rfl hR⟩))⟩
    · have e12 := isSign_B hv
      have e4t := signT_B hv
      have e5 : F_X5_put_T (z 1) bt bo (nI n) rs (nI S) sl (nI p) x2 = some (1, bt, bo, nI n, rs, nI S, sl) := by
        unfold F_X5_put_T
        simp (disch := omega) only [↓qM, zq0, zq1, zq2, zq3, zq4, zq5, zq6, zq7, zq8, zq9, zq10, zq11, zq12, zq13, zq14, zq20, zq33, zq48, zq49, zq50, zq57, zq60, zq61, zq78, zq97, zq102, zq126, zq486, zq600, zq2916, zq4200, le_I, lt_I, eq_I, ne_M, lt_M, cl_I, vin_T, gd_tt, nz_T, nI_add, sub_I, m1_M, pk_mul, div_I, Option.bind_some, Option.map_some, if_pos, if_neg, if_true, if_false, Nat.reduceAdd, Nat.reduceMul, Nat.reduceSub, Nat.zero_add, Nat.add_zero, Ret_s, len_T, e4t, opc_s]
      have e6' : F_X6_put (nI S) th hi lf z (nI p) x2 = some (nI 0, nI S, nI 2, hi, lf, z) := by
        unfold F_X6_put F_X6_put_J46
        simp (disch := omega) only [↓qM, zq0, zq1, zq2, zq3, zq4, zq5, zq6, zq7, zq8, zq9, zq10, zq11, zq12, zq13, zq14, zq20, zq33, zq48, zq49, zq50, zq57, zq60, zq61, zq78, zq97, zq102, zq126, zq486, zq600, zq2916, zq4200, le_I, lt_I, eq_I, ne_M, lt_M, cl_I, vin_T, gd_tt, nz_T, nI_add, sub_I, m1_M, pk_mul, div_I, Option.bind_some, Option.map_some, if_pos, if_neg, if_true, if_false, Nat.reduceAdd, Nat.reduceMul, Nat.reduceSub, Nat.zero_add, Nat.add_zero, Ret_s, hz.n, e11, e12]
      exact ⟨_, _, mapR e6' rfl, Or.inr (Or.inr (Or.inl ⟨_, mapR e5 rfl, rfl, RelX_k n g S L t h0 hn hg rfl hr hz rfl hS rfl rfl hx1 hx2 rfl rfl hR⟩))⟩
  · have e11 := within_B (b := n) hp (by omega)
    rcases hp with hp | ⟨p, k1, k2, rfl⟩
    · skip
      have e5 : F_X5_put_T (z 1) bt bo (nI n) rs (nI S) sl x1 x2 = some (3, bt, bo, nI n, rs, nI S, sl) := by
        unfold F_X5_put_T
        simp (disch := omega) only [↓qM, zq0, zq1, zq2, zq3, zq4, zq5, zq6, zq7, zq8, zq9, zq10, zq11, zq12, zq13, zq14, zq20, zq33, zq48, zq49, zq50, zq57, zq60, zq61, zq78, zq97, zq102, zq126, zq486, zq600, zq2916, zq4200, le_I, lt_I, eq_I, ne_M, lt_M, cl_I, vin_T, gd_tt, nz_T, nI_add, sub_I, m1_M, pk_mul, div_I, Option.bind_some, Option.map_some, if_pos, if_neg, if_true, if_false, Nat.reduceAdd, Nat.reduceMul, Nat.reduceSub, Nat.zero_add, Nat.add_zero, Ret_s, hp]
      have e6' : F_X6_put (nI S) th hi lf z x1 x2 = some (nI 0, nI S, nI 1, hi, lf, z) := by
        unfold F_X6_put F_X6_put_J46
        simp (disch := omega) only [↓qM, zq0, zq1, zq2, zq3, zq4, zq5, zq6, zq7, zq8, zq9, zq10, zq11, zq12, zq13, zq14, zq20, zq33, zq48, zq49, zq50, zq57, zq60, zq61, zq78, zq97, zq102, zq126, zq486, zq600, zq2916, zq4200, le_I, lt_I, eq_I, ne_M, lt_M, cl_I, vin_T, gd_tt, nz_T, nI_add, sub_I, m1_M, pk_mul, div_I, Option.bind_some, Option.map_some, if_pos, if_neg, if_true, if_false, Nat.reduceAdd, Nat.reduceMul, Nat.reduceSub, Nat.zero_add, Nat.add_zero, Ret_s, hz.n, e11]
      exact ⟨_, _, mapR e6' rfl, Or.inr (Or.inl ⟨_, mapR e5 rfl, rfl, RelX_k n g S L t h0 hn hg rfl hr hz rfl hS rfl rfl hx1 hx2 rfl rfl hR⟩)⟩
    · skip
      have e5 : F_X5_put_T (z 1) bt bo (nI n) rs (nI S) sl (nI p) x2 = some (3, bt, bo, nI n, rs, nI S, sl) := by
        unfold F_X5_put_T
        simp (disch := omega) only [↓qM, zq0, zq1, zq2, zq3, zq4, zq5, zq6, zq7, zq8, zq9, zq10, zq11, zq12, zq13, zq14, zq20, zq33, zq48, zq49, zq50, zq57, zq60, zq61, zq78, zq97, zq102, zq126, zq486, zq600, zq2916, zq4200, le_I, lt_I, eq_I, ne_M, lt_M, cl_I, vin_T, gd_tt, nz_T, nI_add, sub_I, m1_M, pk_mul, div_I, Option.bind_some, Option.map_some, if_pos, if_neg, if_true, if_false, Nat.reduceAdd, Nat.reduceMul, Nat.reduceSub, Nat.zero_add, Nat.add_zero, Ret_s, len_T]
      have e6' : F_X6_put (nI S) th hi lf z (nI p) x2 = some (nI 0, nI S, nI 1, hi, lf, z) := by
        unfold F_X6_put F_X6_put_J46
        simp (disch := omega) only [↓qM, zq0, zq1, zq2, zq3, zq4, zq5, zq6, zq7, zq8, zq9, zq10, zq11, zq12, zq13, zq14, zq20, zq33, zq48, zq49, zq50, zq57, zq60, zq61, zq78, zq97, zq102, zq126, zq486, zq600, zq2916, zq4200, le_I, lt_I, eq_I, ne_M, lt_M, cl_I, vin_T, gd_tt, nz_T, nI_add, sub_I, m1_M, pk_mul, div_I, Option.bind_some, Option.map_some, if_pos, if_neg, if_true, if_false, Nat.reduceAdd, Nat.reduceMul, Nat.reduceSub, Nat.zero_add, Nat.add_zero, Ret_s, hz.n, e11]
      exact ⟨_, _, mapR e6' rfl, Or.inr (Or.inl ⟨_, mapR e5 rfl, rfl, RelX_k n g S L t h0 hn hg rfl hr hz rfl hS rfl rfl hx1 hx2 rfl rfl hR⟩)⟩
theorem ok_take {X : XS} {M : MS} (h : RelX X M) (x1 : Int32) : Ok_take RelX X M x1 := by
  refine RelX_e (P := fun X M => Ok_take RelX X M x1) h ?_
  intro n g S L t rs wl ws ql qs bt bo mf wg ic al st tc sl th cc rd op hash z hi tx lf oth sm wts sg wkd h0 hn hg hr hz hS hx1 hx2 hR
  have hN := N_11 hn hg
  have hS6 := hR.1
  rcases plc n x1 with ⟨p, hp, rfl⟩ | hp
  · have e4 := place_I hp hn
    have e4t := placeT_I hp hn
    have e11 := isPlace1 hz hp hn
    by_cases hn2 : 1 < n
    · obtain ⟨sl', e1, h1⟩ := sav_I (sl := sl) (x2 := z 1) hn hS6 hr
      obtain ⟨rs', e2, h2⟩ := remove_I hr hn hp
      have hW := gdel_RG hg hp
      have e5 : F_X5_take (z 1) (nI n) rs (nI S) sl (nI p) = some (nI (g p), nI (n - 1), rs', nI (bse S + 1), sl') := by
        unfold F_X5_take
        simp (disch := omega) only [↓qM, zq0, zq1, zq2, zq3, zq4, zq5, zq6, zq7, zq8, zq9, zq10, zq11, zq12, zq13, zq14, zq20, zq33, zq48, zq49, zq50, zq57, zq60, zq61, zq78, zq97, zq102, zq126, zq486, zq600, zq2916, zq4200, le_I, lt_I, eq_I, ne_M, lt_M, cl_I, vin_T, gd_tt, nz_T, nI_add, sub_I, m1_M, pk_mul, div_I, Option.bind_some, Option.map_some, if_pos, if_neg, if_true, if_false, Nat.reduceAdd, Nat.reduceMul, Nat.reduceSub, Nat.zero_add, Nat.add_zero, Ret_s, e4, len_T, e1, at_J hr hn, e2]
      obtain ⟨hi', e8, h8⟩ := rsav_I (hi := hi) (z := z) hS6
      obtain ⟨z', e9, h9, h10⟩ := rtakeL_I (n := n - 1) (p := p) (g := g) (sts := nI (bse S + 1)) (thr := nI 0) (hi := hi') (x1 := nI p) (x2 := nI (g p)) (by omega) (by omega) (n - 1 - p) p FU (upd z 0 (nI (n - 1))) (by omega) (Nat.le_refl _) (FU_lt (by omega)) (upd_s _ _ _) (fun j hj => by rw [upd_n _ _ (by omega)]; unfold gdel; rw [if_pos hj]; exact hz.g j (by omega)) (fun j hj hj2 => by rw [upd_n _ _ (by omega)]; exact hz.g j (by omega))
      rw [upd_n _ _ (by omega)] at h10
      have e6' : F_X6_take (nI S) th hi z (nI p) = some (nI (g p), nI (bse S + 1), nI 0, hi', z') := by
        exact tak6 hz hn hn2 hp e11 e8 e9
      exact ⟨_, _, mapR e6' rfl, Or.inl ⟨_, mapR e5 rfl, rfl, RelX_k (n - 1) (gdel g p) (bse S + 1) L t (by omega) (by omega) hW rfl h2 h9 h10.symm hS rfl rfl hx1 hx2 rfl rfl (SR_s hR h0 hn hg hz h1 h8)⟩⟩
    · skip
      have e5 : F_X5_take_T (z 1) (nI n) rs (nI S) sl (nI p) = some (2, nI n, rs, nI S, sl) := by
        unfold F_X5_take_T
        simp (disch := omega) only [↓qM, zq0, zq1, zq2, zq3, zq4, zq5, zq6, zq7, zq8, zq9, zq10, zq11, zq12, zq13, zq14, zq20, zq33, zq48, zq49, zq50, zq57, zq60, zq61, zq78, zq97, zq102, zq126, zq486, zq600, zq2916, zq4200, le_I, lt_I, eq_I, ne_M, lt_M, cl_I, vin_T, gd_tt, nz_T, nI_add, sub_I, m1_M, pk_mul, div_I, Option.bind_some, Option.map_some, if_pos, if_neg, if_true, if_false, Nat.reduceAdd, Nat.reduceMul, Nat.reduceSub, Nat.zero_add, Nat.add_zero, Ret_s, e4t, opc_n, e4, len_T]
      have e6' : F_X6_take (nI S) th hi z (nI p) = some (nI 0, nI S, nI 2, hi, z) := by
        unfold F_X6_take F_X6_take_J28
        simp (disch := omega) only [↓qM, zq0, zq1, zq2, zq3, zq4, zq5, zq6, zq7, zq8, zq9, zq10, zq11, zq12, zq13, zq14, zq20, zq33, zq48, zq49, zq50, zq57, zq60, zq61, zq78, zq97, zq102, zq126, zq486, zq600, zq2916, zq4200, le_I, lt_I, eq_I, ne_M, lt_M, cl_I, vin_T, gd_tt, nz_T, nI_add, sub_I, m1_M, pk_mul, div_I, Option.bind_some, Option.map_some, if_pos, if_neg, if_true, if_false, Nat.reduceAdd, Nat.reduceMul, Nat.reduceSub, Nat.zero_add, Nat.add_zero, Ret_s, e11, hz.n]
      exact ⟨_, _, mapR e6' rfl, Or.inr (Or.inr ⟨_, mapR e5 rfl, rfl, RelX_k n g S L t h0 hn hg rfl hr hz rfl hS rfl rfl hx1 hx2 rfl rfl hR⟩)⟩
  · have e8 := placeT_B hp
    have e12 := isPlace_B hz hp h0 hn
    have e5 : F_X5_take_T (z 1) (nI n) rs (nI S) sl x1 = some (3, nI n, rs, nI S, sl) := by
      unfold F_X5_take_T
      simp (disch := omega) only [↓qM, zq0, zq1, zq2, zq3, zq4, zq5, zq6, zq7, zq8, zq9, zq10, zq11, zq12, zq13, zq14, zq20, zq33, zq48, zq49, zq50, zq57, zq60, zq61, zq78, zq97, zq102, zq126, zq486, zq600, zq2916, zq4200, le_I, lt_I, eq_I, ne_M, lt_M, cl_I, vin_T, gd_tt, nz_T, nI_add, sub_I, m1_M, pk_mul, div_I, Option.bind_some, Option.map_some, if_pos, if_neg, if_true, if_false, Nat.reduceAdd, Nat.reduceMul, Nat.reduceSub, Nat.zero_add, Nat.add_zero, Ret_s, e8, opc_s]
    have e6' : F_X6_take (nI S) th hi z x1 = some (nI 0, nI S, nI 1, hi, z) := by
      unfold F_X6_take F_X6_take_J28
      simp (disch := omega) only [↓qM, zq0, zq1, zq2, zq3, zq4, zq5, zq6, zq7, zq8, zq9, zq10, zq11, zq12, zq13, zq14, zq20, zq33, zq48, zq49, zq50, zq57, zq60, zq61, zq78, zq97, zq102, zq126, zq486, zq600, zq2916, zq4200, le_I, lt_I, eq_I, ne_M, lt_M, cl_I, vin_T, gd_tt, nz_T, nI_add, sub_I, m1_M, pk_mul, div_I, Option.bind_some, Option.map_some, if_pos, if_neg, if_true, if_false, Nat.reduceAdd, Nat.reduceMul, Nat.reduceSub, Nat.zero_add, Nat.add_zero, Ret_s, e12]
    exact ⟨_, _, mapR e6' rfl, Or.inr (Or.inl ⟨_, mapR e5 rfl, rfl, RelX_k n g S L t h0 hn hg rfl hr hz rfl hS rfl rfl hx1 hx2 rfl rfl hR⟩)⟩
