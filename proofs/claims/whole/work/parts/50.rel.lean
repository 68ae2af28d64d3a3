/-! the relation of the two states; arguments in and out of range -/
def RelX (X : XS) (M : MS) : Prop := ∃ (n : Nat) (g : Nat → Nat) (S L : Nat) (t : Nat → Nat), 1 ≤ n ∧ n ≤ 11 ∧ RG n g ∧ X.2.1 = nI n ∧ RA n g X.2.2.1 ∧ ZI M.2.2.2.2.2.2.2.1 n g ∧ X.1 = M.2.2.2.2.2.2.2.1 1 ∧ SMI X.2.2.2.2.2.2.2.2.2.2.2.2.1 X.2.2.2.2.2.2.2.2.2.1 X.2.2.2.2.2.2.2.2.2.2.2.2.2.1 X.2.2.2.2.2.2.2.2.2.2.1 ∧ X.2.2.2.2.2.2.2.2.2.2.2.2.2.2.1 = nI L ∧ M.2.1 = nI L ∧ XI L t X.2.2.2.2.2.2.2.2.2.2.2.2.2.2.2.1 ∧ XI L t M.2.2.2.2.2.2.2.2.2.1 ∧ X.2.2.2.2.2.2.2.2.2.2.2.2.2.2.2.2.1 = nI S ∧ M.1 = nI S ∧ SR S X.2.2.2.2.2.2.2.2.2.2.2.2.2.2.2.2.2 M.2.2.2.2.2.2.2.2.1
theorem RelX_e {P : XS → MS → Prop} {X : XS} {M : MS} (h : RelX X M) (k : ∀ (n : Nat) (g : Nat → Nat) (S L : Nat) (t : Nat → Nat) (rs : Nat → Int32) (wl : Int32) (ws : Nat → Int32) (ql : Int32) (qs : Nat → Int32) (bt : Int32) (bo mf wg ic al st tc sl : Nat → Int32) (th cc rd op : Int32) (hash : Int64) (z hi tx lf oth sm wts sg wkd : Nat → Int32), 1 ≤ n → n ≤ 11 → RG n g → RA n g rs → ZI z n g → SMI al mf st wg → XI L t tc → XI L t tx → SR S sl hi → P (z 1, nI n, rs, wl, ws, ql, qs, bt, bo, mf, wg, ic, al, st, nI L, tc, nI S, sl) (nI S, nI L, th, cc, rd, op, hash, z, hi, tx, lf, oth, sm, wts, sg, wkd)) : P X M := by
  obtain ⟨gone, rl, rs, wl, ws, ql, qs, bt, bo, mf, wg, ic, al, st, tl, tc, sh, sl⟩ := X
  obtain ⟨sts, ln, th, cc, rd, op, hash, z, hi, tx, lf, oth, sm, wts, sg, wkd⟩ := M
  obtain ⟨n, g, S, L, t, h0, hn, hg, e1, hr, hz, e2, hS, e3, e4, hx1, hx2, e5, e6, hR⟩ := h
  have e1 : rl = nI n := e1
  have e2 : gone = z 1 := e2
  have e3 : tl = nI L := e3
  have e4 : ln = nI L := e4
  have e5 : sh = nI S := e5
  have e6 : sts = nI S := e6
  subst e1 e2 e3 e4 e5 e6
  exact k n g S L t rs wl ws ql qs bt bo mf wg ic al st tc sl th cc rd op hash z hi tx lf oth sm wts sg wkd h0 hn hg hr hz hS hx1 hx2 hR
theorem mapR {α β γ : Type} {x : Option α} {o : α} {f : α → γ × β} {r : γ} (h : x = some o) (hr : (f o).1 = r) : x.map f = some (r, (f o).2) := by rw [h, ← hr]; rfl
theorem opc_s {α β : Type} (a : α) (f : α → Option β) (y : Option β) : opc (some a) f y = f a := rfl
theorem opc_n {α β : Type} (f : α → Option β) (y : Option β) : opc none f y = y := rfl
theorem bind_n {α β : Type} (f : α → Option β) : (none : Option α).bind f = none := rfl
theorem needT0 : F_X5_need_T (nI 0) = some 1 := rfl
theorem needT1 : F_X5_need_T (nI 1) = none := rfl
-- places
def BadP (n : Nat) (x : Int32) : Prop := x < nI 0 ∨ ∃ p, n ≤ p ∧ p < 2147483648 ∧ x = nI p
theorem plc (n : Nat) (x : Int32) : (∃ p, p < n ∧ x = nI p) ∨ BadP n x := by
  rcases i32 x with h | ⟨k, hk, rfl⟩
  · exact Or.inr (Or.inl h)
  · by_cases e : k < n
    · exact Or.inl ⟨k, e, rfl⟩
    · exact Or.inr (Or.inr ⟨k, by omega, hk, rfl⟩)
theorem placeT_I {n p : Nat} (hp : p < n) (hn : n ≤ 11) : F_X5_needPlace_T (nI n) (nI p) = none := by
  unfold F_X5_needPlace_T
  rw [has_I hp hn]
  rfl
theorem has_B {n : Nat} {x : Int32} (h : BadP n x) : F_X1_has (nI n) x = some 0 := by
  rcases h with h | ⟨p, h1, h2, rfl⟩
  · exact has_neg h
  · exact has_out h1 h2
theorem place_B {n : Nat} {x : Int32} (h : BadP n x) : F_X5_needPlace (nI n) x = none := by
  unfold F_X5_needPlace
  rw [has_B h]
  rfl
theorem placeT_B {n : Nat} {x : Int32} (h : BadP n x) : F_X5_needPlace_T (nI n) x = some 3 := by
  unfold F_X5_needPlace_T
  rw [has_B h]
  rfl
theorem isPlace_B {z : Nat → Int32} {n : Nat} {x : Int32} {g : Nat → Nat} (hz : ZI z n g) (h : BadP n x) (h0 : 1 ≤ n) (hn : n ≤ 11) : F_X6_isPlace z x = some (nI 0) := by
  rcases h with h | ⟨p, h1, h2, rfl⟩
  · exact isPlaceN hz h h0 hn
  · exact isPlace0 hz h1 h2 h0 hn
-- signs
theorem signT_I {s : Nat} (hs : s < 6) : F_X5_needSign_T (nI s) = none := by
  unfold F_X5_needSign_T F_X5_needSign_T_J15
  simp (disch := omega) only [↓qM, zq0, zq1, zq2, zq3, zq4, zq5, zq6, zq7, zq8, zq9, zq10, zq11, zq12, zq13, zq14, zq20, zq33, zq48, zq49, zq50, zq57, zq60, zq61, zq78, zq97, zq102, zq126, zq486, zq600, zq2916, zq4200, le_I, lt_I, eq_I, ne_M, lt_M, cl_I, vin_T, gd_tt, nz_T, nI_add, sub_I, m1_M, pk_mul, div_I, Option.bind_some, Option.map_some, if_pos, if_neg, if_true, if_false, Nat.reduceAdd, Nat.reduceMul, Nat.reduceSub, Nat.zero_add, Nat.add_zero, Ret_s, needT1, opc_n]
theorem signT_B {x : Int32} (h : BadP 6 x) : F_X5_needSign_T x = some 1 := by
  unfold F_X5_needSign_T F_X5_needSign_T_J15
  rcases h with h | ⟨p, h1, h2, rfl⟩
  · simp (disch := omega) only [↓qM, zq0, zq1, zq2, zq3, zq4, zq5, zq6, zq7, zq8, zq9, zq10, zq11, zq12, zq13, zq14, zq20, zq33, zq48, zq49, zq50, zq57, zq60, zq61, zq78, zq97, zq102, zq126, zq486, zq600, zq2916, zq4200, le_I, lt_I, eq_I, ne_M, lt_M, cl_I, vin_T, gd_tt, nz_T, nI_add, sub_I, m1_M, pk_mul, div_I, Option.bind_some, Option.map_some, if_pos, if_neg, if_true, if_false, Nat.reduceAdd, Nat.reduceMul, Nat.reduceSub, Nat.zero_add, Nat.add_zero, Ret_s, h, needT0, opc_s]
  · simp (disch := omega) only [↓qM, zq0, zq1, zq2, zq3, zq4, zq5, zq6, zq7, zq8, zq9, zq10, zq11, zq12, zq13, zq14, zq20, zq33, zq48, zq49, zq50, zq57, zq60, zq61, zq78, zq97, zq102, zq126, zq486, zq600, zq2916, zq4200, le_I, lt_I, eq_I, ne_M, lt_M, cl_I, vin_T, gd_tt, nz_T, nI_add, sub_I, m1_M, pk_mul, div_I, Option.bind_some, Option.map_some, if_pos, if_neg, if_true, if_false, Nat.reduceAdd, Nat.reduceMul, Nat.reduceSub, Nat.zero_add, Nat.add_zero, Ret_s, needT0, opc_s]
theorem isSign_B {x : Int32} (h : BadP 6 x) : F_X6_isSign x = some (nI 0) := by
  rcases h with h | ⟨p, h1, h2, rfl⟩
  · exact isSignN h
  · exact isSign0 h1 h2
theorem within_B {b : Nat} {x : Int32} (h : BadP (b + 1) x) (hb : b < 2147483648) : F_X6_within x (nI 0) (nI b) = some (nI 0) := by
  rcases h with h | ⟨p, h1, h2, rfl⟩
  · exact withinN h
  · exact within0 (Or.inr (by omega)) (by omega) h2 hb
theorem within_G {b p : Nat} (h : p < b + 1) (hb : b < 2147483648) : F_X6_within (nI p) (nI 0) (nI b) = some (nI 1) := within1 (Nat.zero_le _) (by omega) hb
-- ranks
theorem N_11 {n : Nat} {g : Nat → Nat} (hn : n ≤ 11) (hg : RG n g) : ways (cF g n 0) ≤ 39916800 := ways_11 (by have := cF_sum (p := 0) hg (by omega); omega)
theorem rkT_I {n x : Nat} {g : Nat → Nat} {a o : Nat → Int32} {t : Int32} (hn : n ≤ 11) (hg : RG n g) (h : RA n g a) (hx : x < ways (cF g n 0)) : F_X5_needRank_T t o (nI n) a (nI x) = none := by
  obtain ⟨o1, e1, -⟩ := all_I (o := o) (t := t) hn hg h
  have hw := N_11 hn hg
  unfold F_X5_needRank_T F_X5_needRank_T_J17
  simp (disch := omega) only [↓qM, zq0, zq1, zq2, zq3, zq4, zq5, zq6, zq7, zq8, zq9, zq10, zq11, zq12, zq13, zq14, zq20, zq33, zq48, zq49, zq50, zq57, zq60, zq61, zq78, zq97, zq102, zq126, zq486, zq600, zq2916, zq4200, le_I, lt_I, eq_I, ne_M, lt_M, cl_I, vin_T, gd_tt, nz_T, nI_add, sub_I, m1_M, pk_mul, div_I, Option.bind_some, Option.map_some, if_pos, if_neg, if_true, if_false, Nat.reduceAdd, Nat.reduceMul, Nat.reduceSub, Nat.zero_add, Nat.add_zero, Ret_s, e1, needT1, opc_n]
theorem rkT_B {n : Nat} {g : Nat → Nat} {a o : Nat → Int32} {t x : Int32} (hn : n ≤ 11) (hg : RG n g) (h : RA n g a) (hx : BadP (ways (cF g n 0)) x) : Ret (F_X5_needRank_T t o (nI n) a x) (fun r => r.1 = 1) := by
  obtain ⟨o1, e1, -⟩ := all_I (o := o) (t := t) hn hg h
  have hw := N_11 hn hg
  unfold F_X5_needRank_T F_X5_needRank_T_J17
  rcases hx with h1 | ⟨p, h1, h2, rfl⟩
  · simp (disch := omega) only [↓qM, zq0, zq1, zq2, zq3, zq4, zq5, zq6, zq7, zq8, zq9, zq10, zq11, zq12, zq13, zq14, zq20, zq33, zq48, zq49, zq50, zq57, zq60, zq61, zq78, zq97, zq102, zq126, zq486, zq600, zq2916, zq4200, le_I, lt_I, eq_I, ne_M, lt_M, cl_I, vin_T, gd_tt, nz_T, nI_add, sub_I, m1_M, pk_mul, div_I, Option.bind_some, Option.map_some, if_pos, if_neg, if_true, if_false, Nat.reduceAdd, Nat.reduceMul, Nat.reduceSub, Nat.zero_add, Nat.add_zero, Ret_s, h1, needT0, opc_s]
  · simp (disch := omega) only [↓qM, zq0, zq1, zq2, zq3, zq4, zq5, zq6, zq7, zq8, zq9, zq10, zq11, zq12, zq13, zq14, zq20, zq33, zq48, zq49, zq50, zq57, zq60, zq61, zq78, zq97, zq102, zq126, zq486, zq600, zq2916, zq4200, le_I, lt_I, eq_I, ne_M, lt_M, cl_I, vin_T, gd_tt, nz_T, nI_add, sub_I, m1_M, pk_mul, div_I, Option.bind_some, Option.map_some, if_pos, if_neg, if_true, if_false, Nat.reduceAdd, Nat.reduceMul, Nat.reduceSub, Nat.zero_add, Nat.add_zero, Ret_s, e1, needT0, opc_s]
theorem isRk_I {n x : Nat} {g : Nat → Nat} {z lf : Nat → Int32} (hz : ZI z n g) (hn : n ≤ 11) (hg : RG n g) (hx : x < ways (cF g n 0)) : ∃ lf', F_X6_isRank lf z (nI x) = some (nI 1, lf') := by
  have hw := N_11 hn hg
  obtain ⟨lf', e⟩ := isRank_I (lf := lf) hn hg hz (show x < 2147483648 by omega)
  rw [b2n_t hx] at e
  exact ⟨lf', e⟩
theorem isRk_B {n : Nat} {x : Int32} {g : Nat → Nat} {z lf : Nat → Int32} (hz : ZI z n g) (hn : n ≤ 11) (hg : RG n g) (hx : BadP (ways (cF g n 0)) x) : ∃ lf', F_X6_isRank lf z x = some (nI 0, lf') := by
  rcases hx with h1 | ⟨p, h1, h2, rfl⟩
  · exact ⟨lf, isRankN h1⟩
  · obtain ⟨lf', e⟩ := isRank_I (lf := lf) hn hg hz h2
    rw [b2n_f (by omega)] at e
    exact ⟨lf', e⟩
-- what is saved
def KP (S n : Nat) (g : Nat → Nat) (x2 : Int32) (sl A' : Nat → Int32) : Prop := (∀ j, j < bse S * 13 → A' j = sl (j + shf S)) ∧ A' (bse S * 13) = x2 ∧ A' (bse S * 13 + 1) = nI n ∧ ∀ j, j < n → A' (bse S * 13 + 2 + j) = nI (g j)
def KQ (S : Nat) (hi z A' : Nat → Int32) : Prop := (∀ j, j < 13 * bse S → A' j = hi (j + shf S)) ∧ ∀ j, j < 13 → A' (13 * bse S + j) = z j
theorem sav_I {n S : Nat} {g : Nat → Nat} {a sl : Nat → Int32} {x2 : Int32} (hn : n ≤ 11) (hS : S ≤ 6) (h : RA n g a) : ∃ A', F_X5_save x2 (nI n) a (nI S) sl = some (nI (bse S + 1), A') ∧ KP S n g x2 sl A' := save_I hn hS h
theorem rsav_I {S : Nat} {hi z : Nat → Int32} (hS : S ≤ 6) : ∃ A', F_X6_save (nI S) hi z = some (nI (bse S + 1), A') ∧ KQ S hi z A' := rsave_I hS
theorem SR_s {S n : Nat} {g : Nat → Nat} {sl hi sl' hi' z : Nat → Int32} (hR : SR S sl hi) (h0 : 1 ≤ n) (hn : n ≤ 11) (hg : RG n g) (hz : ZI z n g) (h1 : KP S n g (z 1) sl sl') (h2 : KQ S hi z hi') : SR (bse S + 1) sl' hi' := SR_save hR h0 hn hg hz h1 h2
-- going
theorem arrive_I {n S : Nat} {g W : Nat → Nat} {rs sl wk bo : Nat → Int32} {gone bt : Int32} (hn : n ≤ 11) (hS : S ≤ 6) (h : RA n g rs) (hW : RG n W) (hw : RA n W wk) : ∃ bt' bo' rs' sl', F_X5_arrive gone bt bo (nI n) rs (nI S) sl (nI n) wk = some (nI (rk W n n), gone + nI 1, bt', bo', nI n, rs', nI (bse S + 1), sl') ∧ RA n W rs' ∧ KP S n g gone sl sl' := by
  obtain ⟨sl', e1, h1⟩ := sav_I (sl := sl) (x2 := gone) hn hS h
  obtain ⟨rs', e2, h2⟩ := become_I (a := rs) (len := nI n) hn hw
  obtain ⟨bo', e3⟩ := rankOf_I (o := bo) (t := bt) hn hW h2
  refine ⟨nI 0, bo', rs', sl', ?_, h2, h1⟩
  unfold F_X5_arrive
  simp (disch := omega) only [↓qM, zq0, zq1, zq2, zq3, zq4, zq5, zq6, zq7, zq8, zq9, zq10, zq11, zq12, zq13, zq14, zq20, zq33, zq48, zq49, zq50, zq57, zq60, zq61, zq78, zq97, zq102, zq126, zq486, zq600, zq2916, zq4200, le_I, lt_I, eq_I, ne_M, lt_M, cl_I, vin_T, gd_tt, nz_T, nI_add, sub_I, m1_M, pk_mul, div_I, Option.bind_some, Option.map_some, if_pos, if_neg, if_true, if_false, Nat.reduceAdd, Nat.reduceMul, Nat.reduceSub, Nat.zero_add, Nat.add_zero, Ret_s, e1, e2, e3]
/-- how many places are unlike -/
def chg (g W : Nat → Nat) (n : Nat) : Nat := sumL (fun i => b2n (g i ≠ W i)) 0 n
theorem goRk_I {n S x : Nat} {g : Nat → Nat} {rs sl wk bo : Nat → Int32} {gone bt wl : Int32} (hn : n ≤ 11) (hS : S ≤ 6) (hg : RG n g) (h : RA n g rs) (hx : x < ways (cF g n 0)) : ∃ bt' bo' rs' sl' wk', F_X5_goToRank gone bt bo (nI n) rs (nI S) sl wl wk (nI x) = some (nI (chg g (gl g n x) n), gone + nI 1, bt', bo', nI n, rs', nI (bse S + 1), sl', nI n, wk') ∧ RA n (gl g n x) rs' ∧ KP S n g gone sl sl' := by
  obtain ⟨⟨bt1, bo1, wl1, wk1⟩, e1, h1, h2⟩ := layOut_I (t := bt) (o := bo) (w := wk) (wl := wl) hn hg h hx
  have h1 : wl1 = nI n := h1
  subst h1
  have h2 : RA n (gl g n x) wk1 := h2
  have hW := (gl_sp hg hx).1
  have e2 := unlike_I hn hg hW h h2
  obtain ⟨bt2, bo2, rs', sl', e3, h3, h4⟩ := arrive_I (bt := bt1) (bo := bo1) (sl := sl) (gone := gone) hn hS h hW h2
  refine ⟨bt2, bo2, rs', sl', wk1, ?_, h3, h4⟩
  unfold F_X5_goToRank
  simp (disch := omega) only [↓qM, zq0, zq1, zq2, zq3, zq4, zq5, zq6, zq7, zq8, zq9, zq10, zq11, zq12, zq13, zq14, zq20, zq33, zq48, zq49, zq50, zq57, zq60, zq61, zq78, zq97, zq102, zq126, zq486, zq600, zq2916, zq4200, le_I, lt_I, eq_I, ne_M, lt_M, cl_I, vin_T, gd_tt, nz_T, nI_add, sub_I, m1_M, pk_mul, div_I, Option.bind_some, Option.map_some, if_pos, if_neg, if_true, if_false, Nat.reduceAdd, Nat.reduceMul, Nat.reduceSub, Nat.zero_add, Nat.add_zero, Ret_s, e1, e2, e3]
  rfl
theorem rgoes_I {n : Nat} {g W : Nat → Nat} {a z : Nat → Int32} (hz : ZI z n g) (hn : n ≤ 11) (hg : RG n g) (hW : RG n W) (h : RA n W a) : ∃ z', F_X6_goes a z = some (nI (chg g W n), z') ∧ ZI z' n W ∧ z' 1 = z 1 + nI 1 := by
  obtain ⟨⟨x, z'⟩, e, h1, h2, h3⟩ := goes_I hz hn hg hW h
  have h1 : x = nI (chg g W n) := h1
  subst h1
  exact ⟨z', e, h2, h3⟩
theorem rlay_I {n x : Nat} {g : Nat → Nat} {z a o : Nat → Int32} (hz : ZI z n g) (hn : n ≤ 11) (hg : RG n g) (hx : x < ways (cF g n 0)) : ∃ o' a', F_X6_layRank o a z (nI x) = some (o', a') ∧ RA n (gl g n x) a' := by
  obtain ⟨⟨o', a'⟩, e, h⟩ := layRank_I (a := a) (o := o) hz hn hg hx
  exact ⟨o', a', e, h⟩
