/-! how many of a range have a sign at a place -/
/-- of those that begin as W up to p, and have t there -/
def hb (c W : Nat → Nat) (pl sg p t : Nat) : Nat := if p < pl then (if c t = 0 then 0 else wB (dec c t) sg) else if (if p = pl then t else W pl) = sg then wB c t else 0
/-- of those ahead of the row W -/
def hvW (W : Nat → Nat) (n pl sg : Nat) : Nat := sumL (fun p => sumL (hb (cF W n p) W pl sg p) 0 (W p)) 0 n
/-- of those with a rank less than x -/
def hv (g : Nat → Nat) (n pl sg x : Nat) : Nat := if x < ways (cF g n 0) then hvW (gl g n x) n pl sg else wB (cF g n 0) sg
theorem ways_11 {c : Nat → Nat} (h : sum6 c ≤ 11) : ways c ≤ 39916800 := Nat.le_trans (ways_le c) (fact_11 h).1
theorem wB_11 {c : Nat → Nat} {s : Nat} (h : sum6 c ≤ 11) (hs : s < 6) : wB c s ≤ 39916800 := by
  unfold wB
  by_cases e : c s = 0
  · rw [if_pos e]; omega
  · rw [if_neg e]
    have h2 := sum6_dec (c := c) hs (by omega)
    exact ways_11 (by omega)
theorem hBeh_I {n p t pl sg : Nat} {W : Nat → Nat} {wk o : Nat → Int32} {bt : Int32} (hn : n ≤ 11) (hW : RG n W) (h : RA n W wk) (hp : p < n) (hpl : pl < n) (ht : t < 6) (hsg : sg < 6) : ∃ bt' o', F_X5_havingBehind bt o (nI n) wk (nI p) (nI t) (nI pl) (nI sg) = some (nI (hb (cF W n p) W pl sg p t), bt', o') := by
  obtain ⟨o1, e1, hb1⟩ := fill_I (k := p) (o := o) (t := bt) hn hW h (by omega)
  have hs := cF_sum (p := p) hW (by omega)
  obtain ⟨o2, e2, hb2⟩ := waysBehind_I (c := cF W n p) hb1 (by omega) ht
  rw [hs] at e2
  have hw := wB_11 (c := cF W n p) (by omega) ht
  have hWp := hW pl hpl
  have hct := le_sum6 (c := cF W n p) ht
  by_cases e : p < pl
  · unfold hb
    rw [if_pos e]
    by_cases e0 : cF W n p t = 0
    · have e3 := drop0_I (t := nI (n - p)) hb2 ht e0
      have hcs := le_sum6 (c := cF W n p) hsg
      have e4 := part_I (x := 0) (k := cF W n p sg) (t := n - p) (by omega) (by omega) (by omega)
      rw [Nat.zero_mul, Nat.zero_div] at e4
      have e5 : wB (cF W n p) t = 0 := if_pos e0
      rw [e5] at e2
      rw [if_pos e0]
      refine ⟨nI (n - p), o2, ?_⟩
      unfold F_X5_havingBehind
      simp (disch := omega) only [↓qM, zq0, zq1, zq2, zq3, zq4, zq5, zq6, zq7, zq8, zq9, zq10, zq11, zq12, zq13, zq14, zq20, zq33, zq48, zq49, zq50, zq57, zq60, zq61, zq78, zq97, zq102, zq126, zq486, zq600, zq2916, zq4200, le_I, lt_I, eq_I, ne_M, lt_M, cl_I, vin_T, gd_tt, nz_T, nI_add, sub_I, m1_M, pk_mul, div_I, Option.bind_some, Option.map_some, if_pos, if_neg, if_true, if_false, Nat.reduceAdd, Nat.reduceMul, Nat.reduceSub, Nat.zero_add, Nat.add_zero, Ret_s, e1, e2, e3, of_J hb2, tot_T, e4]
    · obtain ⟨o3, e3, hb3⟩ := drop_I (c := cF W n p) (t := n - p) hb2 ht (by omega) (by omega) (by omega)
      have hs2 := sum6_dec (c := cF W n p) ht (by omega)
      have hcs := le_sum6 (c := dec (cF W n p) t) hsg
      have e5 : wB (cF W n p) t = ways (dec (cF W n p) t) := if_neg e0
      rw [e5] at e2 hw
      have m2 : ways (dec (cF W n p) t) * dec (cF W n p) t sg ≤ 39916800 * 11 := Nat.mul_le_mul hw (by omega)
      have e4 := part_I (x := ways (dec (cF W n p) t)) (k := dec (cF W n p) t sg) (t := n - p - 1) (by omega) (by omega) (by omega)
      rw [← wB_eq hsg, hs2, hs, Nat.mul_div_cancel_left _ (by omega)] at e4
      rw [if_neg e0]
      refine ⟨nI (n - p - 1), o3, ?_⟩
      unfold F_X5_havingBehind
      simp (disch := omega) only [↓qM, zq0, zq1, zq2, zq3, zq4, zq5, zq6, zq7, zq8, zq9, zq10, zq11, zq12, zq13, zq14, zq20, zq33, zq48, zq49, zq50, zq57, zq60, zq61, zq78, zq97, zq102, zq126, zq486, zq600, zq2916, zq4200, le_I, lt_I, eq_I, ne_M, lt_M, cl_I, vin_T, gd_tt, nz_T, nI_add, sub_I, m1_M, pk_mul, div_I, Option.bind_some, Option.map_some, if_pos, if_neg, if_true, if_false, Nat.reduceAdd, Nat.reduceMul, Nat.reduceSub, Nat.zero_add, Nat.add_zero, Ret_s, e1, e2, e3, of_J hb3, tot_T, e4]
  · unfold hb
    rw [if_neg e]
    refine ⟨nI (n - p), o2, ?_⟩
    unfold F_X5_havingBehind F_X5_havingBehind_J74
    by_cases ep : p = pl
    · by_cases et : t = sg
      · simp (disch := omega) only [↓qM, zq0, zq1, zq2, zq3, zq4, zq5, zq6, zq7, zq8, zq9, zq10, zq11, zq12, zq13, zq14, zq20, zq33, zq48, zq49, zq50, zq57, zq60, zq61, zq78, zq97, zq102, zq126, zq486, zq600, zq2916, zq4200, le_I, lt_I, eq_I, ne_M, lt_M, cl_I, vin_T, gd_tt, nz_T, nI_add, sub_I, m1_M, pk_mul, div_I, Option.bind_some, Option.map_some, if_pos, if_neg, if_true, if_false, Nat.reduceAdd, Nat.reduceMul, Nat.reduceSub, Nat.zero_add, Nat.add_zero, Ret_s, e1, e2]
      · simp (disch := omega) only [↓qM, zq0, zq1, zq2, zq3, zq4, zq5, zq6, zq7, zq8, zq9, zq10, zq11, zq12, zq13, zq14, zq20, zq33, zq48, zq49, zq50, zq57, zq60, zq61, zq78, zq97, zq102, zq126, zq486, zq600, zq2916, zq4200, le_I, lt_I, eq_I, ne_M, lt_M, cl_I, vin_T, gd_tt, nz_T, nI_add, sub_I, m1_M, pk_mul, div_I, Option.bind_some, Option.map_some, if_pos, if_neg, if_true, if_false, Nat.reduceAdd, Nat.reduceMul, Nat.reduceSub, Nat.zero_add, Nat.add_zero, Ret_s, e1, e2]
    · by_cases et : W pl = sg
      · simp (disch := omega) only [↓qM, zq0, zq1, zq2, zq3, zq4, zq5, zq6, zq7, zq8, zq9, zq10, zq11, zq12, zq13, zq14, zq20, zq33, zq48, zq49, zq50, zq57, zq60, zq61, zq78, zq97, zq102, zq126, zq486, zq600, zq2916, zq4200, le_I, lt_I, eq_I, ne_M, lt_M, cl_I, vin_T, gd_tt, nz_T, nI_add, sub_I, m1_M, pk_mul, div_I, Option.bind_some, Option.map_some, if_pos, if_neg, if_true, if_false, Nat.reduceAdd, Nat.reduceMul, Nat.reduceSub, Nat.zero_add, Nat.add_zero, Ret_s, e1, e2, at_J h hn]
      · simp (disch := omega) only [↓qM, zq0, zq1, zq2, zq3, zq4, zq5, zq6, zq7, zq8, zq9, zq10, zq11, zq12, zq13, zq14, zq20, zq33, zq48, zq49, zq50, zq57, zq60, zq61, zq78, zq97, zq102, zq126, zq486, zq600, zq2916, zq4200, le_I, lt_I, eq_I, ne_M, lt_M, cl_I, vin_T, gd_tt, nz_T, nI_add, sub_I, m1_M, pk_mul, div_I, Option.bind_some, Option.map_some, if_pos, if_neg, if_true, if_false, Nat.reduceAdd, Nat.reduceMul, Nat.reduceSub, Nat.zero_add, Nat.add_zero, Ret_s, e1, e2, at_J h hn]
theorem hInn_I {n p pl sg : Nat} {W : Nat → Nat} {wk rs : Nat → Int32} {rl y : Int32} {K : Int32 → (Nat → Int32) → Int32 → (Nat → Int32) → Int32 → Int32 → Option (Int32 × Int32 × (Nat → Int32) × Int32 × (Nat → Int32))} (hn : n ≤ 11) (hW : RG n W) (h : RA n W wk) (hp : p < n) (hpl : pl < n) (hsg : sg < 6) : ∀ (r t fu x : Nat) (bt : Int32) (o : Nat → Int32), t + r = W p → r < fu → ∃ bt' o', F_X5_havingBelow_L74 K rl rs y (nI pl) (nI sg) fu bt o (nI n) wk (nI x) (nI p) (nI t) = K bt' o' (nI n) wk (nI (x + sumL (hb (cF W n p) W pl sg p) t r)) (nI (p + 1)) := by
  have hWp := hW p hp
  intro r
  induction r with
  | zero =>
    intro t fu x bt o h1 h2
    obtain ⟨fu, rfl, hf⟩ := fu1 h2
    refine ⟨bt, o, ?_⟩
    rw [F_X5_havingBelow_L74]
    simp (disch := omega) only [↓qM, zq0, zq1, zq2, zq3, zq4, zq5, zq6, zq7, zq8, zq9, zq10, zq11, zq12, zq13, zq14, zq20, zq33, zq48, zq49, zq50, zq57, zq60, zq61, zq78, zq97, zq102, zq126, zq486, zq600, zq2916, zq4200, le_I, lt_I, eq_I, ne_M, lt_M, cl_I, vin_T, gd_tt, nz_T, nI_add, sub_I, m1_M, pk_mul, div_I, Option.bind_some, Option.map_some, if_pos, if_neg, if_true, if_false, Nat.reduceAdd, Nat.reduceMul, Nat.reduceSub, Nat.zero_add, Nat.add_zero, Ret_s, at_J h hn, sumL]
  | succ r ih =>
    intro t fu x bt o h1 h2
    obtain ⟨fu, rfl, hf⟩ := fu1 h2
    obtain ⟨bt1, o1, e1⟩ := hBeh_I (bt := bt) (o := o) hn hW h hp hpl (show t < 6 by omega) hsg
    obtain ⟨bt2, o2, e2⟩ := ih (t + 1) fu (x + hb (cF W n p) W pl sg p t) bt1 o1 (by omega) (by omega)
    refine ⟨bt2, o2, ?_⟩
    rw [F_X5_havingBelow_L74]
    simp (disch := omega) only [↓qM, zq0, zq1, zq2, zq3, zq4, zq5, zq6, zq7, zq8, zq9, zq10, zq11, zq12, zq13, zq14, zq20, zq33, zq48, zq49, zq50, zq57, zq60, zq61, zq78, zq97, zq102, zq126, zq486, zq600, zq2916, zq4200, le_I, lt_I, eq_I, ne_M, lt_M, cl_I, vin_T, gd_tt, nz_T, nI_add, sub_I, m1_M, pk_mul, div_I, Option.bind_some, Option.map_some, if_pos, if_neg, if_true, if_false, Nat.reduceAdd, Nat.reduceMul, Nat.reduceSub, Nat.zero_add, Nat.add_zero, Ret_s, at_J h hn, e1, e2, sumL, Nat.add_assoc]
theorem hOut_I {n pl sg : Nat} {W : Nat → Nat} {wk rs : Nat → Int32} {rl y : Int32} (hn : n ≤ 11) (hW : RG n W) (h : RA n W wk) (hpl : pl < n) (hsg : sg < 6) : ∀ (d p fu x : Nat) (bt : Int32) (o : Nat → Int32), p + d = n → d < fu → Ret (F_X5_havingBelow_L59 rl rs y (nI pl) (nI sg) fu bt o (nI n) wk (nI x) (nI p)) (fun r => r.1 = nI (x + sumL (fun p => sumL (hb (cF W n p) W pl sg p) 0 (W p)) p d)) := by
  intro d
  induction d with
  | zero =>
    intro p fu x bt o h1 h2
    obtain ⟨fu, rfl, hf⟩ := fu1 h2
    rw [F_X5_havingBelow_L59]
    simp (disch := omega) only [↓qM, zq0, zq1, zq2, zq3, zq4, zq5, zq6, zq7, zq8, zq9, zq10, zq11, zq12, zq13, zq14, zq20, zq33, zq48, zq49, zq50, zq57, zq60, zq61, zq78, zq97, zq102, zq126, zq486, zq600, zq2916, zq4200, le_I, lt_I, eq_I, ne_M, lt_M, cl_I, vin_T, gd_tt, nz_T, nI_add, sub_I, m1_M, pk_mul, div_I, Option.bind_some, Option.map_some, if_pos, if_neg, if_true, if_false, Nat.reduceAdd, Nat.reduceMul, Nat.reduceSub, Nat.zero_add, Nat.add_zero, Ret_s, len_T, sumL]
  | succ d ih =>
    intro p fu x bt o h1 h2
    obtain ⟨fu, rfl, hf⟩ := fu1 h2
    obtain ⟨bt1, o1, e1⟩ := hInn_I (rs := rs) (rl := rl) (y := y) (K := F_X5_havingBelow_L59 rl rs y (nI pl) (nI sg) fu) hn hW h (show p < n by omega) hpl hsg (W p) 0 FU x bt o (by omega) (FU_lt (by have := hW p (by omega); omega))
    have k := ih (p + 1) fu (x + sumL (hb (cF W n p) W pl sg p) 0 (W p)) bt1 o1 (by omega) (by omega)
    rw [Nat.add_assoc] at k
    rw [F_X5_havingBelow_L59]
    simp (disch := omega) only [↓qM, zq0, zq1, zq2, zq3, zq4, zq5, zq6, zq7, zq8, zq9, zq10, zq11, zq12, zq13, zq14, zq20, zq33, zq48, zq49, zq50, zq57, zq60, zq61, zq78, zq97, zq102, zq126, zq486, zq600, zq2916, zq4200, le_I, lt_I, eq_I, ne_M, lt_M, cl_I, vin_T, gd_tt, nz_T, nI_add, sub_I, m1_M, pk_mul, div_I, Option.bind_some, Option.map_some, if_pos, if_neg, if_true, if_false, Nat.reduceAdd, Nat.reduceMul, Nat.reduceSub, Nat.zero_add, Nat.add_zero, Ret_s, len_T, e1, sumL]
    exact k
theorem hBel_I {n pl sg x : Nat} {g : Nat → Nat} {a wk o : Nat → Int32} {bt wl : Int32} (hn : n ≤ 11) (h0 : 1 ≤ n) (hg : RG n g) (h : RA n g a) (hpl : pl < n) (hsg : sg < 6) (hx : x ≤ ways (cF g n 0)) : Ret (F_X5_havingBelow bt o (nI n) a wl wk (nI x) (nI pl) (nI sg)) (fun r => r.1 = nI (hv g n pl sg x)) := by
  obtain ⟨o1, e1, hb1⟩ := fill0_I (o := o) (t := bt) hn hg h
  have hs : sum6 (cF g n 0) = n := sum6_cnt hg n 0 (by omega)
  have e2 := ways_I (c := cF g n 0) hb1 (by omega)
  rw [hs] at e2
  have hw := ways_11 (c := cF g n 0) (by omega)
  unfold hv
  by_cases e : x < ways (cF g n 0)
  · obtain ⟨r, e3, h3, h4⟩ := layOut_I (o := o1) (w := wk) (t := nI n) (wl := wl) hn hg h e
    have k := hOut_I (rs := a) (rl := nI n) (y := nI x) hn (gl_sp hg e).1 h4 hpl hsg n 0 FU 0 r.1 r.2.1 (by omega) (FU_lt (by omega))
    rw [Nat.zero_add] at k
    rw [if_pos e]
    unfold F_X5_havingBelow
    simp (disch := omega) only [↓qM, zq0, zq1, zq2, zq3, zq4, zq5, zq6, zq7, zq8, zq9, zq10, zq11, zq12, zq13, zq14, zq20, zq33, zq48, zq49, zq50, zq57, zq60, zq61, zq78, zq97, zq102, zq126, zq486, zq600, zq2916, zq4200, le_I, lt_I, eq_I, ne_M, lt_M, cl_I, vin_T, gd_tt, nz_T, nI_add, sub_I, m1_M, pk_mul, div_I, Option.bind_some, Option.map_some, if_pos, if_neg, if_true, if_false, Nat.reduceAdd, Nat.reduceMul, Nat.reduceSub, Nat.zero_add, Nat.add_zero, Ret_s, e1, e2, e3, h3]
    exact k
  · have hcs := le_sum6 (c := cF g n 0) hsg
    have m2 : ways (cF g n 0) * cF g n 0 sg ≤ 39916800 * 11 := Nat.mul_le_mul hw (by omega)
    have e4 := part_I (x := ways (cF g n 0)) (k := cF g n 0 sg) (t := n) (by omega) (by omega) (by omega)
    rw [← wB_eq hsg, hs, Nat.mul_div_cancel_left _ (by omega)] at e4
    rw [if_neg e]
    unfold F_X5_havingBelow
    simp (disch := omega) only [↓qM, zq0, zq1, zq2, zq3, zq4, zq5, zq6, zq7, zq8, zq9, zq10, zq11, zq12, zq13, zq14, zq20, zq33, zq48, zq49, zq50, zq57, zq60, zq61, zq78, zq97, zq102, zq126, zq486, zq600, zq2916, zq4200, le_I, lt_I, eq_I, ne_M, lt_M, cl_I, vin_T, gd_tt, nz_T, nI_add, sub_I, m1_M, pk_mul, div_I, Option.bind_some, Option.map_some, if_pos, if_neg, if_true, if_false, Nat.reduceAdd, Nat.reduceMul, Nat.reduceSub, Nat.zero_add, Nat.add_zero, Ret_s, e1, e2, of_J hb1, tot_T, e4]
-- the reference
theorem rBoth_I {c : Nat → Nat} {o : Nat → Int32} {t sg : Nat} (h : BA c o) (hs : sum6 c ≤ 11) (ht : t < 6) (hsg : sg < 6) : ∃ o', F_X6_rowsWithBoth o (nI t) (nI sg) = some (nI (if c t = 0 then 0 else wB (dec c t) sg), o') ∧ BA c o' := by
  have hcs := le_sum6 (c := c) ht
  unfold F_X6_rowsWithBoth
  by_cases e : c t = 0
  · refine ⟨o, ?_, h⟩
    simp (disch := omega) only [↓qM, zq0, zq1, zq2, zq3, zq4, zq5, zq6, zq7, zq8, zq9, zq10, zq11, zq12, zq13, zq14, zq20, zq33, zq48, zq49, zq50, zq57, zq60, zq61, zq78, zq97, zq102, zq126, zq486, zq600, zq2916, zq4200, le_I, lt_I, eq_I, ne_M, lt_M, cl_I, vin_T, gd_tt, nz_T, nI_add, sub_I, m1_M, pk_mul, div_I, Option.bind_some, Option.map_some, if_pos, if_neg, if_true, if_false, Nat.reduceAdd, Nat.reduceMul, Nat.reduceSub, Nat.zero_add, Nat.add_zero, Ret_s, h.at]
  · have h1 : BA (dec c t) (upd o t (nI (c t - 1))) := h.upd t (c t - 1)
    have hd := sum6_dec (c := c) ht (by omega)
    obtain ⟨o1, e1, hb1⟩ := rowsWith_I h1 (by omega) hsg
    have e2 : dec c t t = c t - 1 := gset_s _ _ _
    refine ⟨upd o1 t (nI (c t - 1 + 1)), ?_, (hb1.upd t (c t - 1 + 1)).ext (fun s hs => ?_)⟩
    · simp (disch := omega) only [↓qM, zq0, zq1, zq2, zq3, zq4, zq5, zq6, zq7, zq8, zq9, zq10, zq11, zq12, zq13, zq14, zq20, zq33, zq48, zq49, zq50, zq57, zq60, zq61, zq78, zq97, zq102, zq126, zq486, zq600, zq2916, zq4200, le_I, lt_I, eq_I, ne_M, lt_M, cl_I, vin_T, gd_tt, nz_T, nI_add, sub_I, m1_M, pk_mul, div_I, Option.bind_some, Option.map_some, if_pos, if_neg, if_true, if_false, Nat.reduceAdd, Nat.reduceMul, Nat.reduceSub, Nat.zero_add, Nat.add_zero, Ret_s, h.at, e1, hb1.at, e2]
    · by_cases e2 : s = t
      · subst e2; rw [gset_s]; omega
      · rw [gset_n _ _ e2]; exact gset_n _ _ e2
theorem rhInn_I {n p pl sg : Nat} {W : Nat → Nat} {oth z : Nat → Int32} {y : Int32} {K : (Nat → Int32) → (Nat → Int32) → Int32 → Int32 → Option (Int32 × (Nat → Int32) × (Nat → Int32))} (hn : n ≤ 11) (hW : RG n W) (h : RA n W oth) (hp : p < n) (hpl : pl < n) (hsg : sg < 6) : ∀ (r t fu x : Nat) (lf : Nat → Int32), t + r = W p → r < fu → BA (cF W n p) lf → ∃ lf', F_X6_havingBelow_L43 K z y (nI pl) (nI sg) fu lf oth (nI x) (nI p) (nI t) = K lf' oth (nI (x + sumL (hb (cF W n p) W pl sg p) t r)) (nI (p + 1)) ∧ BA (cF W n (p + 1)) lf' := by
  have hWp := hW p hp
  have hWl := hW pl hpl
  have hs := cF_sum (p := p) hW (by omega)
  intro r
  induction r with
  | zero =>
    intro t fu x lf h1 h2 hb1
    obtain ⟨fu, rfl, hf⟩ := fu1 h2
    have hcp := cF_pos (g := W) (n := n) (p := p) hp
    refine ⟨upd lf (W p) (nI (cF W n p (W p) - 1)), ?_, (hb1.upd (W p) _).ext (cF_dec hp)⟩
    rw [F_X6_havingBelow_L43]
    simp (disch := omega) only [↓qM, zq0, zq1, zq2, zq3, zq4, zq5, zq6, zq7, zq8, zq9, zq10, zq11, zq12, zq13, zq14, zq20, zq33, zq48, zq49, zq50, zq57, zq60, zq61, zq78, zq97, zq102, zq126, zq486, zq600, zq2916, zq4200, le_I, lt_I, eq_I, ne_M, lt_M, cl_I, vin_T, gd_tt, nz_T, nI_add, sub_I, m1_M, pk_mul, div_I, Option.bind_some, Option.map_some, if_pos, if_neg, if_true, if_false, Nat.reduceAdd, Nat.reduceMul, Nat.reduceSub, Nat.zero_add, Nat.add_zero, Ret_s, h.at, hb1.at, sumL]
  | succ r ih =>
    intro t fu x lf h1 h2 hb1
    obtain ⟨fu, rfl, hf⟩ := fu1 h2
    obtain ⟨lf1, e1, hb2⟩ := rBoth_I hb1 (by omega) (show t < 6 by omega) hsg
    obtain ⟨lf2, e2, hb3⟩ := rowsWith_I (s := t) hb1 (by omega) (by omega)
    rw [sumL]
    by_cases e : p < pl
    · have e3 : hb (cF W n p) W pl sg p t = if cF W n p t = 0 then 0 else wB (dec (cF W n p) t) sg := if_pos e
      rw [← e3] at e1
      obtain ⟨lf3, e4, hb4⟩ := ih (t + 1) fu (x + hb (cF W n p) W pl sg p t) lf1 (by omega) (by omega) hb2
      refine ⟨lf3, ?_, hb4⟩
      rw [F_X6_havingBelow_L43]
      unfold F_X6_havingBelow_J90
      rw [Nat.add_assoc] at e4
      simp (disch := omega) only [↓qM, zq0, zq1, zq2, zq3, zq4, zq5, zq6, zq7, zq8, zq9, zq10, zq11, zq12, zq13, zq14, zq20, zq33, zq48, zq49, zq50, zq57, zq60, zq61, zq78, zq97, zq102, zq126, zq486, zq600, zq2916, zq4200, le_I, lt_I, eq_I, ne_M, lt_M, cl_I, vin_T, gd_tt, nz_T, nI_add, sub_I, m1_M, pk_mul, div_I, Option.bind_some, Option.map_some, if_pos, if_neg, if_true, if_false, Nat.reduceAdd, Nat.reduceMul, Nat.reduceSub, Nat.zero_add, Nat.add_zero, Ret_s, h.at, e1, e4]
    · by_cases et : (if p = pl then t else W pl) = sg
      · have e3 : hb (cF W n p) W pl sg p t = wB (cF W n p) t := by unfold hb; rw [if_neg e, if_pos et]
        obtain ⟨lf3, e4, hb4⟩ := ih (t + 1) fu (x + wB (cF W n p) t) lf2 (by omega) (by omega) hb3
        refine ⟨lf3, ?_, hb4⟩
        rw [F_X6_havingBelow_L43, e3]
        unfold F_X6_havingBelow_J90
        rw [Nat.add_assoc] at e4
        by_cases ep : p = pl
        · rw [if_pos ep] at et
          simp (disch := omega) only [↓qM, zq0, zq1, zq2, zq3, zq4, zq5, zq6, zq7, zq8, zq9, zq10, zq11, zq12, zq13, zq14, zq20, zq33, zq48, zq49, zq50, zq57, zq60, zq61, zq78, zq97, zq102, zq126, zq486, zq600, zq2916, zq4200, le_I, lt_I, eq_I, ne_M, lt_M, cl_I, vin_T, gd_tt, nz_T, nI_add, sub_I, m1_M, pk_mul, div_I, Option.bind_some, Option.map_some, if_pos, if_neg, if_true, if_false, Nat.reduceAdd, Nat.reduceMul, Nat.reduceSub, Nat.zero_add, Nat.add_zero, Ret_s, h.at, e2, e4]
        · rw [if_neg ep] at et
          simp (disch := omega) only [↓qM, zq0, zq1, zq2, zq3, zq4, zq5, zq6, zq7, zq8, zq9, zq10, zq11, zq12, zq13, zq14, zq20, zq33, zq48, zq49, zq50, zq57, zq60, zq61, zq78, zq97, zq102, zq126, zq486, zq600, zq2916, zq4200, le_I, lt_I, eq_I, ne_M, lt_M, cl_I, vin_T, gd_tt, nz_T, nI_add, sub_I, m1_M, pk_mul, div_I, Option.bind_some, Option.map_some, if_pos, if_neg, if_true, if_false, Nat.reduceAdd, Nat.reduceMul, Nat.reduceSub, Nat.zero_add, Nat.add_zero, Ret_s, h.at, e2, e4]
      · have e3 : hb (cF W n p) W pl sg p t = 0 := by unfold hb; rw [if_neg e, if_neg et]
        obtain ⟨lf3, e4, hb4⟩ := ih (t + 1) fu x lf (by omega) (by omega) hb1
        refine ⟨lf3, ?_, hb4⟩
        rw [F_X6_havingBelow_L43, e3, Nat.zero_add]
        unfold F_X6_havingBelow_J90
        by_cases ep : p = pl
        · rw [if_pos ep] at et
          simp (disch := omega) only [↓qM, zq0, zq1, zq2, zq3, zq4, zq5, zq6, zq7, zq8, zq9, zq10, zq11, zq12, zq13, zq14, zq20, zq33, zq48, zq49, zq50, zq57, zq60, zq61, zq78, zq97, zq102, zq126, zq486, zq600, zq2916, zq4200, le_I, lt_I, eq_I, ne_M, lt_M, cl_I, vin_T, gd_tt, nz_T, nI_add, sub_I, m1_M, pk_mul, div_I, Option.bind_some, Option.map_some, if_pos, if_neg, if_true, if_false, Nat.reduceAdd, Nat.reduceMul, Nat.reduceSub, Nat.zero_add, Nat.add_zero, Ret_s, h.at, e4]
        · rw [if_neg ep] at et
          simp (disch := omega) only [↓qM, zq0, zq1, zq2, zq3, zq4, zq5, zq6, zq7, zq8, zq9, zq10, zq11, zq12, zq13, zq14, zq20, zq33, zq48, zq49, zq50, zq57, zq60, zq61, zq78, zq97, zq102, zq126, zq486, zq600, zq2916, zq4200, le_I, lt_I, eq_I, ne_M, lt_M, cl_I, vin_T, gd_tt, nz_T, nI_add, sub_I, m1_M, pk_mul, div_I, Option.bind_some, Option.map_some, if_pos, if_neg, if_true, if_false, Nat.reduceAdd, Nat.reduceMul, Nat.reduceSub, Nat.zero_add, Nat.add_zero, Ret_s, h.at, e4]
theorem rhOut_I {n pl sg : Nat} {g W : Nat → Nat} {oth z : Nat → Int32} {y : Int32} (hz : ZI z n g) (hn : n ≤ 11) (hW : RG n W) (h : RA n W oth) (hpl : pl < n) (hsg : sg < 6) : ∀ (d p fu x : Nat) (lf : Nat → Int32), p + d = n → d < fu → BA (cF W n p) lf → Ret (F_X6_havingBelow_L29 z y (nI pl) (nI sg) fu lf oth (nI x) (nI p)) (fun r => r.1 = nI (x + sumL (fun p => sumL (hb (cF W n p) W pl sg p) 0 (W p)) p d)) := by
  intro d
  induction d with
  | zero =>
    intro p fu x lf h1 h2 hb1
    obtain ⟨fu, rfl, hf⟩ := fu1 h2
    rw [F_X6_havingBelow_L29]
    simp (disch := omega) only [↓qM, zq0, zq1, zq2, zq3, zq4, zq5, zq6, zq7, zq8, zq9, zq10, zq11, zq12, zq13, zq14, zq20, zq33, zq48, zq49, zq50, zq57, zq60, zq61, zq78, zq97, zq102, zq126, zq486, zq600, zq2916, zq4200, le_I, lt_I, eq_I, ne_M, lt_M, cl_I, vin_T, gd_tt, nz_T, nI_add, sub_I, m1_M, pk_mul, div_I, Option.bind_some, Option.map_some, if_pos, if_neg, if_true, if_false, Nat.reduceAdd, Nat.reduceMul, Nat.reduceSub, Nat.zero_add, Nat.add_zero, Ret_s, hz.n, sumL]
  | succ d ih =>
    intro p fu x lf h1 h2 hb1
    obtain ⟨fu, rfl, hf⟩ := fu1 h2
    obtain ⟨lf1, e1, hb2⟩ := rhInn_I (z := z) (y := y) (K := F_X6_havingBelow_L29 z y (nI pl) (nI sg) fu) hn hW h (show p < n by omega) hpl hsg (W p) 0 FU x lf (by omega) (FU_lt (by have := hW p (by omega); omega)) hb1
    have k := ih (p + 1) fu (x + sumL (hb (cF W n p) W pl sg p) 0 (W p)) lf1 (by omega) (by omega) hb2
    rw [Nat.add_assoc] at k
    rw [F_X6_havingBelow_L29]
    simp (disch := omega) only [↓qM, zq0, zq1, zq2, zq3, zq4, zq5, zq6, zq7, zq8, zq9, zq10, zq11, zq12, zq13, zq14, zq20, zq33, zq48, zq49, zq50, zq57, zq60, zq61, zq78, zq97, zq102, zq126, zq486, zq600, zq2916, zq4200, le_I, lt_I, eq_I, ne_M, lt_M, cl_I, vin_T, gd_tt, nz_T, nI_add, sub_I, m1_M, pk_mul, div_I, Option.bind_some, Option.map_some, if_pos, if_neg, if_true, if_false, Nat.reduceAdd, Nat.reduceMul, Nat.reduceSub, Nat.zero_add, Nat.add_zero, Ret_s, hz.n, e1, sumL]
    exact k
theorem rhBel_I {n pl sg x : Nat} {g : Nat → Nat} {z lf oth : Nat → Int32} (hz : ZI z n g) (hn : n ≤ 11) (hg : RG n g) (hpl : pl < n) (hsg : sg < 6) (hx : x ≤ ways (cF g n 0)) : Ret (F_X6_havingBelow lf oth z (nI x) (nI pl) (nI sg)) (fun r => r.1 = nI (hv g n pl sg x)) := by
  obtain ⟨o1, e1, hb1⟩ := allRows_I (o := lf) hz hn hg
  have hs : sum6 (cF g n 0) = n := sum6_cnt hg n 0 (by omega)
  have hw := ways_11 (c := cF g n 0) (by omega)
  unfold hv
  by_cases e : x < ways (cF g n 0)
  · obtain ⟨r, e2, h2⟩ := layRank_I (a := oth) (o := o1) hz hn hg e
    obtain ⟨o2, e3, hb2⟩ := countAll_I (o := r.1) hz hn hg
    obtain ⟨g1, g2⟩ := gl_sp hg e
    have k := rhOut_I (y := nI x) hz hn g1 h2 hpl hsg n 0 FU 0 o2 (by omega) (FU_lt (by omega)) (hb2.ext (fun s hs => (g2 s hs).symm))
    rw [Nat.zero_add] at k
    rw [if_pos e]
    unfold F_X6_havingBelow
    simp (disch := omega) only [↓qM, zq0, zq1, zq2, zq3, zq4, zq5, zq6, zq7, zq8, zq9, zq10, zq11, zq12, zq13, zq14, zq20, zq33, zq48, zq49, zq50, zq57, zq60, zq61, zq78, zq97, zq102, zq126, zq486, zq600, zq2916, zq4200, le_I, lt_I, eq_I, ne_M, lt_M, cl_I, vin_T, gd_tt, nz_T, nI_add, sub_I, m1_M, pk_mul, div_I, Option.bind_some, Option.map_some, if_pos, if_neg, if_true, if_false, Nat.reduceAdd, Nat.reduceMul, Nat.reduceSub, Nat.zero_add, Nat.add_zero, Ret_s, e1, e2, e3]
    exact k
  · obtain ⟨o2, e2, -⟩ := rowsWith_I (s := sg) hb1 (by omega) hsg
    rw [if_neg e]
    unfold F_X6_havingBelow
    simp (disch := omega) only [↓qM, zq0, zq1, zq2, zq3, zq4, zq5, zq6, zq7, zq8, zq9, zq10, zq11, zq12, zq13, zq14, zq20, zq33, zq48, zq49, zq50, zq57, zq60, zq61, zq78, zq97, zq102, zq126, zq486, zq600, zq2916, zq4200, le_I, lt_I, eq_I, ne_M, lt_M, cl_I, vin_T, gd_tt, nz_T, nI_add, sub_I, m1_M, pk_mul, div_I, Option.bind_some, Option.map_some, if_pos, if_neg, if_true, if_false, Nat.reduceAdd, Nat.reduceMul, Nat.reduceSub, Nat.zero_add, Nat.add_zero, Ret_s, e1, e2]
