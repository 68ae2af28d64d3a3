/-! the reference's smooth rows -/
def RB (c : Nat → Nat) (k : Nat) (sm : Nat → Int32) : Prop := ∀ d, Le6 d c → cd c d < k → ∀ a, a ≤ 6 → sm (7 * cd c d + a) = nI (SM d a)
theorem RB.upd {c : Nat → Nat} {k a : Nat} {sm : Nat → Int32} {x : Int32} (h : RB c k sm) (ha : a ≤ 6) : RB c k (upd sm (7 * k + a) x) := by
  intro e he hk b hb
  rw [upd_n _ _ (by omega)]
  exact h e he hk b hb
/-- the digit test -/
theorem digT {c d : Nat → Nat} {s : Nat} {lf w : Nat → Int32} (hc : sum6 c ≤ 11) (hd : Le6 d c) (hb : BA c lf) (hw : WA c 6 w) (hs : s < 6) : nz (w s) = true ∧ nz (lf s + nI 1) = true ∧ nI (cd c d) / w s - nI (cd c d) / w s / (lf s + nI 1) * (lf s + nI 1) = nI (d s) := by
  have h1 := wt_pos c s
  have h2 := wt_le hc (s := s) (by omega)
  have h3 := wt_486 hc
  have h4 := cd_lt hd
  have h5 := le_sum6 (c := c) hs
  have h6 : cd c d / wt c s ≤ cd c d := Nat.div_le_self _ _
  have h7 := cd_dig hd hs
  rw [hw s hs, hb s hs]
  refine ⟨nz_I h1 (by omega), ?_, ?_⟩
  · rw [nI_add]; exact nz_I (by omega) (by omega)
  · rw [nI_add, div_I (by omega) h1 (by omega), div_I (by omega) (by omega) (by omega), pk_mul, rem_T, h7]
theorem rlsI_I {c d : Nat → Nat} {a : Nat} {lf w sm z : Nat → Int32} {y : Int32} {K52 : Int32 → (Nat → Int32) → (Nat → Int32) → (Nat → Int32) → Int32 → Option (Int32 × (Nat → Int32) × (Nat → Int32) × (Nat → Int32))} {K62 : Int32 → (Nat → Int32) → (Nat → Int32) → (Nat → Int32) → Int32 → Int32 → Option (Int32 × (Nat → Int32) × (Nat → Int32) × (Nat → Int32))} (hc : sum6 c ≤ 11) (hd : Le6 d c) (hb : BA c lf) (hw : WA c 6 w) (ha : a ≤ 6) (hR : RB c (cd c d) sm) : ∀ (r s fu x : Nat), s + r = 6 → r < fu → ∃ fu', F_X6_laySmooth_L81 K52 K62 z fu y lf sm w (nI (cd c d)) (nI a) (nI x) (nI s) = F_X6_laySmooth_L81 K52 K62 z (fu' + 1) y lf sm w (nI (cd c d)) (nI a) (nI (x + sumL (stp d a) s r)) (nI 6) := by
  have h486 := wt_486 hc
  have hk := cd_lt hd
  intro r
  induction r with
  | zero =>
    intro s fu x h1 h2
    obtain ⟨fu, rfl, hf⟩ := fu1 h2
    obtain rfl : s = 6 := by omega
    exact ⟨fu, rfl⟩
  | succ r ih =>
    intro s fu x h1 h2
    obtain ⟨fu, rfl, hf⟩ := fu1 h2
    obtain ⟨d1, d2, d3⟩ := digT hc hd hb hw (show s < 6 by omega)
    have hds := hd s (by omega)
    have hcs := le_sum6 (c := c) (s := s) (by omega)
    obtain ⟨fu', e1⟩ := ih (s + 1) fu (x + stp d a s) (by omega) (by omega)
    refine ⟨fu', ?_⟩
    rw [sumL, ← Nat.add_assoc, ← e1]
    conv => lhs; rw [F_X6_laySmooth_L81]
    unfold F_X6_laySmooth_J115
    by_cases e : d s = 0
    · rw [show stp d a s = 0 from if_pos (Or.inl e), Nat.add_zero]
      simp (disch := omega) only [↓qM, zq0, zq1, zq2, zq3, zq4, zq5, zq6, zq7, zq8, zq9, zq10, zq11, zq12, zq13, zq14, zq20, zq33, zq48, zq49, zq50, zq57, zq60, zq61, zq78, zq97, zq102, zq126, zq486, zq600, zq2916, zq4200, le_I, lt_I, eq_I, ne_M, lt_M, cl_I, vin_T, gd_tt, nz_T, nI_add, sub_I, m1_M, pk_mul, div_I, Option.bind_some, Option.map_some, if_pos, if_neg, if_true, if_false, Nat.reduceAdd, Nat.reduceMul, Nat.reduceSub, Nat.zero_add, Nat.add_zero, Ret_s, d1, d2, d3, e]
    · by_cases ea : s = a
      · rw [ea, stp_self, Nat.add_zero, ← ea]
        simp (disch := omega) only [↓qM, zq0, zq1, zq2, zq3, zq4, zq5, zq6, zq7, zq8, zq9, zq10, zq11, zq12, zq13, zq14, zq20, zq33, zq48, zq49, zq50, zq57, zq60, zq61, zq78, zq97, zq102, zq126, zq486, zq600, zq2916, zq4200, le_I, lt_I, eq_I, ne_M, lt_M, cl_I, vin_T, gd_tt, nz_T, nI_add, sub_I, m1_M, pk_mul, div_I, Option.bind_some, Option.map_some, if_pos, if_neg, if_true, if_false, Nat.reduceAdd, Nat.reduceMul, Nat.reduceSub, Nat.zero_add, Nat.add_zero, Ret_s, d1, d2, d3]
      · have h4 := cd_dec (c := c) (d := d) (s := s) (by omega) (by omega)
        have hwp := wt_pos c s
        have e3 : cd c d - wt c s = cd c (dec d s) := by omega
        have e4 := hR (dec d s) (Le6_dec hd) (by omega) s (by omega)
        have e5 : stp d a s = SM (dec d s) s := if_neg (by omega)
        have e6 : w s = nI (wt c s) := hw s (by omega)
        simp (disch := omega) only [↓qM, zq0, zq1, zq2, zq3, zq4, zq5, zq6, zq7, zq8, zq9, zq10, zq11, zq12, zq13, zq14, zq20, zq33, zq48, zq49, zq50, zq57, zq60, zq61, zq78, zq97, zq102, zq126, zq486, zq600, zq2916, zq4200, le_I, lt_I, eq_I, ne_M, lt_M, cl_I, vin_T, gd_tt, nz_T, nI_add, sub_I, m1_M, pk_mul, div_I, Option.bind_some, Option.map_some, if_pos, if_neg, if_true, if_false, Nat.reduceAdd, Nat.reduceMul, Nat.reduceSub, Nat.zero_add, Nat.add_zero, Ret_s, d1, d2, d3]
        simp (disch := omega) only [↓qM, zq0, zq1, zq2, zq3, zq4, zq5, zq6, zq7, zq8, zq9, zq10, zq11, zq12, zq13, zq14, zq20, zq33, zq48, zq49, zq50, zq57, zq60, zq61, zq78, zq97, zq102, zq126, zq486, zq600, zq2916, zq4200, le_I, lt_I, eq_I, ne_M, lt_M, cl_I, vin_T, gd_tt, nz_T, nI_add, sub_I, m1_M, pk_mul, div_I, Option.bind_some, Option.map_some, if_pos, if_neg, if_true, if_false, Nat.reduceAdd, Nat.reduceMul, Nat.reduceSub, Nat.zero_add, Nat.add_zero, Ret_s, e6, e3, e4, e5]
theorem rlsA_I {c d : Nat → Nat} {lf w z : Nat → Int32} {y : Int32} {K52 : Int32 → (Nat → Int32) → (Nat → Int32) → (Nat → Int32) → Int32 → Option (Int32 × (Nat → Int32) × (Nat → Int32) × (Nat → Int32))} (hc : sum6 c ≤ 11) (hd : Le6 d c) (hb : BA c lf) (hw : WA c 6 w) : ∀ (r a fu : Nat) (sm : Nat → Int32), a + r = 7 → r < fu → RB c (cd c d) sm → (∀ b, b < a → sm (7 * cd c d + b) = nI (SM d b)) → ∃ sm', F_X6_laySmooth_L62 K52 z fu y lf sm w (nI (cd c d)) (nI a) = K52 y lf sm' w (nI (cd c d + 1)) ∧ RB c (cd c d + 1) sm' := by
  have h486 := wt_486 hc
  have hk := cd_lt hd
  intro r
  induction r with
  | zero =>
    intro a fu sm h1 h2 hR hs
    obtain ⟨fu, rfl, hf⟩ := fu1 h2
    refine ⟨sm, ?_, fun e he hke b hb2 => ?_⟩
    · rw [F_X6_laySmooth_L62]
      simp (disch := omega) only [↓qM, zq0, zq1, zq2, zq3, zq4, zq5, zq6, zq7, zq8, zq9, zq10, zq11, zq12, zq13, zq14, zq20, zq33, zq48, zq49, zq50, zq57, zq60, zq61, zq78, zq97, zq102, zq126, zq486, zq600, zq2916, zq4200, le_I, lt_I, eq_I, ne_M, lt_M, cl_I, vin_T, gd_tt, nz_T, nI_add, sub_I, m1_M, pk_mul, div_I, Option.bind_some, Option.map_some, if_pos, if_neg, if_true, if_false, Nat.reduceAdd, Nat.reduceMul, Nat.reduceSub, Nat.zero_add, Nat.add_zero, Ret_s]
    · by_cases e1 : cd c e = cd c d
      · rw [e1, SM_ext (cd_inj he hd e1)]
        exact hs b (by omega)
      · exact hR e he (by omega) b hb2
  | succ r ih =>
    intro a fu sm h1 h2 hR hs
    obtain ⟨fu, rfl, hf⟩ := fu1 h2
    obtain ⟨sm', e1, hR1⟩ := ih (a + 1) fu (upd sm (7 * cd c d + a) (nI (SM d a))) (by omega) (by omega) (hR.upd (by omega)) (fun b hb2 => by
      by_cases e : b = a
      · subst e; rw [upd_s]
      · rw [upd_n _ _ (by omega)]; exact hs b (by omega))
    obtain ⟨fu', e2⟩ := rlsI_I (z := z) (y := y) (K52 := K52) (K62 := F_X6_laySmooth_L62 K52 z fu) hc hd hb hw (show a ≤ 6 by omega) hR 6 0 FU (b2n (sum6 d = 0)) (by omega) (FU_lt (by omega))
    rw [← SM_eq] at e2
    refine ⟨sm', ?_, hR1⟩
    rw [F_X6_laySmooth_L62]
    have e3 : (if cd c d = 0 then nI 1 else nI 0) = nI (b2n (sum6 d = 0)) := by
      by_cases e : sum6 d = 0
      · rw [b2n_t e, cd_0.mpr e, if_pos rfl]
      · rw [b2n_f e, if_neg (fun h => e (cd_0.mp h))]
    simp (disch := omega) only [↓qM, zq0, zq1, zq2, zq3, zq4, zq5, zq6, zq7, zq8, zq9, zq10, zq11, zq12, zq13, zq14, zq20, zq33, zq48, zq49, zq50, zq57, zq60, zq61, zq78, zq97, zq102, zq126, zq486, zq600, zq2916, zq4200, le_I, lt_I, eq_I, ne_M, lt_M, cl_I, vin_T, gd_tt, nz_T, nI_add, sub_I, m1_M, pk_mul, div_I, Option.bind_some, Option.map_some, if_pos, if_neg, if_true, if_false, Nat.reduceAdd, Nat.reduceMul, Nat.reduceSub, Nat.zero_add, Nat.add_zero, Ret_s]
    rw [e3, e2, F_X6_laySmooth_L81]
    simp (disch := omega) only [↓qM, zq0, zq1, zq2, zq3, zq4, zq5, zq6, zq7, zq8, zq9, zq10, zq11, zq12, zq13, zq14, zq20, zq33, zq48, zq49, zq50, zq57, zq60, zq61, zq78, zq97, zq102, zq126, zq486, zq600, zq2916, zq4200, le_I, lt_I, eq_I, ne_M, lt_M, cl_I, vin_T, gd_tt, nz_T, nI_add, sub_I, m1_M, pk_mul, div_I, Option.bind_some, Option.map_some, if_pos, if_neg, if_true, if_false, Nat.reduceAdd, Nat.reduceMul, Nat.reduceSub, Nat.zero_add, Nat.add_zero, Ret_s, e1]
theorem rlsC_I {c : Nat → Nat} {lf w z : Nat → Int32} (hc : sum6 c ≤ 11) (hb : BA c lf) (hw : WA c 6 w) : ∀ (r k fu : Nat) (sm : Nat → Int32), k + r = wt c 6 → r < fu → RB c k sm → ∃ sm', F_X6_laySmooth_L52 z fu (nI (wt c 6)) lf sm w (nI k) = some (nI (wt c 6), lf, sm', w) ∧ RB c (wt c 6) sm' := by
  have h486 := wt_486 hc
  intro r
  induction r with
  | zero =>
    intro k fu sm h1 h2 hR
    obtain ⟨fu, rfl, hf⟩ := fu1 h2
    obtain rfl : k = wt c 6 := by omega
    refine ⟨sm, ?_, hR⟩
    rw [F_X6_laySmooth_L52]
    simp (disch := omega) only [↓qM, zq0, zq1, zq2, zq3, zq4, zq5, zq6, zq7, zq8, zq9, zq10, zq11, zq12, zq13, zq14, zq20, zq33, zq48, zq49, zq50, zq57, zq60, zq61, zq78, zq97, zq102, zq126, zq486, zq600, zq2916, zq4200, le_I, lt_I, eq_I, ne_M, lt_M, cl_I, vin_T, gd_tt, nz_T, nI_add, sub_I, m1_M, pk_mul, div_I, Option.bind_some, Option.map_some, if_pos, if_neg, if_true, if_false, Nat.reduceAdd, Nat.reduceMul, Nat.reduceSub, Nat.zero_add, Nat.add_zero, Ret_s]
  | succ r ih =>
    intro k fu sm h1 h2 hR
    obtain ⟨fu, rfl, hf⟩ := fu1 h2
    obtain ⟨d, hd, hk⟩ := cd_sur (c := c) (k := k) (by omega)
    subst hk
    obtain ⟨sm1, e1, hR1⟩ := rlsA_I (z := z) (y := nI (wt c 6)) (K52 := F_X6_laySmooth_L52 z fu) hc hd hb hw 7 0 FU sm (by omega) (FU_lt (by omega)) hR (fun b h => absurd h (by omega))
    obtain ⟨sm2, e2, hR2⟩ := ih (cd c d + 1) fu sm1 (by omega) (by omega) hR1
    refine ⟨sm2, ?_, hR2⟩
    rw [F_X6_laySmooth_L52]
    simp (disch := omega) only [↓qM, zq0, zq1, zq2, zq3, zq4, zq5, zq6, zq7, zq8, zq9, zq10, zq11, zq12, zq13, zq14, zq20, zq33, zq48, zq49, zq50, zq57, zq60, zq61, zq78, zq97, zq102, zq126, zq486, zq600, zq2916, zq4200, le_I, lt_I, eq_I, ne_M, lt_M, cl_I, vin_T, gd_tt, nz_T, nI_add, sub_I, m1_M, pk_mul, div_I, Option.bind_some, Option.map_some, if_pos, if_neg, if_true, if_false, Nat.reduceAdd, Nat.reduceMul, Nat.reduceSub, Nat.zero_add, Nat.add_zero, Ret_s, e1, e2]
theorem rlsW_I {c : Nat → Nat} {lf sm z : Nat → Int32} (hc : sum6 c ≤ 11) (hb : BA c lf) : ∀ (r i fu : Nat) (w : Nat → Int32), i + r = 6 → r < fu → WA c i w → ∃ sm' w', F_X6_laySmooth_L11 z fu (nI (wt c i)) lf sm w (nI i) = some (nI (wt c 6), lf, sm', w') ∧ WA c 6 w' ∧ RB c (wt c 6) sm' := by
  intro r
  induction r with
  | zero =>
    intro i fu w h1 h2 hw
    obtain ⟨fu, rfl, hf⟩ := fu1 h2
    obtain rfl : i = 6 := by omega
    have h486 := wt_486 hc
    obtain ⟨sm', e1, hR⟩ := rlsC_I (z := z) hc hb hw (wt c 6) 0 FU sm (by omega) (FU_lt (by omega)) (fun d _ h => absurd h (by omega))
    refine ⟨sm', w, ?_, hw, hR⟩
    rw [F_X6_laySmooth_L11]
    simp (disch := omega) only [↓qM, zq0, zq1, zq2, zq3, zq4, zq5, zq6, zq7, zq8, zq9, zq10, zq11, zq12, zq13, zq14, zq20, zq33, zq48, zq49, zq50, zq57, zq60, zq61, zq78, zq97, zq102, zq126, zq486, zq600, zq2916, zq4200, le_I, lt_I, eq_I, ne_M, lt_M, cl_I, vin_T, gd_tt, nz_T, nI_add, sub_I, m1_M, pk_mul, div_I, Option.bind_some, Option.map_some, if_pos, if_neg, if_true, if_false, Nat.reduceAdd, Nat.reduceMul, Nat.reduceSub, Nat.zero_add, Nat.add_zero, Ret_s, e1]
  | succ r ih =>
    intro i fu w h1 h2 hw
    obtain ⟨fu, rfl, hf⟩ := fu1 h2
    obtain ⟨sm', w', e1, hw1, hR⟩ := ih (i + 1) fu _ (by omega) (by omega) hw.upd
    rw [show wt c (i + 1) = wt c i * (c i + 1) from rfl] at e1
    refine ⟨sm', w', ?_, hw1, hR⟩
    rw [F_X6_laySmooth_L11]
    simp (disch := omega) only [↓qM, zq0, zq1, zq2, zq3, zq4, zq5, zq6, zq7, zq8, zq9, zq10, zq11, zq12, zq13, zq14, zq20, zq33, zq48, zq49, zq50, zq57, zq60, zq61, zq78, zq97, zq102, zq126, zq486, zq600, zq2916, zq4200, le_I, lt_I, eq_I, ne_M, lt_M, cl_I, vin_T, gd_tt, nz_T, nI_add, sub_I, m1_M, pk_mul, div_I, Option.bind_some, Option.map_some, if_pos, if_neg, if_true, if_false, Nat.reduceAdd, Nat.reduceMul, Nat.reduceSub, Nat.zero_add, Nat.add_zero, Ret_s, hb.at, e1]
theorem rls_I {n : Nat} {g : Nat → Nat} {z lf sm w : Nat → Int32} {cc : Int32} (hz : ZI z n g) (hn : n ≤ 11) (hg : RG n g) : ∃ lf' sm' w', F_X6_laySmooth cc lf sm w z = some (nI (wt (cF g n 0) 6), lf', sm', w') ∧ BA (cF g n 0) lf' ∧ WA (cF g n 0) 6 w' ∧ RB (cF g n 0) (wt (cF g n 0) 6) sm' := by
  obtain ⟨lf1, e1, hb⟩ := countAll_I (o := lf) hz hn hg
  have hs : sum6 (cF g n 0) = n := sum6_cnt hg n 0 (by omega)
  obtain ⟨sm', w', e2, hw, hR⟩ := rlsW_I (sm := sm) (z := z) (by omega) hb 6 0 FU w (by omega) (FU_lt (by omega)) (fun s h => absurd h (by omega))
  rw [show wt (cF g n 0) 0 = 1 from rfl] at e2
  refine ⟨lf1, sm', w', ?_, hb, hw, hR⟩
  unfold F_X6_laySmooth
  simp (disch := omega) only [↓qM, zq0, zq1, zq2, zq3, zq4, zq5, zq6, zq7, zq8, zq9, zq10, zq11, zq12, zq13, zq14, zq20, zq33, zq48, zq49, zq50, zq57, zq60, zq61, zq78, zq97, zq102, zq126, zq486, zq600, zq2916, zq4200, le_I, lt_I, eq_I, ne_M, lt_M, cl_I, vin_T, gd_tt, nz_T, nI_add, sub_I, m1_M, pk_mul, div_I, Option.bind_some, Option.map_some, if_pos, if_neg, if_true, if_false, Nat.reduceAdd, Nat.reduceMul, Nat.reduceSub, Nat.zero_add, Nat.add_zero, Ret_s, e1, e2]
/-- the code of all -/
theorem cd_self {c : Nat → Nat} : cd c c + 1 = wt c 6 := by
  have : ∀ k, cdS c c k + 1 = wt c k := by
    intro k
    induction k with
    | zero => rfl
    | succ k ih => rw [cdS, wt, Nat.mul_add, Nat.mul_one, Nat.mul_comm (wt c k)]; omega
  exact this 6
theorem rallS_I {n : Nat} {g : Nat → Nat} {z lf sm w : Nat → Int32} {cc : Int32} (hz : ZI z n g) (hn : n ≤ 11) (hg : RG n g) : Ret (F_X6_allSmooth cc lf sm w z) (fun r => r.1 = nI (SM (cF g n 0) 6)) := by
  obtain ⟨lf', sm', w', e1, hb, hw, hR⟩ := rls_I (cc := cc) (lf := lf) (sm := sm) (w := w) hz hn hg
  have hs : sum6 (cF g n 0) = n := sum6_cnt hg n 0 (by omega)
  have h486 := wt_486 (c := cF g n 0) (by omega)
  have h1 := cd_self (c := cF g n 0)
  have h2 := hR (cF g n 0) (fun _ _ => Nat.le_refl _) (by omega) 6 (by omega)
  have h3 : wt (cF g n 0) 6 - 1 = cd (cF g n 0) (cF g n 0) := by omega
  unfold F_X6_allSmooth
  simp (disch := omega) only [↓qM, zq0, zq1, zq2, zq3, zq4, zq5, zq6, zq7, zq8, zq9, zq10, zq11, zq12, zq13, zq14, zq20, zq33, zq48, zq49, zq50, zq57, zq60, zq61, zq78, zq97, zq102, zq126, zq486, zq600, zq2916, zq4200, le_I, lt_I, eq_I, ne_M, lt_M, cl_I, vin_T, gd_tt, nz_T, nI_add, sub_I, m1_M, pk_mul, div_I, Option.bind_some, Option.map_some, if_pos, if_neg, if_true, if_false, Nat.reduceAdd, Nat.reduceMul, Nat.reduceSub, Nat.zero_add, Nat.add_zero, Ret_s, e1, h3]
  exact h2
theorem code_next {n p : Nat} {g : Nat → Nat} (hg : RG n g) (hp : p < n) : cd (cF g n 0) (cF g n (p + 1)) + wt (cF g n 0) (g p) = cd (cF g n 0) (cF g n p) := by
  have h1 := cd_dec (c := cF g n 0) (d := cF g n p) (s := g p) (hg p hp) (cF_pos hp)
  have h2 : cd (cF g n 0) (dec (cF g n p) (g p)) = cd (cF g n 0) (cF g n (p + 1)) := cdS_ext 6 (fun _ _ => rfl) (cF_dec hp)
  omega
theorem rsaI_I {n p a s : Nat} {c d : Nat → Nat} {lf w sm z : Nat → Int32} {y x1 : Int32} {K : Int32 → (Nat → Int32) → (Nat → Int32) → (Nat → Int32) → Int32 → Int32 → Int32 → Int32 → Option (Int32 × Int32 × (Nat → Int32) × (Nat → Int32) × (Nat → Int32))} (hc : sum6 c ≤ 11) (hd : Le6 d c) (hb : BA c lf) (hw : WA c 6 w) (ha : a ≤ 6) (hs : s < 6) (hR : RB c (wt c 6) sm) : ∀ (r t fu x : Nat), t + r = s → r < fu → ∃ fu', F_X6_smoothAhead_L44 K z x1 fu y lf sm w (nI (cd c d)) (nI x) (nI a) (nI p) (nI s) (nI t) = F_X6_smoothAhead_L44 K z x1 (fu' + 1) y lf sm w (nI (cd c d)) (nI (x + sumL (stp d a) t r)) (nI a) (nI p) (nI s) (nI s) := by
  have h486 := wt_486 hc
  have hk := cd_lt hd
  intro r
  induction r with
  | zero =>
    intro t fu x h1 h2
    obtain ⟨fu, rfl, hf⟩ := fu1 h2
    obtain rfl : t = s := by omega
    exact ⟨fu, rfl⟩
  | succ r ih =>
    intro t fu x h1 h2
    obtain ⟨fu, rfl, hf⟩ := fu1 h2
    obtain ⟨d1, d2, d3⟩ := digT hc hd hb hw (show t < 6 by omega)
    have hds := hd t (by omega)
    have hcs := le_sum6 (c := c) (s := t) (by omega)
    obtain ⟨fu', e1⟩ := ih (t + 1) fu (x + stp d a t) (by omega) (by omega)
    refine ⟨fu', ?_⟩
    rw [sumL, ← Nat.add_assoc, ← e1]
    conv => lhs; rw [F_X6_smoothAhead_L44]
    unfold F_X6_smoothAhead_J78
    by_cases e : d t = 0
    · rw [show stp d a t = 0 from if_pos (Or.inl e), Nat.add_zero]
      simp (disch := omega) only [↓qM, zq0, zq1, zq2, zq3, zq4, zq5, zq6, zq7, zq8, zq9, zq10, zq11, zq12, zq13, zq14, zq20, zq33, zq48, zq49, zq50, zq57, zq60, zq61, zq78, zq97, zq102, zq126, zq486, zq600, zq2916, zq4200, le_I, lt_I, eq_I, ne_M, lt_M, cl_I, vin_T, gd_tt, nz_T, nI_add, sub_I, m1_M, pk_mul, div_I, Option.bind_some, Option.map_some, if_pos, if_neg, if_true, if_false, Nat.reduceAdd, Nat.reduceMul, Nat.reduceSub, Nat.zero_add, Nat.add_zero, Ret_s, d1, d2, d3, e]
    · by_cases ea : t = a
      · rw [ea, stp_self, Nat.add_zero, ← ea]
        simp (disch := omega) only [↓qM, zq0, zq1, zq2, zq3, zq4, zq5, zq6, zq7, zq8, zq9, zq10, zq11, zq12, zq13, zq14, zq20, zq33, zq48, zq49, zq50, zq57, zq60, zq61, zq78, zq97, zq102, zq126, zq486, zq600, zq2916, zq4200, le_I, lt_I, eq_I, ne_M, lt_M, cl_I, vin_T, gd_tt, nz_T, nI_add, sub_I, m1_M, pk_mul, div_I, Option.bind_some, Option.map_some, if_pos, if_neg, if_true, if_false, Nat.reduceAdd, Nat.reduceMul, Nat.reduceSub, Nat.zero_add, Nat.add_zero, Ret_s, d1, d2, d3]
      · have h4 := cd_dec (c := c) (d := d) (s := t) (by omega) (by omega)
        have hwp := wt_pos c t
        have e3 : cd c d - wt c t = cd c (dec d t) := by omega
        have e4 := hR (dec d t) (Le6_dec hd) (by omega) t (by omega)
        have e5 : stp d a t = SM (dec d t) t := if_neg (by omega)
        have e6 : w t = nI (wt c t) := hw t (by omega)
        simp (disch := omega) only [↓qM, zq0, zq1, zq2, zq3, zq4, zq5, zq6, zq7, zq8, zq9, zq10, zq11, zq12, zq13, zq14, zq20, zq33, zq48, zq49, zq50, zq57, zq60, zq61, zq78, zq97, zq102, zq126, zq486, zq600, zq2916, zq4200, le_I, lt_I, eq_I, ne_M, lt_M, cl_I, vin_T, gd_tt, nz_T, nI_add, sub_I, m1_M, pk_mul, div_I, Option.bind_some, Option.map_some, if_pos, if_neg, if_true, if_false, Nat.reduceAdd, Nat.reduceMul, Nat.reduceSub, Nat.zero_add, Nat.add_zero, Ret_s, d1, d2, d3]
        simp (disch := omega) only [↓qM, zq0, zq1, zq2, zq3, zq4, zq5, zq6, zq7, zq8, zq9, zq10, zq11, zq12, zq13, zq14, zq20, zq33, zq48, zq49, zq50, zq57, zq60, zq61, zq78, zq97, zq102, zq126, zq486, zq600, zq2916, zq4200, le_I, lt_I, eq_I, ne_M, lt_M, cl_I, vin_T, gd_tt, nz_T, nI_add, sub_I, m1_M, pk_mul, div_I, Option.bind_some, Option.map_some, if_pos, if_neg, if_true, if_false, Nat.reduceAdd, Nat.reduceMul, Nat.reduceSub, Nat.zero_add, Nat.add_zero, Ret_s, e6, e3, e4, e5]
theorem rsaO_I {n : Nat} {g : Nat → Nat} {z lf sm w : Nat → Int32} {y : Int32} (hz : ZI z n g) (hn : n ≤ 11) (hg : RG n g) (hb : BA (cF g n 0) lf) (hw : WA (cF g n 0) 6 w) (hR : RB (cF g n 0) (wt (cF g n 0) 6) sm) : ∀ (d p fu x a : Nat), p + d = n → d < fu → a ≤ 6 → F_X6_smoothAhead_L20 z (nI n) fu y lf sm w (nI (cd (cF g n 0) (cF g n p))) (nI x) (nI a) (nI p) = some (nI (x + srk g n d p a), y, lf, sm, w) := by
  have hs0 : sum6 (cF g n 0) = n := sum6_cnt hg n 0 (by omega)
  have h486 := wt_486 (c := cF g n 0) (by omega)
  intro d
  induction d with
  | zero =>
    intro p fu x a h1 h2 ha
    obtain ⟨fu, rfl, hf⟩ := fu1 h2
    rw [F_X6_smoothAhead_L20]
    simp (disch := omega) only [↓qM, zq0, zq1, zq2, zq3, zq4, zq5, zq6, zq7, zq8, zq9, zq10, zq11, zq12, zq13, zq14, zq20, zq33, zq48, zq49, zq50, zq57, zq60, zq61, zq78, zq97, zq102, zq126, zq486, zq600, zq2916, zq4200, le_I, lt_I, eq_I, ne_M, lt_M, cl_I, vin_T, gd_tt, nz_T, nI_add, sub_I, m1_M, pk_mul, div_I, Option.bind_some, Option.map_some, if_pos, if_neg, if_true, if_false, Nat.reduceAdd, Nat.reduceMul, Nat.reduceSub, Nat.zero_add, Nat.add_zero, Ret_s, srk]
  | succ d ih =>
    intro p fu x a h1 h2 ha
    obtain ⟨fu, rfl, hf⟩ := fu1 h2
    have hgp := hg p (by omega)
    have hk := cd_lt (cF_le (g := g) (n := n) (p := p) (by omega))
    obtain ⟨fu', e1⟩ := rsaI_I (n := n) (p := p) (z := z) (y := y) (x1 := nI n) (K := F_X6_smoothAhead_L20 z (nI n) fu) (by omega) (cF_le (g := g) (n := n) (p := p) (by omega)) hb hw ha hgp hR (g p) 0 FU x (by omega) (FU_lt (by omega))
    rw [F_X6_smoothAhead_L20]
    simp (disch := omega) only [↓qM, zq0, zq1, zq2, zq3, zq4, zq5, zq6, zq7, zq8, zq9, zq10, zq11, zq12, zq13, zq14, zq20, zq33, zq48, zq49, zq50, zq57, zq60, zq61, zq78, zq97, zq102, zq126, zq486, zq600, zq2916, zq4200, le_I, lt_I, eq_I, ne_M, lt_M, cl_I, vin_T, gd_tt, nz_T, nI_add, sub_I, m1_M, pk_mul, div_I, Option.bind_some, Option.map_some, if_pos, if_neg, if_true, if_false, Nat.reduceAdd, Nat.reduceMul, Nat.reduceSub, Nat.zero_add, Nat.add_zero, Ret_s, hz.g, e1]
    rw [F_X6_smoothAhead_L44, srk]
    by_cases e : g p = a
    · obtain ⟨fu, rfl, hf⟩ : ∃ k, fu = k + 1 ∧ d ≤ k := fu1 (by omega)
      rw [if_pos e, Nat.add_zero, F_X6_smoothAhead_L20]
      by_cases e2 : p + 1 < n
      · simp (disch := omega) only [↓qM, zq0, zq1, zq2, zq3, zq4, zq5, zq6, zq7, zq8, zq9, zq10, zq11, zq12, zq13, zq14, zq20, zq33, zq48, zq49, zq50, zq57, zq60, zq61, zq78, zq97, zq102, zq126, zq486, zq600, zq2916, zq4200, le_I, lt_I, eq_I, ne_M, lt_M, cl_I, vin_T, gd_tt, nz_T, nI_add, sub_I, m1_M, pk_mul, div_I, Option.bind_some, Option.map_some, if_pos, if_neg, if_true, if_false, Nat.reduceAdd, Nat.reduceMul, Nat.reduceSub, Nat.zero_add, Nat.add_zero, Ret_s, e, nM_neg]
      · simp (disch := omega) only [↓qM, zq0, zq1, zq2, zq3, zq4, zq5, zq6, zq7, zq8, zq9, zq10, zq11, zq12, zq13, zq14, zq20, zq33, zq48, zq49, zq50, zq57, zq60, zq61, zq78, zq97, zq102, zq126, zq486, zq600, zq2916, zq4200, le_I, lt_I, eq_I, ne_M, lt_M, cl_I, vin_T, gd_tt, nz_T, nI_add, sub_I, m1_M, pk_mul, div_I, Option.bind_some, Option.map_some, if_pos, if_neg, if_true, if_false, Nat.reduceAdd, Nat.reduceMul, Nat.reduceSub, Nat.zero_add, Nat.add_zero, Ret_s, e, nM_neg]
    · have h5 := code_next hg (p := p) (by omega)
      have h6 : cd (cF g n 0) (cF g n p) - wt (cF g n 0) (g p) = cd (cF g n 0) (cF g n (p + 1)) := by omega
      have e6 : w (g p) = nI (wt (cF g n 0) (g p)) := hw _ hgp
      have k := ih (p + 1) fu (x + sumL (stp (cF g n p) a) 0 (g p)) (g p) (by omega) (by omega) (by omega)
      rw [if_neg e, ← Nat.add_assoc]
      simp (disch := omega) only [↓qM, zq0, zq1, zq2, zq3, zq4, zq5, zq6, zq7, zq8, zq9, zq10, zq11, zq12, zq13, zq14, zq20, zq33, zq48, zq49, zq50, zq57, zq60, zq61, zq78, zq97, zq102, zq126, zq486, zq600, zq2916, zq4200, le_I, lt_I, eq_I, ne_M, lt_M, cl_I, vin_T, gd_tt, nz_T, nI_add, sub_I, m1_M, pk_mul, div_I, Option.bind_some, Option.map_some, if_pos, if_neg, if_true, if_false, Nat.reduceAdd, Nat.reduceMul, Nat.reduceSub, Nat.zero_add, Nat.add_zero, Ret_s, e6, h6, k]
theorem rsRank_I {n : Nat} {g : Nat → Nat} {z lf sm w : Nat → Int32} {cc : Int32} (hz : ZI z n g) (hn : n ≤ 11) (hg : RG n g) : Ret (F_X6_smoothRank cc lf sm w z) (fun r => r.1 = nI (srk g n n 0 6)) := by
  obtain ⟨lf', sm', w', e1, hb, hw, hR⟩ := rls_I (cc := cc) (lf := lf) (sm := sm) (w := w) hz hn hg
  have hs : sum6 (cF g n 0) = n := sum6_cnt hg n 0 (by omega)
  have h486 := wt_486 (c := cF g n 0) (by omega)
  have h1 := cd_self (c := cF g n 0)
  have h3 : wt (cF g n 0) 6 - 1 = cd (cF g n 0) (cF g n 0) := by omega
  have k := rsaO_I (y := nI (wt (cF g n 0) 6)) hz hn hg hb hw hR n 0 FU 0 6 (by omega) (FU_lt (by omega)) (by omega)
  rw [Nat.zero_add] at k
  unfold F_X6_smoothRank F_X6_smoothAhead
  simp (disch := omega) only [↓qM, zq0, zq1, zq2, zq3, zq4, zq5, zq6, zq7, zq8, zq9, zq10, zq11, zq12, zq13, zq14, zq20, zq33, zq48, zq49, zq50, zq57, zq60, zq61, zq78, zq97, zq102, zq126, zq486, zq600, zq2916, zq4200, le_I, lt_I, eq_I, ne_M, lt_M, cl_I, vin_T, gd_tt, nz_T, nI_add, sub_I, m1_M, pk_mul, div_I, Option.bind_some, Option.map_some, if_pos, if_neg, if_true, if_false, Nat.reduceAdd, Nat.reduceMul, Nat.reduceSub, Nat.zero_add, Nat.add_zero, Ret_s, hz.n, e1, h3, k]
/-- as the reference reckons it -/
def sw (g : Nat → Nat) (n : Nat) : Nat → Nat → Nat → Nat
  | 0, p, a => SM (cF g n p) a
  | d + 1, p, a => if g p = a then 0 else sw g n d (p + 1) (g p)
theorem sw_gsm {g : Nat → Nat} {n : Nat} : ∀ d p, 1 ≤ p → sw g n d p (g (p - 1)) = if gsm g p d = true then SM (cF g n (p + d)) (g (p + d - 1)) else 0 := by
  intro d
  induction d with
  | zero => intro p h; rw [sw, gsm, if_pos rfl]; rfl
  | succ d ih =>
    intro p h
    rw [sw, gsm]
    by_cases e : g p = g (p - 1)
    · rw [if_pos e, if_pos e]; rfl
    · have k := ih (p + 1) (by omega)
      rw [Nat.add_sub_cancel, show p + 1 + d = p + (d + 1) by omega] at k
      rw [if_neg e, if_neg e, k]
theorem sw_swn {g : Nat → Nat} {n k : Nat} (hg : RG n g) (hk : k ≤ n) : sw g n k 0 6 = swn g n k := by
  unfold swn smooth
  by_cases e : k = 0
  · subst e
    rw [if_pos (rfl : (0 : Nat) = 0), if_pos (show gsm g 1 (0 - 1) = true from rfl)]
    rfl
  · obtain ⟨j, rfl⟩ : ∃ j, k = j + 1 := ⟨k - 1, by omega⟩
    have := hg 0 (by omega)
    have k2 := sw_gsm (g := g) (n := n) j 1 (by omega)
    rw [sw, if_neg (by omega), if_neg e, Nat.add_sub_cancel]
    rw [show (1 : Nat) - 1 = 0 from rfl, show 1 + j = j + 1 by omega, Nat.add_sub_cancel] at k2
    exact k2
theorem rswL_I {n k : Nat} {g : Nat → Nat} {z lf sm w : Nat → Int32} {y : Int32} (hz : ZI z n g) (hn : n ≤ 11) (hg : RG n g) (hk : k ≤ n) (hw : WA (cF g n 0) 6 w) (hR : RB (cF g n 0) (wt (cF g n 0) 6) sm) : ∀ (d p fu a : Nat), p + d = k → d < fu → a ≤ 6 → F_X6_smoothWith_L17 z (nI k) fu y lf sm w (nI (cd (cF g n 0) (cF g n p))) (nI a) (nI p) = some (nI (sw g n d p a), y, lf, sm, w) := by
  have hs0 : sum6 (cF g n 0) = n := sum6_cnt hg n 0 (by omega)
  have h486 := wt_486 (c := cF g n 0) (by omega)
  intro d
  induction d with
  | zero =>
    intro p fu a h1 h2 ha
    obtain ⟨fu, rfl, hf⟩ := fu1 h2
    have hk2 := cd_lt (cF_le (g := g) (n := n) (p := p) (by omega))
    have e1 := hR (cF g n p) (cF_le (by omega)) hk2 a ha
    rw [F_X6_smoothWith_L17]
    unfold F_X6_smoothWith_J67
    simp (disch := omega) only [↓qM, zq0, zq1, zq2, zq3, zq4, zq5, zq6, zq7, zq8, zq9, zq10, zq11, zq12, zq13, zq14, zq20, zq33, zq48, zq49, zq50, zq57, zq60, zq61, zq78, zq97, zq102, zq126, zq486, zq600, zq2916, zq4200, le_I, lt_I, eq_I, ne_M, lt_M, cl_I, vin_T, gd_tt, nz_T, nI_add, sub_I, m1_M, pk_mul, div_I, Option.bind_some, Option.map_some, if_pos, if_neg, if_true, if_false, Nat.reduceAdd, Nat.reduceMul, Nat.reduceSub, Nat.zero_add, Nat.add_zero, Ret_s, e1, sw]
  | succ d ih =>
    intro p fu a h1 h2 ha
    obtain ⟨fu, rfl, hf⟩ := fu1 h2
    have hgp := hg p (by omega)
    have hk2 := cd_lt (cF_le (g := g) (n := n) (p := p) (by omega))
    rw [F_X6_smoothWith_L17, sw]
    by_cases e : g p = a
    · obtain ⟨fu, rfl, hf⟩ : ∃ k, fu = k + 1 ∧ d ≤ k := fu1 (by omega)
      have hM : (nI 0 ≤ nM) = False := lt_M (by omega)
      rw [if_pos e, F_X6_smoothWith_L17]
      unfold F_X6_smoothWith_J67
      by_cases e2 : p + 1 < k
      · simp (disch := omega) only [↓qM, zq0, zq1, zq2, zq3, zq4, zq5, zq6, zq7, zq8, zq9, zq10, zq11, zq12, zq13, zq14, zq20, zq33, zq48, zq49, zq50, zq57, zq60, zq61, zq78, zq97, zq102, zq126, zq486, zq600, zq2916, zq4200, le_I, lt_I, eq_I, ne_M, lt_M, cl_I, vin_T, gd_tt, nz_T, nI_add, sub_I, m1_M, pk_mul, div_I, Option.bind_some, Option.map_some, if_pos, if_neg, if_true, if_false, Nat.reduceAdd, Nat.reduceMul, Nat.reduceSub, Nat.zero_add, Nat.add_zero, Ret_s, hz.g, e, nM_neg, hM]
      · simp (disch := omega) only [↓qM, zq0, zq1, zq2, zq3, zq4, zq5, zq6, zq7, zq8, zq9, zq10, zq11, zq12, zq13, zq14, zq20, zq33, zq48, zq49, zq50, zq57, zq60, zq61, zq78, zq97, zq102, zq126, zq486, zq600, zq2916, zq4200, le_I, lt_I, eq_I, ne_M, lt_M, cl_I, vin_T, gd_tt, nz_T, nI_add, sub_I, m1_M, pk_mul, div_I, Option.bind_some, Option.map_some, if_pos, if_neg, if_true, if_false, Nat.reduceAdd, Nat.reduceMul, Nat.reduceSub, Nat.zero_add, Nat.add_zero, Ret_s, hz.g, e, nM_neg, hM]
    · have h5 := code_next hg (p := p) (by omega)
      have h6 : cd (cF g n 0) (cF g n p) - wt (cF g n 0) (g p) = cd (cF g n 0) (cF g n (p + 1)) := by omega
      have e6 : w (g p) = nI (wt (cF g n 0) (g p)) := hw _ hgp
      have k := ih (p + 1) fu (g p) (by omega) (by omega) (by omega)
      rw [if_neg e]
      simp (disch := omega) only [↓qM, zq0, zq1, zq2, zq3, zq4, zq5, zq6, zq7, zq8, zq9, zq10, zq11, zq12, zq13, zq14, zq20, zq33, zq48, zq49, zq50, zq57, zq60, zq61, zq78, zq97, zq102, zq126, zq486, zq600, zq2916, zq4200, le_I, lt_I, eq_I, ne_M, lt_M, cl_I, vin_T, gd_tt, nz_T, nI_add, sub_I, m1_M, pk_mul, div_I, Option.bind_some, Option.map_some, if_pos, if_neg, if_true, if_false, Nat.reduceAdd, Nat.reduceMul, Nat.reduceSub, Nat.zero_add, Nat.add_zero, Ret_s, hz.g, e6, h6, k]
theorem rsw_I {n k : Nat} {g : Nat → Nat} {z lf sm w : Nat → Int32} {cc : Int32} (hz : ZI z n g) (hn : n ≤ 11) (hg : RG n g) (hk : k ≤ n) : Ret (F_X6_smoothWith cc lf sm w z (nI k)) (fun r => r.1 = nI (swn g n k)) := by
  obtain ⟨lf', sm', w', e1, hb, hw, hR⟩ := rls_I (cc := cc) (lf := lf) (sm := sm) (w := w) hz hn hg
  have hs : sum6 (cF g n 0) = n := sum6_cnt hg n 0 (by omega)
  have h486 := wt_486 (c := cF g n 0) (by omega)
  have h1 := cd_self (c := cF g n 0)
  have h3 : wt (cF g n 0) 6 - 1 = cd (cF g n 0) (cF g n 0) := by omega
  have k := rswL_I (lf := lf') (y := nI (wt (cF g n 0) 6)) hz hn hg hk hw hR k 0 FU 6 (by omega) (FU_lt (by omega)) (by omega)
  rw [sw_swn hg hk] at k
  unfold F_X6_smoothWith
  simp (disch := omega) only [↓qM, zq0, zq1, zq2, zq3, zq4, zq5, zq6, zq7, zq8, zq9, zq10, zq11, zq12, zq13, zq14, zq20, zq33, zq48, zq49, zq50, zq57, zq60, zq61, zq78, zq97, zq102, zq126, zq486, zq600, zq2916, zq4200, le_I, lt_I, eq_I, ne_M, lt_M, cl_I, vin_T, gd_tt, nz_T, nI_add, sub_I, m1_M, pk_mul, div_I, Option.bind_some, Option.map_some, if_pos, if_neg, if_true, if_false, Nat.reduceAdd, Nat.reduceMul, Nat.reduceSub, Nat.zero_add, Nat.add_zero, Ret_s, e1, h3, k]
theorem swn_all {g : Nat → Nat} {n : Nat} : swn g n n = b2n (smooth g n = true) := by
  unfold swn
  by_cases e : smooth g n = true
  · rw [if_pos e, b2n_t e, SM_0]
    unfold cF
    rw [Nat.sub_self]
    rfl
  · rw [if_neg e, b2n_f e]
theorem risS_I {n : Nat} {g : Nat → Nat} {z lf sm w : Nat → Int32} {cc : Int32} (hz : ZI z n g) (hn : n ≤ 11) (hg : RG n g) : Ret (F_X6_isSmooth cc lf sm w z) (fun r => r.1 = nI (b2n (smooth g n = true))) := by
  obtain ⟨r, e1, h1⟩ := rsw_I (cc := cc) (lf := lf) (sm := sm) (w := w) (k := n) hz hn hg (Nat.le_refl n)
  rw [swn_all] at h1
  have h2 := b2n_le (smooth g n = true)
  unfold F_X6_isSmooth
  simp (disch := omega) only [↓qM, zq0, zq1, zq2, zq3, zq4, zq5, zq6, zq7, zq8, zq9, zq10, zq11, zq12, zq13, zq14, zq20, zq33, zq48, zq49, zq50, zq57, zq60, zq61, zq78, zq97, zq102, zq126, zq486, zq600, zq2916, zq4200, le_I, lt_I, eq_I, ne_M, lt_M, cl_I, vin_T, gd_tt, nz_T, nI_add, sub_I, m1_M, pk_mul, div_I, Option.bind_some, Option.map_some, if_pos, if_neg, if_true, if_false, Nat.reduceAdd, Nat.reduceMul, Nat.reduceSub, Nat.zero_add, Nat.add_zero, Ret_s, hz.n, e1]
  by_cases e : smooth g n = true
  · rw [b2n_t e] at h1 ⊢
    rw [h1, if_pos rfl]
  · rw [b2n_f e] at h1 ⊢
    rw [h1, if_neg (by decide)]
theorem rsb_I {c d : Nat → Nat} {a s : Nat} {lf w sm : Nat → Int32} (hc : sum6 c ≤ 11) (hd : Le6 d c) (hb : BA c lf) (hw : WA c 6 w) (ha : a ≤ 6) (hR : RB c (wt c 6) sm) (hs : s < 6) : F_X6_smoothBehind lf sm w (nI (cd c d)) (nI s) (nI a) = some (nI (stp d a s)) := by
  have h486 := wt_486 hc
  have hk := cd_lt hd
  obtain ⟨d1, d2, d3⟩ := digT hc hd hb hw hs
  have hds := hd s hs
  have hcs := le_sum6 (c := c) hs
  unfold F_X6_smoothBehind F_X6_smoothBehind_J25
  by_cases e : d s = 0
  · rw [show stp d a s = 0 from if_pos (Or.inl e)]
    simp (disch := omega) only [↓qM, zq0, zq1, zq2, zq3, zq4, zq5, zq6, zq7, zq8, zq9, zq10, zq11, zq12, zq13, zq14, zq20, zq33, zq48, zq49, zq50, zq57, zq60, zq61, zq78, zq97, zq102, zq126, zq486, zq600, zq2916, zq4200, le_I, lt_I, eq_I, ne_M, lt_M, cl_I, vin_T, gd_tt, nz_T, nI_add, sub_I, m1_M, pk_mul, div_I, Option.bind_some, Option.map_some, if_pos, if_neg, if_true, if_false, Nat.reduceAdd, Nat.reduceMul, Nat.reduceSub, Nat.zero_add, Nat.add_zero, Ret_s, d1, d2, d3, e]
  · by_cases ea : s = a
    · rw [ea, stp_self, ← ea]
      simp (disch := omega) only [↓qM, zq0, zq1, zq2, zq3, zq4, zq5, zq6, zq7, zq8, zq9, zq10, zq11, zq12, zq13, zq14, zq20, zq33, zq48, zq49, zq50, zq57, zq60, zq61, zq78, zq97, zq102, zq126, zq486, zq600, zq2916, zq4200, le_I, lt_I, eq_I, ne_M, lt_M, cl_I, vin_T, gd_tt, nz_T, nI_add, sub_I, m1_M, pk_mul, div_I, Option.bind_some, Option.map_some, if_pos, if_neg, if_true, if_false, Nat.reduceAdd, Nat.reduceMul, Nat.reduceSub, Nat.zero_add, Nat.add_zero, Ret_s, d1, d2, d3]
    · have h4 := cd_dec (c := c) (d := d) (s := s) (by omega) (by omega)
      have hwp := wt_pos c s
      have e3 : cd c d - wt c s = cd c (dec d s) := by omega
      have e4 := hR (dec d s) (Le6_dec hd) (by omega) s (by omega)
      have e5 : stp d a s = SM (dec d s) s := if_neg (by omega)
      have e6 : w s = nI (wt c s) := hw s (by omega)
      simp (disch := omega) only [↓qM, zq0, zq1, zq2, zq3, zq4, zq5, zq6, zq7, zq8, zq9, zq10, zq11, zq12, zq13, zq14, zq20, zq33, zq48, zq49, zq50, zq57, zq60, zq61, zq78, zq97, zq102, zq126, zq486, zq600, zq2916, zq4200, le_I, lt_I, eq_I, ne_M, lt_M, cl_I, vin_T, gd_tt, nz_T, nI_add, sub_I, m1_M, pk_mul, div_I, Option.bind_some, Option.map_some, if_pos, if_neg, if_true, if_false, Nat.reduceAdd, Nat.reduceMul, Nat.reduceSub, Nat.zero_add, Nat.add_zero, Ret_s, d1, d2, d3]
      simp (disch := omega) only [↓qM, zq0, zq1, zq2, zq3, zq4, zq5, zq6, zq7, zq8, zq9, zq10, zq11, zq12, zq13, zq14, zq20, zq33, zq48, zq49, zq50, zq57, zq60, zq61, zq78, zq97, zq102, zq126, zq486, zq600, zq2916, zq4200, le_I, lt_I, eq_I, ne_M, lt_M, cl_I, vin_T, gd_tt, nz_T, nI_add, sub_I, m1_M, pk_mul, div_I, Option.bind_some, Option.map_some, if_pos, if_neg, if_true, if_false, Nat.reduceAdd, Nat.reduceMul, Nat.reduceSub, Nat.zero_add, Nat.add_zero, Ret_s, e6, e3, e4, e5]
theorem rlsrI_I {p a : Nat} {c d : Nat → Nat} {lf w sm z oth : Nat → Int32} {y x1 : Int32} {K : Int32 → (Nat → Int32) → (Nat → Int32) → (Nat → Int32) → (Nat → Int32) → Int32 → Int32 → Int32 → Int32 → Option (Int32 × (Nat → Int32) × (Nat → Int32) × (Nat → Int32) × (Nat → Int32))} (hc : sum6 c ≤ 11) (hd : Le6 d c) (hb : BA c lf) (hw : WA c 6 w) (ha : a ≤ 6) (hR : RB c (wt c 6) sm) (hp : p < 11) : ∀ (r s fu x : Nat), s + r = 5 → r < fu → x < sumL (stp d a) s (r + 1) → x < 2147483648 → F_X6_laySmoothRank_L44 K z x1 fu y lf oth sm w (nI (cd c d)) (nI a) (nI x) (nI p) (nI s) (nI (stp d a s)) = K y lf (upd oth p (nI (pk (stp d a) r s x).1)) sm w (nI (cd c (dec d (pk (stp d a) r s x).1))) (nI (pk (stp d a) r s x).1) (nI (pk (stp d a) r s x).2) (nI (p + 1)) := by
  have h486 := wt_486 hc
  have hk := cd_lt hd
  have hsd := sum6_le hd
  have stop : ∀ (s x fu : Nat), s < 6 → x < stp d a s → F_X6_laySmoothRank_L44 K z x1 (fu + 1) y lf oth sm w (nI (cd c d)) (nI a) (nI x) (nI p) (nI s) (nI (stp d a s)) = K y lf (upd oth p (nI s)) sm w (nI (cd c (dec d s))) (nI s) (nI x) (nI (p + 1)) := by
    intro s x fu hs hx
    obtain ⟨h1, h2, h3⟩ := stp_pos (c := d) (a := a) (s := s) (by omega)
    have hle := stp_le (d := d) (a := a) (s := s) (by omega) hs
    have h4 := cd_dec (c := c) (d := d) (s := s) hs h1
    have e3 : cd c d - wt c s = cd c (dec d s) := by omega
    have e6 : w s = nI (wt c s) := hw s hs
    rw [F_X6_laySmoothRank_L44]
    simp (disch := omega) only [↓qM, zq0, zq1, zq2, zq3, zq4, zq5, zq6, zq7, zq8, zq9, zq10, zq11, zq12, zq13, zq14, zq20, zq33, zq48, zq49, zq50, zq57, zq60, zq61, zq78, zq97, zq102, zq126, zq486, zq600, zq2916, zq4200, le_I, lt_I, eq_I, ne_M, lt_M, cl_I, vin_T, gd_tt, nz_T, nI_add, sub_I, m1_M, pk_mul, div_I, Option.bind_some, Option.map_some, if_pos, if_neg, if_true, if_false, Nat.reduceAdd, Nat.reduceMul, Nat.reduceSub, Nat.zero_add, Nat.add_zero, Ret_s, e6, e3]
  intro r
  induction r with
  | zero =>
    intro s fu x h1 h2 hx h3
    obtain ⟨fu, rfl, hf⟩ := fu1 h2
    rw [sumL, sumL] at hx
    exact stop s x fu (by omega) (by omega)
  | succ r ih =>
    intro s fu x h1 h2 hx h3
    obtain ⟨fu, rfl, hf⟩ := fu1 h2
    have hle := stp_le (d := d) (a := a) (s := s) (by omega) (by omega)
    by_cases e : x < stp d a s
    · rw [pk, if_pos e]; exact stop s x fu (by omega) e
    · rw [pk, if_neg e]
      rw [sumL] at hx
      have e1 := rsb_I (s := s + 1) hc hd hb hw ha hR (by omega)
      have e2 := ih (s + 1) fu (x - stp d a s) (by omega) (by omega) (by omega) (by omega)
      rw [F_X6_laySmoothRank_L44]
      simp (disch := omega) only [↓qM, zq0, zq1, zq2, zq3, zq4, zq5, zq6, zq7, zq8, zq9, zq10, zq11, zq12, zq13, zq14, zq20, zq33, zq48, zq49, zq50, zq57, zq60, zq61, zq78, zq97, zq102, zq126, zq486, zq600, zq2916, zq4200, le_I, lt_I, eq_I, ne_M, lt_M, cl_I, vin_T, gd_tt, nz_T, nI_add, sub_I, m1_M, pk_mul, div_I, Option.bind_some, Option.map_some, if_pos, if_neg, if_true, if_false, Nat.reduceAdd, Nat.reduceMul, Nat.reduceSub, Nat.zero_add, Nat.add_zero, Ret_s, e1, e2]
theorem rlsrO_I {n : Nat} {c : Nat → Nat} {g : Nat → Nat} {z lf sm w : Nat → Int32} {y x1 : Int32} (hz : ZI z n g) (hn : n ≤ 11) (hc : sum6 c ≤ 11) (hb : BA c lf) (hw : WA c 6 w) (hR : RB c (wt c 6) sm) : ∀ (r p fu x a : Nat) (d acc : Nat → Nat) (oth : Nat → Int32), p + r = n → r < fu → Le6 d c → sum6 d = r → x < SM d a → a ≤ 6 → RA p acc oth → Ret (F_X6_laySmoothRank_L20 z x1 fu y lf oth sm w (nI (cd c d)) (nI a) (nI x) (nI p)) (fun q => RA n (layS r d a x p acc) q.2.2.1) := by
  intro r
  induction r with
  | zero =>
    intro p fu x a d acc oth h1 h2 hd hs hx ha ho
    obtain ⟨fu, rfl, hf⟩ := fu1 h2
    obtain rfl : p = n := by omega
    rw [F_X6_laySmoothRank_L20]
    simp (disch := omega) only [↓qM, zq0, zq1, zq2, zq3, zq4, zq5, zq6, zq7, zq8, zq9, zq10, zq11, zq12, zq13, zq14, zq20, zq33, zq48, zq49, zq50, zq57, zq60, zq61, zq78, zq97, zq102, zq126, zq486, zq600, zq2916, zq4200, le_I, lt_I, eq_I, ne_M, lt_M, cl_I, vin_T, gd_tt, nz_T, nI_add, sub_I, m1_M, pk_mul, div_I, Option.bind_some, Option.map_some, if_pos, if_neg, if_true, if_false, Nat.reduceAdd, Nat.reduceMul, Nat.reduceSub, Nat.zero_add, Nat.add_zero, Ret_s, hz.n]
    exact ho
  | succ r ih =>
    intro p fu x a d acc oth h1 h2 hd hs hx ha ho
    obtain ⟨fu, rfl, hf⟩ := fu1 h2
    obtain ⟨g1, g2, g3, g4, g5⟩ := layS_step (c := d) (a := a) (x := x) (by omega) hx
    have hle := SM_le (d := d) (a := a) (by omega)
    have e1 := rsb_I (s := 0) hc hd hb hw ha hR (by omega)
    have e2 := rlsrI_I (p := p) (z := z) (oth := oth) (y := y) (x1 := x1) (K := F_X6_laySmoothRank_L20 z x1 fu) hc hd hb hw ha hR (by omega) 5 0 FU x (by omega) (FU_lt (by omega)) (by rw [← SM_rec (by omega)]; exact hx) (by omega)
    have ho1 : RA (p + 1) (gset acc p (pk (stp d a) 5 0 x).1) (upd oth p (nI (pk (stp d a) 5 0 x).1)) := by
      intro j hj
      by_cases e : j = p
      · subst e; rw [upd_s, gset_s]
      · rw [upd_n _ _ e, gset_n _ _ e]; exact ho j (by omega)
    have e9 := ih (p + 1) fu (pk (stp d a) 5 0 x).2 (pk (stp d a) 5 0 x).1 (dec d (pk (stp d a) 5 0 x).1) (gset acc p (pk (stp d a) 5 0 x).1) (upd oth p (nI (pk (stp d a) 5 0 x).1)) (by omega) (by omega) (Le6_dec hd) (by omega) g4 (by omega) ho1
    rw [F_X6_laySmoothRank_L20, layS]
    simp (disch := omega) only [↓qM, zq0, zq1, zq2, zq3, zq4, zq5, zq6, zq7, zq8, zq9, zq10, zq11, zq12, zq13, zq14, zq20, zq33, zq48, zq49, zq50, zq57, zq60, zq61, zq78, zq97, zq102, zq126, zq486, zq600, zq2916, zq4200, le_I, lt_I, eq_I, ne_M, lt_M, cl_I, vin_T, gd_tt, nz_T, nI_add, sub_I, m1_M, pk_mul, div_I, Option.bind_some, Option.map_some, if_pos, if_neg, if_true, if_false, Nat.reduceAdd, Nat.reduceMul, Nat.reduceSub, Nat.zero_add, Nat.add_zero, Ret_s, hz.n, e1, e2]
    exact e9
theorem rlsr_I {n x : Nat} {g : Nat → Nat} {z lf oth sm w : Nat → Int32} {cc : Int32} (hz : ZI z n g) (hn : n ≤ 11) (hg : RG n g) (hx : x < SM (cF g n 0) 6) : Ret (F_X6_laySmoothRank cc lf oth sm w z (nI x)) (fun q => RA n (gls g n x) q.2.2.1) := by
  obtain ⟨lf', sm', w', e1, hb, hw, hR⟩ := rls_I (cc := cc) (lf := lf) (sm := sm) (w := w) hz hn hg
  have hs : sum6 (cF g n 0) = n := sum6_cnt hg n 0 (by omega)
  have h486 := wt_486 (c := cF g n 0) (by omega)
  have h1 := cd_self (c := cF g n 0)
  have h3 : wt (cF g n 0) 6 - 1 = cd (cF g n 0) (cF g n 0) := by omega
  have k := rlsrO_I (y := nI (wt (cF g n 0) 6)) (x1 := nI x) hz hn (by omega) hb hw hR n 0 FU x 6 (cF g n 0) (fun _ => 0) oth (by omega) (FU_lt (by omega)) (fun _ _ => Nat.le_refl _) hs hx (by omega) (fun i hi => absurd hi (by omega))
  unfold F_X6_laySmoothRank
  simp (disch := omega) only [↓qM, zq0, zq1, zq2, zq3, zq4, zq5, zq6, zq7, zq8, zq9, zq10, zq11, zq12, zq13, zq14, zq20, zq33, zq48, zq49, zq50, zq57, zq60, zq61, zq78, zq97, zq102, zq126, zq486, zq600, zq2916, zq4200, le_I, lt_I, eq_I, ne_M, lt_M, cl_I, vin_T, gd_tt, nz_T, nI_add, sub_I, m1_M, pk_mul, div_I, Option.bind_some, Option.map_some, if_pos, if_neg, if_true, if_false, Nat.reduceAdd, Nat.reduceMul, Nat.reduceSub, Nat.zero_add, Nat.add_zero, Ret_s, e1, h3]
  exact k
