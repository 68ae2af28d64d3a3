/-! looks: the reference's, and what is left of the class's -/
theorem runlikeL_I {c : Nat → Nat} {z o : Nat → Int32} (h : BA c o) (hb : ∀ s, s < 6 → c s < 2147483648) : ∀ (d i x fu : Nat), i + d = 6 → d < fu → F_X6_unlike_L8 z fu o (nI x) (nI i) = some (nI (x + sumL (fun t => b2n (0 < c t)) i d), o) := by
  intro d
  induction d with
  | zero =>
    intro i x fu h1 h2
    obtain ⟨fu, rfl, hf⟩ := fu1 h2
    rw [F_X6_unlike_L8]
    simp (disch := omega) only [↓qM, zq0, zq1, zq2, zq3, zq4, zq5, zq6, zq7, zq8, zq9, zq10, zq11, zq12, zq13, zq14, zq20, zq33, zq48, zq49, zq50, zq57, zq60, zq61, zq78, zq97, zq102, zq126, zq486, zq600, zq2916, zq4200, le_I, lt_I, eq_I, ne_M, lt_M, cl_I, vin_T, gd_tt, nz_T, nI_add, sub_I, m1_M, pk_mul, div_I, Option.bind_some, Option.map_some, if_pos, if_neg, if_true, if_false, Nat.reduceAdd, Nat.reduceMul, Nat.reduceSub, Nat.zero_add, Nat.add_zero, Ret_s, sumL]
  | succ d ih =>
    intro i x fu h1 h2
    obtain ⟨fu, rfl, hf⟩ := fu1 h2
    have hbi := hb i (by omega)
    have k := ih (i + 1) (x + b2n (0 < c i)) fu (by omega) (by omega)
    rw [F_X6_unlike_L8]
    by_cases e : 0 < c i
    · rw [b2n_t e] at k
      simp (disch := omega) only [↓qM, zq0, zq1, zq2, zq3, zq4, zq5, zq6, zq7, zq8, zq9, zq10, zq11, zq12, zq13, zq14, zq20, zq33, zq48, zq49, zq50, zq57, zq60, zq61, zq78, zq97, zq102, zq126, zq486, zq600, zq2916, zq4200, le_I, lt_I, eq_I, ne_M, lt_M, cl_I, vin_T, gd_tt, nz_T, nI_add, sub_I, m1_M, pk_mul, div_I, Option.bind_some, Option.map_some, if_pos, if_neg, if_true, if_false, Nat.reduceAdd, Nat.reduceMul, Nat.reduceSub, Nat.zero_add, Nat.add_zero, Ret_s, h.at, k, sumL, b2n_t e, Nat.add_assoc]
    · rw [b2n_f e, Nat.add_zero] at k
      simp (disch := omega) only [↓qM, zq0, zq1, zq2, zq3, zq4, zq5, zq6, zq7, zq8, zq9, zq10, zq11, zq12, zq13, zq14, zq20, zq33, zq48, zq49, zq50, zq57, zq60, zq61, zq78, zq97, zq102, zq126, zq486, zq600, zq2916, zq4200, le_I, lt_I, eq_I, ne_M, lt_M, cl_I, vin_T, gd_tt, nz_T, nI_add, sub_I, m1_M, pk_mul, div_I, Option.bind_some, Option.map_some, if_pos, if_neg, if_true, if_false, Nat.reduceAdd, Nat.reduceMul, Nat.reduceSub, Nat.zero_add, Nat.add_zero, Ret_s, h.at, k, sumL, b2n_f e]
theorem runlike_I {z o : Nat → Int32} {n : Nat} {g : Nat → Nat} (hz : ZI z n g) (hn : n ≤ 11) (hg : RG n g) : ∃ o', F_X6_unlike o z = some (nI (sumL (fun s => b2n (0 < cF g n 0 s)) 0 6), o') := by
  obtain ⟨o1, e1, h1⟩ := countAll_I (o := o) hz hn hg
  have hs : sum6 (cF g n 0) = n := sum6_cnt hg n 0 (by omega)
  have e2 := runlikeL_I (z := z) h1 (fun s hs2 => Nat.lt_of_le_of_lt (le_sum6 (c := cF g n 0) hs2) (by omega)) 6 0 0 FU (by omega) (FU_lt (by omega))
  rw [Nat.zero_add] at e2
  refine ⟨o1, ?_⟩
  unfold F_X6_unlike
  simp (disch := omega) only [↓qM, zq0, zq1, zq2, zq3, zq4, zq5, zq6, zq7, zq8, zq9, zq10, zq11, zq12, zq13, zq14, zq20, zq33, zq48, zq49, zq50, zq57, zq60, zq61, zq78, zq97, zq102, zq126, zq486, zq600, zq2916, zq4200, le_I, lt_I, eq_I, ne_M, lt_M, cl_I, vin_T, gd_tt, nz_T, nI_add, sub_I, m1_M, pk_mul, div_I, Option.bind_some, Option.map_some, if_pos, if_neg, if_true, if_false, Nat.reduceAdd, Nat.reduceMul, Nat.reduceSub, Nat.zero_add, Nat.add_zero, Ret_s, e1, e2]
theorem rinvI_I {n p : Nat} {g : Nat → Nat} {z : Nat → Int32} {K : Int32 → Int32 → Option Int32} (hn : n ≤ 11) (hg : RG n g) (hz : ZI z n g) (hp : p < n) : ∀ (d q x fu : Nat), q + d = n → d < fu → F_X6_inversions_L18 K z fu (nI x) (nI p) (nI q) = K (nI (x + sumL (fun q => b2n (g q < g p)) q d)) (nI (p + 1)) := by
  intro d
  induction d with
  | zero =>
    intro q x fu h1 h2
    obtain ⟨fu, rfl, hf⟩ := fu1 h2
    rw [F_X6_inversions_L18]
    simp (disch := omega) only [↓qM, zq0, zq1, zq2, zq3, zq4, zq5, zq6, zq7, zq8, zq9, zq10, zq11, zq12, zq13, zq14, zq20, zq33, zq48, zq49, zq50, zq57, zq60, zq61, zq78, zq97, zq102, zq126, zq486, zq600, zq2916, zq4200, le_I, lt_I, eq_I, ne_M, lt_M, cl_I, vin_T, gd_tt, nz_T, nI_add, sub_I, m1_M, pk_mul, div_I, Option.bind_some, Option.map_some, if_pos, if_neg, if_true, if_false, Nat.reduceAdd, Nat.reduceMul, Nat.reduceSub, Nat.zero_add, Nat.add_zero, Ret_s, hz.n, sumL]
  | succ d ih =>
    intro q x fu h1 h2
    obtain ⟨fu, rfl, hf⟩ := fu1 h2
    have hgi := hg p hp
    have hgi2 := hg q (by omega)
    have k := ih (q + 1) (x + b2n (g q < g p)) fu (by omega) (by omega)
    rw [F_X6_inversions_L18]
    by_cases e : g q < g p
    · rw [b2n_t e] at k
      simp (disch := omega) only [↓qM, zq0, zq1, zq2, zq3, zq4, zq5, zq6, zq7, zq8, zq9, zq10, zq11, zq12, zq13, zq14, zq20, zq33, zq48, zq49, zq50, zq57, zq60, zq61, zq78, zq97, zq102, zq126, zq486, zq600, zq2916, zq4200, le_I, lt_I, eq_I, ne_M, lt_M, cl_I, vin_T, gd_tt, nz_T, nI_add, sub_I, m1_M, pk_mul, div_I, Option.bind_some, Option.map_some, if_pos, if_neg, if_true, if_false, Nat.reduceAdd, Nat.reduceMul, Nat.reduceSub, Nat.zero_add, Nat.add_zero, Ret_s, hz.n, hz.g, k, sumL, b2n_t e, Nat.add_assoc]
    · rw [b2n_f e, Nat.add_zero] at k
      simp (disch := omega) only [↓qM, zq0, zq1, zq2, zq3, zq4, zq5, zq6, zq7, zq8, zq9, zq10, zq11, zq12, zq13, zq14, zq20, zq33, zq48, zq49, zq50, zq57, zq60, zq61, zq78, zq97, zq102, zq126, zq486, zq600, zq2916, zq4200, le_I, lt_I, eq_I, ne_M, lt_M, cl_I, vin_T, gd_tt, nz_T, nI_add, sub_I, m1_M, pk_mul, div_I, Option.bind_some, Option.map_some, if_pos, if_neg, if_true, if_false, Nat.reduceAdd, Nat.reduceMul, Nat.reduceSub, Nat.zero_add, Nat.add_zero, Ret_s, hz.n, hz.g, k, sumL, b2n_f e]
theorem rinvO_I {n : Nat} {g : Nat → Nat} {z : Nat → Int32} (hn : n ≤ 11) (hg : RG n g) (hz : ZI z n g) : ∀ (d p x fu : Nat), p + d = n → d < fu → F_X6_inversions_L4 z fu (nI x) (nI p) = some (nI (x + sumL (fun p => sumL (fun q => b2n (g q < g p)) (p + 1) (n - (p + 1))) p d)) := by
  intro d
  induction d with
  | zero =>
    intro p x fu h1 h2
    obtain ⟨fu, rfl, hf⟩ := fu1 h2
    rw [F_X6_inversions_L4]
    simp (disch := omega) only [↓qM, zq0, zq1, zq2, zq3, zq4, zq5, zq6, zq7, zq8, zq9, zq10, zq11, zq12, zq13, zq14, zq20, zq33, zq48, zq49, zq50, zq57, zq60, zq61, zq78, zq97, zq102, zq126, zq486, zq600, zq2916, zq4200, le_I, lt_I, eq_I, ne_M, lt_M, cl_I, vin_T, gd_tt, nz_T, nI_add, sub_I, m1_M, pk_mul, div_I, Option.bind_some, Option.map_some, if_pos, if_neg, if_true, if_false, Nat.reduceAdd, Nat.reduceMul, Nat.reduceSub, Nat.zero_add, Nat.add_zero, Ret_s, hz.n, sumL]
  | succ d ih =>
    intro p x fu h1 h2
    obtain ⟨fu, rfl, hf⟩ := fu1 h2
    have k := rinvI_I (K := F_X6_inversions_L4 z fu) hn hg hz (p := p) (by omega) (n - (p + 1)) (p + 1) x FU (by omega) (FU_lt (by omega))
    have k2 := ih (p + 1) (x + sumL (fun q => b2n (g q < g p)) (p + 1) (n - (p + 1))) fu (by omega) (by omega)
    rw [F_X6_inversions_L4]
    simp (disch := omega) only [↓qM, zq0, zq1, zq2, zq3, zq4, zq5, zq6, zq7, zq8, zq9, zq10, zq11, zq12, zq13, zq14, zq20, zq33, zq48, zq49, zq50, zq57, zq60, zq61, zq78, zq97, zq102, zq126, zq486, zq600, zq2916, zq4200, le_I, lt_I, eq_I, ne_M, lt_M, cl_I, vin_T, gd_tt, nz_T, nI_add, sub_I, m1_M, pk_mul, div_I, Option.bind_some, Option.map_some, if_pos, if_neg, if_true, if_false, Nat.reduceAdd, Nat.reduceMul, Nat.reduceSub, Nat.zero_add, Nat.add_zero, Ret_s, hz.n, k, k2, sumL, Nat.add_assoc]
theorem rinversions_I {n : Nat} {g : Nat → Nat} {z : Nat → Int32} (hn : n ≤ 11) (hg : RG n g) (hz : ZI z n g) : F_X6_inversions z = some (nI (ginv g n)) := by
  unfold F_X6_inversions
  have := rinvO_I hn hg hz n 0 0 FU (by omega) (FU_lt (by omega))
  rw [Nat.zero_add] at this
  simp (disch := omega) only [↓qM, zq0, zq1, zq2, zq3, zq4, zq5, zq6, zq7, zq8, zq9, zq10, zq11, zq12, zq13, zq14, zq20, zq33, zq48, zq49, zq50, zq57, zq60, zq61, zq78, zq97, zq102, zq126, zq486, zq600, zq2916, zq4200, le_I, lt_I, eq_I, ne_M, lt_M, cl_I, vin_T, gd_tt, nz_T, nI_add, sub_I, m1_M, pk_mul, div_I, Option.bind_some, Option.map_some, if_pos, if_neg, if_true, if_false, Nat.reduceAdd, Nat.reduceMul, Nat.reduceSub, Nat.zero_add, Nat.add_zero, Ret_s]
  exact this
theorem gdes_last {g : Nat → Nat} {n : Nat} (f : Nat → Nat) : ∀ (d p : Nat), p + d + 1 = n → sumL (fun p => gdes g n p * f p) p (d + 1) = sumL (fun p => gdes g n p * f p) p d := by
  intro d p h
  rw [sumL_last]
  have : gdes g n (p + d) = 0 := by unfold gdes; rw [if_neg (by omega)]
  rw [this, Nat.zero_mul, Nat.add_zero]
theorem rdesL_I {n w : Nat} {g : Nat → Nat} {z : Nat → Int32} (hn : n ≤ 11) (hg : RG n g) (hz : ZI z n g) (hw : w ≤ 1) : ∀ (d p x fu : Nat), p + d + 1 = n → d < fu → F_X6_descents_L4 z (nI w) fu (nI x) (nI p) = some (nI (x + sumL (fun p => gdes g n p * (if w = 0 then 1 else p + 1)) p d)) := by
  intro d
  induction d with
  | zero =>
    intro p x fu h1 h2
    obtain ⟨fu, rfl, hf⟩ := fu1 h2
    rw [F_X6_descents_L4]
    simp (disch := omega) only [↓qM, zq0, zq1, zq2, zq3, zq4, zq5, zq6, zq7, zq8, zq9, zq10, zq11, zq12, zq13, zq14, zq20, zq33, zq48, zq49, zq50, zq57, zq60, zq61, zq78, zq97, zq102, zq126, zq486, zq600, zq2916, zq4200, le_I, lt_I, eq_I, ne_M, lt_M, cl_I, vin_T, gd_tt, nz_T, nI_add, sub_I, m1_M, pk_mul, div_I, Option.bind_some, Option.map_some, if_pos, if_neg, if_true, if_false, Nat.reduceAdd, Nat.reduceMul, Nat.reduceSub, Nat.zero_add, Nat.add_zero, Ret_s, hz.n, sumL]
  | succ d ih =>
    intro p x fu h1 h2
    obtain ⟨fu, rfl, hf⟩ := fu1 h2
    have hgi := hg p (by omega)
    have hgi2 := hg (p + 1) (by omega)
    have hg3 : gdes g n p = b2n (g (p + 1) < g p) := by unfold gdes; rw [if_pos (by omega)]
    have e5 : 2 + p + 1 = 2 + (p + 1) := by omega
    have k := ih (p + 1) (x + gdes g n p * (if w = 0 then 1 else p + 1)) fu (by omega) (by omega)
    rw [F_X6_descents_L4]
    unfold F_X6_descents_J42
    by_cases e : g (p + 1) < g p
    · rw [hg3, b2n_t e, Nat.one_mul] at k
      by_cases ew : w = 0
      · rw [if_pos ew] at k
        simp (disch := omega) only [↓qM, zq0, zq1, zq2, zq3, zq4, zq5, zq6, zq7, zq8, zq9, zq10, zq11, zq12, zq13, zq14, zq20, zq33, zq48, zq49, zq50, zq57, zq60, zq61, zq78, zq97, zq102, zq126, zq486, zq600, zq2916, zq4200, le_I, lt_I, eq_I, ne_M, lt_M, cl_I, vin_T, gd_tt, nz_T, nI_add, sub_I, m1_M, pk_mul, div_I, Option.bind_some, Option.map_some, if_pos, if_neg, if_true, if_false, Nat.reduceAdd, Nat.reduceMul, Nat.reduceSub, Nat.zero_add, Nat.add_zero, Ret_s, hz.n, e5, hz.g, sumL, hg3, b2n_t e, Nat.one_mul]
        rw [k, Nat.add_assoc]
        subst ew
        rfl
      · rw [if_neg ew] at k
        simp (disch := omega) only [↓qM, zq0, zq1, zq2, zq3, zq4, zq5, zq6, zq7, zq8, zq9, zq10, zq11, zq12, zq13, zq14, zq20, zq33, zq48, zq49, zq50, zq57, zq60, zq61, zq78, zq97, zq102, zq126, zq486, zq600, zq2916, zq4200, le_I, lt_I, eq_I, ne_M, lt_M, cl_I, vin_T, gd_tt, nz_T, nI_add, sub_I, m1_M, pk_mul, div_I, Option.bind_some, Option.map_some, if_pos, if_neg, if_true, if_false, Nat.reduceAdd, Nat.reduceMul, Nat.reduceSub, Nat.zero_add, Nat.add_zero, Ret_s, hz.n, e5, hz.g, sumL, hg3, b2n_t e, Nat.one_mul]
        simp only [if_neg ew] at k
        rw [k, Nat.add_assoc]
    · rw [hg3, b2n_f e, Nat.zero_mul, Nat.add_zero] at k
      simp (disch := omega) only [↓qM, zq0, zq1, zq2, zq3, zq4, zq5, zq6, zq7, zq8, zq9, zq10, zq11, zq12, zq13, zq14, zq20, zq33, zq48, zq49, zq50, zq57, zq60, zq61, zq78, zq97, zq102, zq126, zq486, zq600, zq2916, zq4200, le_I, lt_I, eq_I, ne_M, lt_M, cl_I, vin_T, gd_tt, nz_T, nI_add, sub_I, m1_M, pk_mul, div_I, Option.bind_some, Option.map_some, if_pos, if_neg, if_true, if_false, Nat.reduceAdd, Nat.reduceMul, Nat.reduceSub, Nat.zero_add, Nat.add_zero, Ret_s, hz.n, e5, hz.g, sumL, hg3, b2n_f e, Nat.zero_mul]
      exact k
theorem rdescents_I {n w : Nat} {g : Nat → Nat} {z : Nat → Int32} (h0 : 1 ≤ n) (hn : n ≤ 11) (hg : RG n g) (hz : ZI z n g) (hw : w ≤ 1) : F_X6_descents z (nI w) = some (nI (sumL (fun p => gdes g n p * (if w = 0 then 1 else p + 1)) 0 n)) := by
  have e := rdesL_I hn hg hz hw (n - 1) 0 0 FU (by omega) (FU_lt (by omega))
  have e2 := gdes_last (g := g) (n := n) (fun p => if w = 0 then 1 else p + 1) (n - 1) 0 (by omega)
  rw [show n - 1 + 1 = n by omega] at e2
  rw [Nat.zero_add, ← e2] at e
  unfold F_X6_descents
  simp (disch := omega) only [↓qM, zq0, zq1, zq2, zq3, zq4, zq5, zq6, zq7, zq8, zq9, zq10, zq11, zq12, zq13, zq14, zq20, zq33, zq48, zq49, zq50, zq57, zq60, zq61, zq78, zq97, zq102, zq126, zq486, zq600, zq2916, zq4200, le_I, lt_I, eq_I, ne_M, lt_M, cl_I, vin_T, gd_tt, nz_T, nI_add, sub_I, m1_M, pk_mul, div_I, Option.bind_some, Option.map_some, if_pos, if_neg, if_true, if_false, Nat.reduceAdd, Nat.reduceMul, Nat.reduceSub, Nat.zero_add, Nat.add_zero, Ret_s]
  exact e
-- the digit
def tb (m s : Nat) : Nat := m / 2 ^ s % 2
def sb (m s : Nat) : Nat := if tb m s = 1 then m else m + 2 ^ s
theorem tb_I : ∀ m, m < 64 → ∀ s, s < 6 → ((nI m >>> (nI s &&& 31)) &&& nI 1) = nI (tb m s) := by decide +kernel
theorem sb_I : ∀ m, m < 64 → ∀ s, s < 6 → (nI m ||| (nI 1 <<< (nI s &&& 31))) = nI (sb m s) := by decide +kernel
theorem sb_lt : ∀ m, m < 64 → ∀ s, s < 6 → sb m s < 64 := by decide +kernel
theorem tb_sb : ∀ m, m < 64 → ∀ s, s < 6 → ∀ t, t < 6 → tb (sb m s) t = if t = s then 1 else tb m t := by decide +kernel
theorem tb_le (m s : Nat) : tb m s ≤ 1 := by unfold tb; omega
theorem seen_inc {c : Nat → Nat} {s : Nat} : ∀ k, sumL (fun t => b2n (0 < inc c s t)) 0 k = sumL (fun t => b2n (0 < c t)) 0 k + b2n (s < k ∧ c s = 0) := by
  intro k
  induction k with
  | zero => rw [b2n_f (by omega)]; rfl
  | succ k ih =>
    rw [sumL_last, sumL_last, ih]
    rw [Nat.zero_add]
    by_cases e : k = s
    · subst e
      rw [b2n_f (by omega), b2n_t (by unfold inc; rw [gset_s]; omega)]
      by_cases e2 : c k = 0
      · rw [b2n_f (by omega), b2n_t (by omega)]
      · rw [b2n_t (by omega), b2n_f (by omega)]
    · have e3 : inc c s k = c k := by unfold inc; rw [gset_n _ _ e]
      rw [e3]
      by_cases e2 : s < k ∧ c s = 0
      · rw [b2n_t e2, b2n_t (p := s < k + 1 ∧ c s = 0) (by omega)]; omega
      · rw [b2n_f e2, b2n_f (p := s < k + 1 ∧ c s = 0) (by omega)]; omega
theorem rdigL_I {n p : Nat} {g : Nat → Nat} {z : Nat → Int32} (hn : n ≤ 11) (hg : RG n g) (hz : ZI z n g) (hp : p < n) : ∀ (d e m fu : Nat), p + e + d = n → d < fu → m < 64 → (∀ s, s < 6 → tb m s = b2n (0 < cnt g p e s)) → F_X6_digitAt_L7 z (nI p) fu (nI m) (nI (sumL (fun t => b2n (0 < cnt g p e t)) 0 (g p))) (nI (p + e)) = some (nI (sumL (fun t => b2n (0 < cF g n p t)) 0 (g p))) := by
  intro d
  induction d with
  | zero =>
    intro e m fu h1 h2 h3 h4
    obtain ⟨fu, rfl, hf⟩ := fu1 h2
    obtain rfl : e = n - p := by omega
    rw [F_X6_digitAt_L7]
    simp (disch := omega) only [↓qM, zq0, zq1, zq2, zq3, zq4, zq5, zq6, zq7, zq8, zq9, zq10, zq11, zq12, zq13, zq14, zq20, zq33, zq48, zq49, zq50, zq57, zq60, zq61, zq78, zq97, zq102, zq126, zq486, zq600, zq2916, zq4200, le_I, lt_I, eq_I, ne_M, lt_M, cl_I, vin_T, gd_tt, nz_T, nI_add, sub_I, m1_M, pk_mul, div_I, Option.bind_some, Option.map_some, if_pos, if_neg, if_true, if_false, Nat.reduceAdd, Nat.reduceMul, Nat.reduceSub, Nat.zero_add, Nat.add_zero, Ret_s, hz.n]
  | succ d ih =>
    intro e m fu h1 h2 h3 h4
    obtain ⟨fu, rfl, hf⟩ := fu1 h2
    have hgi := hg p hp
    have hgi2 := hg (p + e) (by omega)
    have k := ih (e + 1) (sb m (g (p + e))) fu (by omega) (by omega) (sb_lt m h3 _ hgi2) (fun s hs => by
      rw [tb_sb m h3 _ hgi2 s hs, cnt_inc]
      unfold inc
      by_cases e2 : s = g (p + e)
      · rw [if_pos e2, ← e2, gset_s, b2n_t (by omega)]
      · rw [if_neg e2, gset_n _ _ e2]; exact h4 s hs)
    have e6 : sumL (fun t => b2n (0 < cnt g p (e + 1) t)) 0 (g p) = sumL (fun t => b2n (0 < cnt g p e t)) 0 (g p) + b2n (g (p + e) < g p ∧ cnt g p e (g (p + e)) = 0) := by
      rw [← seen_inc]
      exact sumL_ext _ _ (fun j _ _ => by rw [cnt_inc])
    have e7 := tb_I m h3 _ hgi2
    have e8 := sb_I m h3 _ hgi2
    have e9 := h4 (g (p + e)) hgi2
    have e10 := tb_le m (g (p + e))
    have e11 : p + (e + 1) = p + e + 1 := by omega
    rw [e6, e11] at k
    rw [F_X6_digitAt_L7]
    unfold F_X6_digitAt_J57
    by_cases c1 : g (p + e) < g p
    · by_cases c2 : cnt g p e (g (p + e)) = 0
      · rw [b2n_t ⟨c1, c2⟩] at k
        rw [b2n_f (by omega)] at e9
        simp (disch := omega) only [↓qM, zq0, zq1, zq2, zq3, zq4, zq5, zq6, zq7, zq8, zq9, zq10, zq11, zq12, zq13, zq14, zq20, zq33, zq48, zq49, zq50, zq57, zq60, zq61, zq78, zq97, zq102, zq126, zq486, zq600, zq2916, zq4200, le_I, lt_I, eq_I, ne_M, lt_M, cl_I, vin_T, gd_tt, nz_T, nI_add, sub_I, m1_M, pk_mul, div_I, Option.bind_some, Option.map_some, if_pos, if_neg, if_true, if_false, Nat.reduceAdd, Nat.reduceMul, Nat.reduceSub, Nat.zero_add, Nat.add_zero, Ret_s, hz.n, hz.g, e7, e8]
        exact k
      · rw [b2n_f (fun h => c2 h.2)] at k
        rw [b2n_t (by omega)] at e9
        simp (disch := omega) only [↓qM, zq0, zq1, zq2, zq3, zq4, zq5, zq6, zq7, zq8, zq9, zq10, zq11, zq12, zq13, zq14, zq20, zq33, zq48, zq49, zq50, zq57, zq60, zq61, zq78, zq97, zq102, zq126, zq486, zq600, zq2916, zq4200, le_I, lt_I, eq_I, ne_M, lt_M, cl_I, vin_T, gd_tt, nz_T, nI_add, sub_I, m1_M, pk_mul, div_I, Option.bind_some, Option.map_some, if_pos, if_neg, if_true, if_false, Nat.reduceAdd, Nat.reduceMul, Nat.reduceSub, Nat.zero_add, Nat.add_zero, Ret_s, hz.n, hz.g, e7, e8]
        exact k
    · rw [b2n_f (fun h => c1 h.1)] at k
      simp (disch := omega) only [↓qM, zq0, zq1, zq2, zq3, zq4, zq5, zq6, zq7, zq8, zq9, zq10, zq11, zq12, zq13, zq14, zq20, zq33, zq48, zq49, zq50, zq57, zq60, zq61, zq78, zq97, zq102, zq126, zq486, zq600, zq2916, zq4200, le_I, lt_I, eq_I, ne_M, lt_M, cl_I, vin_T, gd_tt, nz_T, nI_add, sub_I, m1_M, pk_mul, div_I, Option.bind_some, Option.map_some, if_pos, if_neg, if_true, if_false, Nat.reduceAdd, Nat.reduceMul, Nat.reduceSub, Nat.zero_add, Nat.add_zero, Ret_s, hz.n, hz.g, e7, e8]
      exact k
theorem rdigit_I {n p : Nat} {g : Nat → Nat} {z : Nat → Int32} (hn : n ≤ 11) (hg : RG n g) (hz : ZI z n g) (hp : p < n) : F_X6_digitAt z (nI p) = some (nI (sumL (fun t => b2n (0 < cF g n p t)) 0 (g p))) := by
  have k := rdigL_I hn hg hz hp (n - p) 0 0 FU (by omega) (FU_lt (by omega)) (by omega) (fun s hs => by rw [cnt_0, b2n_f (by omega)]; unfold tb; rw [Nat.zero_div])
  have e : sumL (fun t => b2n (0 < cnt g p 0 t)) 0 (g p) = 0 := by
    have := sumL_ext (f := fun t => b2n (0 < cnt g p 0 t)) (h := fun _ => 0) (g p) 0 (fun j _ _ => by rw [cnt_0]; exact b2n_f (by omega))
    rw [this]
    have := sumL_le (f := fun _ => 0) (b := 0) (fun _ => Nat.le_refl 0) (g p) 0
    omega
  rw [e] at k
  unfold F_X6_digitAt
  simp (disch := omega) only [↓qM, zq0, zq1, zq2, zq3, zq4, zq5, zq6, zq7, zq8, zq9, zq10, zq11, zq12, zq13, zq14, zq20, zq33, zq48, zq49, zq50, zq57, zq60, zq61, zq78, zq97, zq102, zq126, zq486, zq600, zq2916, zq4200, le_I, lt_I, eq_I, ne_M, lt_M, cl_I, vin_T, gd_tt, nz_T, nI_add, sub_I, m1_M, pk_mul, div_I, Option.bind_some, Option.map_some, if_pos, if_neg, if_true, if_false, Nat.reduceAdd, Nat.reduceMul, Nat.reduceSub, Nat.zero_add, Nat.add_zero, Ret_s]
  exact k
theorem digit_I {n p : Nat} {g : Nat → Nat} {a o : Nat → Int32} {t : Int32} (hn : n ≤ 11) (hg : RG n g) (h : RA n g a) (hp : p < n) : Ret (F_X5_digit t o (nI n) a (nI p)) (fun r => r.1 = nI (sumL (fun t => b2n (0 < cF g n p t)) 0 (g p))) := by
  obtain ⟨o1, e1, h1⟩ := fill_I (k := p) (o := o) (t := t) hn hg h (by omega)
  have hgp := hg p hp
  have hs : sum6 (cF g n p) = n - p := sum6_cnt hg (n - p) p (by omega)
  have e2 := unlikeB_I h1 (s := g p) (fun s hs2 => Nat.lt_of_le_of_lt (le_sum6 (c := cF g n p) hs2) (by omega)) (by omega)
  have e3 := place_I hp hn
  unfold F_X5_digit
  simp (disch := omega) only [↓qM, zq0, zq1, zq2, zq3, zq4, zq5, zq6, zq7, zq8, zq9, zq10, zq11, zq12, zq13, zq14, zq20, zq33, zq48, zq49, zq50, zq57, zq60, zq61, zq78, zq97, zq102, zq126, zq486, zq600, zq2916, zq4200, le_I, lt_I, eq_I, ne_M, lt_M, cl_I, vin_T, gd_tt, nz_T, nI_add, sub_I, m1_M, pk_mul, div_I, Option.bind_some, Option.map_some, if_pos, if_neg, if_true, if_false, Nat.reduceAdd, Nat.reduceMul, Nat.reduceSub, Nat.zero_add, Nat.add_zero, Ret_s, e3, e1, at_J h hn, e2]
-- turned, swapped
theorem rturnedL_I {n : Nat} {g G : Nat → Nat} {z : Nat → Int32} (hn : n ≤ 11) (hg : RG n g) (hG : RG n G) (hz : ZI z n g) (hc : ∀ s, s < 6 → cF g n 0 s = cF G n 0 s) (hG2 : ∀ i, i < n → G i = g (n - 1 - i)) : ∀ (d i fu : Nat) (lf a : Nat → Int32), i + d = n → d < fu → RA i G a → Ret (F_X6_turnedRank_L2 z fu lf a (nI i)) (fun r => r.1 = nI (rk G n n)) := by
  intro d
  induction d with
  | zero =>
    intro i fu lf a h1 h2 h
    obtain ⟨fu, rfl, hf⟩ := fu1 h2
    obtain rfl : i = n := by omega
    obtain ⟨o1, e1⟩ := rankOther_I (o := lf) hz hn hg hG h hc
    rw [F_X6_turnedRank_L2]
    simp (disch := omega) only [↓qM, zq0, zq1, zq2, zq3, zq4, zq5, zq6, zq7, zq8, zq9, zq10, zq11, zq12, zq13, zq14, zq20, zq33, zq48, zq49, zq50, zq57, zq60, zq61, zq78, zq97, zq102, zq126, zq486, zq600, zq2916, zq4200, le_I, lt_I, eq_I, ne_M, lt_M, cl_I, vin_T, gd_tt, nz_T, nI_add, sub_I, m1_M, pk_mul, div_I, Option.bind_some, Option.map_some, if_pos, if_neg, if_true, if_false, Nat.reduceAdd, Nat.reduceMul, Nat.reduceSub, Nat.zero_add, Nat.add_zero, Ret_s, hz.n, e1]
  | succ d ih =>
    intro i fu lf a h1 h2 h
    obtain ⟨fu, rfl, hf⟩ := fu1 h2
    have h3 : RA (i + 1) G (upd a i (nI (G i))) := by
      intro j hj
      by_cases e : j = i
      · subst e; rw [upd_s]
      · rw [upd_n _ _ e]; exact h j (by omega)
    have k := ih (i + 1) fu lf (upd a i (nI (G i))) (by omega) (by omega) h3
    have e5 : 2 + n - 1 - i = 2 + (n - 1 - i) := by omega
    rw [F_X6_turnedRank_L2]
    simp (disch := omega) only [↓qM, zq0, zq1, zq2, zq3, zq4, zq5, zq6, zq7, zq8, zq9, zq10, zq11, zq12, zq13, zq14, zq20, zq33, zq48, zq49, zq50, zq57, zq60, zq61, zq78, zq97, zq102, zq126, zq486, zq600, zq2916, zq4200, le_I, lt_I, eq_I, ne_M, lt_M, cl_I, vin_T, gd_tt, nz_T, nI_add, sub_I, m1_M, pk_mul, div_I, Option.bind_some, Option.map_some, if_pos, if_neg, if_true, if_false, Nat.reduceAdd, Nat.reduceMul, Nat.reduceSub, Nat.zero_add, Nat.add_zero, Ret_s, hz.n, e5, hz.g]
    rw [← hG2 i (by omega)]
    exact k
theorem rturned_I {n : Nat} {g : Nat → Nat} {z lf a : Nat → Int32} (h0 : 1 ≤ n) (hn : n ≤ 11) (hg : RG n g) (hz : ZI z n g) : Ret (F_X6_turnedRank lf a z) (fun r => r.1 = nI (rk (grev 11 g 0 (n - 1)) n n)) := by
  have k := rturnedL_I (G := grev 11 g 0 (n - 1)) hn hg (grev_ok (s := 0) 11 g 0 (n - 1) hg (by omega)).1 hz (fun s _ => ((grev_ok (s := s) 11 g 0 (n - 1) hg (by omega)).2).symm) (fun i hi => by rw [grev_at _ _ _ _ _ (by omega), if_pos (by omega)]; congr 1; omega) n 0 FU lf a (by omega) (FU_lt (by omega)) (fun i hi => absurd hi (by omega))
  unfold F_X6_turnedRank
  simp (disch := omega) only [↓qM, zq0, zq1, zq2, zq3, zq4, zq5, zq6, zq7, zq8, zq9, zq10, zq11, zq12, zq13, zq14, zq20, zq33, zq48, zq49, zq50, zq57, zq60, zq61, zq78, zq97, zq102, zq126, zq486, zq600, zq2916, zq4200, le_I, lt_I, eq_I, ne_M, lt_M, cl_I, vin_T, gd_tt, nz_T, nI_add, sub_I, m1_M, pk_mul, div_I, Option.bind_some, Option.map_some, if_pos, if_neg, if_true, if_false, Nat.reduceAdd, Nat.reduceMul, Nat.reduceSub, Nat.zero_add, Nat.add_zero, Ret_s]
  exact k
theorem RAswap {n p q : Nat} {g : Nat → Nat} {a : Nat → Int32} (h : RA n g a) : RA n (gswap g p q) (upd (upd a p (nI (g q))) q (nI (g p))) := (h.upd p (g q)).upd q (g p)
theorem rswapped_I {n p q : Nat} {g : Nat → Nat} {z lf a : Nat → Int32} (hn : n ≤ 11) (hg : RG n g) (hz : ZI z n g) (hp : p < n) (hq : q < n) : Ret (F_X6_swappedRank lf a z (nI p) (nI q)) (fun r => r.1 = nI (rk (gswap g p q) n n)) := by
  obtain ⟨a1, e1, h1⟩ := copyRow_I (a := a) hz hn
  obtain ⟨o1, e2⟩ := rankOther_I (o := lf) hz hn hg (gswap_RG hg hp hq) (RAswap h1 (p := p) (q := q)) (fun s _ => (cnt_swap hp hq).symm)
  unfold F_X6_swappedRank
  simp (disch := omega) only [↓qM, zq0, zq1, zq2, zq3, zq4, zq5, zq6, zq7, zq8, zq9, zq10, zq11, zq12, zq13, zq14, zq20, zq33, zq48, zq49, zq50, zq57, zq60, zq61, zq78, zq97, zq102, zq126, zq486, zq600, zq2916, zq4200, le_I, lt_I, eq_I, ne_M, lt_M, cl_I, vin_T, gd_tt, nz_T, nI_add, sub_I, m1_M, pk_mul, div_I, Option.bind_some, Option.map_some, if_pos, if_neg, if_true, if_false, Nat.reduceAdd, Nat.reduceMul, Nat.reduceSub, Nat.zero_add, Nat.add_zero, Ret_s, e1, hz.g, e2]
-- ranks of arguments
theorem isRank_I {n x : Nat} {g : Nat → Nat} {z lf : Nat → Int32} (hn : n ≤ 11) (hg : RG n g) (hz : ZI z n g) (hx : x < 2147483648) : ∃ lf', F_X6_isRank lf z (nI x) = some (nI (b2n (x < ways (cF g n 0))), lf') := by
  obtain ⟨o1, e1, -⟩ := allRows_I (o := lf) hz hn hg
  have hw := ways_le (cF g n 0)
  have hs : sum6 (cF g n 0) = n := sum6_cnt hg n 0 (by omega)
  have hfb := (fact_11 (n := sum6 (cF g n 0)) (by omega)).1
  refine ⟨o1, ?_⟩
  unfold F_X6_isRank
  by_cases e : x < ways (cF g n 0)
  · simp (disch := omega) only [↓qM, zq0, zq1, zq2, zq3, zq4, zq5, zq6, zq7, zq8, zq9, zq10, zq11, zq12, zq13, zq14, zq20, zq33, zq48, zq49, zq50, zq57, zq60, zq61, zq78, zq97, zq102, zq126, zq486, zq600, zq2916, zq4200, le_I, lt_I, eq_I, ne_M, lt_M, cl_I, vin_T, gd_tt, nz_T, nI_add, sub_I, m1_M, pk_mul, div_I, Option.bind_some, Option.map_some, if_pos, if_neg, if_true, if_false, Nat.reduceAdd, Nat.reduceMul, Nat.reduceSub, Nat.zero_add, Nat.add_zero, Ret_s, e1, b2n_t e]
  · simp (disch := omega) only [↓qM, zq0, zq1, zq2, zq3, zq4, zq5, zq6, zq7, zq8, zq9, zq10, zq11, zq12, zq13, zq14, zq20, zq33, zq48, zq49, zq50, zq57, zq60, zq61, zq78, zq97, zq102, zq126, zq486, zq600, zq2916, zq4200, le_I, lt_I, eq_I, ne_M, lt_M, cl_I, vin_T, gd_tt, nz_T, nI_add, sub_I, m1_M, pk_mul, div_I, Option.bind_some, Option.map_some, if_pos, if_neg, if_true, if_false, Nat.reduceAdd, Nat.reduceMul, Nat.reduceSub, Nat.zero_add, Nat.add_zero, Ret_s, e1, b2n_f e]
theorem isRankN {x : Int32} {z lf : Nat → Int32} (hx : x < nI 0) : F_X6_isRank lf z x = some (nI 0, lf) := by
  unfold F_X6_isRank
  simp (disch := omega) only [↓qM, zq0, zq1, zq2, zq3, zq4, zq5, zq6, zq7, zq8, zq9, zq10, zq11, zq12, zq13, zq14, zq20, zq33, zq48, zq49, zq50, zq57, zq60, zq61, zq78, zq97, zq102, zq126, zq486, zq600, zq2916, zq4200, le_I, lt_I, eq_I, ne_M, lt_M, cl_I, vin_T, gd_tt, nz_T, nI_add, sub_I, m1_M, pk_mul, div_I, Option.bind_some, Option.map_some, if_pos, if_neg, if_true, if_false, Nat.reduceAdd, Nat.reduceMul, Nat.reduceSub, Nat.zero_add, Nat.add_zero, Ret_s, hx]
theorem needRank_I {n x : Nat} {g : Nat → Nat} {a o : Nat → Int32} {t : Int32} (hn : n ≤ 11) (hg : RG n g) (h : RA n g a) (hx : x < ways (cF g n 0)) : Ret (F_X5_needRank t o (nI n) a (nI x)) (fun _ => True) := by
  obtain ⟨o1, e1, -⟩ := all_I (o := o) (t := t) hn hg h
  have hw := ways_le (cF g n 0)
  have hs : sum6 (cF g n 0) = n := sum6_cnt hg n 0 (by omega)
  have hfb := (fact_11 (n := sum6 (cF g n 0)) (by omega)).1
  unfold F_X5_needRank F_X5_needRank_J17
  simp (disch := omega) only [↓qM, zq0, zq1, zq2, zq3, zq4, zq5, zq6, zq7, zq8, zq9, zq10, zq11, zq12, zq13, zq14, zq20, zq33, zq48, zq49, zq50, zq57, zq60, zq61, zq78, zq97, zq102, zq126, zq486, zq600, zq2916, zq4200, le_I, lt_I, eq_I, ne_M, lt_M, cl_I, vin_T, gd_tt, nz_T, nI_add, sub_I, m1_M, pk_mul, div_I, Option.bind_some, Option.map_some, if_pos, if_neg, if_true, if_false, Nat.reduceAdd, Nat.reduceMul, Nat.reduceSub, Nat.zero_add, Nat.add_zero, Ret_s, e1, need1]
-- blocks
theorem rblock0_I {n k : Nat} {cd : Int32} {g : Nat → Nat} {z lf a sm wg : Nat → Int32} (hn : n ≤ 11) (hg : RG n g) (hz : ZI z n g) (hk : k ≤ n) : Ret (F_X6_blockNow cd lf a sm wg z (nI k) (nI 0)) (fun r => r.1 = nI (rk g n k)) := by
  obtain ⟨a1, e1, h1⟩ := copyRow_I (a := a) hz hn
  obtain ⟨o1, e2, -⟩ := rlow_I (o := lf) (k := k) hz hn hg hg h1 (fun _ _ => rfl) hk
  unfold F_X6_blockNow
  simp (disch := omega) only [↓qM, zq0, zq1, zq2, zq3, zq4, zq5, zq6, zq7, zq8, zq9, zq10, zq11, zq12, zq13, zq14, zq20, zq33, zq48, zq49, zq50, zq57, zq60, zq61, zq78, zq97, zq102, zq126, zq486, zq600, zq2916, zq4200, le_I, lt_I, eq_I, ne_M, lt_M, cl_I, vin_T, gd_tt, nz_T, nI_add, sub_I, m1_M, pk_mul, div_I, Option.bind_some, Option.map_some, if_pos, if_neg, if_true, if_false, Nat.reduceAdd, Nat.reduceMul, Nat.reduceSub, Nat.zero_add, Nat.add_zero, Ret_s, e1, e2]
theorem rblock1_I {n k : Nat} {cd : Int32} {g : Nat → Nat} {z lf a sm wg : Nat → Int32} (hn : n ≤ 11) (hg : RG n g) (hz : ZI z n g) (hk : k ≤ n) : Ret (F_X6_blockNow cd lf a sm wg z (nI k) (nI 1)) (fun r => r.1 = nI (ways (cF g n k))) := by
  obtain ⟨a1, e1, h1⟩ := copyRow_I (a := a) hz hn
  obtain ⟨o1, e2, hb⟩ := rlow_I (o := lf) (k := k) hz hn hg hg h1 (fun _ _ => rfl) hk
  have hs : sum6 (cF g n k) = n - k := sum6_cnt hg (n - k) k (by omega)
  have e3 := rows_I hb (by omega)
  unfold F_X6_blockNow
  simp (disch := omega) only [↓qM, zq0, zq1, zq2, zq3, zq4, zq5, zq6, zq7, zq8, zq9, zq10, zq11, zq12, zq13, zq14, zq20, zq33, zq48, zq49, zq50, zq57, zq60, zq61, zq78, zq97, zq102, zq126, zq486, zq600, zq2916, zq4200, le_I, lt_I, eq_I, ne_M, lt_M, cl_I, vin_T, gd_tt, nz_T, nI_add, sub_I, m1_M, pk_mul, div_I, Option.bind_some, Option.map_some, if_pos, if_neg, if_true, if_false, Nat.reduceAdd, Nat.reduceMul, Nat.reduceSub, Nat.zero_add, Nat.add_zero, Ret_s, e1, e2, e3]
