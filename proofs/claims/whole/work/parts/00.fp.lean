/-! doubles from 0 to below 1: what a quotient of two small numbers is, doubled, less one, its bits -/
theorem fp_ratio {r N : Nat} (h0 : 0 < r) (h1 : r < N) (h2 : N ≤ 39916800) : ∃ (c k : Nat), FP.Core.roundRatio FP.Core.b64 false r N 0 = .fin false c (-52 - (k : Int)) ∧ 4503599627370496 ≤ c ∧ c < 9007199254740992 ∧ k ≤ 26 := by
  have hB : 0 < N := by omega
  have a1 := FP.Core.quantum_not_below (f := FP.Core.b64) h0 hB 0
  have a2 := FP.Core.quantum_below (f := FP.Core.b64) h0 hB 0
  have a3 := FP.Core.nearest_units_le (f := FP.Core.b64) h0 hB 0
  have b1 : FP.Core.Below r N 0 := by
    show r * 2 ^ 0 < N * 2 ^ 0
    omega
  have b2 : ¬ FP.Core.Below r N (-26) := by
    show ¬ (r * 2 ^ 26 < N * 2 ^ 0)
    omega
  have e : FP.Core.roundRatio FP.Core.b64 false r N 0 = FP.Core.roundAt FP.Core.b64 false r N 0 (FP.Core.quantum FP.Core.b64 r N 0) := if_neg (by omega)
  rw [e]
  unfold FP.Core.roundAt
  generalize hq : FP.Core.quantum FP.Core.b64 r N 0 = q at a1 a2 a3 ⊢
  have p53 : ((FP.Core.b64.p : Nat) : Int) = 53 := rfl
  have qm : FP.Core.b64.qmin = -1074 := by decide
  have qM : FP.Core.b64.qmax = 971 := by decide
  rw [p53] at a1 a2
  rw [qm] at a1
  have c1 := FP.Core.lt_of_below b2 a2
  have a4 : ¬ FP.Core.Below r N (q - 0 + (53 - 1)) := by
    rcases a1 with h | h
    · omega
    · exact h
  have c2 := FP.Core.lt_of_below a4 b1
  have a5 : 2 ^ 52 ≤ FP.Core.nearest (FP.Core.unitsNum r 0 q) (FP.Core.unitsDen N 0 q) := by
    refine FP.Core.nearest_ge (FP.Core.unitsDen_pos hB ..) (Nat.le_of_not_lt fun h => a4 ?_)
    have := (FP.Core.units_below r N 0 q 52).mp h
    exact this
  have a6 : FP.Core.nearest (FP.Core.unitsNum r 0 q) (FP.Core.unitsDen N 0 q) ≤ 2 ^ 53 := a3
  generalize FP.Core.nearest (FP.Core.unitsNum r 0 q) (FP.Core.unitsDen N 0 q) = m at a5 a6 ⊢
  unfold FP.Core.settle FP.Core.bound
  by_cases hm : m < 2 ^ 53
  · refine ⟨m, (-52 - q).toNat, ?_, a5, hm, by omega⟩
    rw [if_pos (show m < 2 ^ FP.Core.b64.p from hm), if_pos (by omega)]
    congr 1
    omega
  · refine ⟨4503599627370496, (-53 - q).toNat, ?_, by decide, by decide, by omega⟩
    rw [if_neg (show ¬ m < 2 ^ FP.Core.b64.p from hm), if_pos (by omega)]
    rw [show FP.Core.b64.tails = 4503599627370496 from by decide]
    congr 1
    omega
theorem fp_pow (x : Int) : 0 < 2 ^ x.toNat := Nat.two_pow_pos _
theorem fp_div {a b : Int32} {r N : Nat} (ha : a.toInt = r) (hb : b.toInt = N) (h0 : 0 < r) (h1 : r < N) (h2 : N ≤ 39916800) : ∃ (c k : Nat), FP.Core.val64 (FP.ddiv (FP.i2d a) (FP.i2d b)) = .fin false c (-52 - (k : Int)) ∧ 4503599627370496 ≤ c ∧ c < 9007199254740992 ∧ k ≤ 26 := by
  have w1 : FP.Core.Whole a.toInt (FP.Core.val64 (FP.i2d a)) := FP.Core.i2d_int a
  have w2 : FP.Core.Whole b.toInt (FP.Core.val64 (FP.i2d b)) := FP.Core.i2d_int b
  have e := FP.Core.val64_ddiv (FP.i2d a) (FP.i2d b)
  rw [ha] at w1
  rw [hb] at w2
  cases hx : FP.Core.val64 (FP.i2d a) with
  | nan => rw [hx] at w1; exact w1.elim
  | inf s => rw [hx] at w1; exact w1.elim
  | fin s c q =>
    cases hy : FP.Core.val64 (FP.i2d b) with
    | nan => rw [hy] at w2; exact w2.elim
    | inf s => rw [hy] at w2; exact w2.elim
    | fin t d q2 =>
      rw [hx] at w1
      rw [hy] at w2
      have s1 := FP.Core.whole_sign w1 (by omega)
      have s2 := FP.Core.whole_sign w2 (by omega)
      have z2 := FP.Core.whole_zero w2
      have n1 := FP.Core.whole_natAbs w1
      have n2 := FP.Core.whole_natAbs w2
      rw [Int.natAbs_natCast] at n1 n2
      rw [decide_eq_false (by omega)] at s1 s2
      subst s1 s2
      rw [hx, hy] at e
      have e2 : FP.Core.quotient FP.Core.b64 (.fin false c q) (.fin false d q2) = FP.Core.roundRatio FP.Core.b64 false c d (q - q2) := if_neg (by omega)
      have e3 : FP.Core.roundRatio FP.Core.b64 false c d (q - q2) = FP.Core.roundRatio FP.Core.b64 false r N 0 := by
        refine FP.Core.roundRatio_congr (by omega) (by omega) ?_
        have p1 := fp_pow q
        have p2 := fp_pow (-q2)
        have e4 : 2 ^ (q - q2 - 0).toNat * (2 ^ (-q).toNat * 2 ^ q2.toNat) = 2 ^ (0 - (q - q2)).toNat * (2 ^ q.toNat * 2 ^ (-q2).toNat) := by
          rw [← Nat.pow_add, ← Nat.pow_add, ← Nat.pow_add, ← Nat.pow_add]
          congr 1
          omega
        refine Nat.eq_of_mul_eq_mul_right (Nat.mul_pos p1 p2) ?_
        calc c * N * 2 ^ (q - q2 - 0).toNat * (2 ^ q.toNat * 2 ^ (-q2).toNat) = (c * 2 ^ q.toNat) * (N * 2 ^ (-q2).toNat) * 2 ^ (q - q2 - 0).toNat := by ac_rfl
          _ = (r * 2 ^ (-q).toNat) * (d * 2 ^ q2.toNat) * 2 ^ (q - q2 - 0).toNat := by rw [n1, n2]
          _ = r * d * (2 ^ (q - q2 - 0).toNat * (2 ^ (-q).toNat * 2 ^ q2.toNat)) := by ac_rfl
          _ = r * d * (2 ^ (0 - (q - q2)).toNat * (2 ^ q.toNat * 2 ^ (-q2).toNat)) := by rw [e4]
          _ = r * d * 2 ^ (0 - (q - q2)).toNat * (2 ^ q.toNat * 2 ^ (-q2).toNat) := by ac_rfl
      obtain ⟨cc, k, e5, e6⟩ := fp_ratio h0 h1 h2
      exact ⟨cc, k, e.trans (e2.trans (e3.trans e5)), e6⟩
theorem fp_no {x : UInt64} (h : FP.Core.val64 x ≠ .nan) : x &&& 0x7fffffffffffffff ≤ 0x7ff0000000000000 := by
  have h1 : ¬ FP.Core.dIsNaN x = true := fun q => h ((FP.Core.dIsNaN_iff x).mp q)
  rw [FP.Core.isNaN_bits] at h1
  rw [UInt64.le_iff_toNat_le, UInt64.toNat_and]
  have h3 : (0x7fffffffffffffff : UInt64).toNat = 2 ^ 63 - 1 := by decide
  have h2 : (0x7ff0000000000000 : UInt64).toNat = 9218868437227405312 := by decide
  rw [h3, h2, Nat.and_two_pow_sub_one_eq_mod]
  omega
theorem fp_fin {x : UInt64} {s : Bool} {c : Nat} {q : Int} (h : FP.Core.val64 x = .fin s c q) : FP.Core.val64 x ≠ .nan := by rw [h]; exact fun q => nomatch q
theorem fp_fits {c k : Nat} (h1 : 4503599627370496 ≤ c) (h2 : c < 9007199254740992) (h3 : k ≤ 1000) : FP.Core.fits FP.Core.b64 (.fin false c (-52 - (k : Int))) := by
  have qm : FP.Core.b64.qmin = -1074 := by decide
  have qM : FP.Core.b64.qmax = 971 := by decide
  have t : FP.Core.b64.tails = 4503599627370496 := by decide
  refine ⟨h2, ?_, ?_, Or.inr ?_⟩
  · rw [qm]; omega
  · rw [qM]; omega
  · rw [t]; exact h1
theorem fp_two : FP.Core.val64 4611686018427387904 = .fin false 4503599627370496 (-51) := by decide +kernel
theorem fp_big : FP.Core.val64 4841369599423283200 = .fin false 4503599627370496 0 := by decide +kernel
theorem fp_dbl {x : UInt64} {c k : Nat} (h : FP.Core.val64 x = .fin false c (-52 - ((k + 1 : Nat) : Int))) (h1 : 4503599627370496 ≤ c) (h2 : c < 9007199254740992) (h3 : k ≤ 1000) : FP.Core.val64 (FP.dmul x 4611686018427387904) = .fin false c (-52 - (k : Int)) := by
  have e := FP.Core.val64_dmul x 4611686018427387904
  rw [h, fp_two] at e
  refine e.trans ?_
  show FP.Core.roundRatio FP.Core.b64 false (c * 4503599627370496) 1 (-52 - ((k + 1 : Nat) : Int) + -51) = _
  refine FP.Core.roundRatio_exact FP.Core.good_b64 (by decide) (fp_fits h1 h2 h3) ?_
  rw [show (-52 - ((k + 1 : Nat) : Int) + -51 - (-52 - (k : Int))).toNat = 0 by omega, show (-52 - (k : Int) - (-52 - ((k + 1 : Nat) : Int) + -51)).toNat = 52 by omega]
  omega
theorem fp_cmp {x : UInt64} {c k : Nat} (h : FP.Core.val64 x = .fin false c (-52 - (k : Int))) : FP.dcmp x FP.dconst1 = some (compare (c : Int) ((4503599627370496 * 2 ^ k : Nat) : Int)) := by
  show FP.Core.order (FP.Core.val64 x) (FP.Core.val64 FP.Core.dconst1) = _
  rw [h, FP.Core.val64_dconst1]
  show some (compare (FP.Core.signed false (FP.Core.inUnits c (-52 - (k : Int)) (min (-52 - (k : Int)) (-52)))) (FP.Core.signed false (FP.Core.inUnits (2 ^ 52) (-52) (min (-52 - (k : Int)) (-52))))) = _
  unfold FP.Core.inUnits FP.Core.signed
  rw [show min (-52 - (k : Int)) (-52) = -52 - (k : Int) by omega, show (-52 - (k : Int) - (-52 - (k : Int))).toNat = 0 by omega, show (-52 - (-52 - (k : Int))).toNat = k by omega]
  simp
theorem fp_cmp0 {x : UInt64} {c k : Nat} (h : FP.Core.val64 x = .fin false c (-52 - (k : Int))) (h1 : 4503599627370496 ≤ c) : FP.dcmp x FP.dconst0 = some .gt := by
  show FP.Core.order (FP.Core.val64 x) (FP.Core.val64 FP.Core.dconst0) = _
  rw [h, FP.Core.val64_dconst0]
  show some (compare ((c * 2 ^ (-52 - (k : Int) - min (-52 - (k : Int)) FP.Core.b64.qmin).toNat : Nat) : Int) ((0 * 2 ^ (FP.Core.b64.qmin - min (-52 - (k : Int)) FP.Core.b64.qmin).toNat : Nat) : Int)) = _
  rw [Nat.zero_mul]
  have hp : 0 < c * 2 ^ (-52 - (k : Int) - min (-52 - (k : Int)) FP.Core.b64.qmin).toNat := Nat.mul_pos (by omega) (fp_pow _)
  generalize c * 2 ^ (-52 - (k : Int) - min (-52 - (k : Int)) FP.Core.b64.qmin).toNat = y at hp
  refine congrArg some ?_
  show compareOfLessAndEq ((y : Nat) : Int) ((0 : Nat) : Int) = .gt
  unfold compareOfLessAndEq
  rw [if_neg (by omega), if_neg (by omega)]
theorem fp_bits {x : UInt64} {c k : Nat} (h : FP.Core.val64 x = .fin false c (-52 - (k : Int))) (h1 : 4503599627370496 ≤ c) (h2 : c < 9007199254740992) (h3 : k ≤ 1000) : x = UInt64.ofNat ((1023 - k) * 4503599627370496 + (c - 4503599627370496)) := by
  have e := FP.Core.of64_val64 (fp_fin h)
  rw [h] at e
  rw [← e]
  unfold FP.Core.of64
  refine congrArg UInt64.ofNat ?_
  have qm : FP.Core.b64.qmin = -1074 := by decide
  have t : FP.Core.b64.tails = 4503599627370496 := by decide
  have x2 : FP.Core.b64.exps = 2048 := by decide
  unfold FP.Core.encode
  simp only
  rw [if_neg (by rw [t]; omega)]
  unfold FP.Core.assemble
  rw [qm, t, x2, show (-52 - (k : Int) - -1074).toNat + 1 = 1023 - k by omega]
  simp
theorem fp_sub {x : UInt64} {c : Nat} (h : FP.Core.val64 x = .fin false c (-52)) (h1 : 4503599627370496 ≤ c) (h2 : c < 9007199254740992) : FP.Core.val64 (FP.dsub x FP.dconst1) = FP.Core.roundRatio FP.Core.b64 false (c - 4503599627370496) 1 (-52) := by
  have e := FP.Core.val64_dsub x FP.dconst1
  rw [h, show FP.Core.val64 FP.dconst1 = .fin false (2 ^ 52) (-52) from FP.Core.val64_dconst1] at e
  refine e.trans ?_
  have e2 : FP.Core.sumUnits false c (-52) true (2 ^ 52) (-52) (min (-52) (-52)) = ((c - 4503599627370496 : Nat) : Int) := by
    show ((c * 1 : Nat) : Int) + -((2 ^ 52 * 1 : Nat) : Int) = _
    omega
  show FP.Core.roundRatio FP.Core.b64 (FP.Core.sumSign false true (FP.Core.sumUnits false c (-52) true (2 ^ 52) (-52) (min (-52) (-52)))) (FP.Core.sumUnits false c (-52) true (2 ^ 52) (-52) (min (-52) (-52))).natAbs 1 (min (-52) (-52)) = _
  rw [e2, Int.natAbs_natCast]
  have e3 : FP.Core.sumSign false true ((c - 4503599627370496 : Nat) : Int) = false := by
    unfold FP.Core.sumSign
    split
    · rfl
    · exact decide_eq_false (by omega)
  rw [e3]
  rfl
theorem fp_frac {x : UInt64} {c : Nat} (h : FP.Core.val64 x = .fin false c (-52)) (h1 : 4503599627370496 ≤ c) (h2 : c < 9007199254740992) : FP.Core.val64 (FP.dsub x FP.dconst1) ≠ .nan ∧ FP.Core.Whole ((c - 4503599627370496 : Nat) : Int) (FP.Core.val64 (FP.dmul (FP.dsub x FP.dconst1) 4841369599423283200)) := by
  have e := fp_sub h h1 h2
  have e1 := FP.Core.val64_dmul (FP.dsub x FP.dconst1) 4841369599423283200
  rw [fp_big] at e1
  have hf : c - 4503599627370496 < 4503599627370496 := by omega
  generalize c - 4503599627370496 = f at e hf ⊢
  refine ⟨by rw [e]; exact FP.Core.roundRatio_ne_nan _ _ _ _ _, ?_⟩
  rw [show FP.Core.val64 (FP.dmul (FP.dsub x FP.dconst1) 4841369599423283200) = _ from e1, e]
  refine FP.Core.whole_round FP.Core.good_b64 FP.Core.wide_b64 (show _ ≤ 2 ^ 53 by omega) ?_
  by_cases h0 : f = 0
  · subst h0
    show FP.Core.Whole _ (.fin _ (0 * 4503599627370496) _)
    rw [Nat.zero_mul]
    show FP.Core.signed _ (0 * _) = ((0 : Nat) : Int) * _
    rw [Nat.zero_mul, FP.Core.signed_zero]
    simp
  · obtain ⟨c1, q1, g1, g2⟩ := FP.Core.natFit FP.Core.good_b64 FP.Core.wide_b64 false (n := f) (show _ ≤ 2 ^ 53 by omega)
    have qm : FP.Core.b64.qmin = -1074 := by decide
    have t : FP.Core.b64.tails = 4503599627370496 := by decide
    have p53 : (2 : Nat) ^ FP.Core.b64.p = 9007199254740992 := by decide
    obtain ⟨i1, i2, i3, i4⟩ := g1
    rw [qm] at i2 i4
    rw [t] at i4
    rw [p53] at i1
    have hq : q1 < 0 := by
      refine Int.lt_of_not_ge fun hge => ?_
      rw [show (0 - q1).toNat = 0 by omega, show (q1 - 0).toNat = q1.toNat by omega] at g2
      have hp := fp_pow q1
      have hc : c1 ≤ c1 * 1 * 2 ^ q1.toNat := by rw [Nat.mul_one]; exact Nat.le_mul_of_pos_right _ hp
      omega
    rw [show (q1 - 0).toNat = 0 by omega, show (0 - q1).toNat = (-q1).toNat by omega, Nat.pow_zero, Nat.mul_one, Nat.mul_one] at g2
    have hq2 : -1000 < q1 := by
      refine Int.lt_of_not_ge fun hge => ?_
      have hp : 2 ^ 53 ≤ 2 ^ (-q1).toNat := Nat.pow_le_pow_right (by decide) (by omega)
      have h3 : 1 * 2 ^ (-q1).toNat ≤ f * 2 ^ (-q1).toNat := Nat.mul_le_mul_right _ (by omega)
      omega
    have hfit : FP.Core.fits FP.Core.b64 (.fin false c1 (q1 - 52)) := by
      refine ⟨by rw [p53]; exact i1, by rw [qm]; omega, by omega, Or.inr ?_⟩
      rw [t]
      omega
    have e2 : FP.Core.roundRatio FP.Core.b64 false f 1 (-52) = .fin false c1 (q1 - 52) := by
      refine FP.Core.roundRatio_exact FP.Core.good_b64 (by decide) hfit ?_
      rw [show (-52 - (q1 - 52)).toNat = (-q1).toNat by omega, show (q1 - 52 - -52).toNat = 0 by omega, Nat.pow_zero, Nat.mul_one, Nat.mul_one]
      exact g2
    rw [e2]
    show ((c1 * 4503599627370496 * 2 ^ (q1 - 52 + 0).toNat : Nat) : Int) = (f : Int) * ((2 ^ (-(q1 - 52 + 0)).toNat : Nat) : Int)
    rw [show (q1 - 52 + 0).toNat = 0 by omega, show (-(q1 - 52 + 0)).toNat = (-q1).toNat + 52 by omega, Nat.pow_zero, Nat.mul_one, ← g2, Nat.pow_add, ← Int.natCast_mul]
    congr 1
    rw [show (2 : Nat) ^ 52 = 4503599627370496 by decide]
    ac_rfl
theorem fp_d2l {y : UInt64} {f : Nat} (hf : f < 4503599627370496) (h : FP.Core.Whole (f : Int) (FP.Core.val64 y)) : FP.d2l y = Int64.ofNat f := by
  refine FP.Core.d2l_int (a := Int64.ofNat f) ?_
  have e : (Int64.ofNat f).toInt = f := Int64.toInt_ofNat_of_lt (by omega)
  unfold FP.Core.DInt
  rw [e]
  exact h
theorem fp_nonan {y : UInt64} {i : Int} (h : FP.Core.Whole i (FP.Core.val64 y)) : FP.Core.val64 y ≠ .nan := fun q => by rw [q] at h; exact h
theorem fp_zero {b : Int32} {N : Nat} (hb : b.toInt = N) (h0 : 0 < N) : FP.ddiv (FP.i2d 0) (FP.i2d b) = FP.dconst0 := by
  have w2 : FP.Core.Whole b.toInt (FP.Core.val64 (FP.i2d b)) := FP.Core.i2d_int b
  have e := FP.Core.val64_ddiv (FP.i2d 0) (FP.i2d b)
  have e0 : FP.Core.val64 (FP.i2d 0) = .fin false 0 FP.Core.b64.qmin := by decide +kernel
  rw [hb] at w2
  cases hy : FP.Core.val64 (FP.i2d b) with
  | nan => rw [hy] at w2; exact w2.elim
  | inf s => rw [hy] at w2; exact w2.elim
  | fin t d q2 =>
    rw [hy] at w2
    have s2 := FP.Core.whole_sign w2 (by omega)
    have z2 := FP.Core.whole_zero w2
    rw [decide_eq_false (by omega)] at s2
    subst s2
    rw [e0, hy] at e
    have e2 : FP.Core.quotient FP.Core.b64 (.fin false 0 FP.Core.b64.qmin) (.fin false d q2) = .fin false 0 FP.Core.b64.qmin := by
      refine (if_neg (by omega)).trans ?_
      exact if_pos rfl
    have e3 : FP.Core.val64 (FP.ddiv (FP.i2d 0) (FP.i2d b)) = FP.Core.val64 FP.Core.dconst0 := (e.trans e2).trans FP.Core.val64_dconst0.symm
    exact FP.Core.val64_inj (fp_fin (e.trans e2)) e3
