/-! the bits of the share -/
theorem cg0 {x : UInt64} {c : Nat} (h : FP.Core.val64 x = .fin false c (-52 - ((0 : Nat) : Int))) (h1 : 4503599627370496 ≤ c) : 0 ≤ Op.cmpValue (FP.dcmp x FP.dconst1) .g := by
  rw [fp_cmp h]
  show (0 : Int32) ≤ Op.cmpValue (some (compareOfLessAndEq (c : Int) ((4503599627370496 * 2 ^ 0 : Nat) : Int))) .g
  unfold compareOfLessAndEq
  rw [Nat.pow_zero, Nat.mul_one, if_neg (by omega)]
  by_cases e : (c : Int) = ((4503599627370496 : Nat) : Int)
  · rw [if_pos e]; decide
  · rw [if_neg e]; decide
theorem cgk {x : UInt64} {c k : Nat} (h : FP.Core.val64 x = .fin false c (-52 - ((k + 1 : Nat) : Int))) (h2 : c < 9007199254740992) : Op.cmpValue (FP.dcmp x FP.dconst1) .g = nM := by
  have hp : 9007199254740992 ≤ 4503599627370496 * 2 ^ (k + 1) := by
    have := Nat.two_pow_pos k
    rw [Nat.pow_succ]
    omega
  rw [fp_cmp h]
  generalize 4503599627370496 * 2 ^ (k + 1) = y at hp
  show Op.cmpValue (some (compareOfLessAndEq (c : Int) ((y : Nat) : Int))) .g = nM
  unfold compareOfLessAndEq
  rw [if_pos (by omega)]
  rfl
theorem bitsL_I {x0 : UInt64} {c : Nat} (h1 : 4503599627370496 ≤ c) (h2 : c < 9007199254740992) : ∀ (k fu e : Nat) (x : UInt64), FP.Core.val64 x = .fin false c (-52 - (k : Int)) → k ≤ 900 → k < fu → k + 2 ≤ e → e ≤ 1023 → F_X5_bitsOf_L15 x0 fu x (nI e) = some (((nI (e - k)).toInt64 <<< (((52 : Int32)).toInt64 &&& 63)) + Int64.ofNat (c - 4503599627370496)) := by
  intro k
  induction k with
  | zero =>
    intro fu e x h hk hf he he2
    obtain ⟨fu, rfl, hf⟩ := fu1 hf
    have h' : FP.Core.val64 x = .fin false c (-52) := h
    obtain ⟨n1, n2⟩ := fp_frac h' h1 h2
    have e1 := nn_of n1
    have e2 := nn_of (fp_nonan n2)
    have e3 := fp_d2l (by omega) n2
    rw [F_X5_bitsOf_L15, if_pos (cg0 h h1)]
    unfold F_X5_bitsOf_J39
    rw [gd_t _ e1, gd_t _ e2, e3]
    rfl
  | succ k ih =>
    intro fu e x h hk hf he he2
    obtain ⟨fu, rfl, hf⟩ := fu1 hf
    have e1 := cgk h h2
    have e2 := fp_dbl h h1 h2 (by omega)
    have e3 := nn_of (fp_fin e2)
    have e4 := ih fu (e - 1) (FP.dmul x 4611686018427387904) e2 (by omega) (by omega) (by omega) (by omega)
    have n0 : ¬ (0 : Int32) ≤ nM := by decide
    rw [F_X5_bitsOf_L15, e1, if_neg n0, if_neg (by rw [zq1, le_I (by omega) (by omega)]; omega), gd_t _ e3, m1_I (by omega), e4, show e - 1 - k = e - (k + 1) by omega]
theorem sh52 : ∀ k, k < 27 → (nI (1023 - k)).toInt64 <<< (((52 : Int32)).toInt64 &&& 63) = Int64.ofNat ((1023 - k) * 4503599627370496) := by decide +kernel
theorem q1023 : (1023 : Int32) = nI 1023 := rfl
theorem bits_I {r N : Nat} (h1 : r < N) (h2 : N ≤ 39916800) : F_X5_bitsOf (FP.ddiv (FP.i2d (nI r)) (FP.i2d (nI N))) = some (FP.ddiv (FP.i2d (nI r)) (FP.i2d (nI N))).toInt64 := by
  unfold F_X5_bitsOf
  rcases shv_c h1 h2 with h | ⟨c, k, h, c1, c2, hk⟩
  · rw [h, if_neg (by decide)]
    rfl
  · generalize FP.ddiv (FP.i2d (nI r)) (FP.i2d (nI N)) = v at h ⊢
    have e1 := fp_cmp0 h c1
    have p1 : (0 : Int32) < Op.cmpValue (some Ordering.gt) .g := by decide
    have e2 := bitsL_I (x0 := v) c1 c2 k FU 1023 v h (by omega) (FU_lt (by omega)) (by omega) (Nat.le_refl _)
    have e3 := fp_bits h c1 c2 (by omega)
    rw [e1, if_pos p1, q1023, e2, sh52 k (by omega)]
    conv => rhs; rw [e3, UInt64.toInt64_ofNat', Int64.ofNat_add]
theorem dlb_I {r N : Nat} (h1 : r < N) (h2 : N ≤ 39916800) : F_Jxe99ae_doubleToLongBits_ccdee (FP.ddiv (FP.i2d (nI r)) (FP.i2d (nI N))) = some (FP.ddiv (FP.i2d (nI r)) (FP.i2d (nI N))).toInt64 := by
  have hne : FP.Core.val64 (FP.ddiv (FP.i2d (nI r)) (FP.i2d (nI N))) ≠ .nan := by
    rcases shv_c h1 h2 with h | ⟨c, k, h, -⟩
    · rw [h]; exact fp_fin FP.Core.val64_dconst0
    · exact fp_fin h
  have e1 : FP.dcmp (FP.ddiv (FP.i2d (nI r)) (FP.i2d (nI N))) (FP.ddiv (FP.i2d (nI r)) (FP.i2d (nI N))) = some .eq := FP.Core.dcmp_self hne
  generalize FP.ddiv (FP.i2d (nI r)) (FP.i2d (nI N)) = v at e1 ⊢
  have p1 : Op.cmpValue (some Ordering.eq) .l = 0 := rfl
  have p2 : (0 : Int32) = 0 := rfl
  unfold F_Jxe99ae_doubleToLongBits_ccdee F_Jxe99ae_isNaN_b9ae7
  rw [e1, p1, if_pos p2, Option.bind_some, if_pos p2]
theorem sbits_V {n : Nat} {g : Nat → Nat} (hn : n ≤ 11) (hg : RG n g) : F_X5_bitsOf (shv g n) = some (shv g n).toInt64 := bits_I (rk_all hg) (N_11 hn hg)
theorem sdlb_V {n : Nat} {g : Nat → Nat} (hn : n ≤ 11) (hg : RG n g) : F_Jxe99ae_doubleToLongBits_ccdee (shv g n) = some (shv g n).toInt64 := dlb_I (rk_all hg) (N_11 hn hg)
