/-! pure words: the multinomial numbers come out even -/
def bin : Nat → Nat → Nat
  | 0, _ => 1
  | _ + 1, 0 => 1
  | a + 1, b + 1 => bin a (b + 1) + bin (a + 1) b
theorem bin_f : ∀ a b, bin a b * (fact a * fact b) = fact (a + b) := by
  intro a
  induction a with
  | zero => intro b; rw [bin, Nat.one_mul, fact, Nat.one_mul, Nat.zero_add]
  | succ a iha =>
    intro b
    induction b with
    | zero => rw [bin, Nat.one_mul, Nat.add_zero, show fact 0 = 1 from rfl, Nat.mul_one]
    | succ b ihb =>
      have h1 := iha (b + 1)
      have e1 : fact (a + 1) = (a + 1) * fact a := rfl
      have e2 : fact (b + 1) = (b + 1) * fact b := rfl
      have e3 : fact (a + 1 + (b + 1)) = (a + 1 + b + 1) * fact (a + 1 + b) := rfl
      have e4 : fact (a + (b + 1)) = fact (a + 1 + b) := by rw [show a + (b + 1) = a + 1 + b by omega]
      have h2 : bin a (b + 1) * (fact (a + 1) * fact (b + 1)) = (a + 1) * fact (a + 1 + b) := by
        rw [← e4, ← h1, e1]
        simp only [Nat.mul_assoc, Nat.mul_comm, Nat.mul_left_comm]
      have h3 : bin (a + 1) b * (fact (a + 1) * fact (b + 1)) = (b + 1) * fact (a + 1 + b) := by
        rw [← ihb, e2]
        simp only [Nat.mul_assoc, Nat.mul_comm, Nat.mul_left_comm]
      rw [bin, Nat.add_mul, h2, h3, e3, ← Nat.add_mul]
      congr 1
def mn (c : Nat → Nat) : Nat → Nat → Nat
  | _, 0 => 1
  | s, d + 1 => bin (c s) (sumL c (s + 1) d) * mn c (s + 1) d
theorem divs_mn {c : Nat → Nat} : ∀ (d s k : Nat), divs c s d (k * fact (sumL c s d)) = k * mn c s d := by
  intro d
  induction d with
  | zero => intro s k; rfl
  | succ d ih =>
    intro s k
    rw [divs, sumL, ← bin_f (c s) (sumL c (s + 1) d)]
    have e : k * (bin (c s) (sumL c (s + 1) d) * (fact (c s) * fact (sumL c (s + 1) d))) = fact (c s) * (k * bin (c s) (sumL c (s + 1) d) * fact (sumL c (s + 1) d)) := by
      simp only [Nat.mul_assoc, Nat.mul_comm, Nat.mul_left_comm]
    rw [e, Nat.mul_div_cancel_left _ (fact_pos _), ih, mn, Nat.mul_assoc]
def PF (c : Nat → Nat) : Nat → Nat → Nat
  | _, 0 => 1
  | s, d + 1 => fact (c s) * PF c (s + 1) d
theorem mn_f {c : Nat → Nat} : ∀ (d s : Nat), mn c s d * PF c s d = fact (sumL c s d) := by
  intro d
  induction d with
  | zero => intro s; rfl
  | succ d ih =>
    intro s
    rw [mn, PF, sumL, ← bin_f, ← ih (s + 1)]
    simp only [Nat.mul_assoc, Nat.mul_comm, Nat.mul_left_comm]
theorem PF_pos {c : Nat → Nat} : ∀ (d s : Nat), 0 < PF c s d := by
  intro d
  induction d with
  | zero => intro s; exact Nat.one_pos
  | succ d ih => intro s; exact Nat.mul_pos (fact_pos _) (ih _)
theorem sumL6 (c : Nat → Nat) : sumL c 0 6 = sum6 c := by
  show c 0 + (c 1 + (c 2 + (c 3 + (c 4 + (c 5 + 0))))) = _
  unfold sum6
  omega
theorem ways_mn (c : Nat → Nat) : ways c = mn c 0 6 := by
  unfold ways
  rw [← sumL6]
  have := divs_mn (c := c) 6 0 1
  rw [Nat.one_mul, Nat.one_mul] at this
  exact this
theorem ways_f (c : Nat → Nat) : ways c * PF c 0 6 = fact (sum6 c) := by rw [ways_mn, mn_f, sumL6]
theorem ways_pos (c : Nat → Nat) : 0 < ways c := by
  rcases Nat.eq_zero_or_pos (ways c) with h | h
  · have h1 := ways_f c
    rw [h, Nat.zero_mul] at h1
    have := fact_pos (sum6 c)
    omega
  · exact h
theorem ways_le (c : Nat → Nat) : ways c ≤ fact (sum6 c) := by
  rw [← ways_f c]
  exact Nat.le_mul_of_pos_right _ (PF_pos 6 0)
theorem PF_dec {c : Nat → Nat} {s : Nat} (h : s < 6) (hc : 0 < c s) : PF c 0 6 = c s * PF (dec c s) 0 6 := by
  have e : fact (c s) = c s * fact (c s - 1) := by
    obtain ⟨k, hk⟩ : ∃ k, c s = k + 1 := ⟨c s - 1, by omega⟩
    rw [hk]; rfl
  rcases six h with rfl | rfl | rfl | rfl | rfl | rfl <;> simp only [PF, dec, gset] <;> simp <;> rw [e] <;> simp only [Nat.mul_assoc, Nat.mul_comm, Nat.mul_left_comm]
/-- how many begin with a sign: their part of all -/
theorem wB_eq {c : Nat → Nat} {s : Nat} (h : s < 6) : sum6 c * wB c s = ways c * c s := by
  unfold wB
  by_cases e : c s = 0
  · rw [if_pos e, e, Nat.mul_zero, Nat.mul_zero]
  · rw [if_neg e]
    have hT := le_sum6 (c := c) h
    have h1 := ways_f c
    have h2 := ways_f (dec c s)
    rw [sum6_dec h (by omega)] at h2
    rw [PF_dec h (by omega)] at h1
    have e2 : fact (sum6 c) = sum6 c * fact (sum6 c - 1) := by
      obtain ⟨k, hk⟩ : ∃ k, sum6 c = k + 1 := ⟨sum6 c - 1, by omega⟩
      rw [hk]; rfl
    rw [e2, ← h2] at h1
    have h3 : (ways c * c s) * PF (dec c s) 0 6 = (sum6 c * ways (dec c s)) * PF (dec c s) 0 6 := by
      rw [Nat.mul_assoc, h1, Nat.mul_assoc]
    exact (Nat.eq_of_mul_eq_mul_right (PF_pos 6 0) h3).symm
theorem wB_sum {c : Nat → Nat} : ∀ (d s : Nat), s + d ≤ 6 → sum6 c * sumL (wB c) s d = ways c * sumL c s d := by
  intro d
  induction d with
  | zero => intro s _; rfl
  | succ d ih => intro s hs; rw [sumL, sumL, Nat.mul_add, Nat.mul_add, wB_eq (by omega), ih (s + 1) (by omega)]
theorem wB_all {c : Nat → Nat} (h : 0 < sum6 c) : sumL (wB c) 0 6 = ways c := by
  have h1 := wB_sum (c := c) 6 0 (by omega)
  rw [sumL6 c, Nat.mul_comm (ways c)] at h1
  exact Nat.eq_of_mul_eq_mul_left h h1
theorem sumL_add (f : Nat → Nat) : ∀ (d s e : Nat), sumL f s (d + e) = sumL f s d + sumL f (s + d) e := by
  intro d
  induction d with
  | zero => intro s e; rw [Nat.zero_add, Nat.add_zero, sumL, Nat.zero_add]
  | succ d ih => intro s e; rw [show d + 1 + e = (d + e) + 1 by omega, sumL, ih, sumL, show s + 1 + d = s + (d + 1) by omega]; omega
theorem wB_lt {c : Nat → Nat} {s : Nat} (h : 0 < sum6 c) (hs : s < 6) : sumL (wB c) 0 s + wB c s ≤ ways c := by
  have h1 := sumL_add (wB c) (s + 1) 0 (5 - s)
  rw [show s + 1 + (5 - s) = 6 by omega, wB_all h, sumL_last, Nat.zero_add] at h1
  omega
-- the class's part
theorem part_I {x k t : Nat} (ht : 0 < t) (ht2 : t < 2147483648) (hx : x * k < 2147483648) : F_X5_part (nI x) (nI k) (nI t) = some (nI (x * k / t)) := by
  unfold F_X5_part
  first
    | rw [if_neg (by rw [q0, le_I ht2 (by omega)]; omega), gd_t _ (nz_I ht ht2), pk_mul, div_I hx ht ht2]
    | skip
