/-! rows: counts kept by exchanges, ranks of equal rows, the reference's exchanges, turns, steps, puts, takes -/
theorem len_T (x : Int32) : F_X1_length x = some x := Eq.trans (b := some x) rfl rfl
theorem tot_T (x : Int32) : F_X0_total x = some x := Eq.trans (b := some x) rfl rfl
theorem clr_T (x : Int32) : F_X1_clear x = some (nI 0) := Eq.trans (b := some (nI 0)) rfl rfl
theorem cnt_set {g : Nat → Nat} {k v s : Nat} : ∀ (d p : Nat), p ≤ k → k < p + d → cnt (gset g k v) p d s + b2n (g k = s) = cnt g p d s + b2n (v = s) := by
  intro d
  induction d with
  | zero => intro p h1 h2; omega
  | succ d ih =>
    intro p h1 h2
    rw [cnt_s, cnt_s]
    by_cases e : p = k
    · subst e
      rw [gset_s]
      have h3 : cnt (gset g p v) (p + 1) d s = cnt g (p + 1) d s := sumL_ext d (p + 1) (fun j hj _ => by rw [gset_n _ _ (by omega)])
      omega
    · rw [gset_n _ _ e]
      have := ih (p + 1) (by omega) (by omega)
      omega
theorem cnt_swap {g : Nat → Nat} {n p q s : Nat} (hp : p < n) (hq : q < n) : cnt (gswap g p q) 0 n s = cnt g 0 n s := by
  unfold gswap
  have h1 := cnt_set (g := gset g p (g q)) (k := q) (v := g p) (s := s) n 0 (by omega) (by omega)
  have h2 := cnt_set (g := g) (k := p) (v := g q) (s := s) n 0 (by omega) (by omega)
  by_cases e : q = p
  · subst e; rw [gset_s] at h1; omega
  · rw [gset_n _ _ e] at h1; omega
theorem gswap_RG {g : Nat → Nat} {n p q : Nat} (hg : RG n g) (hp : p < n) (hq : q < n) : RG n (gswap g p q) := by
  intro i hi
  unfold gswap gset
  have := hg p hp; have := hg q hq; have := hg i hi
  split
  · assumption
  · split <;> assumption
theorem grev_ok {n : Nat} {s : Nat} : ∀ (k : Nat) (g : Nat → Nat) (l r : Nat), RG n g → r < n → (RG n (grev k g l r)) ∧ cnt (grev k g l r) 0 n s = cnt g 0 n s := by
  intro k
  induction k with
  | zero => intro g l r hg hr; exact ⟨hg, rfl⟩
  | succ k ih =>
    intro g l r hg hr
    rw [grev]
    by_cases e : l < r
    · rw [if_pos e]
      obtain ⟨h1, h2⟩ := ih (gswap g l r) (l + 1) (r - 1) (gswap_RG hg (by omega) hr) (by omega)
      exact ⟨h1, by rw [h2, cnt_swap (by omega) hr]⟩
    · rw [if_neg e]; exact ⟨hg, rfl⟩
theorem grev_at : ∀ (k : Nat) (g : Nat → Nat) (l r i : Nat), r ≤ l + k → grev k g l r i = if l ≤ i ∧ i ≤ r then g (l + r - i) else g i := by
  intro k
  induction k with
  | zero =>
    intro g l r i h
    rw [grev]
    by_cases e : l ≤ i ∧ i ≤ r
    · rw [if_pos e, show l + r - i = i by omega]
    · rw [if_neg e]
  | succ k ih =>
    intro g l r i h
    rw [grev]
    by_cases e : l < r
    · rw [if_pos e, ih _ _ _ _ (by omega)]
      unfold gswap gset
      by_cases e1 : l ≤ i ∧ i ≤ r
      · rw [if_pos e1]
        by_cases e2 : l + 1 ≤ i ∧ i ≤ r - 1
        · rw [if_pos e2, if_neg (by omega), if_neg (by omega), show l + 1 + (r - 1) - i = l + r - i by omega]
        · rw [if_neg e2]
          by_cases e3 : i = r
          · rw [if_pos e3, show l + r - i = l by omega]
          · rw [if_neg e3, if_pos (by omega), show l + r - i = r by omega]
      · rw [if_neg e1, if_neg (by omega), if_neg (by omega), if_neg (by omega)]
    · rw [if_neg e]
      by_cases e1 : l ≤ i ∧ i ≤ r
      · rw [if_pos e1, show l + r - i = i by omega]
      · rw [if_neg e1]
theorem cnt_ext {f g : Nat → Nat} {s : Nat} (d p : Nat) (h : ∀ i, p ≤ i → i < p + d → f i = g i) : cnt f p d s = cnt g p d s := sumL_ext d p (fun j h1 h2 => by rw [h j h1 h2])
-- the reference's exchange
theorem ZI.upd {z : Nat → Int32} {n k v : Nat} {g : Nat → Nat} (h : ZI z n g) : ZI (upd z (2 + k) (nI v)) n (gset g k v) := by
  refine ⟨by rw [upd_n _ _ (by omega)]; exact h.1, fun i hi => ?_⟩
  by_cases e : i = k
  · subst e; rw [upd_s, gset_s]
  · rw [upd_n _ _ (by omega), gset_n _ _ e]; exact h.2 i hi
theorem rexch_I {z : Nat → Int32} {n p q : Nat} {g : Nat → Nat} (hz : ZI z n g) (hn : n ≤ 11) (hp : p < n) (hq : q < n) : ∃ z', F_X6_exchange z (nI p) (nI q) = some z' ∧ ZI z' n (gswap g p q) ∧ z' 1 = z 1 := by
  refine ⟨upd (upd z (2 + p) (nI (g q))) (2 + q) (nI (g p)), ?_, (hz.upd (k := p) (v := g q)).upd (k := q) (v := g p), by rw [upd_n _ _ (by omega), upd_n _ _ (by omega)]⟩
  unfold F_X6_exchange
  simp (disch := omega) only [↓qM, zq0, zq1, zq2, zq3, zq4, zq5, zq6, zq7, zq8, zq9, zq10, zq11, zq12, zq13, zq14, zq20, zq33, zq48, zq49, zq50, zq57, zq60, zq61, zq78, zq97, zq102, zq126, zq486, zq600, zq2916, zq4200, le_I, lt_I, eq_I, ne_M, lt_M, cl_I, vin_T, gd_tt, nz_T, nI_add, sub_I, m1_M, pk_mul, div_I, Option.bind_some, Option.map_some, if_pos, if_neg, if_true, if_false, Nat.reduceAdd, Nat.reduceMul, Nat.reduceSub, Nat.zero_add, Nat.add_zero, Ret_s, hz.g]
theorem rturn_I {n lo hi : Nat} (hn : n ≤ 11) (hlo : lo < n) (hhi : hi < n) : ∀ (k j fu : Nat) (g : Nat → Nat) (z : Nat → Int32), k + j = 11 → k < fu → j ≤ hi → ZI z n g → ∃ z', F_X6_turnAround_L2 (nI lo) (nI hi) fu z (nI j) = some z' ∧ ZI z' n (grev k g (lo + j) (hi - j)) ∧ z' 1 = z 1 := by
  intro k
  induction k with
  | zero => intro j fu g z h1 h2 h3 hz; omega
  | succ k ih =>
    intro j fu g z h1 h2 h3 hz
    obtain ⟨fu, rfl, hf⟩ := fu1 h2
    rw [grev]
    by_cases e : lo + j < hi - j
    · rw [if_pos e]
      obtain ⟨z1, e1, hz1, u1⟩ := rexch_I (p := lo + j) (q := hi - j) hz hn (by omega) (by omega)
      obtain ⟨z2, e2, hz2, u2⟩ := ih (j + 1) fu _ z1 (by omega) (by omega) (by omega) hz1
      refine ⟨z2, ?_, ?_, u2.trans u1⟩
      · rw [F_X6_turnAround_L2]
        simp (disch := omega) only [↓qM, zq0, zq1, zq2, zq3, zq4, zq5, zq6, zq7, zq8, zq9, zq10, zq11, zq12, zq13, zq14, zq20, zq33, zq48, zq49, zq50, zq57, zq60, zq61, zq78, zq97, zq102, zq126, zq486, zq600, zq2916, zq4200, le_I, lt_I, eq_I, ne_M, lt_M, cl_I, vin_T, gd_tt, nz_T, nI_add, sub_I, m1_M, pk_mul, div_I, Option.bind_some, Option.map_some, if_pos, if_neg, if_true, if_false, Nat.reduceAdd, Nat.reduceMul, Nat.reduceSub, Nat.zero_add, Nat.add_zero, Ret_s, e1, e2]
      · rw [show lo + j + 1 = lo + (j + 1) by omega, show hi - j - 1 = hi - (j + 1) by omega]; exact hz2
    · rw [if_neg e]
      refine ⟨z, ?_, hz, rfl⟩
      rw [F_X6_turnAround_L2]
      simp (disch := omega) only [↓qM, zq0, zq1, zq2, zq3, zq4, zq5, zq6, zq7, zq8, zq9, zq10, zq11, zq12, zq13, zq14, zq20, zq33, zq48, zq49, zq50, zq57, zq60, zq61, zq78, zq97, zq102, zq126, zq486, zq600, zq2916, zq4200, le_I, lt_I, eq_I, ne_M, lt_M, cl_I, vin_T, gd_tt, nz_T, nI_add, sub_I, m1_M, pk_mul, div_I, Option.bind_some, Option.map_some, if_pos, if_neg, if_true, if_false, Nat.reduceAdd, Nat.reduceMul, Nat.reduceSub, Nat.zero_add, Nat.add_zero, Ret_s]
theorem rstepL_I {n : Nat} {x1 : Int32} (hn : n ≤ 11) : ∀ (d fu : Nat) (g : Nat → Nat) (z : Nat → Int32), d < fu → d < n → ZI z n g → ∃ z', F_X6_step_L33 x1 fu z (nI d) = some (nI 0, z') ∧ ZI z' n (gbring g 0 d) ∧ z' 1 = z 1 := by
  intro d
  induction d with
  | zero =>
    intro fu g z h1 h2 hz
    obtain ⟨fu, rfl, hf⟩ := fu1 h1
    refine ⟨z, ?_, hz, rfl⟩
    rw [F_X6_step_L33]
    simp (disch := omega) only [↓qM, zq0, zq1, zq2, zq3, zq4, zq5, zq6, zq7, zq8, zq9, zq10, zq11, zq12, zq13, zq14, zq20, zq33, zq48, zq49, zq50, zq57, zq60, zq61, zq78, zq97, zq102, zq126, zq486, zq600, zq2916, zq4200, le_I, lt_I, eq_I, ne_M, lt_M, cl_I, vin_T, gd_tt, nz_T, nI_add, sub_I, m1_M, pk_mul, div_I, Option.bind_some, Option.map_some, if_pos, if_neg, if_true, if_false, Nat.reduceAdd, Nat.reduceMul, Nat.reduceSub, Nat.zero_add, Nat.add_zero, Ret_s]
  | succ d ih =>
    intro fu g z h1 h2 hz
    obtain ⟨fu, rfl, hf⟩ := fu1 h1
    obtain ⟨z1, e1, hz1, u1⟩ := rexch_I (p := d + 1) (q := d) hz hn (by omega) (by omega)
    obtain ⟨z2, e2, hz2, u2⟩ := ih fu _ z1 (by omega) (by omega) hz1
    refine ⟨z2, ?_, ?_, u2.trans u1⟩
    · rw [F_X6_step_L33]
      simp (disch := omega) only [↓qM, zq0, zq1, zq2, zq3, zq4, zq5, zq6, zq7, zq8, zq9, zq10, zq11, zq12, zq13, zq14, zq20, zq33, zq48, zq49, zq50, zq57, zq60, zq61, zq78, zq97, zq102, zq126, zq486, zq600, zq2916, zq4200, le_I, lt_I, eq_I, ne_M, lt_M, cl_I, vin_T, gd_tt, nz_T, nI_add, sub_I, m1_M, pk_mul, div_I, Option.bind_some, Option.map_some, if_pos, if_neg, if_true, if_false, Nat.reduceAdd, Nat.reduceMul, Nat.reduceSub, Nat.zero_add, Nat.add_zero, Ret_s, Nat.add_sub_cancel, e1, e2]
    · rw [gbring, Nat.zero_add]; exact hz2
/-- one step of a carry: the row and the place then -/
def cst (n : Nat) (g : Nat → Nat) (p : Nat) : (Nat → Nat) × Nat := if p + 1 < n then (gswap g p (p + 1), p + 1) else (gbring g 0 (n - 1), 0)
def cstN (n : Nat) : Nat → (Nat → Nat) → Nat → (Nat → Nat) × Nat
  | 0, g, p => (g, p)
  | d + 1, g, p => cstN n d (cst n g p).1 (cst n g p).2
theorem gbring_RG {n to : Nat} : ∀ (d : Nat) (g : Nat → Nat), RG n g → to + d < n → RG n (gbring g to d) := by
  intro d
  induction d with
  | zero => intro g hg _; exact hg
  | succ d ih => intro g hg h; exact ih _ (gswap_RG hg (by omega) (by omega)) (by omega)
theorem cst_ok {n p : Nat} {g : Nat → Nat} (hg : RG n g) (hp : p < n) : RG n (cst n g p).1 ∧ (cst n g p).2 < n := by
  unfold cst
  by_cases e : p + 1 < n
  · rw [if_pos e]; exact ⟨gswap_RG hg (by omega) e, e⟩
  · rw [if_neg e]; exact ⟨gbring_RG _ _ hg (by omega), by show 0 < n; omega⟩
theorem rstep_I {n p : Nat} {g : Nat → Nat} {z : Nat → Int32} (hz : ZI z n g) (hn : n ≤ 11) (hp : p < n) : ∃ z', F_X6_step z (nI p) = some (nI (cst n g p).2, z') ∧ ZI z' n (cst n g p).1 ∧ z' 1 = z 1 := by
  unfold cst
  by_cases e : p + 1 < n
  · obtain ⟨z1, e1, hz1, u1⟩ := rexch_I (p := p) (q := p + 1) hz hn (by omega) (by omega)
    rw [if_pos e]
    refine ⟨z1, ?_, hz1, u1⟩
    unfold F_X6_step
    simp (disch := omega) only [↓qM, zq0, zq1, zq2, zq3, zq4, zq5, zq6, zq7, zq8, zq9, zq10, zq11, zq12, zq13, zq14, zq20, zq33, zq48, zq49, zq50, zq57, zq60, zq61, zq78, zq97, zq102, zq126, zq486, zq600, zq2916, zq4200, le_I, lt_I, eq_I, ne_M, lt_M, cl_I, vin_T, gd_tt, nz_T, nI_add, sub_I, m1_M, pk_mul, div_I, Option.bind_some, Option.map_some, if_pos, if_neg, if_true, if_false, Nat.reduceAdd, Nat.reduceMul, Nat.reduceSub, Nat.zero_add, Nat.add_zero, Ret_s, hz.n, e1]
  · obtain ⟨z1, e1, hz1, u1⟩ := rstepL_I (x1 := nI p) hn (n - 1) FU g z (FU_lt (by omega)) (by omega) hz
    rw [if_neg e]
    refine ⟨z1, ?_, hz1, u1⟩
    unfold F_X6_step
    simp (disch := omega) only [↓qM, zq0, zq1, zq2, zq3, zq4, zq5, zq6, zq7, zq8, zq9, zq10, zq11, zq12, zq13, zq14, zq20, zq33, zq48, zq49, zq50, zq57, zq60, zq61, zq78, zq97, zq102, zq126, zq486, zq600, zq2916, zq4200, le_I, lt_I, eq_I, ne_M, lt_M, cl_I, vin_T, gd_tt, nz_T, nI_add, sub_I, m1_M, pk_mul, div_I, Option.bind_some, Option.map_some, if_pos, if_neg, if_true, if_false, Nat.reduceAdd, Nat.reduceMul, Nat.reduceSub, Nat.zero_add, Nat.add_zero, Ret_s, hz.n, e1]
theorem step_I {n p : Nat} {g : Nat → Nat} {a : Nat → Int32} (h : RA n g a) (hn : n ≤ 11) (hp : p < n) : ∃ a', F_X5_carryOne (nI n) a (nI p) = some (nI (cst n g p).2, a') ∧ RA n (cst n g p).1 a' := by
  unfold cst
  by_cases e : p + 1 < n
  · obtain ⟨a1, e1, h1⟩ := exchange_I (p := p) (q := p + 1) h (by omega) (by omega) hn
    rw [if_pos e]
    refine ⟨a1, ?_, h1⟩
    unfold F_X5_carryOne
    simp (disch := omega) only [↓qM, zq0, zq1, zq2, zq3, zq4, zq5, zq6, zq7, zq8, zq9, zq10, zq11, zq12, zq13, zq14, zq20, zq33, zq48, zq49, zq50, zq57, zq60, zq61, zq78, zq97, zq102, zq126, zq486, zq600, zq2916, zq4200, le_I, lt_I, eq_I, ne_M, lt_M, cl_I, vin_T, gd_tt, nz_T, nI_add, sub_I, m1_M, pk_mul, div_I, Option.bind_some, Option.map_some, if_pos, if_neg, if_true, if_false, Nat.reduceAdd, Nat.reduceMul, Nat.reduceSub, Nat.zero_add, Nat.add_zero, Ret_s, len_T, e1]
  · obtain ⟨a1, e1, h1⟩ := roll_I h hn (by omega)
    rw [if_neg e]
    refine ⟨a1, ?_, h1⟩
    unfold F_X5_carryOne
    simp (disch := omega) only [↓qM, zq0, zq1, zq2, zq3, zq4, zq5, zq6, zq7, zq8, zq9, zq10, zq11, zq12, zq13, zq14, zq20, zq33, zq48, zq49, zq50, zq57, zq60, zq61, zq78, zq97, zq102, zq126, zq486, zq600, zq2916, zq4200, le_I, lt_I, eq_I, ne_M, lt_M, cl_I, vin_T, gd_tt, nz_T, nI_add, sub_I, m1_M, pk_mul, div_I, Option.bind_some, Option.map_some, if_pos, if_neg, if_true, if_false, Nat.reduceAdd, Nat.reduceMul, Nat.reduceSub, Nat.zero_add, Nat.add_zero, Ret_s, len_T, e1]
theorem carryL_I {n m : Nat} {gone x1 : Int32} {sh : Int32} {ss : Nat → Int32} (hn : n ≤ 11) (hm : m ≤ 20) : ∀ (d i p fu : Nat) (g : Nat → Nat) (a : Nat → Int32), i + d = m → d < fu → p < n → RG n g → RA n g a → ∃ a', F_X5_carry_L32 gone (nI n) x1 (nI m) fu a sh ss (nI p) (nI i) = some (nI (cstN n d g p).2, a', sh, ss) ∧ RA n (cstN n d g p).1 a' ∧ RG n (cstN n d g p).1 := by
  intro d
  induction d with
  | zero =>
    intro i p fu g a h1 h2 hp hg h
    obtain ⟨fu, rfl, hf⟩ := fu1 h2
    refine ⟨a, ?_, h, hg⟩
    rw [F_X5_carry_L32]
    simp (disch := omega) only [↓qM, zq0, zq1, zq2, zq3, zq4, zq5, zq6, zq7, zq8, zq9, zq10, zq11, zq12, zq13, zq14, zq20, zq33, zq48, zq49, zq50, zq57, zq60, zq61, zq78, zq97, zq102, zq126, zq486, zq600, zq2916, zq4200, le_I, lt_I, eq_I, ne_M, lt_M, cl_I, vin_T, gd_tt, nz_T, nI_add, sub_I, m1_M, pk_mul, div_I, Option.bind_some, Option.map_some, if_pos, if_neg, if_true, if_false, Nat.reduceAdd, Nat.reduceMul, Nat.reduceSub, Nat.zero_add, Nat.add_zero, Ret_s, cstN]
  | succ d ih =>
    intro i p fu g a h1 h2 hp hg h
    obtain ⟨fu, rfl, hf⟩ := fu1 h2
    obtain ⟨a1, e1, r1⟩ := step_I h hn hp
    obtain ⟨g1, p1⟩ := cst_ok hg hp
    obtain ⟨a2, e2, r2, g2⟩ := ih (i + 1) (cst n g p).2 fu (cst n g p).1 a1 (by omega) (by omega) p1 g1 r1
    refine ⟨a2, ?_, r2, g2⟩
    rw [F_X5_carry_L32]
    simp (disch := omega) only [↓qM, zq0, zq1, zq2, zq3, zq4, zq5, zq6, zq7, zq8, zq9, zq10, zq11, zq12, zq13, zq14, zq20, zq33, zq48, zq49, zq50, zq57, zq60, zq61, zq78, zq97, zq102, zq126, zq486, zq600, zq2916, zq4200, le_I, lt_I, eq_I, ne_M, lt_M, cl_I, vin_T, gd_tt, nz_T, nI_add, sub_I, m1_M, pk_mul, div_I, Option.bind_some, Option.map_some, if_pos, if_neg, if_true, if_false, Nat.reduceAdd, Nat.reduceMul, Nat.reduceSub, Nat.zero_add, Nat.add_zero, Ret_s, e1, e2, cstN]
theorem rcarryL_I {n m : Nat} {x1 sts thr : Int32} {hi : Nat → Int32} (hn : n ≤ 11) (hm : m ≤ 20) : ∀ (d i p fu : Nat) (g : Nat → Nat) (z : Nat → Int32), i + d = m → d < fu → p < n → RG n g → ZI z n g → ∃ z', F_X6_carry_L49 x1 (nI m) fu sts thr hi z (nI p) (nI i) = some (nI (cstN n d g p).2, sts, thr, hi, z') ∧ ZI z' n (cstN n d g p).1 ∧ z' 1 = z 1 := by
  intro d
  induction d with
  | zero =>
    intro i p fu g z h1 h2 hp hg h
    obtain ⟨fu, rfl, hf⟩ := fu1 h2
    refine ⟨z, ?_, h, rfl⟩
    rw [F_X6_carry_L49]
    simp (disch := omega) only [↓qM, zq0, zq1, zq2, zq3, zq4, zq5, zq6, zq7, zq8, zq9, zq10, zq11, zq12, zq13, zq14, zq20, zq33, zq48, zq49, zq50, zq57, zq60, zq61, zq78, zq97, zq102, zq126, zq486, zq600, zq2916, zq4200, le_I, lt_I, eq_I, ne_M, lt_M, cl_I, vin_T, gd_tt, nz_T, nI_add, sub_I, m1_M, pk_mul, div_I, Option.bind_some, Option.map_some, if_pos, if_neg, if_true, if_false, Nat.reduceAdd, Nat.reduceMul, Nat.reduceSub, Nat.zero_add, Nat.add_zero, Ret_s, cstN]
  | succ d ih =>
    intro i p fu g z h1 h2 hp hg h
    obtain ⟨fu, rfl, hf⟩ := fu1 h2
    obtain ⟨z1, e1, r1, u1⟩ := rstep_I h hn hp
    obtain ⟨g1, p1⟩ := cst_ok hg hp
    obtain ⟨z2, e2, r2, u2⟩ := ih (i + 1) (cst n g p).2 fu (cst n g p).1 z1 (by omega) (by omega) p1 g1 r1
    refine ⟨z2, ?_, r2, u2.trans u1⟩
    rw [F_X6_carry_L49]
    simp (disch := omega) only [↓qM, zq0, zq1, zq2, zq3, zq4, zq5, zq6, zq7, zq8, zq9, zq10, zq11, zq12, zq13, zq14, zq20, zq33, zq48, zq49, zq50, zq57, zq60, zq61, zq78, zq97, zq102, zq126, zq486, zq600, zq2916, zq4200, le_I, lt_I, eq_I, ne_M, lt_M, cl_I, vin_T, gd_tt, nz_T, nI_add, sub_I, m1_M, pk_mul, div_I, Option.bind_some, Option.map_some, if_pos, if_neg, if_true, if_false, Nat.reduceAdd, Nat.reduceMul, Nat.reduceSub, Nat.zero_add, Nat.add_zero, Ret_s, e1, e2, cstN]
/-- a sign put in, as the class does it -/
theorem gbring_at {to : Nat} : ∀ (d : Nat) (g : Nat → Nat) (i : Nat), gbring g to d i = if i = to then g (to + d) else if to < i ∧ i ≤ to + d then g (i - 1) else g i := by
  intro d
  induction d with
  | zero =>
    intro g i
    rw [gbring]
    by_cases e : i = to
    · rw [if_pos e, e]; rfl
    · rw [if_neg e, if_neg (by omega)]
  | succ d ih =>
    intro g i
    rw [gbring, ih]
    unfold gswap gset
    by_cases e : i = to
    · rw [if_pos e, if_pos e, if_pos rfl]; rfl
    · rw [if_neg e, if_neg e]
      by_cases e2 : to < i ∧ i ≤ to + d
      · rw [if_pos e2, if_neg (show ¬ i - 1 = to + d by omega), if_neg (show ¬ i - 1 = to + d + 1 by omega), if_pos (show to < i ∧ i ≤ to + (d + 1) by omega)]
      · rw [if_neg e2]
        by_cases e3 : i = to + d + 1
        · rw [if_neg (show ¬ i = to + d by omega), if_pos e3, if_pos (show to < i ∧ i ≤ to + (d + 1) by omega), show i - 1 = to + d by omega]
        · rw [if_neg (show ¬ i = to + d by omega), if_neg e3, if_neg (show ¬ (to < i ∧ i ≤ to + (d + 1)) by omega)]
theorem gins_at {g : Nat → Nat} {n p v i : Nat} (hp : p ≤ n) (hi : i ≤ n) : gins g n p v i = if i = p then v else if p < i then g (i - 1) else g i := by
  unfold gins
  rw [gbring_at]
  by_cases e : i = p
  · rw [if_pos e, if_pos e, show p + (n - p) = n by omega, gset_s]
  · rw [if_neg e, if_neg e]
    by_cases e2 : p < i
    · rw [if_pos (by omega), if_pos e2, gset_n _ _ (by omega)]
    · rw [if_neg (by omega), if_neg e2, gset_n _ _ (by omega)]
theorem gins_RG {g : Nat → Nat} {n p v : Nat} (hg : RG n g) (hp : p ≤ n) (hv : v < 6) : RG (n + 1) (gins g n p v) := by
  intro i hi
  rw [gins_at hp (by omega)]
  by_cases e : i = p
  · rw [if_pos e]; exact hv
  · rw [if_neg e]
    by_cases e2 : p < i
    · rw [if_pos e2]; exact hg _ (by omega)
    · rw [if_neg e2]; exact hg _ (by omega)
theorem gdel_RG {g : Nat → Nat} {n p : Nat} (hg : RG n g) (hp : p < n) : RG (n - 1) (gdel g p) := by
  intro i hi
  unfold gdel
  by_cases e : i < p
  · rw [if_pos e]; exact hg _ (by omega)
  · rw [if_neg e]; exact hg _ (by omega)
theorem rputL_I {n p v : Nat} {sts thr : Int32} {hi : Nat → Int32} {g : Nat → Nat} (hn : n < 11) (hg : RG n g) (hp : p ≤ n) (hv : v < 6) : ∀ (d fu : Nat) (z lf : Nat → Int32), d < fu → p + d ≤ n → z 0 = nI n → (∀ j, j ≤ p + d → j < n → z (2 + j) = nI (g j)) → (∀ j, p + d < j → j ≤ n → z (2 + j) = nI (g (j - 1))) → ∃ lf' z', F_X6_put_L71 (nI p) (nI v) fu sts thr hi lf z (nI (2 + (p + d))) = some (nI (ways (cF (gins g n p v) (n + 1) 0)), sts, thr, hi, lf', z') ∧ ZI z' (n + 1) (gins g n p v) ∧ z' 1 = z 1 := by
  intro d
  induction d with
  | zero =>
    intro fu z lf h1 h2 h0 h3 h4
    obtain ⟨fu, rfl, hf⟩ := fu1 h1
    have hz : ZI (upd (upd z (2 + p) (nI v)) 0 (nI (n + 1))) (n + 1) (gins g n p v) := by
      refine ⟨by rw [upd_s], fun i hi => ?_⟩
      rw [upd_n _ _ (by omega), gins_at hp (by omega)]
      by_cases e : i = p
      · rw [if_pos e, e, upd_s]
      · rw [if_neg e, upd_n _ _ (by omega)]
        by_cases e2 : p < i
        · rw [if_pos e2]; exact h4 i (by omega) (by omega)
        · rw [if_neg e2]; exact h3 i (by omega) (by omega)
    obtain ⟨lf', e1, -⟩ := allRows_I (o := lf) hz (by omega) (gins_RG hg hp hv)
    refine ⟨lf', _, ?_, hz, by rw [upd_n _ _ (by omega), upd_n _ _ (by omega)]⟩
    have e0 : upd z (2 + p) (nI v) 0 = nI n := by rw [upd_n _ _ (by omega)]; exact h0
    rw [F_X6_put_L71]
    simp (disch := omega) only [↓qM, zq0, zq1, zq2, zq3, zq4, zq5, zq6, zq7, zq8, zq9, zq10, zq11, zq12, zq13, zq14, zq20, zq33, zq48, zq49, zq50, zq57, zq60, zq61, zq78, zq97, zq102, zq126, zq486, zq600, zq2916, zq4200, le_I, lt_I, eq_I, ne_M, lt_M, cl_I, vin_T, gd_tt, nz_T, nI_add, sub_I, m1_M, pk_mul, div_I, Option.bind_some, Option.map_some, if_pos, if_neg, if_true, if_false, Nat.reduceAdd, Nat.reduceMul, Nat.reduceSub, Nat.zero_add, Nat.add_zero, Ret_s, e0, e1]
  | succ d ih =>
    intro fu z lf h1 h2 h0 h3 h4
    obtain ⟨fu, rfl, hf⟩ := fu1 h1
    have e0 : z (2 + (p + d)) = nI (g (p + d)) := h3 (p + d) (by omega) (by omega)
    obtain ⟨lf', z', e1, hz, u⟩ := ih fu (upd z (2 + (p + (d + 1))) (nI (g (p + d)))) lf (by omega) (by omega) (by rw [upd_n _ _ (by omega)]; exact h0) (fun j hj hj2 => by rw [upd_n _ _ (by omega)]; exact h3 j (by omega) hj2) (fun j hj hj2 => by
      by_cases e : j = p + (d + 1)
      · subst e; rw [upd_s, show p + (d + 1) - 1 = p + d by omega]
      · rw [upd_n _ _ (by omega)]; exact h4 j (by omega) hj2)
    refine ⟨lf', z', ?_, hz, by rw [u, upd_n _ _ (by omega)]⟩
    have e2 : 2 + (p + (d + 1)) - 1 = 2 + (p + d) := by omega
    rw [F_X6_put_L71]
    simp (disch := omega) only [↓qM, zq0, zq1, zq2, zq3, zq4, zq5, zq6, zq7, zq8, zq9, zq10, zq11, zq12, zq13, zq14, zq20, zq33, zq48, zq49, zq50, zq57, zq60, zq61, zq78, zq97, zq102, zq126, zq486, zq600, zq2916, zq4200, le_I, lt_I, eq_I, ne_M, lt_M, cl_I, vin_T, gd_tt, nz_T, nI_add, sub_I, m1_M, pk_mul, div_I, Option.bind_some, Option.map_some, if_pos, if_neg, if_true, if_false, Nat.reduceAdd, Nat.reduceMul, Nat.reduceSub, Nat.zero_add, Nat.add_zero, Ret_s, e2, e0, e1]
theorem rtakeL_I {n p : Nat} {sts thr x1 x2 : Int32} {hi : Nat → Int32} {g : Nat → Nat} (hn : n < 11) (hp : p ≤ n) : ∀ (d i fu : Nat) (z : Nat → Int32), i + d = n → p ≤ i → d < fu → z 0 = nI n → (∀ j, j < i → z (2 + j) = nI (gdel g p j)) → (∀ j, i ≤ j → j < n + 1 → z (2 + j) = nI (g j)) → ∃ z', F_X6_take_L67 x1 fu sts thr hi z x2 (nI (2 + i)) = some (x2, sts, thr, hi, z') ∧ ZI z' n (gdel g p) ∧ z' 1 = z 1 := by
  intro d
  induction d with
  | zero =>
    intro i fu z h1 hpi h2 h0 h3 h4
    obtain ⟨fu, rfl, hf⟩ := fu1 h2
    obtain rfl : i = n := by omega
    refine ⟨upd z (2 + i) (nI 0), ?_, ⟨by rw [upd_n _ _ (by omega)]; exact h0, fun j hj => by rw [upd_n _ _ (by omega)]; exact h3 j hj⟩, by rw [upd_n _ _ (by omega)]⟩
    rw [F_X6_take_L67]
    simp (disch := omega) only [↓qM, zq0, zq1, zq2, zq3, zq4, zq5, zq6, zq7, zq8, zq9, zq10, zq11, zq12, zq13, zq14, zq20, zq33, zq48, zq49, zq50, zq57, zq60, zq61, zq78, zq97, zq102, zq126, zq486, zq600, zq2916, zq4200, le_I, lt_I, eq_I, ne_M, lt_M, cl_I, vin_T, gd_tt, nz_T, nI_add, sub_I, m1_M, pk_mul, div_I, Option.bind_some, Option.map_some, if_pos, if_neg, if_true, if_false, Nat.reduceAdd, Nat.reduceMul, Nat.reduceSub, Nat.zero_add, Nat.add_zero, Ret_s, h0]
  | succ d ih =>
    intro i fu z h1 hpi h2 h0 h3 h4
    obtain ⟨fu, rfl, hf⟩ := fu1 h2
    have e0 : z (2 + (i + 1)) = nI (g (i + 1)) := h4 (i + 1) (by omega) (by omega)
    obtain ⟨z', e1, hz, u⟩ := ih (i + 1) fu (upd z (2 + i) (nI (g (i + 1)))) (by omega) (by omega) (by omega) (by rw [upd_n _ _ (by omega)]; exact h0) (fun j hj => by
      by_cases e : j = i
      · subst e; rw [upd_s]; unfold gdel; rw [if_neg (by omega)]
      · rw [upd_n _ _ (by omega)]; exact h3 j (by omega)) (fun j hj hj2 => by rw [upd_n _ _ (by omega)]; exact h4 j (by omega) hj2)
    refine ⟨z', ?_, hz, by rw [u, upd_n _ _ (by omega)]⟩
    have e2 : 2 + i + 1 = 2 + (i + 1) := by omega
    rw [F_X6_take_L67]
    simp (disch := omega) only [↓qM, zq0, zq1, zq2, zq3, zq4, zq5, zq6, zq7, zq8, zq9, zq10, zq11, zq12, zq13, zq14, zq20, zq33, zq48, zq49, zq50, zq57, zq60, zq61, zq78, zq97, zq102, zq126, zq486, zq600, zq2916, zq4200, le_I, lt_I, eq_I, ne_M, lt_M, cl_I, vin_T, gd_tt, nz_T, nI_add, sub_I, m1_M, pk_mul, div_I, Option.bind_some, Option.map_some, if_pos, if_neg, if_true, if_false, Nat.reduceAdd, Nat.reduceMul, Nat.reduceSub, Nat.zero_add, Nat.add_zero, Ret_s, h0, e2, e0, e1]
