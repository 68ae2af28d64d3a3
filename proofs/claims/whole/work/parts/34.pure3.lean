/-! pure words: counts of signs, factorials, how many arrangements -/
def sum6 (c : Nat → Nat) : Nat := c 0 + c 1 + c 2 + c 3 + c 4 + c 5
def dec (c : Nat → Nat) (s : Nat) : Nat → Nat := gset c s (c s - 1)
def inc (c : Nat → Nat) (s : Nat) : Nat → Nat := gset c s (c s + 1)
theorem six {s : Nat} (h : s < 6) : s = 0 ∨ s = 1 ∨ s = 2 ∨ s = 3 ∨ s = 4 ∨ s = 5 := by omega
theorem sum6_dec {c : Nat → Nat} {s : Nat} (h : s < 6) (hc : 0 < c s) : sum6 (dec c s) = sum6 c - 1 := by
  rcases six h with rfl | rfl | rfl | rfl | rfl | rfl <;> simp [sum6, dec, gset] <;> omega
theorem sum6_inc {c : Nat → Nat} {s : Nat} (h : s < 6) : sum6 (inc c s) = sum6 c + 1 := by
  rcases six h with rfl | rfl | rfl | rfl | rfl | rfl <;> simp [sum6, inc, gset] <;> omega
theorem le_sum6 {c : Nat → Nat} {s : Nat} (h : s < 6) : c s ≤ sum6 c := by
  rcases six h with rfl | rfl | rfl | rfl | rfl | rfl <;> simp [sum6] <;> omega
/-- the array holds the counts -/
def BA (c : Nat → Nat) (often : Nat → Int32) : Prop := ∀ s, s < 6 → often s = nI (c s)
theorem BA.upd {c : Nat → Nat} {o : Nat → Int32} (h : BA c o) (s v : Nat) : BA (gset c s v) (upd o s (nI v)) := by
  intro t ht
  by_cases e : t = s
  · subst e; rw [upd_s, gset_s]
  · rw [upd_n _ _ e, gset_n _ _ e]; exact h t ht
theorem BA.ext {c d : Nat → Nat} {o : Nat → Int32} (h : BA c o) (e : ∀ s, s < 6 → c s = d s) : BA d o := fun s hs => by rw [h s hs, e s hs]
theorem of_I {c : Nat → Nat} {o : Nat → Int32} {s : Nat} (h : BA c o) (hs : s < 6) : F_X0_of o (nI s) = some (nI (c s)) := by
  unfold F_X0_of
  rw [if_neg (nl0_I (by omega)), if_neg (by rw [q6, le_I (by omega) (by omega)]; omega), gd_t _ (vin_I hs (by omega)), cl_I (by omega), h s hs]
theorem badd_I {c : Nat → Nat} {o : Nat → Int32} {s t : Nat} (h : BA c o) (hs : s < 6) : ∃ o', F_X0_add (nI t) o (nI s) = some (nI (t + 1), o') ∧ BA (inc c s) o' := by
  refine ⟨upd o s (nI (c s + 1)), ?_, h.upd s (c s + 1)⟩
  unfold F_X0_add
  rw [if_neg (nl0_I (by omega)), if_neg (by rw [q6, le_I (by omega) (by omega)]; omega), gd_t _ (vin_I hs (by omega)), gd_t _ (vin_I hs (by omega)), cl_I (by omega), h s hs, nI_1, nI_1]
theorem drop_I {c : Nat → Nat} {o : Nat → Int32} {s t : Nat} (h : BA c o) (hs : s < 6) (hc : 0 < c s) (hb : c s < 2147483648) (ht : 1 ≤ t) : ∃ o', F_X0_drop (nI t) o (nI s) = some (nI (t - 1), o') ∧ BA (dec c s) o' := by
  refine ⟨upd o s (nI (c s - 1)), ?_, h.upd s (c s - 1)⟩
  unfold F_X0_drop
  rw [if_neg (nl0_I (by omega)), if_neg (by rw [q6, le_I (by omega) (by omega)]; omega), gd_t _ (vin_I hs (by omega)), cl_I (by omega), h s hs]
  rw [if_neg (by rw [q0, le_I (by omega) (by omega)]; omega), gd_t _ (vin_I hs (by omega)), gd_t _ (vin_I hs (by omega)), q1, sub_I ht, sub_I (by omega)]
theorem drop0_I {c : Nat → Nat} {o : Nat → Int32} {s : Nat} {t : Int32} (h : BA c o) (hs : s < 6) (hc : c s = 0) : F_X0_drop t o (nI s) = some (t, o) := by
  unfold F_X0_drop
  rw [if_neg (nl0_I (by omega)), if_neg (by rw [q6, le_I (by omega) (by omega)]; omega), gd_t _ (vin_I hs (by omega)), cl_I (by omega), h s hs, hc]
  rw [if_pos (by decide)]
/-- how often each sign is among the d from p on -/
def cnt (g : Nat → Nat) (p d : Nat) : Nat → Nat := fun s => sumL (fun i => b2n (g i = s)) p d
theorem cnt_0 (g : Nat → Nat) (p s : Nat) : cnt g p 0 s = 0 := rfl
theorem cnt_s (g : Nat → Nat) (p d s : Nat) : cnt g p (d + 1) s = b2n (g p = s) + cnt g (p + 1) d s := rfl
theorem sumL_last (f : Nat → Nat) : ∀ d i, sumL f i (d + 1) = sumL f i d + f (i + d) := by
  intro d
  induction d with
  | zero => intro i; simp [sumL]
  | succ d ih =>
    intro i
    rw [sumL, ih (i + 1), sumL]
    rw [show i + 1 + d = i + (d + 1) by omega]
    omega
theorem cnt_l (g : Nat → Nat) (p d s : Nat) : cnt g p (d + 1) s = cnt g p d s + b2n (g (p + d) = s) := sumL_last _ d p
theorem b2n_t {p : Prop} [Decidable p] (h : p) : b2n p = 1 := if_pos h
theorem b2n_f {p : Prop} [Decidable p] (h : ¬ p) : b2n p = 0 := if_neg h
theorem cnt_inc {g : Nat → Nat} {p d : Nat} (s : Nat) : cnt g p (d + 1) s = inc (cnt g p d) (g (p + d)) s := by
  rw [cnt_l]
  unfold inc
  by_cases e : s = g (p + d)
  · subst e; rw [gset_s, b2n_t rfl]
  · rw [gset_n _ _ e, b2n_f (fun h => e h.symm)]; rfl
theorem cnt_dec {g : Nat → Nat} {p d : Nat} (s : Nat) : cnt g (p + 1) d s = dec (cnt g p (d + 1)) (g p) s := by
  unfold dec
  by_cases e : s = g p
  · subst e; rw [gset_s, cnt_s, b2n_t rfl]; omega
  · rw [gset_n _ _ e, cnt_s, b2n_f (fun h => e h.symm)]; omega
theorem cnt_pos {g : Nat → Nat} {p d : Nat} : 0 < cnt g p (d + 1) (g p) := by rw [cnt_s, b2n_t rfl]; omega
theorem sum6_cnt {n : Nat} {g : Nat → Nat} (hg : RG n g) : ∀ d p, p + d ≤ n → sum6 (cnt g p d) = d := by
  intro d
  induction d with
  | zero => intro p _; rfl
  | succ d ih =>
    intro p hp
    have h1 := ih p (by omega)
    have h2 : sum6 (cnt g p (d + 1)) = sum6 (inc (cnt g p d) (g (p + d))) := by unfold sum6; simp only [cnt_inc]
    rw [h2, sum6_inc (hg (p + d) (by omega)), h1]
theorem fillI_I {n k : Nat} {g : Nat → Nat} {a : Nat → Int32} {y : Int32} (hn : n ≤ 11) (hg : RG n g) (h : RA n g a) (hk : k ≤ n) : ∀ (d e fu : Nat) (o : Nat → Int32), k + e + d = n → d < fu → BA (cnt g k e) o → ∃ o', F_X0_fill_L28 (nI n) a y fu (nI e) o (nI (k + e)) = some (nI (n - k), o') ∧ BA (cnt g k (n - k)) o' := by
  intro d
  induction d with
  | zero =>
    intro e fu o h1 h2 hb
    obtain ⟨fu, rfl, hf⟩ := fu1 h2
    obtain rfl : e = n - k := by omega
    exact ⟨o, by rw [F_X0_fill_L28]; show (some (nI n)).bind _ = _; rw [Option.bind_some, if_pos (by rw [le_I (by omega) (by omega)]; omega)], hb⟩
  | succ d ih =>
    intro e fu o h1 h2 hb
    obtain ⟨fu, rfl, hf⟩ := fu1 h2
    obtain ⟨o1, h3, h4⟩ := badd_I (t := e) hb (hg (k + e) (by omega))
    obtain ⟨o2, h5, h6⟩ := ih (e + 1) fu o1 (by omega) (by omega) (h4.ext (fun s _ => (cnt_inc s).symm))
    refine ⟨o2, ?_, h6⟩
    rw [F_X0_fill_L28]
    show (some (nI n)).bind _ = _
    rw [Option.bind_some, if_neg (by rw [le_I (by omega) (by omega)]; omega), at_I (by omega) hn, Option.bind_some, h (k + e) (by omega), h3, Option.bind_some, nI_1]
    exact h5
theorem fillO_I {n k : Nat} {g : Nat → Nat} {a : Nat → Int32} (hn : n ≤ 11) (hg : RG n g) (h : RA n g a) (hk : k ≤ n) : ∀ (d i fu : Nat) (o : Nat → Int32), i + d = 6 → d < fu → (∀ j, j < i → o j = 0) → ∃ o', F_X0_fill_L7 (nI n) a (nI k) fu 0 o (nI i) = some (nI (n - k), o') ∧ BA (cnt g k (n - k)) o' := by
  intro d
  induction d with
  | zero =>
    intro i fu o h1 h2 h3
    obtain ⟨fu, rfl, hf⟩ := fu1 h2
    obtain ⟨o', h4, h5⟩ := fillI_I (y := nI k) hn hg h hk (n - k) 0 FU o (by omega) (FU_lt (by omega)) (fun s hs => h3 s (by omega))
    refine ⟨o', ?_, h5⟩
    rw [F_X0_fill_L7, if_pos (by rw [q6, le_I (by omega) (by omega)]; omega)]
    exact h4
  | succ d ih =>
    intro i fu o h1 h2 h3
    obtain ⟨fu, rfl, hf⟩ := fu1 h2
    obtain ⟨o', h4, h5⟩ := ih (i + 1) fu (upd o i 0) (by omega) (by omega) (fun j hj => by
      by_cases e : j = i
      · subst e; rw [upd_s]
      · rw [upd_n _ _ e]; exact h3 j (by omega))
    refine ⟨o', ?_, h5⟩
    rw [F_X0_fill_L7, if_neg (by rw [q6, le_I (by omega) (by omega)]; omega), gd_t _ (vin_I (by omega) (by omega)), cl_I (by omega), nI_1]
    exact h4
theorem fill_I {n k : Nat} {g : Nat → Nat} {a o : Nat → Int32} {t : Int32} (hn : n ≤ 11) (hg : RG n g) (h : RA n g a) (hk : k ≤ n) : ∃ o', F_X0_fill t o (nI n) a (nI k) = some (nI (n - k), o') ∧ BA (cnt g k (n - k)) o' := by
  unfold F_X0_fill
  exact fillO_I hn hg h hk 6 0 FU o (by omega) (FU_lt (by omega)) (fun j hj => absurd hj (by omega))
theorem belowL_I {c : Nat → Nat} {o : Nat → Int32} {s : Nat} (h : BA c o) (hs : s ≤ 6) : ∀ (d i x fu : Nat), i + d = s → d < fu → F_X0_below_L4 o (nI s) fu (nI x) (nI i) = some (nI (x + sumL c i d)) := by
  intro d
  induction d with
  | zero =>
    intro i x fu h1 h2
    obtain ⟨fu, rfl, hf⟩ := fu1 h2
    rw [F_X0_below_L4, if_pos (by rw [le_I (by omega) (by omega)]; omega)]
    rfl
  | succ d ih =>
    intro i x fu h1 h2
    obtain ⟨fu, rfl, hf⟩ := fu1 h2
    rw [F_X0_below_L4, if_neg (by rw [le_I (by omega) (by omega)]; omega), of_I h (by omega), Option.bind_some, nI_add, nI_1, ih (i + 1) _ fu (by omega) (by omega), sumL, Nat.add_assoc]
theorem below_I {c : Nat → Nat} {o : Nat → Int32} {s : Nat} (h : BA c o) (hs : s ≤ 6) : F_X0_below o (nI s) = some (nI (sumL c 0 s)) := by
  unfold F_X0_below
  have := belowL_I h hs s 0 0 FU (by omega) (FU_lt (by omega))
  rw [Nat.zero_add] at this
  exact this
theorem unlikeBL_I {c : Nat → Nat} {o : Nat → Int32} {s : Nat} (h : BA c o) (hb : ∀ s, s < 6 → c s < 2147483648) (hs : s ≤ 6) : ∀ (d i x fu : Nat), i + d = s → d < fu → F_X0_unlikeBelow_L4 o (nI s) fu (nI x) (nI i) = some (nI (x + sumL (fun t => b2n (0 < c t)) i d)) := by
  intro d
  induction d with
  | zero =>
    intro i x fu h1 h2
    obtain ⟨fu, rfl, hf⟩ := fu1 h2
    rw [F_X0_unlikeBelow_L4, if_pos (by rw [le_I (by omega) (by omega)]; omega)]
    rfl
  | succ d ih =>
    intro i x fu h1 h2
    obtain ⟨fu, rfl, hf⟩ := fu1 h2
    have hbi := hb i (by omega)
    rw [F_X0_unlikeBelow_L4, if_neg (by rw [le_I (by omega) (by omega)]; omega), of_I h (by omega), Option.bind_some, q0, q1, nI_add, nI_add, nI_add]
    have e : (if nI (c i) ≤ nI 0 then nI (x + 0) else nI (x + 1)) = nI (x + b2n (0 < c i)) := by
      by_cases e : 0 < c i
      · rw [if_neg (by rw [le_I (by omega) (by omega)]; omega), b2n_t e]
      · rw [if_pos (by rw [le_I (by omega) (by omega)]; omega), b2n_f e]
    rw [e, ih (i + 1) _ fu (by omega) (by omega), sumL, Nat.add_assoc]
theorem unlikeB_I {c : Nat → Nat} {o : Nat → Int32} {s : Nat} (h : BA c o) (hb : ∀ s, s < 6 → c s < 2147483648) (hs : s ≤ 6) : F_X0_unlikeBelow o (nI s) = some (nI (sumL (fun t => b2n (0 < c t)) 0 s)) := by
  unfold F_X0_unlikeBelow
  have := unlikeBL_I h hb hs s 0 0 FU (by omega) (FU_lt (by omega))
  rw [Nat.zero_add] at this
  exact this
def fact : Nat → Nat
  | 0 => 1
  | n + 1 => (n + 1) * fact n
theorem fact_pos : ∀ n, 0 < fact n
  | 0 => Nat.one_pos
  | n + 1 => Nat.mul_pos (Nat.succ_pos n) (fact_pos n)
theorem fact_11 {n : Nat} (h : n ≤ 11) : fact n ≤ 39916800 ∧ kF n = nI (fact n) := by
  have : n = 0 ∨ n = 1 ∨ n = 2 ∨ n = 3 ∨ n = 4 ∨ n = 5 ∨ n = 6 ∨ n = 7 ∨ n = 8 ∨ n = 9 ∨ n = 10 ∨ n = 11 := by omega
  rcases this with rfl | rfl | rfl | rfl | rfl | rfl | rfl | rfl | rfl | rfl | rfl | rfl <;> exact ⟨by decide, rfl⟩
theorem factorial_I {n : Nat} (h : n ≤ 11) : F_X0_factorial (nI n) = some (nI (fact n)) := by
  unfold F_X0_factorial
  rw [if_neg (nl0_I (by omega)), if_neg (by rw [q12, le_I (by omega) (by omega)]; omega), gd_t _ (vin_I (by omega) (by omega)), cl_I (by omega), (fact_11 h).2]
/-- the division of x by the factorials of the counts, from s on -/
def divs (c : Nat → Nat) : Nat → Nat → Nat → Nat
  | _, 0, x => x
  | s, d + 1, x => divs c (s + 1) d (x / fact (c s))
def ways (c : Nat → Nat) : Nat := divs c 0 6 (fact (sum6 c))
theorem div_I {a d : Nat} (ha : a < 2147483648) (h0 : 0 < d) (hd : d < 2147483648) : nI a / nI d = nI (a / d) := pk_div ha h0 hd
theorem nz_I {d : Nat} (h0 : 0 < d) (hd : d < 2147483648) : nz (nI d) = true := decide_eq_true (by rw [q0, eq_I hd (by omega)]; omega)
theorem waysL_I {c : Nat → Nat} {o : Nat → Int32} {t : Int32} (h : BA c o) (hc : ∀ s, s < 6 → c s ≤ 11) : ∀ (d s x fu : Nat), s + d = 6 → d < fu → x < 2147483648 → F_X0_ways_L10 t o fu (nI x) (nI s) = some (nI (divs c s d x)) := by
  intro d
  induction d with
  | zero =>
    intro s x fu h1 h2 h3
    obtain ⟨fu, rfl, hf⟩ := fu1 h2
    rw [F_X0_ways_L10, if_pos (by rw [q6, le_I (by omega) (by omega)]; omega)]
    rfl
  | succ d ih =>
    intro s x fu h1 h2 h3
    obtain ⟨fu, rfl, hf⟩ := fu1 h2
    have hcs := hc s (by omega)
    have hfp := fact_pos (c s)
    have hfb := (fact_11 hcs).1
    have hdv : x / fact (c s) ≤ x := Nat.div_le_self _ _
    rw [F_X0_ways_L10, if_neg (by rw [q6, le_I (by omega) (by omega)]; omega), gd_t _ (vin_I (by omega) (by omega)), cl_I (by omega), h s (by omega), factorial_I hcs, Option.bind_some]
    rw [if_neg (by rw [q0, le_I (by omega) (by omega)]; omega), gd_t _ (nz_I hfp (by omega)), div_I h3 hfp (by omega), nI_1, ih (s + 1) _ fu (by omega) (by omega) (by omega)]
    rfl
theorem ways_I {c : Nat → Nat} {o : Nat → Int32} (h : BA c o) (hs : sum6 c ≤ 11) : F_X0_ways (nI (sum6 c)) o = some (nI (ways c)) := by
  unfold F_X0_ways
  have hb := (fact_11 hs).1
  rw [factorial_I hs, Option.bind_some]
  exact waysL_I h (fun s hs2 => Nat.le_trans (le_sum6 hs2) hs) 6 0 _ FU (by omega) (FU_lt (by omega)) (by omega)
/-- how many arrangements begin with the sign s -/
def wB (c : Nat → Nat) (s : Nat) : Nat := if c s = 0 then 0 else ways (dec c s)
theorem waysBehind_I {c : Nat → Nat} {o : Nat → Int32} {s : Nat} (h : BA c o) (hs : sum6 c ≤ 11) (h6 : s < 6) : ∃ o', F_X0_waysBehind (nI (sum6 c)) o (nI s) = some (nI (wB c s), nI (sum6 c), o') ∧ BA c o' := by
  have hcs : c s ≤ 11 := Nat.le_trans (le_sum6 h6) hs
  unfold F_X0_waysBehind
  rw [of_I h h6, Option.bind_some]
  by_cases e : c s = 0
  · refine ⟨o, ?_, h⟩
    rw [if_pos (by rw [e]; rfl), wB, if_pos e]
    rfl
  · have hle := le_sum6 (c := c) h6
    obtain ⟨o1, h1, h2⟩ := drop_I (t := sum6 c) h h6 (by omega) (by omega) (by omega)
    have hd := sum6_dec (c := c) h6 (by omega)
    obtain ⟨o2, h3, h4⟩ := badd_I (t := sum6 c - 1) h2 h6
    refine ⟨o2, ?_, h4.ext (fun t _ => ?_)⟩
    · rw [if_neg (by rw [q0, eq_I (by omega) (by omega)]; exact e), h1, Option.bind_some]
      have h5 := ways_I h2 (by omega)
      rw [hd] at h5
      show (F_X0_ways (nI (sum6 c - 1)) o1).bind _ = _
      rw [h5, Option.bind_some, h3, Option.bind_some, wB, if_neg e, show sum6 c - 1 + 1 = sum6 c by omega]
    · unfold inc dec
      by_cases e2 : t = s
      · subst e2; rw [gset_s, gset_s]; omega
      · rw [gset_n _ _ e2, gset_n _ _ e2]
