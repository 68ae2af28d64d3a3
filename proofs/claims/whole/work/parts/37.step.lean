/-! the steps of straight code by simp; answers as Ret -/
def nM : Int32 := -1
theorem zq0 : (0 : Int32) = nI 0 := Eq.trans q0 rfl
theorem zq1 : (1 : Int32) = nI 1 := Eq.trans q1 rfl
theorem zq2 : (2 : Int32) = nI 2 := Eq.trans q2 rfl
theorem zq3 : (3 : Int32) = nI 3 := Eq.trans q3 rfl
theorem zq4 : (4 : Int32) = nI 4 := Eq.trans q4 rfl
theorem zq5 : (5 : Int32) = nI 5 := Eq.trans q5 rfl
theorem zq6 : (6 : Int32) = nI 6 := Eq.trans q6 rfl
theorem zq7 : (7 : Int32) = nI 7 := Eq.trans q7 rfl
theorem zq8 : (8 : Int32) = nI 8 := Eq.trans q8 rfl
theorem zq9 : (9 : Int32) = nI 9 := Eq.trans q9 rfl
theorem zq10 : (10 : Int32) = nI 10 := Eq.trans q10 rfl
theorem zq11 : (11 : Int32) = nI 11 := Eq.trans q11 rfl
theorem zq12 : (12 : Int32) = nI 12 := Eq.trans q12 rfl
theorem zq13 : (13 : Int32) = nI 13 := Eq.trans q13 rfl
theorem zq14 : (14 : Int32) = nI 14 := Eq.trans q14 rfl
theorem zq20 : (20 : Int32) = nI 20 := Eq.trans q20 rfl
theorem zq33 : (33 : Int32) = nI 33 := Eq.trans q33 rfl
theorem zq48 : (48 : Int32) = nI 48 := Eq.trans q48 rfl
theorem zq49 : (49 : Int32) = nI 49 := Eq.trans q49 rfl
theorem zq50 : (50 : Int32) = nI 50 := Eq.trans q50 rfl
theorem zq57 : (57 : Int32) = nI 57 := Eq.trans q57 rfl
theorem zq60 : (60 : Int32) = nI 60 := Eq.trans q60 rfl
theorem zq61 : (61 : Int32) = nI 61 := Eq.trans q61 rfl
theorem zq78 : (78 : Int32) = nI 78 := Eq.trans q78 rfl
theorem zq97 : (97 : Int32) = nI 97 := Eq.trans q97 rfl
theorem zq102 : (102 : Int32) = nI 102 := Eq.trans q102 rfl
theorem zq126 : (126 : Int32) = nI 126 := Eq.trans q126 rfl
theorem zq486 : (486 : Int32) = nI 486 := Eq.trans q486 rfl
theorem zq600 : (600 : Int32) = nI 600 := Eq.trans q600 rfl
theorem zq2916 : (2916 : Int32) = nI 2916 := Eq.trans q2916 rfl
theorem zq4200 : (4200 : Int32) = nI 4200 := Eq.trans q4200 rfl
theorem qM : (-1 : Int32) = nM := rfl
theorem ne_M {a : Nat} (h : a < 2147483648) : (nI a = nM) = False := eq_false (fun e => by
  have h1 := nI_toInt (n := a) h
  rw [e] at h1
  have h2 : nM.toInt = -1 := by decide
  omega)
theorem lt_M {a : Nat} (h : a < 2147483648) : (nI a ≤ nM) = False := eq_false (fun e => by
  have h1 := Int32.le_iff_toInt_le.mp e
  rw [nI_toInt h] at h1
  have h2 : nM.toInt = -1 := by decide
  omega)
theorem m1_M {a : Nat} (h : 1 ≤ a) : nI a + nM = nI (a - 1) := m1_I h
theorem vin_T {i n : Nat} (h : i < n) (hn : n < 2147483648) : vin (nI i) n = true := vin_I h hn
theorem gd_tt {β : Type} (x : Option β) : gd true x = x := gd_t x rfl
theorem nz_T {d : Nat} (h0 : 0 < d) (hd : d < 2147483648) : nz (nI d) = true := nz_I h0 hd
def Ret {α : Type} (x : Option α) (P : α → Prop) : Prop := ∃ a, x = some a ∧ P a
theorem Ret_s {α : Type} {a : α} {P : α → Prop} : Ret (some a) P = P a := propext ⟨fun h => by obtain ⟨b, e, h⟩ := h; cases e; exact h, fun h => ⟨a, rfl, h⟩⟩
theorem Ret.mono {α : Type} {x : Option α} {P Q : α → Prop} (h : Ret x P) (k : ∀ a, P a → Q a) : Ret x Q := by obtain ⟨a, e, h⟩ := h; exact ⟨a, e, k a h⟩
/-- an int is below zero or a number -/
theorem i32 (x : Int32) : x < nI 0 ∨ ∃ k, k < 2147483648 ∧ x = nI k := by
  by_cases h : x < 0
  · exact Or.inl h
  · exact Or.inr (nI_of h)
theorem neg_le {x : Int32} (hx : x < nI 0) {k : Nat} (hk : k < 2147483648) : x < nI k := by
  have h1 := Int32.lt_iff_toInt_lt.mp hx
  refine Int32.lt_iff_toInt_lt.mpr ?_
  rw [nI_toInt (by omega)] at h1
  rw [nI_toInt hk]
  omega
theorem neg_le2 {x : Int32} (hx : x < nI 0) {k : Nat} (hk : k < 2147483648) : ¬ nI k ≤ x := by
  have h1 := Int32.lt_iff_toInt_lt.mp (neg_le hx hk)
  exact fun h => by have := Int32.le_iff_toInt_le.mp h; omega
theorem at_J {n : Nat} {g : Nat → Nat} {a : Nat → Int32} (h : RA n g a) (hn : n ≤ 11) : ∀ i, i < n → F_X1_at (nI n) a (nI i) = some (nI (g i)) := fun i hi => by rw [at_I hi hn, h i hi]
theorem need1 : F_X5_need (nI 1) = some () := rfl
theorem need0 : F_X5_need (nI 0) = none := rfl
theorem place_I {n p : Nat} (hp : p < n) (hn : n ≤ 11) : F_X5_needPlace (nI n) (nI p) = some () := by
  unfold F_X5_needPlace
  rw [has_I hp hn]
  rfl
theorem sign_I {s : Nat} (hs : s < 6) : F_X5_needSign (nI s) = some () := by
  unfold F_X5_needSign F_X5_needSign_J15
  simp (disch := omega) only [↓qM, zq0, zq1, zq2, zq3, zq4, zq5, zq6, zq7, zq8, zq9, zq10, zq11, zq12, zq13, zq14, zq20, zq33, zq48, zq49, zq50, zq57, zq60, zq61, zq78, zq97, zq102, zq126, zq486, zq600, zq2916, zq4200, le_I, lt_I, eq_I, ne_M, lt_M, cl_I, vin_T, gd_tt, nz_T, nI_add, sub_I, m1_M, pk_mul, div_I, Option.bind_some, Option.map_some, if_pos, if_neg, if_true, if_false, Nat.reduceAdd, Nat.reduceMul, Nat.reduceSub, Nat.zero_add, Nat.add_zero, Ret_s, need1]
theorem fill0_I {n : Nat} {g : Nat → Nat} {a o : Nat → Int32} {t : Int32} (hn : n ≤ 11) (hg : RG n g) (h : RA n g a) : ∃ o', F_X0_fill t o (nI n) a (nI 0) = some (nI n, o') ∧ BA (cF g n 0) o' := fill_I (k := 0) (o := o) (t := t) hn hg h (by omega)
-- the second way
theorem secI_I {n p : Nat} {g : Nat → Nat} {a : Nat → Int32} {c : Nat → Nat} {K : Int32 → (Nat → Int32) → Int32 → Int32 → Option (Int32 × Int32 × (Nat → Int32))} (hn : n ≤ 11) (hg : RG n g) (h : RA n g a) (hp : p < n) (hc : sum6 c ≤ 11) : ∀ (d i fu x : Nat) (o : Nat → Int32), i + d = g p → d < fu → BA c o → ∃ o', F_X5_rankBySecondWay_L29 K (nI n) a fu (nI (sum6 c)) o (nI x) (nI p) (nI i) = K (nI (sum6 c)) o' (nI (x + sumL (wB c) i d)) (nI (p + 1)) ∧ BA c o' := by
  intro d
  induction d with
  | zero =>
    intro i fu x o h1 h2 hb
    obtain ⟨fu, rfl, hf⟩ := fu1 h2
    have hgp := hg p hp
    refine ⟨o, ?_, hb⟩
    rw [F_X5_rankBySecondWay_L29]
    simp (disch := omega) only [↓qM, zq0, zq1, zq2, zq3, zq4, zq5, zq6, zq7, zq8, zq9, zq10, zq11, zq12, zq13, zq14, zq20, zq33, zq48, zq49, zq50, zq57, zq60, zq61, zq78, zq97, zq102, zq126, zq486, zq600, zq2916, zq4200, le_I, lt_I, eq_I, ne_M, lt_M, cl_I, vin_T, gd_tt, nz_T, nI_add, sub_I, m1_M, pk_mul, div_I, Option.bind_some, Option.map_some, if_pos, if_neg, if_true, if_false, Nat.reduceAdd, Nat.reduceMul, Nat.reduceSub, Nat.zero_add, Nat.add_zero, Ret_s, at_J h hn, sumL]
  | succ d ih =>
    intro i fu x o h1 h2 hb
    obtain ⟨fu, rfl, hf⟩ := fu1 h2
    have hgp := hg p hp
    obtain ⟨o1, e1, hb1⟩ := waysBehind_I (s := i) hb hc (by omega)
    obtain ⟨o2, e2, hb2⟩ := ih (i + 1) fu (x + wB c i) o1 (by omega) (by omega) hb1
    refine ⟨o2, ?_, hb2⟩
    rw [F_X5_rankBySecondWay_L29]
    simp (disch := omega) only [↓qM, zq0, zq1, zq2, zq3, zq4, zq5, zq6, zq7, zq8, zq9, zq10, zq11, zq12, zq13, zq14, zq20, zq33, zq48, zq49, zq50, zq57, zq60, zq61, zq78, zq97, zq102, zq126, zq486, zq600, zq2916, zq4200, le_I, lt_I, eq_I, ne_M, lt_M, cl_I, vin_T, gd_tt, nz_T, nI_add, sub_I, m1_M, pk_mul, div_I, Option.bind_some, Option.map_some, if_pos, if_neg, if_true, if_false, Nat.reduceAdd, Nat.reduceMul, Nat.reduceSub, Nat.zero_add, Nat.add_zero, Ret_s, at_J h hn, e1, e2, sumL, Nat.add_assoc]
theorem second_I {n : Nat} {g : Nat → Nat} {a o : Nat → Int32} {t : Int32} (hn : n ≤ 11) (hg : RG n g) (h : RA n g a) : Ret (F_X5_rankBySecondWay t o (nI n) a) (fun r => r.1 = nI (rk g n n)) := by
  have key : ∀ (d p fu : Nat) (t : Int32) (o : Nat → Int32), p + d = n → d < fu → Ret (F_X5_rankBySecondWay_L4 (nI n) a fu t o (nI (rk g n p)) (nI p)) (fun r => r.1 = nI (rk g n n)) := by
    intro d
    induction d with
    | zero =>
      intro p fu t o h1 h2
      obtain ⟨fu, rfl, hf⟩ := fu1 h2
      obtain rfl : p = n := by omega
      rw [F_X5_rankBySecondWay_L4]
      simp (disch := omega) only [↓qM, zq0, zq1, zq2, zq3, zq4, zq5, zq6, zq7, zq8, zq9, zq10, zq11, zq12, zq13, zq14, zq20, zq33, zq48, zq49, zq50, zq57, zq60, zq61, zq78, zq97, zq102, zq126, zq486, zq600, zq2916, zq4200, le_I, lt_I, eq_I, ne_M, lt_M, cl_I, vin_T, gd_tt, nz_T, nI_add, sub_I, m1_M, pk_mul, div_I, Option.bind_some, Option.map_some, if_pos, if_neg, if_true, if_false, Nat.reduceAdd, Nat.reduceMul, Nat.reduceSub, Nat.zero_add, Nat.add_zero, Ret_s, F_X1_length]
    | succ d ih =>
      intro p fu t o h1 h2
      obtain ⟨fu, rfl, hf⟩ := fu1 h2
      have hgp := hg p (by omega)
      obtain ⟨o1, e1, hb1⟩ := fill_I (k := p) (o := o) (t := t) hn hg h (by omega)
      have hs : sum6 (cF g n p) = n - p := sum6_cnt hg (n - p) p (by omega)
      obtain ⟨o2, e2, hb2⟩ := secI_I (K := F_X5_rankBySecondWay_L4 (nI n) a fu) hn hg h (p := p) (by omega) (c := cF g n p) (by omega) (g p) 0 FU (rk g n p) o1 (by omega) (FU_lt (by omega)) hb1
      rw [F_X5_rankBySecondWay_L4]
      rw [hs] at e2
      simp (disch := omega) only [↓qM, zq0, zq1, zq2, zq3, zq4, zq5, zq6, zq7, zq8, zq9, zq10, zq11, zq12, zq13, zq14, zq20, zq33, zq48, zq49, zq50, zq57, zq60, zq61, zq78, zq97, zq102, zq126, zq486, zq600, zq2916, zq4200, le_I, lt_I, eq_I, ne_M, lt_M, cl_I, vin_T, gd_tt, nz_T, nI_add, sub_I, m1_M, pk_mul, div_I, Option.bind_some, Option.map_some, if_pos, if_neg, if_true, if_false, Nat.reduceAdd, Nat.reduceMul, Nat.reduceSub, Nat.zero_add, Nat.add_zero, Ret_s, F_X1_length, e1, e2]
      have h3 := ih (p + 1) fu (nI (n - p)) o2 (by omega) (by omega)
      rw [show rk g n (p + 1) = rk g n p + rkp g n p by unfold rk; rw [sumL_last, Nat.zero_add]] at h3
      exact h3
  unfold F_X5_rankBySecondWay
  exact key n 0 FU t o (by omega) (FU_lt (by omega))
theorem turned_I {n m : Nat} {g : Nat → Nat} {a o w : Nat → Int32} {t wl : Int32} (hn : n ≤ 11) (h0 : 1 ≤ n) (hg : RG n g) (h : RA n g a) (hgr : RG n (grev 11 g 0 (n - 1))) : Ret (F_X5_rankTurnedAround t o (nI n) a wl w) (fun r => r.1 = nI (rk (grev 11 g 0 (n - 1)) n n)) := by
  obtain ⟨w1, e1, h1⟩ := become_I (a := w) (len := wl) hn h
  obtain ⟨w2, e2, h2⟩ := reverse_I (lo := 0) (hi := n - 1) h1 hn (by omega) (by omega)
  obtain ⟨o1, e3⟩ := rankOf_I (t := t) (o := o) hn hgr h2
  unfold F_X5_rankTurnedAround
  simp (disch := omega) only [↓qM, zq0, zq1, zq2, zq3, zq4, zq5, zq6, zq7, zq8, zq9, zq10, zq11, zq12, zq13, zq14, zq20, zq33, zq48, zq49, zq50, zq57, zq60, zq61, zq78, zq97, zq102, zq126, zq486, zq600, zq2916, zq4200, le_I, lt_I, eq_I, ne_M, lt_M, cl_I, vin_T, gd_tt, nz_T, nI_add, sub_I, m1_M, pk_mul, div_I, Option.bind_some, Option.map_some, if_pos, if_neg, if_true, if_false, Nat.reduceAdd, Nat.reduceMul, Nat.reduceSub, Nat.zero_add, Nat.add_zero, Ret_s, F_X1_length, e1, e2, e3]
theorem ifEx_I {n p q : Nat} {g : Nat → Nat} {a o w : Nat → Int32} {t wl : Int32} (hn : n ≤ 11) (hp : p < n) (hq : q < n) (hg : RG n g) (h : RA n g a) (hgs : RG n (gswap g p q)) : Ret (F_X5_rankIfExchanged t o (nI n) a wl w (nI p) (nI q)) (fun r => r.1 = nI (rk (gswap g p q) n n)) := by
  obtain ⟨w1, e1, h1⟩ := become_I (a := w) (len := wl) hn h
  obtain ⟨w2, e2, h2⟩ := exchange_I h1 hp hq hn
  obtain ⟨o1, e3⟩ := rankOf_I (t := t) (o := o) hn hgs h2
  unfold F_X5_rankIfExchanged
  simp (disch := omega) only [↓qM, zq0, zq1, zq2, zq3, zq4, zq5, zq6, zq7, zq8, zq9, zq10, zq11, zq12, zq13, zq14, zq20, zq33, zq48, zq49, zq50, zq57, zq60, zq61, zq78, zq97, zq102, zq126, zq486, zq600, zq2916, zq4200, le_I, lt_I, eq_I, ne_M, lt_M, cl_I, vin_T, gd_tt, nz_T, nI_add, sub_I, m1_M, pk_mul, div_I, Option.bind_some, Option.map_some, if_pos, if_neg, if_true, if_false, Nat.reduceAdd, Nat.reduceMul, Nat.reduceSub, Nat.zero_add, Nat.add_zero, Ret_s, e1, e2, e3]
theorem unlikeS_I {n : Nat} {g : Nat → Nat} {a o : Nat → Int32} {t : Int32} (hn : n ≤ 11) (hg : RG n g) (h : RA n g a) : Ret (F_X5_unlikeSigns t o (nI n) a) (fun r => r.1 = nI (sumL (fun s => b2n (0 < cF g n 0 s)) 0 6)) := by
  obtain ⟨o1, e1, hb1⟩ := fill_I (k := 0) (o := o) (t := t) hn hg h (by omega)
  have hs : sum6 (cF g n 0) = n := sum6_cnt hg n 0 (by omega)
  have e2 := unlikeB_I hb1 (s := 6) (fun s hs2 => Nat.lt_of_le_of_lt (le_sum6 (c := cF g n 0) hs2) (by omega)) (by omega)
  unfold F_X5_unlikeSigns
  simp (disch := omega) only [↓qM, zq0, zq1, zq2, zq3, zq4, zq5, zq6, zq7, zq8, zq9, zq10, zq11, zq12, zq13, zq14, zq20, zq33, zq48, zq49, zq50, zq57, zq60, zq61, zq78, zq97, zq102, zq126, zq486, zq600, zq2916, zq4200, le_I, lt_I, eq_I, ne_M, lt_M, cl_I, vin_T, gd_tt, nz_T, nI_add, sub_I, m1_M, pk_mul, div_I, Option.bind_some, Option.map_some, if_pos, if_neg, if_true, if_false, Nat.reduceAdd, Nat.reduceMul, Nat.reduceSub, Nat.zero_add, Nat.add_zero, Ret_s, e1, e2]
