/-! the class's smooth methods -/
/-- the last sign, or none -/
def LI (a : Nat) : Int32 := if a = 6 then nM else nI a
theorem LI_n {s : Nat} (h : s < 6) : LI s = nI s := if_neg (by omega)
theorem LI_6 : LI 6 = nM := rfl
theorem LI_e {t a : Nat} (ht : t < 6) (ha : a ≤ 6) : (nI t = LI a) = (t = a) := by
  by_cases e : a = 6
  · subst e; rw [LI_6, ne_M (by omega)]; exact (eq_false (by omega)).symm
  · rw [LI_n (by omega)]; exact propext (eq_I (by omega) (by omega))
theorem LI_e2 {t a : Nat} (ht : t < 6) (ha : a ≤ 6) : (LI a = nI t) = (a = t) := by
  rw [show (LI a = nI t) = (nI t = LI a) from propext eq_comm, LI_e ht ha]
  exact propext eq_comm
theorem cF_le {g : Nat → Nat} {n p : Nat} (hp : p ≤ n) : Le6 (cF g n p) (cF g n 0) := by
  intro s _
  unfold cF cnt
  have := sumL_add (fun i => b2n (g i = s)) p 0 (n - p)
  rw [Nat.zero_add, show p + (n - p) = n by omega] at this
  rw [Nat.sub_zero, this]
  omega
theorem cF_dec {g : Nat → Nat} {n p : Nat} (hp : p < n) : ∀ s, s < 6 → dec (cF g n p) (g p) s = cF g n (p + 1) s := fun s _ => by
  unfold cF; rw [cnt_dec, show n - (p + 1) + 1 = n - p by omega]
theorem cF_sum {g : Nat → Nat} {n p : Nat} (hg : RG n g) (hp : p ≤ n) : sum6 (cF g n p) = n - p := sum6_cnt hg (n - p) p (by omega)
theorem cF_pos {g : Nat → Nat} {n p : Nat} (hp : p < n) : 0 < cF g n p (g p) := by unfold cF; rw [show n - p = (n - (p + 1)) + 1 by omega]; exact cnt_pos
theorem TTb.start {c d : Nat → Nat} {al st w o : Nat → Int32} (h : TTb c al st w) (hc : sum6 c ≤ 11) (hd : Le6 d c) (hb : BA d o) : ∀ s, s < 6 → F_X3_startingWith st w o (nI s) = some (nI (ST d s)) := by
  intro s hs
  have h486 := wt_486 hc
  have hk := cd_lt hd
  have e1 := cellOf_I hb h.1
  have e2 := startOf_I (st := st) (k := cd c d) (s := s) (by omega) hs
  unfold F_X3_startingWith
  simp (disch := omega) only [↓qM, zq0, zq1, zq2, zq3, zq4, zq5, zq6, zq7, zq8, zq9, zq10, zq11, zq12, zq13, zq14, zq20, zq33, zq48, zq49, zq50, zq57, zq60, zq61, zq78, zq97, zq102, zq126, zq486, zq600, zq2916, zq4200, le_I, lt_I, eq_I, ne_M, lt_M, cl_I, vin_T, gd_tt, nz_T, nI_add, sub_I, m1_M, pk_mul, div_I, Option.bind_some, Option.map_some, if_pos, if_neg, if_true, if_false, Nat.reduceAdd, Nat.reduceMul, Nat.reduceSub, Nat.zero_add, Nat.add_zero, Ret_s, e1, e2]
  rw [h.2.st hd hk hs]
theorem TTb.behind {c d : Nat → Nat} {al st w o : Nat → Int32} (h : TTb c al st w) (hc : sum6 c ≤ 11) (hd : Le6 d c) (hb : BA d o) {a : Nat} (ha : a ≤ 6) : F_X3_behind al st w o (LI a) = some (nI (SM d a)) := by
  have h486 := wt_486 hc
  have hk := cd_lt hd
  have e1 := cellOf_I hb h.1
  have e2 := allOf_I (al := al) (k := cd c d) (by omega)
  have e5 := h.2.al hd hk
  unfold F_X3_behind
  by_cases e : a = 6
  · subst e
    have e3 := startOf_M (st := st) (k := cd c d) (by omega)
    rw [LI_6]
    simp (disch := omega) only [↓qM, zq0, zq1, zq2, zq3, zq4, zq5, zq6, zq7, zq8, zq9, zq10, zq11, zq12, zq13, zq14, zq20, zq33, zq48, zq49, zq50, zq57, zq60, zq61, zq78, zq97, zq102, zq126, zq486, zq600, zq2916, zq4200, le_I, lt_I, eq_I, ne_M, lt_M, cl_I, vin_T, gd_tt, nz_T, nI_add, sub_I, m1_M, pk_mul, div_I, Option.bind_some, Option.map_some, if_pos, if_neg, if_true, if_false, Nat.reduceAdd, Nat.reduceMul, Nat.reduceSub, Nat.zero_add, Nat.add_zero, Ret_s, e1, e2, e3, e5, Nat.sub_zero]
  · have e3 := startOf_I (st := st) (k := cd c d) (s := a) (by omega) (by omega)
    have e4 := h.2.st hd hk (s := a) (by omega)
    have e6 := SM_split (d := d) (a := a) (by omega)
    have e7 : SM d 6 - ST d a = SM d a := by rw [← e6, Nat.add_sub_cancel]
    rw [LI_n (by omega)]
    simp (disch := omega) only [↓qM, zq0, zq1, zq2, zq3, zq4, zq5, zq6, zq7, zq8, zq9, zq10, zq11, zq12, zq13, zq14, zq20, zq33, zq48, zq49, zq50, zq57, zq60, zq61, zq78, zq97, zq102, zq126, zq486, zq600, zq2916, zq4200, le_I, lt_I, eq_I, ne_M, lt_M, cl_I, vin_T, gd_tt, nz_T, nI_add, sub_I, m1_M, pk_mul, div_I, Option.bind_some, Option.map_some, if_pos, if_neg, if_true, if_false, Nat.reduceAdd, Nat.reduceMul, Nat.reduceSub, Nat.zero_add, Nat.add_zero, Ret_s, e1, e2, e3, e4, e5, e7]
/-- the smooth rank's part from p on, behind a -/
def srk (g : Nat → Nat) (n : Nat) : Nat → Nat → Nat → Nat
  | 0, _, _ => 0
  | d + 1, p, a => sumL (stp (cF g n p) a) 0 (g p) + (if g p = a then 0 else srk g n d (p + 1) (g p))
theorem stp_here {n p a : Nat} {g : Nat → Nat} (hp : p < n) (ha : g p ≠ a) : stp (cF g n p) a (g p) = SM (cF g n (p + 1)) (g p) := by
  have := cF_pos (g := g) hp
  unfold stp
  rw [if_neg (by omega), SM_ext (cF_dec hp)]
theorem srk_le {n : Nat} {g : Nat → Nat} (hn : n ≤ 11) (hg : RG n g) : ∀ d p a, p + d = n → srk g n d p a ≤ SM (cF g n p) a := by
  intro d
  induction d with
  | zero => intro p a _; exact Nat.zero_le _
  | succ d ih =>
    intro p a hp
    have hgp := hg p (by omega)
    have hs := cF_sum (p := p) hg (by omega)
    rw [srk]
    by_cases e : g p = a
    · rw [if_pos e, Nat.add_zero]
      exact sum_stp_le (by omega) (by omega)
    · rw [if_neg e]
      have h1 := ih (p + 1) (g p) (by omega)
      rw [← stp_here (by omega) e] at h1
      have h2 := sum_stp_le (d := cF g n p) (a := a) (k := g p + 1) (by omega) (by omega)
      rw [sumL_last, Nat.zero_add] at h2
      omega
theorem srkI_I {n p a : Nat} {c d : Nat → Nat} {rs al ic mf st w o : Nat → Int32} {bt x4 : Int32} {K : Int32 → (Nat → Int32) → (Nat → Int32) → (Nat → Int32) → (Nat → Int32) → (Nat → Int32) → (Nat → Int32) → Int32 → Int32 → Int32 → Option (Int32 × Int32 × (Nat → Int32) × (Nat → Int32) × (Nat → Int32) × (Nat → Int32) × (Nat → Int32) × (Nat → Int32))} {s : Nat} (hT : TTb c al st w) (hc : sum6 c ≤ 11) (hd : Le6 d c) (hb : BA d o) (hs : s < 6) (ha : a ≤ 6) : ∀ (r t fu x : Nat), t + r = s → r < fu → ∃ fu', F_X5_smoothRank_L34 K (nI n) rs fu bt o al ic mf st w (nI x) (LI a) (nI p) (nI s) (nI t) = F_X5_smoothRank_L34 K (nI n) rs (fu' + 1) bt o al ic mf st w (nI (x + sumL (stp d a) t r)) (LI a) (nI p) (nI s) (nI s) := by
  intro r
  induction r with
  | zero =>
    intro t fu x h1 h2
    obtain ⟨fu, rfl, hf⟩ := fu1 h2
    obtain rfl : t = s := by omega
    exact ⟨fu, rfl⟩
  | succ r ih =>
    intro t fu x h1 h2
    obtain ⟨fu, rfl, hf⟩ := fu1 h2
    by_cases e : t = a
    · obtain ⟨fu', e1⟩ := ih (t + 1) fu x (by omega) (by omega)
      refine ⟨fu', ?_⟩
      subst e
      rw [sumL, stp_self, Nat.zero_add, ← e1]
      conv => lhs; rw [F_X5_smoothRank_L34]
      simp (disch := omega) only [↓qM, zq0, zq1, zq2, zq3, zq4, zq5, zq6, zq7, zq8, zq9, zq10, zq11, zq12, zq13, zq14, zq20, zq33, zq48, zq49, zq50, zq57, zq60, zq61, zq78, zq97, zq102, zq126, zq486, zq600, zq2916, zq4200, le_I, lt_I, eq_I, ne_M, lt_M, cl_I, vin_T, gd_tt, nz_T, nI_add, sub_I, m1_M, pk_mul, div_I, Option.bind_some, Option.map_some, if_pos, if_neg, if_true, if_false, Nat.reduceAdd, Nat.reduceMul, Nat.reduceSub, Nat.zero_add, Nat.add_zero, Ret_s, LI_e]
    · obtain ⟨fu', e1⟩ := ih (t + 1) fu (x + ST d t) (by omega) (by omega)
      refine ⟨fu', ?_⟩
      rw [sumL, stp_ST e, ← Nat.add_assoc, ← e1]
      conv => lhs; rw [F_X5_smoothRank_L34]
      simp (disch := omega) only [↓qM, zq0, zq1, zq2, zq3, zq4, zq5, zq6, zq7, zq8, zq9, zq10, zq11, zq12, zq13, zq14, zq20, zq33, zq48, zq49, zq50, zq57, zq60, zq61, zq78, zq97, zq102, zq126, zq486, zq600, zq2916, zq4200, le_I, lt_I, eq_I, ne_M, lt_M, cl_I, vin_T, gd_tt, nz_T, nI_add, sub_I, m1_M, pk_mul, div_I, Option.bind_some, Option.map_some, if_pos, if_neg, if_true, if_false, Nat.reduceAdd, Nat.reduceMul, Nat.reduceSub, Nat.zero_add, Nat.add_zero, Ret_s, LI_e, hT.start hc hd hb]
theorem srkO_I {n : Nat} {g : Nat → Nat} {a al ic mf st w : Nat → Int32} (hn : n ≤ 11) (hg : RG n g) (h : RA n g a) (hT : TTb (cF g n 0) al st w) : ∀ (d p fu x q : Nat) (o : Nat → Int32), p + d = n → d < fu → BA (cF g n p) o → q ≤ 6 → Ret (F_X5_smoothRank_L10 (nI n) a fu (nI (n - p)) o al ic mf st w (nI x) (LI q) (nI p)) (fun r => r.1 = nI (x + srk g n d p q) ∧ r.2.2.2 = (al, ic, mf, st, w)) := by
  have hs0 := cF_sum (p := 0) hg (by omega)
  intro d
  induction d with
  | zero =>
    intro p fu x q o h1 h2 hb hq
    obtain ⟨fu, rfl, hf⟩ := fu1 h2
    rw [F_X5_smoothRank_L10]
    simp (disch := omega) only [↓qM, zq0, zq1, zq2, zq3, zq4, zq5, zq6, zq7, zq8, zq9, zq10, zq11, zq12, zq13, zq14, zq20, zq33, zq48, zq49, zq50, zq57, zq60, zq61, zq78, zq97, zq102, zq126, zq486, zq600, zq2916, zq4200, le_I, lt_I, eq_I, ne_M, lt_M, cl_I, vin_T, gd_tt, nz_T, nI_add, sub_I, m1_M, pk_mul, div_I, Option.bind_some, Option.map_some, if_pos, if_neg, if_true, if_false, Nat.reduceAdd, Nat.reduceMul, Nat.reduceSub, Nat.zero_add, Nat.add_zero, Ret_s, len_T, srk]
    exact ⟨(by first | rfl | trivial), (by first | rfl | trivial)⟩
  | succ d ih =>
    intro p fu x q o h1 h2 hb hq
    obtain ⟨fu, rfl, hf⟩ := fu1 h2
    have hgp := hg p (by omega)
    obtain ⟨fu', e1⟩ := srkI_I (n := n) (p := p) (rs := a) (ic := ic) (mf := mf) (bt := nI (n - p)) (x4 := nI 0) (K := F_X5_smoothRank_L10 (nI n) a fu) hT (by omega) (cF_le (g := g) (n := n) (p := p) (by omega)) hb hgp hq (g p) 0 FU x (by omega) (FU_lt (by omega))
    rw [F_X5_smoothRank_L10]
    simp (disch := omega) only [↓qM, zq0, zq1, zq2, zq3, zq4, zq5, zq6, zq7, zq8, zq9, zq10, zq11, zq12, zq13, zq14, zq20, zq33, zq48, zq49, zq50, zq57, zq60, zq61, zq78, zq97, zq102, zq126, zq486, zq600, zq2916, zq4200, le_I, lt_I, eq_I, ne_M, lt_M, cl_I, vin_T, gd_tt, nz_T, nI_add, sub_I, m1_M, pk_mul, div_I, Option.bind_some, Option.map_some, if_pos, if_neg, if_true, if_false, Nat.reduceAdd, Nat.reduceMul, Nat.reduceSub, Nat.zero_add, Nat.add_zero, Ret_s, len_T, at_J h hn, e1]
    rw [F_X5_smoothRank_L34, srk]
    by_cases e : g p = q
    · simp (disch := omega) only [↓qM, zq0, zq1, zq2, zq3, zq4, zq5, zq6, zq7, zq8, zq9, zq10, zq11, zq12, zq13, zq14, zq20, zq33, zq48, zq49, zq50, zq57, zq60, zq61, zq78, zq97, zq102, zq126, zq486, zq600, zq2916, zq4200, le_I, lt_I, eq_I, ne_M, lt_M, cl_I, vin_T, gd_tt, nz_T, nI_add, sub_I, m1_M, pk_mul, div_I, Option.bind_some, Option.map_some, if_pos, if_neg, if_true, if_false, Nat.reduceAdd, Nat.reduceMul, Nat.reduceSub, Nat.zero_add, Nat.add_zero, Ret_s, LI_e, e]
      exact ⟨(by first | rfl | trivial), (by first | rfl | trivial)⟩
    · have hle := le_sum6 (c := cF g n p) hgp
      have hsp := cF_sum (p := p) hg (by omega)
      obtain ⟨o1, e2, hb1⟩ := drop_I (t := n - p) hb hgp (cF_pos (by omega)) (by omega) (by omega)
      have k := ih (p + 1) fu (x + sumL (stp (cF g n p) q) 0 (g p)) (g p) o1 (by omega) (by omega) (hb1.ext (cF_dec (by omega))) (by omega)
      rw [LI_n hgp, Nat.add_assoc, show n - (p + 1) = n - p - 1 by omega] at k
      simp (disch := omega) only [↓qM, zq0, zq1, zq2, zq3, zq4, zq5, zq6, zq7, zq8, zq9, zq10, zq11, zq12, zq13, zq14, zq20, zq33, zq48, zq49, zq50, zq57, zq60, zq61, zq78, zq97, zq102, zq126, zq486, zq600, zq2916, zq4200, le_I, lt_I, eq_I, ne_M, lt_M, cl_I, vin_T, gd_tt, nz_T, nI_add, sub_I, m1_M, pk_mul, div_I, Option.bind_some, Option.map_some, if_pos, if_neg, if_true, if_false, Nat.reduceAdd, Nat.reduceMul, Nat.reduceSub, Nat.zero_add, Nat.add_zero, Ret_s, LI_e, e2]
      exact k
theorem smoothRank_I {n : Nat} {g : Nat → Nat} {a o : Nat → Int32} {t : Int32} {al ic mf st w : Nat → Int32} (hn : n ≤ 11) (h0 : 1 ≤ n) (hg : RG n g) (h : RA n g a) (hS : SMI al mf st w) : Ret (F_X5_smoothRank t o (nI n) a al ic mf st w) (fun r => r.1 = nI (srk g n n 0 6) ∧ SMI r.2.2.2.1 r.2.2.2.2.2.1 r.2.2.2.2.2.2.1 r.2.2.2.2.2.2.2) := by
  obtain ⟨o1, al', ic', mf', st', w', e1, hb1, hS1, hT⟩ := prepS_I (t := t) (o := o) (ic := ic) hn h0 hg h hS
  have k := srkO_I (ic := ic') (mf := mf') hn hg h hT n 0 FU 0 6 o1 (by omega) (FU_lt (by omega)) hb1 (by omega)
  rw [LI_6, Nat.zero_add, Nat.sub_zero] at k
  unfold F_X5_smoothRank
  simp (disch := omega) only [↓qM, zq0, zq1, zq2, zq3, zq4, zq5, zq6, zq7, zq8, zq9, zq10, zq11, zq12, zq13, zq14, zq20, zq33, zq48, zq49, zq50, zq57, zq60, zq61, zq78, zq97, zq102, zq126, zq486, zq600, zq2916, zq4200, le_I, lt_I, eq_I, ne_M, lt_M, cl_I, vin_T, gd_tt, nz_T, nI_add, sub_I, m1_M, pk_mul, div_I, Option.bind_some, Option.map_some, if_pos, if_neg, if_true, if_false, Nat.reduceAdd, Nat.reduceMul, Nat.reduceSub, Nat.zero_add, Nat.add_zero, Ret_s, e1]
  refine k.mono (fun r hr => ⟨hr.1, ?_⟩)
  rw [hr.2]
  exact hS1
/-- how many smooth ones begin with the first k signs -/
def swn (g : Nat → Nat) (n k : Nat) : Nat := if smooth g k = true then SM (cF g n k) (if k = 0 then 6 else g (k - 1)) else 0
theorem inBlock_I {n k : Nat} {g : Nat → Nat} {a o : Nat → Int32} {t : Int32} {al ic mf st w : Nat → Int32} (hn : n ≤ 11) (h0 : 1 ≤ n) (hg : RG n g) (h : RA n g a) (hS : SMI al mf st w) (hk : k ≤ n) : Ret (F_X5_smoothInBlock t o (nI n) a al ic mf st w (nI k)) (fun r => r.1 = nI (swn g n k) ∧ SMI r.2.2.2.1 r.2.2.2.2.2.1 r.2.2.2.2.2.2.1 r.2.2.2.2.2.2.2) := by
  have e0 := isSmooth_I hn hg h hk
  unfold F_X5_smoothInBlock F_X5_smoothInBlock_J55 swn
  by_cases e : smooth g k = true
  · rw [if_pos e] at e0
    rw [if_pos e]
    obtain ⟨o1, al', ic', mf', st', w', e1, hb1, hS1, hT⟩ := prepS_I (t := t) (o := o) (ic := ic) hn h0 hg h hS
    obtain ⟨o2, e2, hb2⟩ := fill_I (k := k) (o := o1) (t := nI n) hn hg h hk
    have hs0 := cF_sum (p := 0) hg (by omega)
    by_cases ek : k = 0
    · subst ek
      have e3 := hT.behind (by omega) (cF_le (g := g) (p := 0) (by omega)) hb2 (a := 6) (by omega)
      rw [LI_6] at e3
      rw [if_pos rfl]
      simp (disch := omega) only [↓qM, zq0, zq1, zq2, zq3, zq4, zq5, zq6, zq7, zq8, zq9, zq10, zq11, zq12, zq13, zq14, zq20, zq33, zq48, zq49, zq50, zq57, zq60, zq61, zq78, zq97, zq102, zq126, zq486, zq600, zq2916, zq4200, le_I, lt_I, eq_I, ne_M, lt_M, cl_I, vin_T, gd_tt, nz_T, nI_add, sub_I, m1_M, pk_mul, div_I, Option.bind_some, Option.map_some, if_pos, if_neg, if_true, if_false, Nat.reduceAdd, Nat.reduceMul, Nat.reduceSub, Nat.zero_add, Nat.add_zero, Ret_s, e0, e1, e2, e3]
      exact ⟨(by first | rfl | trivial), hS1⟩
    · have hgk := hg (k - 1) (by omega)
      have e3 := hT.behind (by omega) (cF_le (g := g) (p := k) (by omega)) hb2 (a := g (k - 1)) (by omega)
      rw [LI_n hgk] at e3
      rw [if_neg ek]
      simp (disch := omega) only [↓qM, zq0, zq1, zq2, zq3, zq4, zq5, zq6, zq7, zq8, zq9, zq10, zq11, zq12, zq13, zq14, zq20, zq33, zq48, zq49, zq50, zq57, zq60, zq61, zq78, zq97, zq102, zq126, zq486, zq600, zq2916, zq4200, le_I, lt_I, eq_I, ne_M, lt_M, cl_I, vin_T, gd_tt, nz_T, nI_add, sub_I, m1_M, pk_mul, div_I, Option.bind_some, Option.map_some, if_pos, if_neg, if_true, if_false, Nat.reduceAdd, Nat.reduceMul, Nat.reduceSub, Nat.zero_add, Nat.add_zero, Ret_s, e0, e1, e2, at_J h hn, e3]
      exact ⟨(by first | rfl | trivial), hS1⟩
  · rw [if_neg e] at e0
    rw [if_neg e]
    simp (disch := omega) only [↓qM, zq0, zq1, zq2, zq3, zq4, zq5, zq6, zq7, zq8, zq9, zq10, zq11, zq12, zq13, zq14, zq20, zq33, zq48, zq49, zq50, zq57, zq60, zq61, zq78, zq97, zq102, zq126, zq486, zq600, zq2916, zq4200, le_I, lt_I, eq_I, ne_M, lt_M, cl_I, vin_T, gd_tt, nz_T, nI_add, sub_I, m1_M, pk_mul, div_I, Option.bind_some, Option.map_some, if_pos, if_neg, if_true, if_false, Nat.reduceAdd, Nat.reduceMul, Nat.reduceSub, Nat.zero_add, Nat.add_zero, Ret_s, e0]
    exact ⟨(by first | rfl | trivial), hS⟩
theorem allSmooth_I {n : Nat} {g : Nat → Nat} {a o : Nat → Int32} {t : Int32} {al ic mf st w : Nat → Int32} (hn : n ≤ 11) (h0 : 1 ≤ n) (hg : RG n g) (h : RA n g a) (hS : SMI al mf st w) : Ret (F_X5_allSmooth t o (nI n) a al ic mf st w) (fun r => r.1 = nI (SM (cF g n 0) 6) ∧ SMI r.2.2.2.1 r.2.2.2.2.2.1 r.2.2.2.2.2.2.1 r.2.2.2.2.2.2.2) := by
  obtain ⟨r, e1, h1⟩ := inBlock_I (t := t) (o := o) (ic := ic) (k := 0) hn h0 hg h hS (by omega)
  have e2 : swn g n 0 = SM (cF g n 0) 6 := if_pos rfl
  rw [e2] at h1
  unfold F_X5_allSmooth
  simp (disch := omega) only [↓qM, zq0, zq1, zq2, zq3, zq4, zq5, zq6, zq7, zq8, zq9, zq10, zq11, zq12, zq13, zq14, zq20, zq33, zq48, zq49, zq50, zq57, zq60, zq61, zq78, zq97, zq102, zq126, zq486, zq600, zq2916, zq4200, le_I, lt_I, eq_I, ne_M, lt_M, cl_I, vin_T, gd_tt, nz_T, nI_add, sub_I, m1_M, pk_mul, div_I, Option.bind_some, Option.map_some, if_pos, if_neg, if_true, if_false, Nat.reduceAdd, Nat.reduceMul, Nat.reduceSub, Nat.zero_add, Nat.add_zero, Ret_s, e1]
  exact h1
/-- the row of a smooth rank, behind a -/
def layS : Nat → (Nat → Nat) → Nat → Nat → Nat → (Nat → Nat) → (Nat → Nat)
  | 0, _, _, _, _, acc => acc
  | d + 1, c, a, x, p, acc => layS d (dec c (pk (stp c a) 5 0 x).1) (pk (stp c a) 5 0 x).1 (pk (stp c a) 5 0 x).2 (p + 1) (gset acc p (pk (stp c a) 5 0 x).1)
theorem stp_pos {c : Nat → Nat} {a s : Nat} (h : 0 < stp c a s) : 0 < c s ∧ s ≠ a ∧ stp c a s = SM (dec c s) s := by
  unfold stp at h ⊢
  by_cases e : c s = 0 ∨ s = a
  · rw [if_pos e] at h; omega
  · rw [if_neg e]; exact ⟨by omega, by omega, rfl⟩
theorem layS_step {c : Nat → Nat} {a x : Nat} (h : 0 < sum6 c) (hx : x < SM c a) : (pk (stp c a) 5 0 x).1 < 6 ∧ 0 < c (pk (stp c a) 5 0 x).1 ∧ (pk (stp c a) 5 0 x).1 ≠ a ∧ (pk (stp c a) 5 0 x).2 < SM (dec c (pk (stp c a) 5 0 x).1) (pk (stp c a) 5 0 x).1 ∧ sum6 (dec c (pk (stp c a) 5 0 x).1) = sum6 c - 1 := by
  obtain ⟨h1, h2, h3⟩ := pk_spec (f := stp c a) 5 0 x (by rw [← SM_rec h]; exact hx)
  obtain ⟨h4, h5, h6⟩ := stp_pos (c := c) (a := a) (s := (pk (stp c a) 5 0 x).1) (by omega)
  exact ⟨by omega, h4, h5, by omega, sum6_dec (by omega) h4⟩
theorem layS_lo : ∀ (d : Nat) (c : Nat → Nat) (a x p : Nat) (acc : Nat → Nat) (i : Nat), i < p → layS d c a x p acc i = acc i := by
  intro d
  induction d with
  | zero => intro c a x p acc i h; rfl
  | succ d ih => intro c a x p acc i h; rw [layS, ih _ _ _ _ _ _ (by omega), gset_n _ _ (by omega)]
theorem layS_sp : ∀ (d : Nat) (c : Nat → Nat) (a x p : Nat) (acc : Nat → Nat), sum6 c = d → x < SM c a → (∀ i, p ≤ i → i < p + d → layS d c a x p acc i < 6) ∧ ∀ s, s < 6 → cnt (layS d c a x p acc) p d s = c s := by
  intro d
  induction d with
  | zero =>
    intro c a x p acc h hx
    exact ⟨fun i h1 h2 => by omega, fun s hs => by have := le_sum6 (c := c) hs; rw [cnt_0]; omega⟩
  | succ d ih =>
    intro c a x p acc h hx
    obtain ⟨h1, h2, h3, h4, h5⟩ := layS_step (by omega) hx
    obtain ⟨h6, h7⟩ := ih (dec c (pk (stp c a) 5 0 x).1) (pk (stp c a) 5 0 x).1 (pk (stp c a) 5 0 x).2 (p + 1) (gset acc p (pk (stp c a) 5 0 x).1) (by omega) h4
    have h8 : layS (d + 1) c a x p acc p = (pk (stp c a) 5 0 x).1 := by rw [layS, layS_lo _ _ _ _ _ _ _ (by omega), gset_s]
    refine ⟨fun i hi hi2 => ?_, fun s hs => ?_⟩
    · by_cases e : i = p
      · subst e; rw [h8]; exact h1
      · rw [layS]; exact h6 i (by omega) (by omega)
    · rw [cnt_s, h8]
      have h9 := h7 s hs
      rw [layS, h9]
      unfold dec
      by_cases e : s = (pk (stp c a) 5 0 x).1
      · rw [← e, gset_s, b2n_t rfl]; rw [← e] at h2; omega
      · rw [gset_n _ _ e, b2n_f (fun h => e h.symm)]; omega
/-- the row of the smooth rank x, of the signs of g -/
def gls (g : Nat → Nat) (n x : Nat) : Nat → Nat := layS n (cF g n 0) 6 x 0 (fun _ => 0)
theorem gls_sp {g : Nat → Nat} {n x : Nat} (hg : RG n g) (hx : x < SM (cF g n 0) 6) : RG n (gls g n x) ∧ ∀ s, s < 6 → cF (gls g n x) n 0 s = cF g n 0 s := by
  obtain ⟨h1, h2⟩ := layS_sp n (cF g n 0) 6 x 0 (fun _ => 0) (sum6_cnt hg n 0 (by omega)) hx
  exact ⟨fun i hi => h1 i (by omega) (by omega), h2⟩
theorem layIS_I {n p a : Nat} {c d : Nat → Nat} {rs al ic mf st w o ws : Nat → Int32} {y bt wl : Int32} {K : Int32 → (Nat → Int32) → (Nat → Int32) → (Nat → Int32) → (Nat → Int32) → (Nat → Int32) → (Nat → Int32) → Int32 → (Nat → Int32) → Int32 → Int32 → Int32 → Option (Int32 × (Nat → Int32) × (Nat → Int32) × (Nat → Int32) × (Nat → Int32) × (Nat → Int32) × (Nat → Int32) × Int32 × (Nat → Int32))} (hT : TTb c al st w) (hc : sum6 c ≤ 11) (hd : Le6 d c) (hb : BA d o) (ha : a ≤ 6) : ∀ (r s x fu : Nat), s + r = 5 → r < fu → x < 2147483648 → F_X5_layOutSmooth_L58 K (nI n) rs y fu bt o al ic mf st w wl ws (nI x) (LI a) (nI p) (nI s) (nI (stp d a s)) = F_X5_layOutSmooth_J106 K (nI n) rs y bt o al ic mf st w wl ws (nI (pk (stp d a) r s x).2) (nI p) (nI (pk (stp d a) r s x).1) := by
  have hsd := sum6_le hd
  intro r
  induction r with
  | zero =>
    intro s x fu h1 h2 h3
    obtain ⟨fu, rfl, hf⟩ := fu1 h2
    rw [F_X5_layOutSmooth_L58]
    simp (disch := omega) only [↓qM, zq0, zq1, zq2, zq3, zq4, zq5, zq6, zq7, zq8, zq9, zq10, zq11, zq12, zq13, zq14, zq20, zq33, zq48, zq49, zq50, zq57, zq60, zq61, zq78, zq97, zq102, zq126, zq486, zq600, zq2916, zq4200, le_I, lt_I, eq_I, ne_M, lt_M, cl_I, vin_T, gd_tt, nz_T, nI_add, sub_I, m1_M, pk_mul, div_I, Option.bind_some, Option.map_some, if_pos, if_neg, if_true, if_false, Nat.reduceAdd, Nat.reduceMul, Nat.reduceSub, Nat.zero_add, Nat.add_zero, Ret_s, pk]
  | succ r ih =>
    intro s x fu h1 h2 h3
    obtain ⟨fu, rfl, hf⟩ := fu1 h2
    have hb1 := stp_le (d := d) (a := a) (s := s) (by omega) (by omega)
    by_cases e : x < stp d a s
    · rw [F_X5_layOutSmooth_L58]
      simp (disch := omega) only [↓qM, zq0, zq1, zq2, zq3, zq4, zq5, zq6, zq7, zq8, zq9, zq10, zq11, zq12, zq13, zq14, zq20, zq33, zq48, zq49, zq50, zq57, zq60, zq61, zq78, zq97, zq102, zq126, zq486, zq600, zq2916, zq4200, le_I, lt_I, eq_I, ne_M, lt_M, cl_I, vin_T, gd_tt, nz_T, nI_add, sub_I, m1_M, pk_mul, div_I, Option.bind_some, Option.map_some, if_pos, if_neg, if_true, if_false, Nat.reduceAdd, Nat.reduceMul, Nat.reduceSub, Nat.zero_add, Nat.add_zero, Ret_s, pk]
    · have e2 := ih (s + 1) (x - stp d a s) fu (by omega) (by omega) (by omega)
      by_cases ea : s + 1 = a
      · have e3 : stp d a (s + 1) = 0 := by rw [ea]; exact stp_self
        rw [e3] at e2
        rw [F_X5_layOutSmooth_L58, pk, if_neg e]
        simp (disch := omega) only [↓qM, zq0, zq1, zq2, zq3, zq4, zq5, zq6, zq7, zq8, zq9, zq10, zq11, zq12, zq13, zq14, zq20, zq33, zq48, zq49, zq50, zq57, zq60, zq61, zq78, zq97, zq102, zq126, zq486, zq600, zq2916, zq4200, le_I, lt_I, eq_I, ne_M, lt_M, cl_I, vin_T, gd_tt, nz_T, nI_add, sub_I, m1_M, pk_mul, div_I, Option.bind_some, Option.map_some, if_pos, if_neg, if_true, if_false, Nat.reduceAdd, Nat.reduceMul, Nat.reduceSub, Nat.zero_add, Nat.add_zero, Ret_s, LI_e2]
        exact e2
      · rw [stp_ST ea] at e2
        rw [F_X5_layOutSmooth_L58, pk, if_neg e]
        simp (disch := omega) only [↓qM, zq0, zq1, zq2, zq3, zq4, zq5, zq6, zq7, zq8, zq9, zq10, zq11, zq12, zq13, zq14, zq20, zq33, zq48, zq49, zq50, zq57, zq60, zq61, zq78, zq97, zq102, zq126, zq486, zq600, zq2916, zq4200, le_I, lt_I, eq_I, ne_M, lt_M, cl_I, vin_T, gd_tt, nz_T, nI_add, sub_I, m1_M, pk_mul, div_I, Option.bind_some, Option.map_some, if_pos, if_neg, if_true, if_false, Nat.reduceAdd, Nat.reduceMul, Nat.reduceSub, Nat.zero_add, Nat.add_zero, Ret_s, LI_e2, hT.start hc hd hb]
        exact e2
theorem layOS_I {n : Nat} {rs : Nat → Int32} {y : Int32} {c : Nat → Nat} {al ic mf st w : Nat → Int32} (hn : n ≤ 11) (hT : TTb c al st w) (hc : sum6 c ≤ 11) : ∀ (r p fu x a : Nat) (d acc : Nat → Nat) (o ws : Nat → Int32), p + r = n → r < fu → Le6 d c → sum6 d = r → x < SM d a → a ≤ 6 → BA d o → RA p acc ws → Ret (F_X5_layOutSmooth_L18 (nI n) rs y fu (nI r) o al ic mf st w (nI p) ws (nI x) (LI a) (nI p)) (fun q => q.2.2.2.2.2.2.2.1 = nI n ∧ RA n (layS r d a x p acc) q.2.2.2.2.2.2.2.2 ∧ q.2.2.1 = al ∧ q.2.2.2.2.1 = mf ∧ q.2.2.2.2.2.1 = st ∧ q.2.2.2.2.2.2.1 = w) := by
  intro r
  induction r with
  | zero =>
    intro p fu x a d acc o ws h1 h2 hd hs hx ha hb hw
    obtain ⟨fu, rfl, hf⟩ := fu1 h2
    obtain rfl : p = n := by omega
    rw [F_X5_layOutSmooth_L18]
    simp (disch := omega) only [↓qM, zq0, zq1, zq2, zq3, zq4, zq5, zq6, zq7, zq8, zq9, zq10, zq11, zq12, zq13, zq14, zq20, zq33, zq48, zq49, zq50, zq57, zq60, zq61, zq78, zq97, zq102, zq126, zq486, zq600, zq2916, zq4200, le_I, lt_I, eq_I, ne_M, lt_M, cl_I, vin_T, gd_tt, nz_T, nI_add, sub_I, m1_M, pk_mul, div_I, Option.bind_some, Option.map_some, if_pos, if_neg, if_true, if_false, Nat.reduceAdd, Nat.reduceMul, Nat.reduceSub, Nat.zero_add, Nat.add_zero, Ret_s, len_T]
    exact ⟨(by first | rfl | trivial), hw, (by first | rfl | trivial), (by first | rfl | trivial), (by first | rfl | trivial), (by first | rfl | trivial)⟩
  | succ r ih =>
    intro p fu x a d acc o ws h1 h2 hd hs hx ha hb hw
    obtain ⟨fu, rfl, hf⟩ := fu1 h2
    obtain ⟨g1, g2, g3, g4, g5⟩ := layS_step (c := d) (a := a) (x := x) (by omega) hx
    have hle := SM_le (d := d) (a := a) (by omega)
    have hcb := le_sum6 (c := d) g1
    have e6 := layIS_I (n := n) (p := p) (a := a) (rs := rs) (ic := ic) (mf := mf) (ws := ws) (y := y) (bt := nI (sum6 d)) (wl := nI p) (K := F_X5_layOutSmooth_L18 (nI n) rs y fu) hT hc hd hb ha 5 0 x FU (by omega) (FU_lt (by omega)) (by omega)
    obtain ⟨o1, e7, hb1⟩ := drop_I (t := sum6 d) hb g1 g2 (by omega) (by omega)
    have hw1 : RA (p + 1) (gset acc p (pk (stp d a) 5 0 x).1) (upd ws p (nI (pk (stp d a) 5 0 x).1)) := by
      intro j hj
      by_cases e : j = p
      · subst e; rw [upd_s, gset_s]
      · rw [upd_n _ _ e, gset_n _ _ e]; exact hw j (by omega)
    have e8 := add_I (n := p) (a := ws) (x := nI (pk (stp d a) 5 0 x).1) (by omega)
    have e9 := ih (p + 1) fu (pk (stp d a) 5 0 x).2 (pk (stp d a) 5 0 x).1 (dec d (pk (stp d a) 5 0 x).1) (gset acc p (pk (stp d a) 5 0 x).1) o1 (upd ws p (nI (pk (stp d a) 5 0 x).1)) (by omega) (by omega) (Le6_dec hd) (by omega) g4 (by omega) hb1 hw1
    rw [LI_n g1] at e9
    rw [F_X5_layOutSmooth_L18, layS, ← hs]
    unfold F_X5_layOutSmooth_J106 at e6
    rw [e7] at e6
    by_cases ea : a = 0
    · subst ea
      rw [stp_self] at e6
      simp (disch := omega) only [↓qM, zq0, zq1, zq2, zq3, zq4, zq5, zq6, zq7, zq8, zq9, zq10, zq11, zq12, zq13, zq14, zq20, zq33, zq48, zq49, zq50, zq57, zq60, zq61, zq78, zq97, zq102, zq126, zq486, zq600, zq2916, zq4200, le_I, lt_I, eq_I, ne_M, lt_M, cl_I, vin_T, gd_tt, nz_T, nI_add, sub_I, m1_M, pk_mul, div_I, Option.bind_some, Option.map_some, if_pos, if_neg, if_true, if_false, Nat.reduceAdd, Nat.reduceMul, Nat.reduceSub, Nat.zero_add, Nat.add_zero, Ret_s, len_T, LI_e2, e6, e8]
      rw [show sum6 d - 1 = r by omega]
      exact e9
    · rw [stp_ST (by omega)] at e6
      simp (disch := omega) only [↓qM, zq0, zq1, zq2, zq3, zq4, zq5, zq6, zq7, zq8, zq9, zq10, zq11, zq12, zq13, zq14, zq20, zq33, zq48, zq49, zq50, zq57, zq60, zq61, zq78, zq97, zq102, zq126, zq486, zq600, zq2916, zq4200, le_I, lt_I, eq_I, ne_M, lt_M, cl_I, vin_T, gd_tt, nz_T, nI_add, sub_I, m1_M, pk_mul, div_I, Option.bind_some, Option.map_some, if_pos, if_neg, if_true, if_false, Nat.reduceAdd, Nat.reduceMul, Nat.reduceSub, Nat.zero_add, Nat.add_zero, Ret_s, len_T, LI_e2, hT.start hc hd hb, e6, e8]
      rw [show sum6 d - 1 = r by omega]
      exact e9
theorem layOutS_I {n x : Nat} {g : Nat → Nat} {a o ws : Nat → Int32} {t wl : Int32} {al ic mf st w : Nat → Int32} (hn : n ≤ 11) (h0 : 1 ≤ n) (hg : RG n g) (h : RA n g a) (hS : SMI al mf st w) (hx : x < SM (cF g n 0) 6) : Ret (F_X5_layOutSmooth t o (nI n) a al ic mf st w wl ws (nI x)) (fun q => q.2.2.2.2.2.2.2.1 = nI n ∧ RA n (gls g n x) q.2.2.2.2.2.2.2.2 ∧ SMI q.2.2.1 q.2.2.2.2.1 q.2.2.2.2.2.1 q.2.2.2.2.2.2.1) := by
  obtain ⟨o1, al', ic', mf', st', w', e1, hb1, hS1, hT⟩ := prepS_I (t := t) (o := o) (ic := ic) hn h0 hg h hS
  have hs0 : sum6 (cF g n 0) = n := sum6_cnt hg n 0 (by omega)
  have k := layOS_I (rs := a) (y := nI x) (ic := ic') (mf := mf') hn hT (by omega) n 0 FU x 6 (cF g n 0) (fun _ => 0) o1 ws (by omega) (FU_lt (by omega)) (fun _ _ => Nat.le_refl _) hs0 hx (by omega) hb1 (fun i hi => absurd hi (by omega))
  rw [LI_6] at k
  unfold F_X5_layOutSmooth
  rw [e1, Option.bind_some, clr_T, Option.bind_some, qM, zq0]
  refine k.mono (fun q hq => ⟨hq.1, hq.2.1, ?_⟩)
  rw [hq.2.2.1, hq.2.2.2.1, hq.2.2.2.2.1, hq.2.2.2.2.2]
  exact hS1
