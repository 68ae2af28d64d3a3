/-! laying out -/
/-- the sign and what is left of x, by the numbers f -/
def pk (f : Nat → Nat) : Nat → Nat → Nat → Nat × Nat
  | 0, s, x => (s, x)
  | d + 1, s, x => if x < f s then (s, x) else pk f d (s + 1) (x - f s)
theorem pk_spec {f : Nat → Nat} : ∀ (d s x : Nat), x < sumL f s (d + 1) → s ≤ (pk f d s x).1 ∧ (pk f d s x).1 ≤ s + d ∧ (pk f d s x).2 < f (pk f d s x).1 := by
  intro d
  induction d with
  | zero => intro s x h; rw [sumL, sumL] at h; exact ⟨Nat.le_refl _, Nat.le_refl _, by show x < f s; omega⟩
  | succ d ih =>
    intro s x h
    rw [sumL] at h
    by_cases e : x < f s
    · rw [pk, if_pos e]; exact ⟨Nat.le_refl _, by omega, e⟩
    · rw [pk, if_neg e]
      obtain ⟨h1, h2, h3⟩ := ih (s + 1) (x - f s) (by omega)
      exact ⟨by omega, by omega, h3⟩
/-- the row of a rank: d places from p on, of the signs counted in c -/
def lay : Nat → (Nat → Nat) → Nat → Nat → (Nat → Nat) → (Nat → Nat)
  | 0, _, _, _, acc => acc
  | d + 1, c, x, p, acc => lay d (dec c (pk (wB c) 5 0 x).1) (pk (wB c) 5 0 x).2 (p + 1) (gset acc p (pk (wB c) 5 0 x).1)
theorem wB_pos {c : Nat → Nat} {s : Nat} (h : 0 < wB c s) : 0 < c s ∧ wB c s = ways (dec c s) := by
  unfold wB at h ⊢
  by_cases e : c s = 0
  · rw [if_pos e] at h; omega
  · rw [if_neg e]; exact ⟨by omega, rfl⟩
/-- one step of laying -/
theorem lay_step {c : Nat → Nat} {x : Nat} (h : 0 < sum6 c) (hx : x < ways c) : (pk (wB c) 5 0 x).1 < 6 ∧ 0 < c (pk (wB c) 5 0 x).1 ∧ (pk (wB c) 5 0 x).2 < wB c (pk (wB c) 5 0 x).1 ∧ wB c (pk (wB c) 5 0 x).1 = ways (dec c (pk (wB c) 5 0 x).1) ∧ sum6 (dec c (pk (wB c) 5 0 x).1) = sum6 c - 1 := by
  obtain ⟨h1, h2, h3⟩ := pk_spec (f := wB c) 5 0 x (by rw [wB_all h]; exact hx)
  obtain ⟨h4, h5⟩ := wB_pos (c := c) (s := (pk (wB c) 5 0 x).1) (by omega)
  exact ⟨by omega, h4, h3, h5, sum6_dec (by omega) h4⟩
theorem lay_lo : ∀ (d : Nat) (c : Nat → Nat) (x p : Nat) (acc : Nat → Nat) (i : Nat), i < p → lay d c x p acc i = acc i := by
  intro d
  induction d with
  | zero => intro c x p acc i h; rfl
  | succ d ih => intro c x p acc i h; rw [lay, ih _ _ _ _ _ (by omega), gset_n _ _ (by omega)]
theorem lay_sp : ∀ (d : Nat) (c : Nat → Nat) (x p : Nat) (acc : Nat → Nat), sum6 c = d → x < ways c → (∀ i, p ≤ i → i < p + d → lay d c x p acc i < 6) ∧ ∀ s, s < 6 → cnt (lay d c x p acc) p d s = c s := by
  intro d
  induction d with
  | zero =>
    intro c x p acc h hx
    exact ⟨fun i h1 h2 => by omega, fun s hs => by have := le_sum6 (c := c) hs; rw [cnt_0]; omega⟩
  | succ d ih =>
    intro c x p acc h hx
    obtain ⟨h1, h2, h3, h4, h5⟩ := lay_step (by omega) hx
    obtain ⟨h6, h7⟩ := ih (dec c (pk (wB c) 5 0 x).1) (pk (wB c) 5 0 x).2 (p + 1) (gset acc p (pk (wB c) 5 0 x).1) (by omega) (by omega)
    have h8 : lay (d + 1) c x p acc p = (pk (wB c) 5 0 x).1 := by rw [lay, lay_lo _ _ _ _ _ _ (by omega), gset_s]
    refine ⟨fun i hi hi2 => ?_, fun s hs => ?_⟩
    · by_cases e : i = p
      · subst e; rw [h8]; exact h1
      · rw [lay]; exact h6 i (by omega) (by omega)
    · rw [cnt_s, h8]
      have h9 := h7 s hs
      rw [lay, h9]
      unfold dec
      by_cases e : s = (pk (wB c) 5 0 x).1
      · rw [← e, gset_s, b2n_t rfl]; rw [← e] at h2; omega
      · rw [gset_n _ _ e, b2n_f (fun h => e h.symm)]; omega
/-- the row of the rank x, of the signs of g -/
def gl (g : Nat → Nat) (n x : Nat) : Nat → Nat := lay n (cF g n 0) x 0 (fun _ => 0)
theorem gl_sp {g : Nat → Nat} {n x : Nat} (hg : RG n g) (hx : x < ways (cF g n 0)) : RG n (gl g n x) ∧ ∀ s, s < 6 → cF (gl g n x) n 0 s = cF g n 0 s := by
  obtain ⟨h1, h2⟩ := lay_sp n (cF g n 0) x 0 (fun _ => 0) (sum6_cnt hg n 0 (by omega)) hx
  exact ⟨fun i hi => h1 i (by omega) (by omega), h2⟩
-- the class's
theorem layI_I {n p : Nat} {rs : Nat → Int32} {y : Int32} {c : Nat → Nat} {wl : Int32} {ws o : Nat → Int32} {K : Int32 → (Nat → Int32) → Int32 → (Nat → Int32) → Int32 → Int32 → Int32 → Option (Int32 × (Nat → Int32) × Int32 × (Nat → Int32))} (hc : sum6 c ≤ 11) (h0 : 0 < sum6 c) (hb : BA c o) : ∀ (d s x fu : Nat), s + d = 5 → d < fu → x < 2147483648 → F_X5_layOut_L69 K (nI n) rs y fu (nI (sum6 c)) o wl ws (nI (ways c)) (nI x) (nI p) (nI s) (nI (wB c s)) = F_X5_layOut_J114 K (nI n) rs y (nI (sum6 c)) o wl ws (nI (pk (wB c) d s x).2) (nI p) (nI (pk (wB c) d s x).1) (nI (wB c (pk (wB c) d s x).1)) := by
  have hw := ways_le c
  have hfb := (fact_11 hc).1
  intro d
  induction d with
  | zero =>
    intro s x fu h1 h2 h3
    obtain ⟨fu, rfl, hf⟩ := fu1 h2
    rw [F_X5_layOut_L69]
    simp (disch := omega) only [↓qM, zq0, zq1, zq2, zq3, zq4, zq5, zq6, zq7, zq8, zq9, zq10, zq11, zq12, zq13, zq14, zq20, zq33, zq48, zq49, zq50, zq57, zq60, zq61, zq78, zq97, zq102, zq126, zq486, zq600, zq2916, zq4200, le_I, lt_I, eq_I, ne_M, lt_M, cl_I, vin_T, gd_tt, nz_T, nI_add, sub_I, m1_M, pk_mul, div_I, Option.bind_some, Option.map_some, if_pos, if_neg, if_true, if_false, Nat.reduceAdd, Nat.reduceMul, Nat.reduceSub, Nat.zero_add, Nat.add_zero, Ret_s, pk]
  | succ d ih =>
    intro s x fu h1 h2 h3
    obtain ⟨fu, rfl, hf⟩ := fu1 h2
    have h7 := wB_lt (c := c) (s := s) h0 (by omega)
    by_cases e : x < wB c s
    · rw [F_X5_layOut_L69]
      simp (disch := omega) only [↓qM, zq0, zq1, zq2, zq3, zq4, zq5, zq6, zq7, zq8, zq9, zq10, zq11, zq12, zq13, zq14, zq20, zq33, zq48, zq49, zq50, zq57, zq60, zq61, zq78, zq97, zq102, zq126, zq486, zq600, zq2916, zq4200, le_I, lt_I, eq_I, ne_M, lt_M, cl_I, vin_T, gd_tt, nz_T, nI_add, sub_I, m1_M, pk_mul, div_I, Option.bind_some, Option.map_some, if_pos, if_neg, if_true, if_false, Nat.reduceAdd, Nat.reduceMul, Nat.reduceSub, Nat.zero_add, Nat.add_zero, Ret_s, pk]
    · have e2 := ih (s + 1) (x - wB c s) fu (by omega) (by omega) (by omega)
      have m2 : ways c * c (s + 1) ≤ 39916800 * 11 := Nat.mul_le_mul (by omega) (Nat.le_trans (le_sum6 (by omega)) hc)
      have e3 : ways c * c (s + 1) / sum6 c = wB c (s + 1) := by rw [← wB_eq (by omega), Nat.mul_div_cancel_left _ h0]
      have e4 := part_I (x := ways c) (k := c (s + 1)) (t := sum6 c) h0 (by omega) (by omega)
      rw [e3] at e4
      have e5 := of_I hb (s := s + 1) (by omega)
      rw [F_X5_layOut_L69]
      simp (disch := omega) only [↓qM, zq0, zq1, zq2, zq3, zq4, zq5, zq6, zq7, zq8, zq9, zq10, zq11, zq12, zq13, zq14, zq20, zq33, zq48, zq49, zq50, zq57, zq60, zq61, zq78, zq97, zq102, zq126, zq486, zq600, zq2916, zq4200, le_I, lt_I, eq_I, ne_M, lt_M, cl_I, vin_T, gd_tt, nz_T, nI_add, sub_I, m1_M, pk_mul, div_I, Option.bind_some, Option.map_some, if_pos, if_neg, if_true, if_false, Nat.reduceAdd, Nat.reduceMul, Nat.reduceSub, Nat.zero_add, Nat.add_zero, Ret_s, pk, F_X0_total, e4, e5, e2]
theorem layO_I {n : Nat} {rs : Nat → Int32} {y : Int32} (hn : n ≤ 11) : ∀ (d p fu x : Nat) (c acc : Nat → Nat) (o ws : Nat → Int32), p + d = n → d < fu → sum6 c = d → x < ways c → BA c o → RA p acc ws → Ret (F_X5_layOut_L32 (nI n) rs y fu (nI d) o (nI p) ws (nI (ways c)) (nI x) (nI p)) (fun r => r.2.2.1 = nI n ∧ RA n (lay d c x p acc) r.2.2.2) := by
  intro d
  induction d with
  | zero =>
    intro p fu x c acc o ws h1 h2 hs hx hb hw
    obtain ⟨fu, rfl, hf⟩ := fu1 h2
    obtain rfl : p = n := by omega
    rw [F_X5_layOut_L32]
    simp (disch := omega) only [↓qM, zq0, zq1, zq2, zq3, zq4, zq5, zq6, zq7, zq8, zq9, zq10, zq11, zq12, zq13, zq14, zq20, zq33, zq48, zq49, zq50, zq57, zq60, zq61, zq78, zq97, zq102, zq126, zq486, zq600, zq2916, zq4200, le_I, lt_I, eq_I, ne_M, lt_M, cl_I, vin_T, gd_tt, nz_T, nI_add, sub_I, m1_M, pk_mul, div_I, Option.bind_some, Option.map_some, if_pos, if_neg, if_true, if_false, Nat.reduceAdd, Nat.reduceMul, Nat.reduceSub, Nat.zero_add, Nat.add_zero, Ret_s, F_X1_length]
    exact ⟨(by first | rfl | trivial), hw⟩
  | succ d ih =>
    intro p fu x c acc o ws h1 h2 hs hx hb hw
    obtain ⟨fu, rfl, hf⟩ := fu1 h2
    obtain ⟨g1, g2, g3, g4, g5⟩ := lay_step (c := c) (x := x) (by omega) hx
    have hwl := ways_le c
    have hfb := (fact_11 (n := sum6 c) (by omega)).1
    have hcb := le_sum6 (c := c) g1
    have m2 : ways c * c 0 ≤ 39916800 * 11 := Nat.mul_le_mul (by omega) (Nat.le_trans (le_sum6 (by omega)) (by omega))
    have e3 : ways c * c 0 / sum6 c = wB c 0 := by rw [← wB_eq (by omega), Nat.mul_div_cancel_left _ (by omega)]
    have e4 := part_I (x := ways c) (k := c 0) (t := sum6 c) (by omega) (by omega) (by omega)
    rw [e3] at e4
    have e5 := of_I hb (s := 0) (by omega)
    have e6 := layI_I (n := n) (p := p) (rs := rs) (y := y) (wl := nI p) (ws := ws) (K := F_X5_layOut_L32 (nI n) rs y fu) (c := c) (by omega) (by omega) hb 5 0 x FU (by omega) (FU_lt (by omega)) (by omega)
    obtain ⟨o1, e7, hb1⟩ := drop_I (t := sum6 c) hb g1 g2 (by omega) (by omega)
    have hw1 : RA (p + 1) (gset acc p (pk (wB c) 5 0 x).1) (upd ws p (nI (pk (wB c) 5 0 x).1)) := by
      intro j hj
      by_cases e : j = p
      · subst e; rw [upd_s, gset_s]
      · rw [upd_n _ _ e, gset_n _ _ e]; exact hw j (by omega)
    have e8 := add_I (n := p) (a := ws) (x := nI (pk (wB c) 5 0 x).1) (by omega)
    have e9 := ih (p + 1) fu (pk (wB c) 5 0 x).2 (dec c (pk (wB c) 5 0 x).1) (gset acc p (pk (wB c) 5 0 x).1) o1 (upd ws p (nI (pk (wB c) 5 0 x).1)) (by omega) (by omega) (by omega) (by omega) hb1 hw1
    rw [F_X5_layOut_L32, lay, ← hs]
    simp (disch := omega) only [↓qM, zq0, zq1, zq2, zq3, zq4, zq5, zq6, zq7, zq8, zq9, zq10, zq11, zq12, zq13, zq14, zq20, zq33, zq48, zq49, zq50, zq57, zq60, zq61, zq78, zq97, zq102, zq126, zq486, zq600, zq2916, zq4200, le_I, lt_I, eq_I, ne_M, lt_M, cl_I, vin_T, gd_tt, nz_T, nI_add, sub_I, m1_M, pk_mul, div_I, Option.bind_some, Option.map_some, if_pos, if_neg, if_true, if_false, Nat.reduceAdd, Nat.reduceMul, Nat.reduceSub, Nat.zero_add, Nat.add_zero, Ret_s, F_X1_length, F_X0_total, e4, e5, e6]
    unfold F_X5_layOut_J114
    simp (disch := omega) only [↓qM, zq0, zq1, zq2, zq3, zq4, zq5, zq6, zq7, zq8, zq9, zq10, zq11, zq12, zq13, zq14, zq20, zq33, zq48, zq49, zq50, zq57, zq60, zq61, zq78, zq97, zq102, zq126, zq486, zq600, zq2916, zq4200, le_I, lt_I, eq_I, ne_M, lt_M, cl_I, vin_T, gd_tt, nz_T, nI_add, sub_I, m1_M, pk_mul, div_I, Option.bind_some, Option.map_some, if_pos, if_neg, if_true, if_false, Nat.reduceAdd, Nat.reduceMul, Nat.reduceSub, Nat.zero_add, Nat.add_zero, Ret_s, e7, e8]
    rw [g4, show sum6 c - 1 = d by omega]
    exact e9
theorem layOut_I {n x : Nat} {g : Nat → Nat} {a o w : Nat → Int32} {t wl : Int32} (hn : n ≤ 11) (hg : RG n g) (h : RA n g a) (hx : x < ways (cF g n 0)) : Ret (F_X5_layOut t o (nI n) a wl w (nI x)) (fun r => r.2.2.1 = nI n ∧ RA n (gl g n x) r.2.2.2) := by
  obtain ⟨o1, e1, hb1⟩ := fill0_I (o := o) (t := t) hn hg h
  have hs : sum6 (cF g n 0) = n := sum6_cnt hg n 0 (by omega)
  have e2 := ways_I (c := cF g n 0) hb1 (by omega)
  rw [hs] at e2
  have e3 := layO_I (rs := a) (y := nI x) hn n 0 FU x (cF g n 0) (fun _ => 0) o1 w (by omega) (FU_lt (by omega)) hs hx hb1 (fun i hi => absurd hi (by omega))
  have e0 : F_X1_clear wl = some (nI 0) := rfl
  unfold F_X5_layOut
  rw [e0, Option.bind_some, zq0, e1, Option.bind_some]
  show Ret ((F_X0_ways (nI n) o1).bind _) _
  rw [e2, Option.bind_some]
  exact e3
-- the reference's
theorem rlayI_I {p : Nat} {z a : Nat → Int32} {y : Int32} {c : Nat → Nat} {K : (Nat → Int32) → (Nat → Int32) → Int32 → Int32 → Option ((Nat → Int32) × (Nat → Int32))} (hc : sum6 c ≤ 11) (h0 : 0 < sum6 c) (hp : p < 11) : ∀ (d s x fu : Nat) (o : Nat → Int32), s + d = 5 → d < fu → x < sumL (wB c) s (d + 1) → x < 2147483648 → BA c o → ∃ o', F_X6_layRank_L21 K z y fu o a (nI x) (nI p) (nI s) = K o' (upd a p (nI (pk (wB c) d s x).1)) (nI (pk (wB c) d s x).2) (nI (p + 1)) ∧ BA (dec c (pk (wB c) d s x).1) o' := by
  have hw := ways_le c
  have hfb := (fact_11 hc).1
  have stop : ∀ (d s x fu : Nat) (o : Nat → Int32), s < 6 → x < wB c s → BA c o → ∃ o', F_X6_layRank_L21 K z y (fu + 1) o a (nI x) (nI p) (nI s) = K o' (upd a p (nI s)) (nI x) (nI (p + 1)) ∧ BA (dec c s) o' := by
    intro d s x fu o hs hx hb
    have h7 := wB_lt (c := c) (s := s) h0 hs
    obtain ⟨h8, h9⟩ := wB_pos (c := c) (s := s) (by omega)
    have hcs := le_sum6 (c := c) hs
    obtain ⟨o1, e1, hb1⟩ := rowsWith_I hb hc hs
    refine ⟨upd o1 s (nI (c s - 1)), ?_, hb1.upd s _⟩
    rw [F_X6_layRank_L21]
    simp (disch := omega) only [↓qM, zq0, zq1, zq2, zq3, zq4, zq5, zq6, zq7, zq8, zq9, zq10, zq11, zq12, zq13, zq14, zq20, zq33, zq48, zq49, zq50, zq57, zq60, zq61, zq78, zq97, zq102, zq126, zq486, zq600, zq2916, zq4200, le_I, lt_I, eq_I, ne_M, lt_M, cl_I, vin_T, gd_tt, nz_T, nI_add, sub_I, m1_M, pk_mul, div_I, Option.bind_some, Option.map_some, if_pos, if_neg, if_true, if_false, Nat.reduceAdd, Nat.reduceMul, Nat.reduceSub, Nat.zero_add, Nat.add_zero, Ret_s, e1, hb1.at]
  intro d
  induction d with
  | zero =>
    intro s x fu o h1 h2 hx h3 hb
    obtain ⟨fu, rfl, hf⟩ := fu1 h2
    rw [sumL, sumL] at hx
    exact stop 0 s x fu o (by omega) (by omega) hb
  | succ d ih =>
    intro s x fu o h1 h2 hx h3 hb
    obtain ⟨fu, rfl, hf⟩ := fu1 h2
    have h7 := wB_lt (c := c) (s := s) h0 (by omega)
    by_cases e : x < wB c s
    · rw [pk, if_pos e]; exact stop (d + 1) s x fu o (by omega) e hb
    · rw [pk, if_neg e]
      rw [sumL] at hx
      obtain ⟨o1, e1, hb1⟩ := rowsWith_I (s := s) hb hc (by omega)
      obtain ⟨o2, e2, hb2⟩ := rowsWith_I (s := s) hb1 hc (by omega)
      obtain ⟨o3, e3, hb3⟩ := ih (s + 1) (x - wB c s) fu o2 (by omega) (by omega) (by omega) (by omega) hb2
      refine ⟨o3, ?_, hb3⟩
      rw [F_X6_layRank_L21]
      simp (disch := omega) only [↓qM, zq0, zq1, zq2, zq3, zq4, zq5, zq6, zq7, zq8, zq9, zq10, zq11, zq12, zq13, zq14, zq20, zq33, zq48, zq49, zq50, zq57, zq60, zq61, zq78, zq97, zq102, zq126, zq486, zq600, zq2916, zq4200, le_I, lt_I, eq_I, ne_M, lt_M, cl_I, vin_T, gd_tt, nz_T, nI_add, sub_I, m1_M, pk_mul, div_I, Option.bind_some, Option.map_some, if_pos, if_neg, if_true, if_false, Nat.reduceAdd, Nat.reduceMul, Nat.reduceSub, Nat.zero_add, Nat.add_zero, Ret_s, e1, e2, e3]
theorem rlayO_I {n : Nat} {g : Nat → Nat} {z : Nat → Int32} {y : Int32} (hz : ZI z n g) (hn : n ≤ 11) : ∀ (d p fu x : Nat) (c acc : Nat → Nat) (o a : Nat → Int32), p + d = n → d < fu → sum6 c = d → x < ways c → BA c o → RA p acc a → Ret (F_X6_layRank_L8 z y fu o a (nI x) (nI p)) (fun r => RA n (lay d c x p acc) r.2) := by
  intro d
  induction d with
  | zero =>
    intro p fu x c acc o a h1 h2 hs hx hb hw
    obtain ⟨fu, rfl, hf⟩ := fu1 h2
    obtain rfl : p = n := by omega
    rw [F_X6_layRank_L8]
    simp (disch := omega) only [↓qM, zq0, zq1, zq2, zq3, zq4, zq5, zq6, zq7, zq8, zq9, zq10, zq11, zq12, zq13, zq14, zq20, zq33, zq48, zq49, zq50, zq57, zq60, zq61, zq78, zq97, zq102, zq126, zq486, zq600, zq2916, zq4200, le_I, lt_I, eq_I, ne_M, lt_M, cl_I, vin_T, gd_tt, nz_T, nI_add, sub_I, m1_M, pk_mul, div_I, Option.bind_some, Option.map_some, if_pos, if_neg, if_true, if_false, Nat.reduceAdd, Nat.reduceMul, Nat.reduceSub, Nat.zero_add, Nat.add_zero, Ret_s, hz.n]
    exact hw
  | succ d ih =>
    intro p fu x c acc o a h1 h2 hs hx hb hw
    obtain ⟨fu, rfl, hf⟩ := fu1 h2
    obtain ⟨g1, g2, g3, g4, g5⟩ := lay_step (c := c) (x := x) (by omega) hx
    have hwl := ways_le c
    have hfb := (fact_11 (n := sum6 c) (by omega)).1
    obtain ⟨o1, e1, hb1⟩ := rlayI_I (z := z) (a := a) (y := y) (p := p) (K := F_X6_layRank_L8 z y fu) (c := c) (by omega) (by omega) (by omega) 5 0 x FU o (by omega) (FU_lt (by omega)) (by rw [wB_all (by omega)]; exact hx) (by omega) hb
    have hw1 : RA (p + 1) (gset acc p (pk (wB c) 5 0 x).1) (upd a p (nI (pk (wB c) 5 0 x).1)) := by
      intro j hj
      by_cases e : j = p
      · subst e; rw [upd_s, gset_s]
      · rw [upd_n _ _ e, gset_n _ _ e]; exact hw j (by omega)
    have e9 := ih (p + 1) fu (pk (wB c) 5 0 x).2 (dec c (pk (wB c) 5 0 x).1) (gset acc p (pk (wB c) 5 0 x).1) o1 (upd a p (nI (pk (wB c) 5 0 x).1)) (by omega) (by omega) (by omega) (by omega) hb1 hw1
    rw [F_X6_layRank_L8]
    simp (disch := omega) only [↓qM, zq0, zq1, zq2, zq3, zq4, zq5, zq6, zq7, zq8, zq9, zq10, zq11, zq12, zq13, zq14, zq20, zq33, zq48, zq49, zq50, zq57, zq60, zq61, zq78, zq97, zq102, zq126, zq486, zq600, zq2916, zq4200, le_I, lt_I, eq_I, ne_M, lt_M, cl_I, vin_T, gd_tt, nz_T, nI_add, sub_I, m1_M, pk_mul, div_I, Option.bind_some, Option.map_some, if_pos, if_neg, if_true, if_false, Nat.reduceAdd, Nat.reduceMul, Nat.reduceSub, Nat.zero_add, Nat.add_zero, Ret_s, hz.n, e1]
    rw [lay]
    exact e9
theorem layRank_I {n x : Nat} {g : Nat → Nat} {z a o : Nat → Int32} (hz : ZI z n g) (hn : n ≤ 11) (hg : RG n g) (hx : x < ways (cF g n 0)) : Ret (F_X6_layRank o a z (nI x)) (fun r => RA n (gl g n x) r.2) := by
  obtain ⟨o1, e1, hb1⟩ := countAll_I (o := o) hz hn hg
  have hs : sum6 (cF g n 0) = n := sum6_cnt hg n 0 (by omega)
  have e3 := rlayO_I (y := nI x) hz hn n 0 FU x (cF g n 0) (fun _ => 0) o1 a (by omega) (FU_lt (by omega)) hs hx hb1 (fun i hi => absurd hi (by omega))
  unfold F_X6_layRank
  simp (disch := omega) only [↓qM, zq0, zq1, zq2, zq3, zq4, zq5, zq6, zq7, zq8, zq9, zq10, zq11, zq12, zq13, zq14, zq20, zq33, zq48, zq49, zq50, zq57, zq60, zq61, zq78, zq97, zq102, zq126, zq486, zq600, zq2916, zq4200, le_I, lt_I, eq_I, ne_M, lt_M, cl_I, vin_T, gd_tt, nz_T, nI_add, sub_I, m1_M, pk_mul, div_I, Option.bind_some, Option.map_some, if_pos, if_neg, if_true, if_false, Nat.reduceAdd, Nat.reduceMul, Nat.reduceSub, Nat.zero_add, Nat.add_zero, Ret_s, e1]
  exact e3
/-- the row of 'other' taken: how many places changed -/
theorem takeL_I {n : Nat} {g g2 : Nat → Nat} {a : Nat → Int32} (hn : n ≤ 11) (hg : RG n g) (hg2 : RG n g2) (h : RA n g2 a) : ∀ (d i x fu : Nat) (z : Nat → Int32), i + d = n → d < fu → z 0 = nI n → (∀ j, j < i → z (2 + j) = nI (g2 j)) → (∀ j, i ≤ j → j < n → z (2 + j) = nI (g j)) → Ret (F_X6_takeOther_L4 a fu z (nI x) (nI i)) (fun r => r.1 = nI (x + sumL (fun i => b2n (g i ≠ g2 i)) i d) ∧ ZI r.2 n g2 ∧ r.2 1 = z 1) := by
  intro d
  induction d with
  | zero =>
    intro i x fu z h1 h2 h0 h3 h4
    obtain ⟨fu, rfl, hf⟩ := fu1 h2
    obtain rfl : i = n := by omega
    rw [F_X6_takeOther_L4]
    simp (disch := omega) only [↓qM, zq0, zq1, zq2, zq3, zq4, zq5, zq6, zq7, zq8, zq9, zq10, zq11, zq12, zq13, zq14, zq20, zq33, zq48, zq49, zq50, zq57, zq60, zq61, zq78, zq97, zq102, zq126, zq486, zq600, zq2916, zq4200, le_I, lt_I, eq_I, ne_M, lt_M, cl_I, vin_T, gd_tt, nz_T, nI_add, sub_I, m1_M, pk_mul, div_I, Option.bind_some, Option.map_some, if_pos, if_neg, if_true, if_false, Nat.reduceAdd, Nat.reduceMul, Nat.reduceSub, Nat.zero_add, Nat.add_zero, Ret_s, h0, sumL]
    exact ⟨(by first | rfl | trivial), ⟨h0, h3⟩, (by first | rfl | trivial)⟩
  | succ d ih =>
    intro i x fu z h1 h2 h0 h3 h4
    obtain ⟨fu, rfl, hf⟩ := fu1 h2
    have hgi := hg i (by omega)
    have hgi2 := hg2 i (by omega)
    have e0 := h4 i (by omega) (by omega)
    have k := ih (i + 1) (x + b2n (g i ≠ g2 i)) fu (upd z (2 + i) (nI (g2 i))) (by omega) (by omega) (by rw [upd_n _ _ (by omega)]; exact h0) (fun j hj => by
      by_cases e : j = i
      · subst e; rw [upd_s]
      · rw [upd_n _ _ (by omega)]; exact h3 j (by omega)) (fun j hj hj2 => by rw [upd_n _ _ (by omega)]; exact h4 j (by omega) hj2)
    rw [upd_n _ _ (show 1 ≠ 2 + i by omega)] at k
    rw [F_X6_takeOther_L4]
    unfold F_X6_takeOther_J37
    by_cases e : g i = g2 i
    · rw [b2n_f (fun q => q e), Nat.add_zero] at k
      simp (disch := omega) only [↓qM, zq0, zq1, zq2, zq3, zq4, zq5, zq6, zq7, zq8, zq9, zq10, zq11, zq12, zq13, zq14, zq20, zq33, zq48, zq49, zq50, zq57, zq60, zq61, zq78, zq97, zq102, zq126, zq486, zq600, zq2916, zq4200, le_I, lt_I, eq_I, ne_M, lt_M, cl_I, vin_T, gd_tt, nz_T, nI_add, sub_I, m1_M, pk_mul, div_I, Option.bind_some, Option.map_some, if_pos, if_neg, if_true, if_false, Nat.reduceAdd, Nat.reduceMul, Nat.reduceSub, Nat.zero_add, Nat.add_zero, Ret_s, h0, h.at, e0, e]
      refine k.mono (fun r hr => ⟨?_, hr.2⟩)
      rw [hr.1, sumL, b2n_f (fun q => q e), Nat.zero_add]
    · rw [b2n_t e] at k
      simp (disch := omega) only [↓qM, zq0, zq1, zq2, zq3, zq4, zq5, zq6, zq7, zq8, zq9, zq10, zq11, zq12, zq13, zq14, zq20, zq33, zq48, zq49, zq50, zq57, zq60, zq61, zq78, zq97, zq102, zq126, zq486, zq600, zq2916, zq4200, le_I, lt_I, eq_I, ne_M, lt_M, cl_I, vin_T, gd_tt, nz_T, nI_add, sub_I, m1_M, pk_mul, div_I, Option.bind_some, Option.map_some, if_pos, if_neg, if_true, if_false, Nat.reduceAdd, Nat.reduceMul, Nat.reduceSub, Nat.zero_add, Nat.add_zero, Ret_s, h0, h.at, e0, e]
      refine k.mono (fun r hr => ⟨?_, hr.2⟩)
      rw [hr.1, sumL, b2n_t e, Nat.add_assoc]
theorem goes_I {n : Nat} {g g2 : Nat → Nat} {a z : Nat → Int32} (hz : ZI z n g) (hn : n ≤ 11) (hg : RG n g) (hg2 : RG n g2) (h : RA n g2 a) : Ret (F_X6_goes a z) (fun r => r.1 = nI (sumL (fun i => b2n (g i ≠ g2 i)) 0 n) ∧ ZI r.2 n g2 ∧ r.2 1 = z 1 + nI 1) := by
  have k := takeL_I hn hg hg2 h n 0 0 FU (upd z 1 (z 1 + nI 1)) (by omega) (FU_lt (by omega)) (by rw [upd_n _ _ (by omega)]; exact hz.n) (fun j hj => absurd hj (by omega)) (fun j _ hj => by rw [upd_n _ _ (by omega)]; exact hz.g j hj)
  rw [upd_s, Nat.zero_add] at k
  obtain ⟨r, e, hr⟩ := k
  unfold F_X6_goes F_X6_takeOther
  simp (disch := omega) only [↓qM, zq0, zq1, zq2, zq3, zq4, zq5, zq6, zq7, zq8, zq9, zq10, zq11, zq12, zq13, zq14, zq20, zq33, zq48, zq49, zq50, zq57, zq60, zq61, zq78, zq97, zq102, zq126, zq486, zq600, zq2916, zq4200, le_I, lt_I, eq_I, ne_M, lt_M, cl_I, vin_T, gd_tt, nz_T, nI_add, sub_I, m1_M, pk_mul, div_I, Option.bind_some, Option.map_some, if_pos, if_neg, if_true, if_false, Nat.reduceAdd, Nat.reduceMul, Nat.reduceSub, Nat.zero_add, Nat.add_zero, Ret_s, e]
  exact hr
