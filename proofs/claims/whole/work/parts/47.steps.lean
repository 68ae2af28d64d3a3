/-! exchanges of neighbors to another row; the best exchange -/
theorem cnt_swapR {g : Nat → Nat} {lo d p q s : Nat} (h1 : lo ≤ p) (h2 : p < lo + d) (h3 : lo ≤ q) (h4 : q < lo + d) : cnt (gswap g p q) lo d s = cnt g lo d s := by
  unfold gswap
  have h5 := cnt_set (g := gset g p (g q)) (k := q) (v := g p) (s := s) d lo h3 h4
  have h6 := cnt_set (g := g) (k := p) (v := g q) (s := s) d lo h1 h2
  by_cases e : q = p
  · subst e; rw [gset_s] at h5; omega
  · rw [gset_n _ _ e] at h5; omega
theorem cnt_bring {lo d to s : Nat} (h1 : lo ≤ to) : ∀ (k : Nat) (g : Nat → Nat), to + k < lo + d → cnt (gbring g to k) lo d s = cnt g lo d s := by
  intro k
  induction k with
  | zero => intro g _; rfl
  | succ k ih => intro g h; rw [gbring, ih _ (by omega), cnt_swapR (by omega) (by omega) (by omega) (by omega)]
theorem cnt_ex {g : Nat → Nat} {s : Nat} : ∀ d p, 0 < cnt g p d s → ∃ j, p ≤ j ∧ j < p + d ∧ g j = s := by
  intro d
  induction d with
  | zero => intro p h; rw [cnt_0] at h; omega
  | succ d ih =>
    intro p h
    by_cases e : g p = s
    · exact ⟨p, Nat.le_refl _, by omega, e⟩
    · rw [cnt_s, b2n_f e, Nat.zero_add] at h
      obtain ⟨j, h1, h2, h3⟩ := ih (p + 1) h
      exact ⟨j, by omega, by omega, h3⟩
theorem gfind_sp {g : Nat → Nat} {v : Nat} : ∀ d p, (∃ j, p ≤ j ∧ j < p + d ∧ g j = v) → p ≤ gfind g v d p ∧ gfind g v d p < p + d ∧ g (gfind g v d p) = v := by
  intro d
  induction d with
  | zero => intro p h; obtain ⟨j, h1, h2, -⟩ := h; omega
  | succ d ih =>
    intro p h
    rw [gfind]
    by_cases e : g p = v
    · rw [if_pos e]; exact ⟨Nat.le_refl _, by omega, e⟩
    · rw [if_neg e]
      obtain ⟨j, h1, h2, h3⟩ := h
      have hj : j ≠ p := fun hh => e (hh ▸ h3)
      obtain ⟨k1, k2, k3⟩ := ih (p + 1) ⟨j, by omega, by omega, h3⟩
      exact ⟨by omega, by omega, k3⟩
/-- the exchanges by which R, from p on, becomes W -/
def stN (W : Nat → Nat) (n : Nat) : Nat → (Nat → Nat) → Nat → Nat
  | 0, _, _ => 0
  | d + 1, R, p => (gfind R (W p) (n - p) p - p) + stN W n d (gbring R p (gfind R (W p) (n - p) p - p)) (p + 1)
theorem st_step {n p : Nat} {R W : Nat → Nat} (hR : RG n R) (hW : RG n W) (hp : p < n) (hc : ∀ s, s < 6 → cnt R p (n - p) s = cnt W p (n - p) s) : (∃ j, p ≤ j ∧ j < n ∧ R j = W p) ∧ p ≤ gfind R (W p) (n - p) p ∧ gfind R (W p) (n - p) p < n ∧ RG n (gbring R p (gfind R (W p) (n - p) p - p)) ∧ (∀ s, s < 6 → cnt (gbring R p (gfind R (W p) (n - p) p - p)) (p + 1) (n - (p + 1)) s = cnt W (p + 1) (n - (p + 1)) s) := by
  have h1 : 0 < cnt R p (n - p) (W p) := by rw [hc _ (hW p hp)]; exact cF_pos hp
  obtain ⟨j, h2, h3, h4⟩ := cnt_ex _ _ h1
  obtain ⟨k1, k2, k3⟩ := gfind_sp (g := R) (v := W p) (n - p) p ⟨j, h2, h3, h4⟩
  refine ⟨⟨j, h2, by omega, h4⟩, k1, by omega, gbring_RG _ _ hR (by omega), fun s hs => ?_⟩
  have e1 : gbring R p (gfind R (W p) (n - p) p - p) p = W p := by rw [gbring_at, if_pos rfl, show p + (gfind R (W p) (n - p) p - p) = gfind R (W p) (n - p) p by omega, k3]
  have e2 := cnt_bring (lo := p) (d := n - p) (to := p) (s := s) (Nat.le_refl _) (gfind R (W p) (n - p) p - p) R (by omega)
  rw [hc s hs] at e2
  obtain ⟨m, hm⟩ : ∃ m, n - p = m + 1 := ⟨n - p - 1, by omega⟩
  have e3 : n - (p + 1) = m := by omega
  rw [hm] at e2 e1 ⊢
  rw [e3]
  rw [cnt_s, cnt_s, e1] at e2
  omega
theorem stC_I {n : Nat} {W : Nat → Nat} {wk rs : Nat → Int32} {rl y bt : Int32} {o : Nat → Int32} (hn : n ≤ 11) (hW : RG n W) (h : RA n W wk) : ∀ (d p fu x : Nat) (R : Nat → Nat) (ra : Nat → Int32), p + d = n → d < fu → RG n R → RA n R ra → (∀ s, s < 6 → cnt R p (n - p) s = cnt W p (n - p) s) → Ret (F_X5_stepsTo_L25 rl rs y fu bt o (nI n) ra (nI n) wk (nI x) (nI p)) (fun r => r.1 = nI (x + stN W n d R p)) := by
  intro d
  induction d with
  | zero =>
    intro p fu x R ra h1 h2 hR hra hc
    obtain ⟨fu, rfl, hf⟩ := fu1 h2
    rw [F_X5_stepsTo_L25]
    simp (disch := omega) only [↓qM, zq0, zq1, zq2, zq3, zq4, zq5, zq6, zq7, zq8, zq9, zq10, zq11, zq12, zq13, zq14, zq20, zq33, zq48, zq49, zq50, zq57, zq60, zq61, zq78, zq97, zq102, zq126, zq486, zq600, zq2916, zq4200, le_I, lt_I, eq_I, ne_M, lt_M, cl_I, vin_T, gd_tt, nz_T, nI_add, sub_I, m1_M, pk_mul, div_I, Option.bind_some, Option.map_some, if_pos, if_neg, if_true, if_false, Nat.reduceAdd, Nat.reduceMul, Nat.reduceSub, Nat.zero_add, Nat.add_zero, Ret_s, len_T, stN]
  | succ d ih =>
    intro p fu x R ra h1 h2 hR hra hc
    obtain ⟨fu, rfl, hf⟩ := fu1 h2
    obtain ⟨s1, s2, s3, s4, s5⟩ := st_step hR hW (by omega) hc
    have e1 := find_I hn hR (hW p (by omega)) hra (by omega) s1
    obtain ⟨a1, e2, h3⟩ := bring_I (to := p) (d := gfind R (W p) (n - p) p - p) hn (by omega) hra
    rw [show p + (gfind R (W p) (n - p) p - p) = gfind R (W p) (n - p) p by omega] at e2
    have k := ih (p + 1) fu (x + (gfind R (W p) (n - p) p - p)) _ a1 (by omega) (by omega) s4 h3 s5
    rw [Nat.add_assoc] at k
    rw [F_X5_stepsTo_L25]
    simp (disch := omega) only [↓qM, zq0, zq1, zq2, zq3, zq4, zq5, zq6, zq7, zq8, zq9, zq10, zq11, zq12, zq13, zq14, zq20, zq33, zq48, zq49, zq50, zq57, zq60, zq61, zq78, zq97, zq102, zq126, zq486, zq600, zq2916, zq4200, le_I, lt_I, eq_I, ne_M, lt_M, cl_I, vin_T, gd_tt, nz_T, nI_add, sub_I, m1_M, pk_mul, div_I, Option.bind_some, Option.map_some, if_pos, if_neg, if_true, if_false, Nat.reduceAdd, Nat.reduceMul, Nat.reduceSub, Nat.zero_add, Nat.add_zero, Ret_s, len_T, at_J h hn, e1, e2, stN]
    exact k
theorem stR1_I {n p f : Nat} {G R : Nat → Nat} {oth z lf : Nat → Int32} {y x : Int32} {K : (Nat → Int32) → (Nat → Int32) → (Nat → Int32) → Int32 → Int32 → Option (Int32 × (Nat → Int32) × (Nat → Int32) × (Nat → Int32))} (hn : n ≤ 11) (hG : ∀ j, p < j → j ≤ f → G j = R (j - 1)) : ∀ (k fu : Nat) (A : Nat → Int32), p + k ≤ f → p + k < n → k < fu → (∀ j, p ≤ j → j ≤ p + k → A j = nI (R j)) → (∀ j, p + k < j → j < n → A j = nI (G j)) → ∃ A', F_X6_stepsNow_L87 K z y fu lf oth A x (nI p) (nI (p + k)) = K lf oth A' x (nI (p + 1)) ∧ ∀ j, p + 1 ≤ j → j < n → A' j = nI (G j) := by
  intro k
  induction k with
  | zero =>
    intro fu A h1 h2 h3 h4 h5
    obtain ⟨fu, rfl, hf⟩ := fu1 h3
    refine ⟨A, ?_, fun j hj hj2 => h5 j (by omega) hj2⟩
    rw [F_X6_stepsNow_L87]
    simp (disch := omega) only [↓qM, zq0, zq1, zq2, zq3, zq4, zq5, zq6, zq7, zq8, zq9, zq10, zq11, zq12, zq13, zq14, zq20, zq33, zq48, zq49, zq50, zq57, zq60, zq61, zq78, zq97, zq102, zq126, zq486, zq600, zq2916, zq4200, le_I, lt_I, eq_I, ne_M, lt_M, cl_I, vin_T, gd_tt, nz_T, nI_add, sub_I, m1_M, pk_mul, div_I, Option.bind_some, Option.map_some, if_pos, if_neg, if_true, if_false, Nat.reduceAdd, Nat.reduceMul, Nat.reduceSub, Nat.zero_add, Nat.add_zero, Ret_s]
  | succ k ih =>
    intro fu A h1 h2 h3 h4 h5
    obtain ⟨fu, rfl, hf⟩ := fu1 h3
    obtain ⟨A', e1, h6⟩ := ih fu (upd A (p + (k + 1)) (A (p + k))) (by omega) (by omega) (by omega) (fun j hj hj2 => by rw [upd_n _ _ (by omega)]; exact h4 j hj (by omega)) (fun j hj hj2 => by
      by_cases e : j = p + (k + 1)
      · subst e
        rw [upd_s, h4 _ (by omega) (by omega), hG _ (by omega) (by omega)]
        rw [show p + (k + 1) - 1 = p + k by omega]
      · rw [upd_n _ _ e]; exact h5 j (by omega) hj2)
    refine ⟨A', ?_, h6⟩
    have e2 : p + (k + 1) - 1 = p + k := by omega
    rw [F_X6_stepsNow_L87]
    simp (disch := omega) only [↓qM, zq0, zq1, zq2, zq3, zq4, zq5, zq6, zq7, zq8, zq9, zq10, zq11, zq12, zq13, zq14, zq20, zq33, zq48, zq49, zq50, zq57, zq60, zq61, zq78, zq97, zq102, zq126, zq486, zq600, zq2916, zq4200, le_I, lt_I, eq_I, ne_M, lt_M, cl_I, vin_T, gd_tt, nz_T, nI_add, sub_I, m1_M, pk_mul, div_I, Option.bind_some, Option.map_some, if_pos, if_neg, if_true, if_false, Nat.reduceAdd, Nat.reduceMul, Nat.reduceSub, Nat.zero_add, Nat.add_zero, Ret_s, e2, e1]
theorem stR2_I {n p : Nat} {R W : Nat → Nat} {oth z lf A : Nat → Int32} {y : Int32} {K : (Nat → Int32) → (Nat → Int32) → (Nat → Int32) → Int32 → Int32 → Option (Int32 × (Nat → Int32) × (Nat → Int32) × (Nat → Int32))} (hn : n ≤ 11) (hR : RG n R) (hW : RG n W) (h : RA n W oth) (hp : p < n) (hA : ∀ j, p ≤ j → j < n → A j = nI (R j)) : ∀ (d q fu : Nat) (x : Int32), q + d = n → p ≤ q → d < fu → (∃ j, q ≤ j ∧ j < n ∧ R j = W p) → F_X6_stepsNow_L54 K z y fu lf oth A x (nI p) (nI q) = F_X6_stepsNow_L87 K z y FU lf oth A (x + (nI (gfind R (W p) d q) - nI p)) (nI p) (nI (gfind R (W p) d q)) := by
  have hWp := hW p hp
  intro d
  induction d with
  | zero => intro q fu x h1 h2 h3 h4; obtain ⟨j, h5, h6, -⟩ := h4; omega
  | succ d ih =>
    intro q fu x h1 h2 h3 h4
    obtain ⟨fu, rfl, hf⟩ := fu1 h3
    have hRq := hR q (by omega)
    have e1 := hA q h2 (by omega)
    have e3 := h p hp
    rw [F_X6_stepsNow_L54, gfind]
    by_cases e : R q = W p
    · simp (disch := omega) only [↓qM, zq0, zq1, zq2, zq3, zq4, zq5, zq6, zq7, zq8, zq9, zq10, zq11, zq12, zq13, zq14, zq20, zq33, zq48, zq49, zq50, zq57, zq60, zq61, zq78, zq97, zq102, zq126, zq486, zq600, zq2916, zq4200, le_I, lt_I, eq_I, ne_M, lt_M, cl_I, vin_T, gd_tt, nz_T, nI_add, sub_I, m1_M, pk_mul, div_I, Option.bind_some, Option.map_some, if_pos, if_neg, if_true, if_false, Nat.reduceAdd, Nat.reduceMul, Nat.reduceSub, Nat.zero_add, Nat.add_zero, Ret_s, e1, e3, e]
    · obtain ⟨j, h5, h6, h7⟩ := h4
      have hj : j ≠ q := fun hh => e (hh ▸ h7)
      have e2 := ih (q + 1) fu x (by omega) (by omega) (by omega) ⟨j, by omega, h6, h7⟩
      simp (disch := omega) only [↓qM, zq0, zq1, zq2, zq3, zq4, zq5, zq6, zq7, zq8, zq9, zq10, zq11, zq12, zq13, zq14, zq20, zq33, zq48, zq49, zq50, zq57, zq60, zq61, zq78, zq97, zq102, zq126, zq486, zq600, zq2916, zq4200, le_I, lt_I, eq_I, ne_M, lt_M, cl_I, vin_T, gd_tt, nz_T, nI_add, sub_I, m1_M, pk_mul, div_I, Option.bind_some, Option.map_some, if_pos, if_neg, if_true, if_false, Nat.reduceAdd, Nat.reduceMul, Nat.reduceSub, Nat.zero_add, Nat.add_zero, Ret_s, e1, e3, e2]
theorem stRO_I {n : Nat} {g W : Nat → Nat} {oth z lf : Nat → Int32} {y : Int32} (hz : ZI z n g) (hn : n ≤ 11) (hW : RG n W) (h : RA n W oth) : ∀ (d p fu x : Nat) (R : Nat → Nat) (A : Nat → Int32), p + d = n → d < fu → RG n R → (∀ j, p ≤ j → j < n → A j = nI (R j)) → (∀ s, s < 6 → cnt R p (n - p) s = cnt W p (n - p) s) → Ret (F_X6_stepsNow_L41 z y fu lf oth A (nI x) (nI p)) (fun r => r.1 = nI (x + stN W n d R p)) := by
  intro d
  induction d with
  | zero =>
    intro p fu x R A h1 h2 hR hA hc
    obtain ⟨fu, rfl, hf⟩ := fu1 h2
    rw [F_X6_stepsNow_L41]
    simp (disch := omega) only [↓qM, zq0, zq1, zq2, zq3, zq4, zq5, zq6, zq7, zq8, zq9, zq10, zq11, zq12, zq13, zq14, zq20, zq33, zq48, zq49, zq50, zq57, zq60, zq61, zq78, zq97, zq102, zq126, zq486, zq600, zq2916, zq4200, le_I, lt_I, eq_I, ne_M, lt_M, cl_I, vin_T, gd_tt, nz_T, nI_add, sub_I, m1_M, pk_mul, div_I, Option.bind_some, Option.map_some, if_pos, if_neg, if_true, if_false, Nat.reduceAdd, Nat.reduceMul, Nat.reduceSub, Nat.zero_add, Nat.add_zero, Ret_s, hz.n, stN]
  | succ d ih =>
    intro p fu x R A h1 h2 hR hA hc
    obtain ⟨fu, rfl, hf⟩ := fu1 h2
    obtain ⟨s1, s2, s3, s4, s5⟩ := st_step hR hW (by omega) hc
    have e1 := stR2_I (z := z) (lf := lf) (y := y) (K := F_X6_stepsNow_L41 z y fu) hn hR hW h (show p < n by omega) hA (n - p) p FU (nI x) (by omega) (Nat.le_refl _) (FU_lt (by omega)) s1
    obtain ⟨f, hf⟩ : ∃ f, f = gfind R (W p) (n - p) p := ⟨_, rfl⟩
    rw [stN]
    rw [← hf] at e1 s2 s3 s4 s5 ⊢
    obtain ⟨A', e2, h3⟩ := stR1_I (f := f) (G := gbring R p (f - p)) (R := R) (oth := oth) (z := z) (lf := lf) (y := y) (x := nI (x + (f - p))) (K := F_X6_stepsNow_L41 z y fu) hn (fun j hj hj2 => by rw [gbring_at, if_neg (by omega), if_pos (by omega)]) (f - p) FU A (by omega) (by omega) (FU_lt (by omega)) (fun j hj hj2 => hA j hj (by omega)) (fun j hj hj2 => by rw [gbring_at, if_neg (by omega), if_neg (by omega)]; exact hA j (by omega) hj2)
    rw [show p + (f - p) = f by omega] at e2
    have k := ih (p + 1) fu (x + (f - p)) _ A' (by omega) (by omega) s4 h3 s5
    rw [Nat.add_assoc] at k
    rw [F_X6_stepsNow_L41]
    simp (disch := omega) only [↓qM, zq0, zq1, zq2, zq3, zq4, zq5, zq6, zq7, zq8, zq9, zq10, zq11, zq12, zq13, zq14, zq20, zq33, zq48, zq49, zq50, zq57, zq60, zq61, zq78, zq97, zq102, zq126, zq486, zq600, zq2916, zq4200, le_I, lt_I, eq_I, ne_M, lt_M, cl_I, vin_T, gd_tt, nz_T, nI_add, sub_I, m1_M, pk_mul, div_I, Option.bind_some, Option.map_some, if_pos, if_neg, if_true, if_false, Nat.reduceAdd, Nat.reduceMul, Nat.reduceSub, Nat.zero_add, Nat.add_zero, Ret_s, hz.n, e1, e2]
    exact k
theorem stR0_I {n : Nat} {g W : Nat → Nat} {oth z lf : Nat → Int32} {y : Int32} (hz : ZI z n g) (hn : n ≤ 11) (hg : RG n g) (hW : RG n W) (h : RA n W oth) (hc : ∀ s, s < 6 → cnt g 0 n s = cnt W 0 n s) : ∀ (d i fu : Nat) (A : Nat → Int32), i + d = n → d < fu → RA i g A → Ret (F_X6_stepsNow_L7 z y fu lf oth A (nI i)) (fun r => r.1 = nI (stN W n n g 0)) := by
  intro d
  induction d with
  | zero =>
    intro i fu A h1 h2 hA
    obtain ⟨fu, rfl, hf⟩ := fu1 h2
    obtain rfl : i = n := by omega
    have k := stRO_I (lf := lf) (y := y) hz hn hW h i 0 FU 0 g A (by omega) (FU_lt (by omega)) hg (fun j _ hj => hA j hj) (fun s hs => hc s hs)
    rw [Nat.zero_add] at k
    rw [F_X6_stepsNow_L7]
    simp (disch := omega) only [↓qM, zq0, zq1, zq2, zq3, zq4, zq5, zq6, zq7, zq8, zq9, zq10, zq11, zq12, zq13, zq14, zq20, zq33, zq48, zq49, zq50, zq57, zq60, zq61, zq78, zq97, zq102, zq126, zq486, zq600, zq2916, zq4200, le_I, lt_I, eq_I, ne_M, lt_M, cl_I, vin_T, gd_tt, nz_T, nI_add, sub_I, m1_M, pk_mul, div_I, Option.bind_some, Option.map_some, if_pos, if_neg, if_true, if_false, Nat.reduceAdd, Nat.reduceMul, Nat.reduceSub, Nat.zero_add, Nat.add_zero, Ret_s, hz.n]
    exact k
  | succ d ih =>
    intro i fu A h1 h2 hA
    obtain ⟨fu, rfl, hf⟩ := fu1 h2
    have k := ih (i + 1) fu (upd A i (nI (g i))) (by omega) (by omega) (fun j hj => by
      by_cases e : j = i
      · subst e; rw [upd_s]
      · rw [upd_n _ _ e]; exact hA j (by omega))
    rw [F_X6_stepsNow_L7]
    simp (disch := omega) only [↓qM, zq0, zq1, zq2, zq3, zq4, zq5, zq6, zq7, zq8, zq9, zq10, zq11, zq12, zq13, zq14, zq20, zq33, zq48, zq49, zq50, zq57, zq60, zq61, zq78, zq97, zq102, zq126, zq486, zq600, zq2916, zq4200, le_I, lt_I, eq_I, ne_M, lt_M, cl_I, vin_T, gd_tt, nz_T, nI_add, sub_I, m1_M, pk_mul, div_I, Option.bind_some, Option.map_some, if_pos, if_neg, if_true, if_false, Nat.reduceAdd, Nat.reduceMul, Nat.reduceSub, Nat.zero_add, Nat.add_zero, Ret_s, hz.n, hz.g]
    exact k
theorem rsteps_I {n x : Nat} {g : Nat → Nat} {z lf oth wkd : Nat → Int32} (hz : ZI z n g) (hn : n ≤ 11) (hg : RG n g) (hx : x < ways (cF g n 0)) : Ret (F_X6_stepsNow lf oth wkd z (nI x)) (fun r => r.1 = nI (stN (gl g n x) n n g 0)) := by
  obtain ⟨r, e2, h2⟩ := layRank_I (a := oth) (o := lf) hz hn hg hx
  obtain ⟨g1, g2⟩ := gl_sp hg hx
  have k := stR0_I (lf := r.1) (y := nI x) hz hn hg g1 h2 (fun s hs => (g2 s hs).symm) n 0 FU wkd (by omega) (FU_lt (by omega)) (fun i hi => absurd hi (by omega))
  unfold F_X6_stepsNow
  simp (disch := omega) only [↓qM, zq0, zq1, zq2, zq3, zq4, zq5, zq6, zq7, zq8, zq9, zq10, zq11, zq12, zq13, zq14, zq20, zq33, zq48, zq49, zq50, zq57, zq60, zq61, zq78, zq97, zq102, zq126, zq486, zq600, zq2916, zq4200, le_I, lt_I, eq_I, ne_M, lt_M, cl_I, vin_T, gd_tt, nz_T, nI_add, sub_I, m1_M, pk_mul, div_I, Option.bind_some, Option.map_some, if_pos, if_neg, if_true, if_false, Nat.reduceAdd, Nat.reduceMul, Nat.reduceSub, Nat.zero_add, Nat.add_zero, Ret_s, e2]
  exact k
theorem needRank_R {n x : Nat} {g : Nat → Nat} {a o : Nat → Int32} {t : Int32} (hn : n ≤ 11) (hg : RG n g) (h : RA n g a) (hx : x < ways (cF g n 0)) : ∃ r, F_X5_needRank t o (nI n) a (nI x) = some r := by
  obtain ⟨r, e, -⟩ := needRank_I (t := t) (o := o) hn hg h hx
  exact ⟨r, e⟩
theorem steps_I {n x : Nat} {g : Nat → Nat} {a o ra wk : Nat → Int32} {bt rl wl : Int32} (hn : n ≤ 11) (hg : RG n g) (h : RA n g a) (hx : x < ways (cF g n 0)) : Ret (F_X5_stepsTo bt o rl ra (nI n) a wl wk (nI x)) (fun r => r.1 = nI (stN (gl g n x) n n g 0)) := by
  obtain ⟨r0, e0⟩ := needRank_R (t := bt) (o := o) hn hg h hx
  obtain ⟨r, e2, h2, h3⟩ := layOut_I (o := r0.2) (w := wk) (t := r0.1) (wl := wl) hn hg h hx
  obtain ⟨g1, g2⟩ := gl_sp hg hx
  obtain ⟨a1, e3, h4⟩ := become_I (a := ra) (len := rl) hn h
  have k := stC_I (rs := a) (rl := nI n) (y := nI x) (bt := r.1) (o := r.2.1) hn g1 h3 n 0 FU 0 g a1 (by omega) (FU_lt (by omega)) hg h4 (fun s hs => (g2 s hs).symm)
  rw [Nat.zero_add] at k
  unfold F_X5_stepsTo
  rw [e0, Option.bind_some, e2, Option.bind_some, e3, Option.bind_some, h2, zq0]
  exact k
-- the best exchange
def bstep (g : Nat → Nat) (n p q : Nat) (t : Int32 × Int32 × Int32) : Int32 × Int32 × Int32 := if nI (rk (gswap g p q) n n) ≤ t.1 then t else (nI (rk (gswap g p q) n n), nI p, nI q)
def bin2 (g : Nat → Nat) (n p : Nat) : Nat → Nat → (Int32 × Int32 × Int32) → (Int32 × Int32 × Int32)
  | 0, _, t => t
  | d + 1, q, t => bin2 g n p d (q + 1) (bstep g n p q t)
def bout (g : Nat → Nat) (n : Nat) : Nat → Nat → (Int32 × Int32 × Int32) → (Int32 × Int32 × Int32)
  | 0, _, t => t
  | d + 1, p, t => bout g n d (p + 1) (bin2 g n p (n - (p + 1)) (p + 1) t)
def bsel (x : Int32) (t : Int32 × Int32 × Int32) : Int32 := if x = nI 0 then t.1 else (if x = nI 1 then t.2.1 else t.2.2)
theorem bcI_I {n p : Nat} {g : Nat → Nat} {a : Nat → Int32} {y : Int32} {K : Int32 → (Nat → Int32) → Int32 → (Nat → Int32) → Int32 → Int32 → Int32 → Int32 → Option (Int32 × Int32 × (Nat → Int32) × Int32 × (Nat → Int32))} (hn : n ≤ 11) (hg : RG n g) (h : RA n g a) (hp : p < n) : ∀ (d q fu : Nat) (t : Int32 × Int32 × Int32) (bt wl : Int32) (o wk : Nat → Int32), q + d = n → d < fu → ∃ bt' o' wl' wk', F_X5_bestSwap_L45 K (nI n) a y fu bt o wl wk t.1 t.2.1 t.2.2 (nI p) (nI q) = K bt' o' wl' wk' (bin2 g n p d q t).1 (bin2 g n p d q t).2.1 (bin2 g n p d q t).2.2 (nI (p + 1)) := by
  intro d
  induction d with
  | zero =>
    intro q fu t bt wl o wk h1 h2
    obtain ⟨fu, rfl, hf⟩ := fu1 h2
    refine ⟨bt, o, wl, wk, ?_⟩
    rw [F_X5_bestSwap_L45]
    simp (disch := omega) only [↓qM, zq0, zq1, zq2, zq3, zq4, zq5, zq6, zq7, zq8, zq9, zq10, zq11, zq12, zq13, zq14, zq20, zq33, zq48, zq49, zq50, zq57, zq60, zq61, zq78, zq97, zq102, zq126, zq486, zq600, zq2916, zq4200, le_I, lt_I, eq_I, ne_M, lt_M, cl_I, vin_T, gd_tt, nz_T, nI_add, sub_I, m1_M, pk_mul, div_I, Option.bind_some, Option.map_some, if_pos, if_neg, if_true, if_false, Nat.reduceAdd, Nat.reduceMul, Nat.reduceSub, Nat.zero_add, Nat.add_zero, Ret_s, len_T, bin2]
  | succ d ih =>
    intro q fu t bt wl o wk h1 h2
    obtain ⟨fu, rfl, hf⟩ := fu1 h2
    obtain ⟨r, e1, h3⟩ := ifEx_I (o := o) (w := wk) (t := bt) (wl := wl) hn hp (show q < n by omega) hg h (gswap_RG hg hp (by omega))
    obtain ⟨bt', o', wl', wk', e2⟩ := ih (q + 1) fu (bstep g n p q t) r.2.1 r.2.2.2.1 r.2.2.1 r.2.2.2.2 (by omega) (by omega)
    refine ⟨bt', o', wl', wk', ?_⟩
    rw [bin2, ← e2, F_X5_bestSwap_L45]
    simp (disch := omega) only [↓qM, zq0, zq1, zq2, zq3, zq4, zq5, zq6, zq7, zq8, zq9, zq10, zq11, zq12, zq13, zq14, zq20, zq33, zq48, zq49, zq50, zq57, zq60, zq61, zq78, zq97, zq102, zq126, zq486, zq600, zq2916, zq4200, le_I, lt_I, eq_I, ne_M, lt_M, cl_I, vin_T, gd_tt, nz_T, nI_add, sub_I, m1_M, pk_mul, div_I, Option.bind_some, Option.map_some, if_pos, if_neg, if_true, if_false, Nat.reduceAdd, Nat.reduceMul, Nat.reduceSub, Nat.zero_add, Nat.add_zero, Ret_s, len_T, e1, h3]
    unfold bstep
    by_cases e : nI (rk (gswap g p q) n n) ≤ t.1
    · simp only [if_pos e]
    · simp only [if_neg e]
theorem bcO_I {n : Nat} {g : Nat → Nat} {a : Nat → Int32} {y : Int32} (hn : n ≤ 11) (hg : RG n g) (h : RA n g a) : ∀ (d p fu : Nat) (t : Int32 × Int32 × Int32) (bt wl : Int32) (o wk : Nat → Int32), p + d = n → d < fu → Ret (F_X5_bestSwap_L27 (nI n) a y fu bt o wl wk t.1 t.2.1 t.2.2 (nI p)) (fun r => r.1 = bsel y (bout g n d p t)) := by
  intro d
  induction d with
  | zero =>
    intro p fu t bt wl o wk h1 h2
    obtain ⟨fu, rfl, hf⟩ := fu1 h2
    rw [F_X5_bestSwap_L27]
    simp (disch := omega) only [↓qM, zq0, zq1, zq2, zq3, zq4, zq5, zq6, zq7, zq8, zq9, zq10, zq11, zq12, zq13, zq14, zq20, zq33, zq48, zq49, zq50, zq57, zq60, zq61, zq78, zq97, zq102, zq126, zq486, zq600, zq2916, zq4200, le_I, lt_I, eq_I, ne_M, lt_M, cl_I, vin_T, gd_tt, nz_T, nI_add, sub_I, m1_M, pk_mul, div_I, Option.bind_some, Option.map_some, if_pos, if_neg, if_true, if_false, Nat.reduceAdd, Nat.reduceMul, Nat.reduceSub, Nat.zero_add, Nat.add_zero, Ret_s, len_T, bout, bsel]
  | succ d ih =>
    intro p fu t bt wl o wk h1 h2
    obtain ⟨fu, rfl, hf⟩ := fu1 h2
    obtain ⟨bt', o', wl', wk', e2⟩ := bcI_I (y := y) (K := F_X5_bestSwap_L27 (nI n) a y fu) hn hg h (show p < n by omega) (n - (p + 1)) (p + 1) FU t bt wl o wk (by omega) (FU_lt (by omega))
    have k := ih (p + 1) fu (bin2 g n p (n - (p + 1)) (p + 1) t) bt' wl' o' wk' (by omega) (by omega)
    rw [F_X5_bestSwap_L27, bout]
    simp (disch := omega) only [↓qM, zq0, zq1, zq2, zq3, zq4, zq5, zq6, zq7, zq8, zq9, zq10, zq11, zq12, zq13, zq14, zq20, zq33, zq48, zq49, zq50, zq57, zq60, zq61, zq78, zq97, zq102, zq126, zq486, zq600, zq2916, zq4200, le_I, lt_I, eq_I, ne_M, lt_M, cl_I, vin_T, gd_tt, nz_T, nI_add, sub_I, m1_M, pk_mul, div_I, Option.bind_some, Option.map_some, if_pos, if_neg, if_true, if_false, Nat.reduceAdd, Nat.reduceMul, Nat.reduceSub, Nat.zero_add, Nat.add_zero, Ret_s, len_T, e2]
    exact k
def bst (g : Nat → Nat) (n : Nat) (y : Int32) : Int32 := bsel y (bout g n n 0 (nM, nM, nM))
theorem best_I {n k : Nat} {g : Nat → Nat} {a o wk : Nat → Int32} {bt wl : Int32} (hn : n ≤ 11) (hg : RG n g) (h : RA n g a) (hk : k < 3) : Ret (F_X5_bestSwap bt o (nI n) a wl wk (nI k)) (fun r => r.1 = bst g n (nI k)) := by
  have k2 := bcO_I (y := nI k) hn hg h n 0 FU (nM, nM, nM) bt wl o wk (by omega) (FU_lt (by omega))
  unfold F_X5_bestSwap F_X5_bestSwap_J14
  simp (disch := omega) only [↓qM, zq0, zq1, zq2, zq3, zq4, zq5, zq6, zq7, zq8, zq9, zq10, zq11, zq12, zq13, zq14, zq20, zq33, zq48, zq49, zq50, zq57, zq60, zq61, zq78, zq97, zq102, zq126, zq486, zq600, zq2916, zq4200, le_I, lt_I, eq_I, ne_M, lt_M, cl_I, vin_T, gd_tt, nz_T, nI_add, sub_I, m1_M, pk_mul, div_I, Option.bind_some, Option.map_some, if_pos, if_neg, if_true, if_false, Nat.reduceAdd, Nat.reduceMul, Nat.reduceSub, Nat.zero_add, Nat.add_zero, Ret_s, need1]
  exact k2
theorem brI_I {n p : Nat} {g : Nat → Nat} {z : Nat → Int32} {y : Int32} {K : (Nat → Int32) → (Nat → Int32) → Int32 → Int32 → Int32 → Int32 → Option (Int32 × (Nat → Int32) × (Nat → Int32))} (hz : ZI z n g) (hn : n ≤ 11) (hg : RG n g) (hp : p < n) : ∀ (d q fu : Nat) (t : Int32 × Int32 × Int32) (lf oth : Nat → Int32), q + d = n → d < fu → ∃ lf' oth', F_X6_bestNow_L27 K z y fu lf oth t.1 t.2.1 t.2.2 (nI p) (nI q) = K lf' oth' (bin2 g n p d q t).1 (bin2 g n p d q t).2.1 (bin2 g n p d q t).2.2 (nI (p + 1)) := by
  intro d
  induction d with
  | zero =>
    intro q fu t lf oth h1 h2
    obtain ⟨fu, rfl, hf⟩ := fu1 h2
    refine ⟨lf, oth, ?_⟩
    rw [F_X6_bestNow_L27]
    simp (disch := omega) only [↓qM, zq0, zq1, zq2, zq3, zq4, zq5, zq6, zq7, zq8, zq9, zq10, zq11, zq12, zq13, zq14, zq20, zq33, zq48, zq49, zq50, zq57, zq60, zq61, zq78, zq97, zq102, zq126, zq486, zq600, zq2916, zq4200, le_I, lt_I, eq_I, ne_M, lt_M, cl_I, vin_T, gd_tt, nz_T, nI_add, sub_I, m1_M, pk_mul, div_I, Option.bind_some, Option.map_some, if_pos, if_neg, if_true, if_false, Nat.reduceAdd, Nat.reduceMul, Nat.reduceSub, Nat.zero_add, Nat.add_zero, Ret_s, hz.n, bin2]
  | succ d ih =>
    intro q fu t lf oth h1 h2
    obtain ⟨fu, rfl, hf⟩ := fu1 h2
    obtain ⟨r, e1, h3⟩ := rswapped_I (lf := lf) (a := oth) hn hg hz hp (show q < n by omega)
    obtain ⟨lf', oth', e2⟩ := ih (q + 1) fu (bstep g n p q t) r.2.1 r.2.2 (by omega) (by omega)
    refine ⟨lf', oth', ?_⟩
    rw [bin2, ← e2, F_X6_bestNow_L27]
    unfold F_X6_bestNow_J59 F_X6_bestNow_J72 F_X6_bestNow_J84
    simp (disch := omega) only [↓qM, zq0, zq1, zq2, zq3, zq4, zq5, zq6, zq7, zq8, zq9, zq10, zq11, zq12, zq13, zq14, zq20, zq33, zq48, zq49, zq50, zq57, zq60, zq61, zq78, zq97, zq102, zq126, zq486, zq600, zq2916, zq4200, le_I, lt_I, eq_I, ne_M, lt_M, cl_I, vin_T, gd_tt, nz_T, nI_add, sub_I, m1_M, pk_mul, div_I, Option.bind_some, Option.map_some, if_pos, if_neg, if_true, if_false, Nat.reduceAdd, Nat.reduceMul, Nat.reduceSub, Nat.zero_add, Nat.add_zero, Ret_s, hz.n, e1, h3]
    unfold bstep
    have e10 : (nI 1 = nI 0) = False := eq_false (by decide)
    by_cases e : nI (rk (gswap g p q) n n) ≤ t.1
    · simp only [if_pos e, if_true]
    · simp only [if_neg e, e10, if_false]
theorem brO_I {n : Nat} {g : Nat → Nat} {z : Nat → Int32} {y : Int32} (hz : ZI z n g) (hn : n ≤ 11) (hg : RG n g) : ∀ (d p fu : Nat) (t : Int32 × Int32 × Int32) (lf oth : Nat → Int32), p + d = n → d < fu → Ret (F_X6_bestNow_L10 z y fu lf oth t.1 t.2.1 t.2.2 (nI p)) (fun r => r.1 = bsel y (bout g n d p t)) := by
  intro d
  induction d with
  | zero =>
    intro p fu t lf oth h1 h2
    obtain ⟨fu, rfl, hf⟩ := fu1 h2
    rw [F_X6_bestNow_L10]
    simp (disch := omega) only [↓qM, zq0, zq1, zq2, zq3, zq4, zq5, zq6, zq7, zq8, zq9, zq10, zq11, zq12, zq13, zq14, zq20, zq33, zq48, zq49, zq50, zq57, zq60, zq61, zq78, zq97, zq102, zq126, zq486, zq600, zq2916, zq4200, le_I, lt_I, eq_I, ne_M, lt_M, cl_I, vin_T, gd_tt, nz_T, nI_add, sub_I, m1_M, pk_mul, div_I, Option.bind_some, Option.map_some, if_pos, if_neg, if_true, if_false, Nat.reduceAdd, Nat.reduceMul, Nat.reduceSub, Nat.zero_add, Nat.add_zero, Ret_s, hz.n, bout, bsel]
  | succ d ih =>
    intro p fu t lf oth h1 h2
    obtain ⟨fu, rfl, hf⟩ := fu1 h2
    obtain ⟨lf', oth', e2⟩ := brI_I (y := y) (K := F_X6_bestNow_L10 z y fu) hz hn hg (show p < n by omega) (n - (p + 1)) (p + 1) FU t lf oth (by omega) (FU_lt (by omega))
    have k := ih (p + 1) fu (bin2 g n p (n - (p + 1)) (p + 1) t) lf' oth' (by omega) (by omega)
    rw [F_X6_bestNow_L10, bout]
    simp (disch := omega) only [↓qM, zq0, zq1, zq2, zq3, zq4, zq5, zq6, zq7, zq8, zq9, zq10, zq11, zq12, zq13, zq14, zq20, zq33, zq48, zq49, zq50, zq57, zq60, zq61, zq78, zq97, zq102, zq126, zq486, zq600, zq2916, zq4200, le_I, lt_I, eq_I, ne_M, lt_M, cl_I, vin_T, gd_tt, nz_T, nI_add, sub_I, m1_M, pk_mul, div_I, Option.bind_some, Option.map_some, if_pos, if_neg, if_true, if_false, Nat.reduceAdd, Nat.reduceMul, Nat.reduceSub, Nat.zero_add, Nat.add_zero, Ret_s, hz.n, e2]
    exact k
theorem rbest_I {n : Nat} {g : Nat → Nat} {z lf oth : Nat → Int32} {y : Int32} (hz : ZI z n g) (hn : n ≤ 11) (hg : RG n g) : Ret (F_X6_bestNow lf oth z y) (fun r => r.1 = bst g n y) := by
  have k2 := brO_I (y := y) hz hn hg n 0 FU (nM, nM, nM) lf oth (by omega) (FU_lt (by omega))
  unfold F_X6_bestNow
  simp (disch := omega) only [↓qM, zq0, zq1, zq2, zq3, zq4, zq5, zq6, zq7, zq8, zq9, zq10, zq11, zq12, zq13, zq14, zq20, zq33, zq48, zq49, zq50, zq57, zq60, zq61, zq78, zq97, zq102, zq126, zq486, zq600, zq2916, zq4200, le_I, lt_I, eq_I, ne_M, lt_M, cl_I, vin_T, gd_tt, nz_T, nI_add, sub_I, m1_M, pk_mul, div_I, Option.bind_some, Option.map_some, if_pos, if_neg, if_true, if_false, Nat.reduceAdd, Nat.reduceMul, Nat.reduceSub, Nat.zero_add, Nat.add_zero, Ret_s]
  exact k2
