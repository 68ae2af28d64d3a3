/-! pure words: ranks -/
/-- the counts of the signs from p on -/
abbrev cF (g : Nat → Nat) (n p : Nat) : Nat → Nat := cnt g p (n - p)
theorem ext6 {c d : Nat → Nat} (h : ∀ s, s < 6 → c s = d s) : sum6 c = sum6 d ∧ ways c = ways d := by
  have e : sum6 c = sum6 d := by unfold sum6; rw [h 0 (by omega), h 1 (by omega), h 2 (by omega), h 3 (by omega), h 4 (by omega), h 5 (by omega)]
  refine ⟨e, ?_⟩
  unfold ways
  rw [e]
  show divs c 0 6 _ = divs d 0 6 _
  simp only [divs, h 0 (by omega), h 1 (by omega), h 2 (by omega), h 3 (by omega), h 4 (by omega), h 5 (by omega), Nat.zero_add]
theorem wB_ext {c d : Nat → Nat} (h : ∀ s, s < 6 → c s = d s) {s : Nat} (hs : s < 6) : wB c s = wB d s := by
  unfold wB
  rw [h s hs]
  by_cases e : d s = 0
  · rw [if_pos e, if_pos e]
  · rw [if_neg e, if_neg e]
    refine (ext6 fun t ht => ?_).2
    unfold dec
    by_cases e2 : t = s
    · subst e2; rw [gset_s, gset_s, h t ht]
    · rw [gset_n _ _ e2, gset_n _ _ e2, h t ht]
theorem sumL_ext {f h : Nat → Nat} : ∀ (d i : Nat), (∀ j, i ≤ j → j < i + d → f j = h j) → sumL f i d = sumL h i d := by
  intro d
  induction d with
  | zero => intro i _; rfl
  | succ d ih => intro i hh; rw [sumL, sumL, hh i (Nat.le_refl _) (by omega), ih (i + 1) (fun j h1 h2 => hh j (by omega) (by omega))]
/-- the rank's part of one place: the arrangements that begin as this one, with a less sign here -/
def rkp (g : Nat → Nat) (n p : Nat) : Nat := sumL (wB (cF g n p)) 0 (g p)
/-- the lowest rank of the block of the first k signs -/
def rk (g : Nat → Nat) (n k : Nat) : Nat := sumL (rkp g n) 0 k
theorem wB_here {n p : Nat} {g : Nat → Nat} (hg : RG n g) (hp : p < n) : wB (cF g n p) (g p) = ways (cF g n (p + 1)) := by
  have hd : n - p = (n - (p + 1)) + 1 := by omega
  unfold wB cF
  rw [hd, if_neg (by have := cnt_pos (g := g) (p := p) (d := n - (p + 1)); omega)]
  exact (ext6 fun s _ => (cnt_dec s).symm).2
theorem rk_lt {n : Nat} {g : Nat → Nat} (hg : RG n g) : ∀ (d p : Nat), p + d = n → sumL (rkp g n) p d + 1 ≤ ways (cF g n p) := by
  intro d
  induction d with
  | zero => intro p hp; have := ways_pos (cF g n p); simp only [sumL]; omega
  | succ d ih =>
    intro p hp
    have h1 := ih (p + 1) (by omega)
    have h2 : sum6 (cF g n p) = n - p := sum6_cnt hg (n - p) p (by omega)
    have h3 := wB_lt (c := cF g n p) (by omega) (hg p (by omega))
    rw [wB_here hg (by omega)] at h3
    rw [sumL, rkp]
    omega
theorem rk_all {n : Nat} {g : Nat → Nat} (hg : RG n g) : rk g n n < ways (cF g n 0) := by
  have := rk_lt hg n 0 (by omega)
  unfold rk
  omega
theorem rk_le {n : Nat} {g : Nat → Nat} (hg : RG n g) {k : Nat} (hk : k ≤ n) : rk g n k + ways (cF g n k) ≤ ways (cF g n 0) := by
  induction k with
  | zero => unfold rk; simp only [sumL]; omega
  | succ k ih =>
    have h1 := ih (by omega)
    have h2 : sum6 (cF g n k) = n - k := sum6_cnt hg (n - k) k (by omega)
    have h3 := wB_lt (c := cF g n k) (by omega) (hg k (by omega))
    rw [wB_here hg (by omega)] at h3
    unfold rk at h1 ⊢
    rw [sumL_last, Nat.zero_add, rkp]
    omega
theorem lowL_I {n k : Nat} {g : Nat → Nat} {a : Nat → Int32} (hn : n ≤ 11) (hg : RG n g) (h : RA n g a) (hk : k ≤ n) : ∀ (d p fu : Nat) (o : Nat → Int32), p + d = k → d < fu → BA (cF g n p) o → ∃ o', F_X5_lowestRank_L23 (nI n) a (nI k) fu (nI (n - p)) o (nI (ways (cF g n p))) (nI (rk g n p)) (nI p) = some (nI (rk g n k), nI (n - k), o') ∧ BA (cF g n k) o' := by
  intro d
  induction d with
  | zero =>
    intro p fu o h1 h2 hb
    obtain ⟨fu, rfl, hf⟩ := fu1 h2
    obtain rfl : p = k := by omega
    exact ⟨o, by rw [F_X5_lowestRank_L23, if_pos (by rw [le_I (by omega) (by omega)]; omega)], hb⟩
  | succ d ih =>
    intro p fu o h1 h2 hb
    obtain ⟨fu, rfl, hf⟩ := fu1 h2
    have hgp := hg p (by omega)
    have hs : sum6 (cF g n p) = n - p := sum6_cnt hg (n - p) p (by omega)
    have hw := ways_le (cF g n p)
    have hfb := (fact_11 (n := n - p) (by omega)).1
    rw [hs] at hw
    have hcp : 0 < cF g n p (g p) := by unfold cF; rw [show n - p = (n - (p + 1)) + 1 by omega]; exact cnt_pos
    have hcl : cF g n p (g p) ≤ n - p := by rw [← hs]; exact le_sum6 hgp
    have hbl : sumL (cF g n p) 0 (g p) ≤ n - p := by
      rw [← hs, ← sumL6, show 6 = g p + (6 - g p) by omega, sumL_add]; omega
    have m1 : ways (cF g n p) * sumL (cF g n p) 0 (g p) ≤ 39916800 * 11 := Nat.mul_le_mul (by omega) (by omega)
    have m2 : ways (cF g n p) * cF g n p (g p) ≤ 39916800 * 11 := Nat.mul_le_mul (by omega) (by omega)
    have e1 : ways (cF g n p) * sumL (cF g n p) 0 (g p) / (n - p) = rkp g n p := by
      rw [← wB_sum (g p) 0 (by omega), hs, Nat.mul_div_cancel_left _ (by omega)]; rfl
    have e2 : ways (cF g n p) * cF g n p (g p) / (n - p) = ways (cF g n (p + 1)) := by
      rw [← wB_eq hgp, hs, Nat.mul_div_cancel_left _ (by omega), wB_here hg (by omega)]
    obtain ⟨o1, h3, h4⟩ := drop_I (t := n - p) hb hgp hcp (by omega) (by omega)
    have h4' : BA (cF g n (p + 1)) o1 := h4.ext (fun s _ => by
      unfold cF; rw [cnt_dec, show n - (p + 1) + 1 = n - p by omega])
    obtain ⟨o2, h5, h6⟩ := ih (p + 1) fu o1 (by omega) (by omega) h4'
    refine ⟨o2, ?_, h6⟩
    rw [F_X5_lowestRank_L23, if_neg (by rw [le_I (by omega) (by omega)]; omega), at_I (by omega) hn, Option.bind_some, h p (by omega), below_I hb (by omega), Option.bind_some]
    show (F_X5_part _ _ (nI (n - p))).bind _ = _
    rw [part_I (by omega) (by omega) (by omega), Option.bind_some, of_I hb hgp, Option.bind_some]
    show (F_X5_part _ _ (nI (n - p))).bind _ = _
    rw [part_I (by omega) (by omega) (by omega), Option.bind_some, h3, Option.bind_some, nI_add, nI_1, e1, e2, show n - p - 1 = n - (p + 1) by omega]
    rw [show rk g n (p + 1) = rk g n p + rkp g n p by unfold rk; rw [sumL_last, Nat.zero_add]] at h5
    exact h5
theorem low_I {n k : Nat} {g : Nat → Nat} {a o : Nat → Int32} {t : Int32} (hn : n ≤ 11) (hg : RG n g) (h : RA n g a) (hk : k ≤ n) : ∃ o', F_X5_lowestRank t o (nI n) a (nI k) = some (nI (rk g n k), nI (n - k), o') ∧ BA (cF g n k) o' := by
  obtain ⟨o1, h1, h2⟩ := fill_I (o := o) (t := t) (k := 0) hn hg h (by omega)
  obtain ⟨o2, h3, h4⟩ := lowL_I hn hg h hk k 0 FU o1 (by omega) (FU_lt (by omega)) h2
  have hs : sum6 (cF g n 0) = n - 0 := sum6_cnt hg (n - 0) 0 (by omega)
  have h5 := ways_I h2 (by rw [hs]; omega)
  rw [hs] at h5
  refine ⟨o2, ?_, h4⟩
  unfold F_X5_lowestRank
  rw [show (0 : Int32) = nI 0 from rfl, h1, Option.bind_some]
  show (F_X0_ways (nI (n - 0)) o1).bind _ = _
  rw [h5, Option.bind_some]
  exact h3
theorem rankOf_I {n : Nat} {g : Nat → Nat} {a o : Nat → Int32} {t : Int32} (hn : n ≤ 11) (hg : RG n g) (h : RA n g a) : ∃ o', F_X5_rankOf t o (nI n) a = some (nI (rk g n n), nI 0, o') := by
  obtain ⟨o1, h1, -⟩ := low_I (o := o) (t := t) (k := n) hn hg h (Nat.le_refl n)
  rw [Nat.sub_self] at h1
  refine ⟨o1, ?_⟩
  unfold F_X5_rankOf
  show (F_X5_lowestRank t o (nI n) a (nI n)).bind _ = _
  rw [h1]
  rfl
theorem blockSize_I {n k : Nat} {g : Nat → Nat} {a o : Nat → Int32} {t : Int32} (hn : n ≤ 11) (hg : RG n g) (h : RA n g a) (hk : k ≤ n) : ∃ o', F_X5_blockSize t o (nI n) a (nI k) = some (nI (ways (cF g n k)), nI (n - k), o') ∧ BA (cF g n k) o' := by
  obtain ⟨o1, h1, h2⟩ := fill_I (o := o) (t := t) (k := k) hn hg h hk
  have hs : sum6 (cF g n k) = n - k := sum6_cnt hg (n - k) k (by omega)
  have h5 := ways_I h2 (by rw [hs]; omega)
  rw [hs] at h5
  refine ⟨o1, ?_, h2⟩
  unfold F_X5_blockSize
  rw [h1, Option.bind_some]
  show (F_X0_ways (nI (n - k)) o1).bind _ = _
  rw [h5]
  rfl
theorem all_I {n : Nat} {g : Nat → Nat} {a o : Nat → Int32} {t : Int32} (hn : n ≤ 11) (hg : RG n g) (h : RA n g a) : ∃ o', F_X5_all t o (nI n) a = some (nI (ways (cF g n 0)), nI n, o') ∧ BA (cF g n 0) o' := by
  obtain ⟨o1, h1, h2⟩ := blockSize_I (o := o) (t := t) (k := 0) hn hg h (by omega)
  refine ⟨o1, ?_, h2⟩
  unfold F_X5_all
  rw [show (0 : Int32) = nI 0 from rfl, h1]
  rfl
