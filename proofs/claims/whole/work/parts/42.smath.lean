/-! smooth rows: codes of what is left, numbers of smooth rows -/
def wt (c : Nat → Nat) : Nat → Nat
  | 0 => 1
  | k + 1 => wt c k * (c k + 1)
def cdS (c d : Nat → Nat) : Nat → Nat
  | 0 => 0
  | k + 1 => cdS c d k + d k * wt c k
/-- the code of what is left -/
def cd (c d : Nat → Nat) : Nat := cdS c d 6
def Le6 (d c : Nat → Nat) : Prop := ∀ s, s < 6 → d s ≤ c s
theorem wt_pos (c : Nat → Nat) : ∀ k, 0 < wt c k := by
  intro k
  induction k with
  | zero => exact Nat.one_pos
  | succ k ih => exact Nat.mul_pos ih (Nat.succ_pos _)
theorem wt_ext {c e : Nat → Nat} : ∀ k, (∀ s, s < k → c s = e s) → wt c k = wt e k := by
  intro k
  induction k with
  | zero => intro _; rfl
  | succ k ih => intro h; rw [wt, wt, ih (fun s hs => h s (by omega)), h k (by omega)]
theorem cdS_ext {c e d f : Nat → Nat} : ∀ k, (∀ s, s < k → c s = e s) → (∀ s, s < k → d s = f s) → cdS c d k = cdS e f k := by
  intro k
  induction k with
  | zero => intro _ _; rfl
  | succ k ih => intro h h2; rw [cdS, cdS, ih (fun s hs => h s (by omega)) (fun s hs => h2 s (by omega)), h2 k (by omega), wt_ext k (fun s hs => h s (by omega))]
theorem cdS_lt {c d : Nat → Nat} : ∀ k, (∀ s, s < k → d s ≤ c s) → cdS c d k < wt c k := by
  intro k
  induction k with
  | zero => intro _; exact Nat.one_pos
  | succ k ih =>
    intro h
    have h1 := ih (fun s hs => h s (by omega))
    have h2 := h k (by omega)
    have h3 : d k * wt c k ≤ c k * wt c k := Nat.mul_le_mul_right _ h2
    rw [cdS, wt, Nat.mul_add, Nat.mul_one, Nat.mul_comm (wt c k)]
    omega
theorem cd_lt {c d : Nat → Nat} (h : Le6 d c) : cd c d < wt c 6 := cdS_lt 6 h
theorem cdS_inj {c d e : Nat → Nat} : ∀ k, (∀ s, s < k → d s ≤ c s) → (∀ s, s < k → e s ≤ c s) → cdS c d k = cdS c e k → ∀ s, s < k → d s = e s := by
  intro k
  induction k with
  | zero => intro _ _ _ s hs; omega
  | succ k ih =>
    intro hd he h s hs
    have h1 := cdS_lt (c := c) (d := d) k (fun s hs => hd s (by omega))
    have h2 := cdS_lt (c := c) (d := e) k (fun s hs => he s (by omega))
    have hw := wt_pos c k
    rw [cdS, cdS] at h
    have h3 : d k = e k := by
      have e1 : (cdS c d k + d k * wt c k) / wt c k = d k := by rw [Nat.add_mul_div_right _ _ hw, Nat.div_eq_of_lt h1, Nat.zero_add]
      have e2 : (cdS c e k + e k * wt c k) / wt c k = e k := by rw [Nat.add_mul_div_right _ _ hw, Nat.div_eq_of_lt h2, Nat.zero_add]
      rw [← e1, ← e2, h]
    rw [h3] at h
    by_cases e : s = k
    · rw [e]; exact h3
    · exact ih (fun s hs => hd s (by omega)) (fun s hs => he s (by omega)) (by omega) s (by omega)
theorem cd_inj {c d e : Nat → Nat} (hd : Le6 d c) (he : Le6 e c) (h : cd c d = cd c e) : ∀ s, s < 6 → d s = e s := cdS_inj 6 hd he h
theorem cdS_sur {c : Nat → Nat} : ∀ m k, k < wt c m → ∃ d : Nat → Nat, (∀ s, s < m → d s ≤ c s) ∧ cdS c d m = k := by
  intro m
  induction m with
  | zero => intro k hk; exact ⟨fun _ => 0, fun s hs => by omega, by rw [wt] at hk; rw [cdS]; omega⟩
  | succ m ih =>
    intro k hk
    have hw := wt_pos c m
    obtain ⟨d, h1, h2⟩ := ih (k % wt c m) (Nat.mod_lt _ hw)
    refine ⟨gset d m (k / wt c m), fun s hs => ?_, ?_⟩
    · by_cases e : s = m
      · rw [e, gset_s]
        rw [wt] at hk
        have := Nat.div_lt_of_lt_mul hk
        omega
      · rw [gset_n _ _ e]; exact h1 s (by omega)
    · rw [cdS, gset_s, cdS_ext (e := c) (f := d) m (fun _ _ => rfl) (fun s hs => gset_n _ _ (by omega)), h2, Nat.mul_comm]
      exact Nat.mod_add_div _ _
theorem cd_sur {c : Nat → Nat} {k : Nat} (h : k < wt c 6) : ∃ d, Le6 d c ∧ cd c d = k := cdS_sur 6 k h
theorem cdS_up {c d : Nat → Nat} {s : Nat} : ∀ m, ∃ H, cdS c d (s + 1 + m) = cdS c d s + wt c s * (d s + (c s + 1) * H) ∧ ∃ G, wt c (s + 1 + m) = wt c s * (c s + 1) * G := by
  intro m
  induction m with
  | zero => exact ⟨0, by show cdS c d s + d s * wt c s = _; rw [Nat.mul_zero, Nat.add_zero, Nat.mul_comm], 1, by rw [Nat.mul_one]; rfl⟩
  | succ m ih =>
    obtain ⟨H, h1, G, h2⟩ := ih
    refine ⟨H + d (s + 1 + m) * G, ?_, G * (c (s + 1 + m) + 1), ?_⟩
    · show cdS c d (s + 1 + m) + d (s + 1 + m) * wt c (s + 1 + m) = _
      rw [h1, h2, Nat.mul_add (c s + 1), ← Nat.add_assoc (d s), Nat.mul_add (wt c s) (d s + (c s + 1) * H), ← Nat.add_assoc]
      congr 1
      simp only [Nat.mul_assoc, Nat.mul_comm, Nat.mul_left_comm]
    · show wt c (s + 1 + m) * (c (s + 1 + m) + 1) = _
      rw [h2, Nat.mul_assoc]
theorem cd_dig {c d : Nat → Nat} {s : Nat} (h : Le6 d c) (hs : s < 6) : cd c d / wt c s % (c s + 1) = d s := by
  obtain ⟨H, h1, -⟩ := cdS_up (c := c) (d := d) (s := s) (5 - s)
  have h2 := cdS_lt (c := c) (d := d) s (fun t ht => h t (by omega))
  have h3 := h s hs
  unfold cd
  rw [show 6 = s + 1 + (5 - s) by omega, h1, Nat.add_mul_div_left _ _ (wt_pos c s), Nat.div_eq_of_lt h2, Nat.zero_add, Nat.add_mul_mod_self_left, Nat.mod_eq_of_lt (by omega)]
theorem cdS_dec {c d : Nat → Nat} {s : Nat} (hs : 0 < d s) : ∀ k, cdS c (dec d s) k + (if s < k then wt c s else 0) = cdS c d k := by
  intro k
  induction k with
  | zero => rw [if_neg (by omega)]; rfl
  | succ k ih =>
    rw [cdS, cdS]
    by_cases e : k = s
    · subst e
      rw [if_neg (by omega)] at ih
      rw [if_pos (by omega)]
      have h1 : dec d k k = d k - 1 := gset_s _ _ _
      have h2 : d k * wt c k = (d k - 1) * wt c k + wt c k := by
        obtain ⟨j, hj⟩ : ∃ j, d k = j + 1 := ⟨d k - 1, by omega⟩
        rw [hj, Nat.add_sub_cancel, Nat.succ_mul]
      rw [h1, h2]
      omega
    · have h1 : dec d s k = d k := gset_n _ _ e
      rw [h1]
      by_cases e2 : s < k
      · rw [if_pos e2] at ih; rw [if_pos (by omega)]; omega
      · rw [if_neg e2] at ih; rw [if_neg (by omega)]; omega
theorem cd_dec {c d : Nat → Nat} {s : Nat} (h6 : s < 6) (hs : 0 < d s) : cd c (dec d s) + wt c s = cd c d := by
  have := cdS_dec (c := c) (d := d) hs 6
  rw [if_pos h6] at this
  exact this
theorem Le6_dec {c d : Nat → Nat} {s : Nat} (h : Le6 d c) : Le6 (dec d s) c := by
  intro t ht
  unfold dec
  by_cases e : t = s
  · subst e; rw [gset_s]; have := h t ht; omega
  · rw [gset_n _ _ e]; exact h t ht
/-- the most that the codes may be -/
def MP (j t : Nat) : Nat := (t / j + 2) ^ (t % j) * (t / j + 1) ^ (j - t % j)
def mpb (j t x : Nat) : Bool := decide (j = 0 ∧ t ≠ 0) || decide (12 ≤ t + x) || decide (MP j t * (x + 1) ≤ MP (j + 1) (t + x))
theorem MP_step0 : ∀ j, j < 6 → ∀ t, t < 12 → ∀ x, x < 12 → mpb j t x = true := by decide +kernel
theorem MP_step (j : Nat) (hj : j < 6) (t : Nat) (ht : t < 12) (x : Nat) (hx : x < 12) (h0 : j = 0 → t = 0) (hs : t + x < 12) : MP j t * (x + 1) ≤ MP (j + 1) (t + x) := by
  have h := MP_step0 j hj t ht x hx
  unfold mpb at h
  rcases Bool.or_eq_true_iff.mp h with h | h
  · rcases Bool.or_eq_true_iff.mp h with h | h
    · have h1 := of_decide_eq_true h
      exact absurd (h0 h1.1) h1.2
    · have h1 := of_decide_eq_true h
      omega
  · exact of_decide_eq_true h
theorem MP_6 : ∀ t, t < 12 → MP 6 t ≤ 486 := by decide +kernel
theorem wt_MP {c : Nat → Nat} (h : sum6 c ≤ 11) : ∀ k, k ≤ 6 → wt c k ≤ MP k (sumL c 0 k) := by
  intro k
  induction k with
  | zero => intro _; exact Nat.le_refl 1
  | succ k ih =>
    intro hk
    have h1 := ih (by omega)
    have h2 : sumL c 0 (k + 1) ≤ 11 := by
      rw [← sumL6 c, show 6 = (k + 1) + (5 - k) by omega, sumL_add] at h
      omega
    rw [sumL_last, Nat.zero_add] at h2 ⊢
    have h3 := MP_step k (by omega) (sumL c 0 k) (by omega) (c k) (by omega) (fun e => by rw [e]; rfl) (by omega)
    exact Nat.le_trans (Nat.mul_le_mul_right _ h1) h3
theorem wt_486 {c : Nat → Nat} (h : sum6 c ≤ 11) : wt c 6 ≤ 486 := by
  have h1 := wt_MP h 6 (by omega)
  rw [sumL6] at h1
  exact Nat.le_trans h1 (MP_6 _ (by omega))
theorem wt_mono {c : Nat → Nat} : ∀ d k, wt c k ≤ wt c (k + d) := by
  intro d
  induction d with
  | zero => intro k; exact Nat.le_refl _
  | succ d ih =>
    intro k
    refine Nat.le_trans (ih k) ?_
    show wt c (k + d) ≤ wt c (k + d) * (c (k + d) + 1)
    exact Nat.le_mul_of_pos_right _ (Nat.succ_pos _)
theorem wt_le {c : Nat → Nat} (h : sum6 c ≤ 11) {s : Nat} (hs : s ≤ 6) : wt c s ≤ 486 := by
  have := wt_mono (c := c) (6 - s) s
  rw [show s + (6 - s) = 6 by omega] at this
  exact Nat.le_trans this (wt_486 h)
-- the numbers
/-- of the sign s, behind a sign a (6: none), by the numbers f behind it -/
def smF (f : (Nat → Nat) → Nat → Nat) (d : Nat → Nat) (a s : Nat) : Nat := if d s = 0 ∨ s = a then 0 else f (dec d s) s
def sm : Nat → (Nat → Nat) → Nat → Nat
  | 0, _, _ => 1
  | m + 1, d, a => sumL (smF (sm m) d a) 0 6
def SM (d : Nat → Nat) (a : Nat) : Nat := sm (sum6 d) d a
/-- the smooth rows that begin with s, behind a -/
def stp (d : Nat → Nat) (a s : Nat) : Nat := if d s = 0 ∨ s = a then 0 else SM (dec d s) s
def ST (d : Nat → Nat) (s : Nat) : Nat := if d s = 0 then 0 else SM (dec d s) s
theorem dec_ext {d e : Nat → Nat} {s : Nat} (h : ∀ t, t < 6 → d t = e t) (hs : s < 6) : ∀ t, t < 6 → dec d s t = dec e s t := by
  intro t ht
  unfold dec
  by_cases e : t = s
  · subst e; rw [gset_s, gset_s, h t ht]
  · rw [gset_n _ _ e, gset_n _ _ e, h t ht]
theorem sm_ext : ∀ m (d e : Nat → Nat) (a : Nat), (∀ t, t < 6 → d t = e t) → sm m d a = sm m e a := by
  intro m
  induction m with
  | zero => intro d e a _; rfl
  | succ m ih =>
    intro d e a h
    rw [sm, sm]
    refine sumL_ext 6 0 (fun s _ hs => ?_)
    unfold smF
    rw [h s (by omega), ih _ _ s (dec_ext h (by omega))]
theorem SM_ext {d e : Nat → Nat} {a : Nat} (h : ∀ t, t < 6 → d t = e t) : SM d a = SM e a := by
  unfold SM
  rw [(ext6 h).1, sm_ext _ _ _ _ h]
theorem stp_ext {d e : Nat → Nat} {a s : Nat} (h : ∀ t, t < 6 → d t = e t) (hs : s < 6) : stp d a s = stp e a s := by
  unfold stp
  rw [h s hs, SM_ext (dec_ext h hs)]
theorem ST_ext {d e : Nat → Nat} {s : Nat} (h : ∀ t, t < 6 → d t = e t) (hs : s < 6) : ST d s = ST e s := by
  unfold ST
  rw [h s hs, SM_ext (dec_ext h hs)]
theorem SM_rec {d : Nat → Nat} {a : Nat} (h : 0 < sum6 d) : SM d a = sumL (stp d a) 0 6 := by
  unfold SM
  obtain ⟨m, hm⟩ : ∃ m, sum6 d = m + 1 := ⟨sum6 d - 1, by omega⟩
  rw [hm, sm]
  refine sumL_ext 6 0 (fun s _ hs => ?_)
  unfold smF stp
  by_cases e : d s = 0 ∨ s = a
  · rw [if_pos e, if_pos e]
  · rw [if_neg e, if_neg e]
    unfold SM
    rw [sum6_dec (by omega) (by omega), hm, Nat.add_sub_cancel]
theorem SM_0 {d : Nat → Nat} {a : Nat} (h : sum6 d = 0) : SM d a = 1 := by unfold SM; rw [h]; rfl
theorem sumL_0 {f : Nat → Nat} : ∀ d i, (∀ j, i ≤ j → j < i + d → f j = 0) → sumL f i d = 0 := by
  intro d
  induction d with
  | zero => intro i _; rfl
  | succ d ih => intro i h; rw [sumL, h i (Nat.le_refl _) (by omega), ih (i + 1) (fun j h1 h2 => h j (by omega) (by omega))]
/-- also of nothing -/
theorem SM_eq {d : Nat → Nat} {a : Nat} : SM d a = b2n (sum6 d = 0) + sumL (stp d a) 0 6 := by
  by_cases e : sum6 d = 0
  · rw [SM_0 e, b2n_t e, sumL_0 6 0 (fun s _ hs => by unfold stp; rw [if_pos]; have := le_sum6 (c := d) (s := s) (by omega); omega)]
  · rw [SM_rec (by omega), b2n_f e, Nat.zero_add]
theorem stp_ST {d : Nat → Nat} {a s : Nat} (h : s ≠ a) : stp d a s = ST d s := by
  unfold stp ST
  by_cases e : d s = 0
  · rw [if_pos (Or.inl e), if_pos e]
  · rw [if_neg (by omega), if_neg e]
theorem stp_self {d : Nat → Nat} {a : Nat} : stp d a a = 0 := if_pos (Or.inr rfl)
theorem sum_stp {d : Nat → Nat} {a : Nat} : ∀ k, sumL (stp d a) 0 k + (if a < k then ST d a else 0) = sumL (ST d) 0 k := by
  intro k
  induction k with
  | zero => rw [if_neg (by omega)]; rfl
  | succ k ih =>
    rw [sumL_last, sumL_last, Nat.zero_add]
    by_cases e : k = a
    · subst e
      rw [if_neg (by omega)] at ih
      rw [if_pos (by omega), stp_self]
      omega
    · rw [stp_ST e]
      by_cases e2 : a < k
      · rw [if_pos e2] at ih; rw [if_pos (by omega)]; omega
      · rw [if_neg e2] at ih; rw [if_neg (by omega)]; omega
theorem SM_all {d : Nat → Nat} : SM d 6 = b2n (sum6 d = 0) + sumL (ST d) 0 6 := by
  have := sum_stp (d := d) (a := 6) 6
  rw [if_neg (by omega)] at this
  rw [SM_eq, ← this, Nat.add_zero]
theorem SM_split {d : Nat → Nat} {a : Nat} (h : a < 6) : SM d a + ST d a = SM d 6 := by
  have := sum_stp (d := d) (a := a) 6
  rw [if_pos h] at this
  rw [SM_all, SM_eq]
  omega
theorem sumL_mono {f h : Nat → Nat} : ∀ d i, (∀ j, i ≤ j → j < i + d → f j ≤ h j) → sumL f i d ≤ sumL h i d := by
  intro d
  induction d with
  | zero => intro i _; exact Nat.le_refl _
  | succ d ih => intro i hh; have h1 := hh i (Nat.le_refl _) (by omega); have h2 := ih (i + 1) (fun j h1 h2 => hh j (by omega) (by omega)); simp only [sumL]; omega
theorem sm_ways : ∀ m (d : Nat → Nat) (a : Nat), sum6 d = m → sm m d a ≤ ways d := by
  intro m
  induction m with
  | zero => intro d a _; exact ways_pos d
  | succ m ih =>
    intro d a h
    rw [sm, ← wB_all (c := d) (by omega)]
    refine sumL_mono 6 0 (fun s _ hs => ?_)
    unfold smF wB
    by_cases e : d s = 0
    · rw [if_pos (Or.inl e), if_pos e]; exact Nat.le_refl _
    · rw [if_neg e]
      by_cases e2 : s = a
      · rw [if_pos (Or.inr e2)]; exact Nat.zero_le _
      · rw [if_neg (by omega)]; exact ih _ _ (by rw [sum6_dec (by omega) (by omega)]; omega)
theorem SM_le {d : Nat → Nat} {a : Nat} (h : sum6 d ≤ 11) : SM d a ≤ 39916800 := Nat.le_trans (sm_ways _ d a rfl) (Nat.le_trans (ways_le d) (fact_11 h).1)
theorem ST_le {d : Nat → Nat} {s : Nat} (h : sum6 d ≤ 11) (h6 : s < 6) : ST d s ≤ 39916800 := by
  have h1 := SM_split (d := d) h6
  have h2 := SM_le (a := 6) h
  omega
theorem stp_le {d : Nat → Nat} {a s : Nat} (h : sum6 d ≤ 11) (h6 : s < 6) : stp d a s ≤ 39916800 := by
  by_cases e : s = a
  · subst e; rw [stp_self]; omega
  · rw [stp_ST e]; exact ST_le h h6
theorem sum_stp_le {d : Nat → Nat} {a k : Nat} (h : sum6 d ≤ 11) (hk : k ≤ 6) : sumL (stp d a) 0 k ≤ SM d a := by
  rw [SM_eq, show 6 = k + (6 - k) by omega, sumL_add]
  omega
theorem sum6_le {d c : Nat → Nat} (h : Le6 d c) : sum6 d ≤ sum6 c := by
  unfold sum6
  have := h 0 (by omega); have := h 1 (by omega); have := h 2 (by omega); have := h 3 (by omega); have := h 4 (by omega); have := h 5 (by omega)
  omega
theorem cd_0 {c d : Nat → Nat} : cd c d = 0 ↔ sum6 d = 0 := by
  unfold cd
  constructor
  · intro h
    have : ∀ k, cdS c d k = 0 → ∀ s, s < k → d s = 0 := by
      intro k
      induction k with
      | zero => intro _ s hs; omega
      | succ k ih =>
        intro h s hs
        rw [cdS] at h
        by_cases e : s = k
        · have h1 : d k * wt c k = 0 := by omega
          rcases Nat.mul_eq_zero.mp h1 with h2 | h2
          · rw [e]; exact h2
          · have := wt_pos c k; omega
        · exact ih (by omega) s (by omega)
    have h2 := this 6 h
    unfold sum6
    rw [h2 0 (by omega), h2 1 (by omega), h2 2 (by omega), h2 3 (by omega), h2 4 (by omega), h2 5 (by omega)]
  · intro h
    have h2 : ∀ s, s < 6 → d s = 0 := fun s hs => by have := le_sum6 (c := d) hs; omega
    rw [cdS_ext (e := c) (f := fun _ => 0) 6 (fun _ _ => rfl) h2]
    show 0 + 0 * wt c 0 + 0 * wt c 1 + 0 * wt c 2 + 0 * wt c 3 + 0 * wt c 4 + 0 * wt c 5 = 0
    simp only [Nat.zero_mul]
