/-! pure words: the rest of Row -/
def sumL (f : Nat → Nat) : Nat → Nat → Nat
  | _, 0 => 0
  | i, d + 1 => f i + sumL f (i + 1) d
theorem sumL_le {f : Nat → Nat} {b : Nat} (h : ∀ i, f i ≤ b) : ∀ d i, sumL f i d ≤ d * b := by
  intro d
  induction d with
  | zero => intro i; exact Nat.zero_le _
  | succ d ih => intro i; have := ih (i + 1); have := h i; simp only [sumL, Nat.succ_mul]; omega
theorem becomeL_I {m : Nat} {g : Nat → Nat} {b : Nat → Int32} (hm : m ≤ 11) (hb : RA m g b) : ∀ (d i fu : Nat) (a : Nat → Int32), i + d = m → d < fu → RA i g a → ∃ a', F_X1_become_L7 (nI m) b fu (nI i) a (nI i) = some (nI m, a') ∧ RA m g a' := by
  intro d
  induction d with
  | zero =>
    intro i fu a hi hf h
    obtain ⟨fu, rfl⟩ : ∃ k, fu = k + 1 := ⟨fu - 1, by omega⟩
    obtain rfl : i = m := by omega
    exact ⟨a, by rw [F_X1_become_L7, if_pos (by rw [le_I (by omega) (by omega)]; omega)], h⟩
  | succ d ih =>
    intro i fu a hi hf h
    obtain ⟨fu, rfl⟩ : ∃ k, fu = k + 1 := ⟨fu - 1, by omega⟩
    have h2 : RA (i + 1) g (upd a i (b i)) := by
      intro j hj
      by_cases e : j = i
      · subst e; rw [upd_s]; exact hb j (by omega)
      · rw [upd_n _ _ e]; exact h j (by omega)
    obtain ⟨a', h3, h4⟩ := ih (i + 1) fu (upd a i (b i)) (by omega) (by omega) h2
    refine ⟨a', ?_, h4⟩
    rw [F_X1_become_L7, if_neg (by rw [le_I (by omega) (by omega)]; omega), at_I (by omega) hm, Option.bind_some, add_I (by omega), Option.bind_some, nI_1]
    exact h3
theorem become_I {m : Nat} {g : Nat → Nat} {b a : Nat → Int32} {len : Int32} (hm : m ≤ 11) (hb : RA m g b) : ∃ a', F_X1_become len a (nI m) b = some (nI m, a') ∧ RA m g a' := by
  unfold F_X1_become
  exact becomeL_I hm hb m 0 FU a (by omega) (FU_lt (by omega)) (fun i hi => absurd hi (by omega))
/-- a sign put in ahead of a place -/
def gins (g : Nat → Nat) (n p v : Nat) : Nat → Nat := gbring (gset g n v) p (n - p)
theorem insert_I {n p v : Nat} {g : Nat → Nat} {a : Nat → Int32} (h : RA n g a) (hn : n < 11) (hp : p ≤ n) : ∃ a', F_X1_insert (nI n) a (nI p) (nI v) = some (nI (n + 1), a') ∧ RA (n + 1) (gins g n p v) a' := by
  have h2 : RA (n + 1) (gset g n v) (upd a n (nI v)) := by
    intro j hj
    by_cases e : j = n
    · subst e; rw [upd_s, gset_s]
    · rw [upd_n _ _ e, gset_n _ _ e]; exact h j (by omega)
  obtain ⟨a', h3, h4⟩ := bring_I (to := p) (d := n - p) (by omega) (by omega) h2
  refine ⟨a', ?_, h4⟩
  unfold F_X1_insert
  rw [show p + (n - p) = n by omega] at h3
  rw [add_I hn, Option.bind_some]
  show (F_X1_bringAhead (nI (n + 1)) (upd a n (nI v)) (nI (n + 1) - (1 : Int32)) (nI p)).bind _ = _
  rw [q1, sub_I (by omega), Nat.add_sub_cancel, h3]
  rfl
def gdel (g : Nat → Nat) (p : Nat) : Nat → Nat := fun i => if i < p then g i else g (i + 1)
theorem has_I {n p : Nat} (hp : p < n) (hn : n ≤ 11) : F_X1_has (nI n) (nI p) = some 1 := by
  unfold F_X1_has
  rw [if_neg (nl0_I (by omega)), if_neg (by rw [le_I (by omega) (by omega)]; omega), if_neg (by rw [q11, le_I (by omega) (by omega)]; omega)]
theorem has_out {n p : Nat} (hp : n ≤ p) (hp2 : p < 2147483648) : F_X1_has (nI n) (nI p) = some 0 := by
  unfold F_X1_has
  rw [if_neg (nl0_I (by omega)), if_pos (by rw [le_I (by omega) (by omega)]; omega)]
theorem has_neg {n p : Int32} (hp : p < 0) : F_X1_has n p = some 0 := by
  unfold F_X1_has
  rw [if_pos hp]
theorem removeL_I {n p : Nat} {g : Nat → Nat} (hn : n ≤ 11) (hp : p < n) : ∀ (d i fu : Nat) (a : Nat → Int32), i + d + 1 = n → p ≤ i → d < fu → (∀ j, j < i → a j = nI (gdel g p j)) → (∀ j, i ≤ j → j < n → a j = nI (g j)) → ∃ a', F_X1_remove_L2 (nI p) fu (nI n) a (nI i) = some (nI (n - 1), a') ∧ RA (n - 1) (gdel g p) a' := by
  intro d
  induction d with
  | zero =>
    intro i fu a hi hpi hf h1 h2
    obtain ⟨fu, rfl⟩ : ∃ k, fu = k + 1 := ⟨fu - 1, by omega⟩
    refine ⟨a, ?_, fun j hj => h1 j (by omega)⟩
    rw [F_X1_remove_L2, q1, sub_I (by omega), if_pos (by rw [le_I (by omega) (by omega)]; omega), has_I hp hn]
    rfl
  | succ d ih =>
    intro i fu a hi hpi hf h1 h2
    obtain ⟨fu, rfl⟩ : ∃ k, fu = k + 1 := ⟨fu - 1, by omega⟩
    obtain ⟨a', h3, h4⟩ := ih (i + 1) fu (upd a i (a (i + 1))) (by omega) (by omega) (by omega)
      (fun j hj => by
        by_cases e : j = i
        · subst e; rw [upd_s, h2 _ (by omega) (by omega)]; unfold gdel; rw [if_neg (by omega)]
        · rw [upd_n _ _ e]; exact h1 j (by omega))
      (fun j hj hjn => by rw [upd_n _ _ (by omega)]; exact h2 j (by omega) hjn)
    refine ⟨a', ?_, h4⟩
    rw [F_X1_remove_L2, q1, sub_I (by omega), if_neg (by rw [le_I (by omega) (by omega)]; omega), nI_add, at_I (by omega) hn, Option.bind_some, set_I (by omega) hn, Option.bind_some]
    exact h3
theorem remove_I {n p : Nat} {g : Nat → Nat} {a : Nat → Int32} (h : RA n g a) (hn : n ≤ 11) (hp : p < n) : ∃ a', F_X1_remove (nI n) a (nI p) = some (nI (n - 1), a') ∧ RA (n - 1) (gdel g p) a' := by
  unfold F_X1_remove
  exact removeL_I hn hp (n - 1 - p) p FU a (by omega) (Nat.le_refl _) (FU_lt (by omega)) (fun j hj => by unfold gdel; rw [if_pos hj]; exact h j (by omega)) (fun j _ hj => h j hj)
/-- turned around by exchanges from both ends -/
def grev : Nat → (Nat → Nat) → Nat → Nat → (Nat → Nat)
  | 0, g, _, _ => g
  | k + 1, g, l, r => if l < r then grev k (gswap g l r) (l + 1) (r - 1) else g
theorem revL_I {n : Nat} {y z : Int32} (hn : n ≤ 11) : ∀ (k fu : Nat) (g : Nat → Nat) (a : Nat → Int32) (lo hi : Nat), hi ≤ lo + k → k < fu → lo < 2147483648 → hi < n → RA n g a → ∃ a', F_X1_reverse_L5 (nI n) y z fu a (nI hi) (nI lo) = some a' ∧ RA n (grev k g lo hi) a' := by
  intro k
  induction k with
  | zero =>
    intro fu g a lo hi h1 h2 h3 h4 h
    obtain ⟨fu, rfl⟩ : ∃ k, fu = k + 1 := ⟨fu - 1, by omega⟩
    exact ⟨a, by rw [F_X1_reverse_L5, if_pos (by rw [le_I (by omega) (by omega)]; omega)], h⟩
  | succ k ih =>
    intro fu g a lo hi h1 h2 h3 h4 h
    obtain ⟨fu, rfl⟩ : ∃ k, fu = k + 1 := ⟨fu - 1, by omega⟩
    by_cases e : lo < hi
    · obtain ⟨a1, h5, h6⟩ := exchange_I (p := lo) (q := hi) h (by omega) h4 hn
      obtain ⟨a2, h7, h8⟩ := ih fu _ a1 (lo + 1) (hi - 1) (by omega) (by omega) (by omega) (by omega) h6
      refine ⟨a2, ?_, by rw [grev, if_pos e]; exact h8⟩
      rw [F_X1_reverse_L5, if_neg (by rw [le_I (by omega) (by omega)]; omega), h5, Option.bind_some, m1_I (by omega), nI_1]
      exact h7
    · refine ⟨a, ?_, by rw [grev, if_neg e]; exact h⟩
      rw [F_X1_reverse_L5, if_pos (by rw [le_I (by omega) (by omega)]; omega)]
theorem reverse_I {n lo hi : Nat} {g : Nat → Nat} {a : Nat → Int32} (h : RA n g a) (hn : n ≤ 11) (hh : hi < n) (hl : lo < 2147483648) : ∃ a', F_X1_reverse (nI n) a (nI lo) (nI hi) = some a' ∧ RA n (grev 11 g lo hi) a' := by
  unfold F_X1_reverse
  exact revL_I hn 11 FU g a lo hi (by omega) (FU_lt (by omega)) hl hh h
theorem roll_I {n : Nat} {g : Nat → Nat} {a : Nat → Int32} (h : RA n g a) (hn : n ≤ 11) (h1 : 1 ≤ n) : ∃ a', F_X1_roll (nI n) a = some a' ∧ RA n (gbring g 0 (n - 1)) a' := by
  obtain ⟨a', h3, h4⟩ := bring_I (to := 0) (d := n - 1) hn (by omega) h
  refine ⟨a', ?_, h4⟩
  unfold F_X1_roll
  rw [q1, sub_I h1]
  rw [Nat.zero_add] at h3
  rw [show (nI 0 : Int32) = (0 : Int32) from rfl] at h3
  rw [h3]
  rfl
