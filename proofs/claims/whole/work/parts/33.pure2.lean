/-! pure words: looks at a row -/
theorem fu1 {fu d : Nat} (h : d < fu) : ∃ k, fu = k + 1 ∧ d ≤ k := ⟨fu - 1, by omega, by omega⟩
def b2n (p : Prop) [Decidable p] : Nat := if p then 1 else 0
theorem b2n_le (p : Prop) [Decidable p] : b2n p ≤ 1 := by unfold b2n; split <;> omega
/-- the first place from p on with the sign v -/
def gfind (g : Nat → Nat) (v : Nat) : Nat → Nat → Nat
  | 0, p => p
  | d + 1, p => if g p = v then p else gfind g v d (p + 1)
theorem findL_I {n v : Nat} {g : Nat → Nat} {a : Nat → Int32} {y : Int32} (hn : n ≤ 11) (hg : RG n g) (hv : v < 6) (h : RA n g a) : ∀ (d p fu : Nat), p + d = n → d < fu → (∃ j, p ≤ j ∧ j < n ∧ g j = v) → F_X1_find_L2 (nI n) a (nI v) y fu (nI p) = some (nI (gfind g v d p)) := by
  intro d
  induction d with
  | zero => intro p fu h1 h2 h3; obtain ⟨j, h4, h5, -⟩ := h3; omega
  | succ d ih =>
    intro p fu h1 h2 h3
    obtain ⟨fu, rfl, hf⟩ := fu1 h2
    have hgp := hg p (by omega)
    rw [F_X1_find_L2, if_neg (by rw [le_I (by omega) (by omega)]; omega), at_I (by omega) hn, Option.bind_some, h p (by omega), gfind]
    by_cases e : g p = v
    · rw [if_pos (by rw [e]), if_pos e]
    · rw [if_neg (by rw [eq_I (by omega) (by omega)]; exact e), if_neg e, nI_1]
      obtain ⟨j, h4, h5, h6⟩ := h3
      exact ih (p + 1) fu (by omega) (by omega) ⟨j, by rcases Nat.lt_or_eq_of_le h4 with h | h; exact h; (subst h; exact absurd h6 e), h5, h6⟩
theorem find_I {n v p : Nat} {g : Nat → Nat} {a : Nat → Int32} (hn : n ≤ 11) (hg : RG n g) (hv : v < 6) (h : RA n g a) (hp : p ≤ n) (hx : ∃ j, p ≤ j ∧ j < n ∧ g j = v) : F_X1_find (nI n) a (nI v) (nI p) = some (nI (gfind g v (n - p) p)) := by
  unfold F_X1_find
  exact findL_I hn hg hv h (n - p) p FU (by omega) (FU_lt (by omega)) hx
theorem unlikeL_I {n : Nat} {g g2 : Nat → Nat} {a b : Nat → Int32} (hn : n ≤ 11) (hg : RG n g) (hg2 : RG n g2) (h : RA n g a) (h2 : RA n g2 b) : ∀ (d i x fu : Nat), i + d = n → d < fu → F_X1_placesUnlike_L4 (nI n) a (nI n) b fu (nI x) (nI i) = some (nI (x + sumL (fun i => b2n (g i ≠ g2 i)) i d)) := by
  intro d
  induction d with
  | zero =>
    intro i x fu h1 h3
    obtain ⟨fu, rfl, hf⟩ := fu1 h3
    rw [F_X1_placesUnlike_L4, if_pos (by rw [le_I (by omega) (by omega)]; omega)]
    rfl
  | succ d ih =>
    intro i x fu h1 h3
    obtain ⟨fu, rfl, hf⟩ := fu1 h3
    have hgi := hg i (by omega)
    have hgi2 := hg2 i (by omega)
    rw [F_X1_placesUnlike_L4, if_neg (by rw [le_I (by omega) (by omega)]; omega), at_I (by omega) hn, Option.bind_some, at_I (by omega) hn, Option.bind_some, h i (by omega), h2 i (by omega), q0, q1, nI_add, nI_add, nI_add]
    have e : (if nI (g i) = nI (g2 i) then nI (x + 0) else nI (x + 1)) = nI (x + b2n (g i ≠ g2 i)) := by
      by_cases e : g i = g2 i
      · rw [if_pos (by rw [e])]; unfold b2n; rw [if_neg (fun z => z e)]
      · rw [if_neg (by rw [eq_I (by omega) (by omega)]; exact e)]; unfold b2n; rw [if_pos e]
    rw [e, ih (i + 1) _ fu (by omega) (by omega), sumL, Nat.add_assoc]
theorem unlike_I {n : Nat} {g g2 : Nat → Nat} {a b : Nat → Int32} (hn : n ≤ 11) (hg : RG n g) (hg2 : RG n g2) (h : RA n g a) (h2 : RA n g2 b) : F_X1_placesUnlike (nI n) a (nI n) b = some (nI (sumL (fun i => b2n (g i ≠ g2 i)) 0 n)) := by
  unfold F_X1_placesUnlike
  have := unlikeL_I hn hg hg2 h h2 n 0 0 FU (by omega) (FU_lt (by omega))
  rw [Nat.zero_add] at this
  exact this
/-- no two neighbours of the d signs from p - 1 on are alike -/
def gsm (g : Nat → Nat) : Nat → Nat → Bool
  | _, 0 => true
  | p, d + 1 => if g p = g (p - 1) then false else gsm g (p + 1) d
theorem isSmoothL_I {n k : Nat} {g : Nat → Nat} {a : Nat → Int32} (hn : n ≤ 11) (hg : RG n g) (h : RA n g a) (hk : k ≤ n) : ∀ (d p fu : Nat), p + d = k → d < fu → 1 ≤ p → F_X1_isSmooth_L2 (nI n) a (nI k) fu (nI p) = some (if gsm g p d = true then 1 else 0) := by
  intro d
  induction d with
  | zero =>
    intro p fu h1 h2 h3
    obtain ⟨fu, rfl, hf⟩ := fu1 h2
    rw [F_X1_isSmooth_L2, if_pos (by rw [le_I (by omega) (by omega)]; omega)]
    rfl
  | succ d ih =>
    intro p fu h1 h2 h3
    obtain ⟨fu, rfl, hf⟩ := fu1 h2
    have hgi := hg p (by omega)
    have hgi2 := hg (p - 1) (by omega)
    rw [F_X1_isSmooth_L2, if_neg (by rw [le_I (by omega) (by omega)]; omega), at_I (by omega) hn, Option.bind_some]
    rw [show nI p - (1 : Int32) = nI (p - 1) from sub_I h3, at_I (by omega) hn, Option.bind_some, h p (by omega), h (p - 1) (by omega)]
    by_cases e : g p = g (p - 1)
    · rw [if_pos (by rw [e])]; unfold gsm; rw [if_pos e]; rfl
    · rw [if_neg (by rw [eq_I (by omega) (by omega)]; exact e), nI_1, ih (p + 1) fu (by omega) (by omega) (by omega)]
      rw [gsm, if_neg e]
def smooth (g : Nat → Nat) (k : Nat) : Bool := gsm g 1 (k - 1)
theorem isSmooth_I {n k : Nat} {g : Nat → Nat} {a : Nat → Int32} (hn : n ≤ 11) (hg : RG n g) (h : RA n g a) (hk : k ≤ n) : F_X1_isSmooth (nI n) a (nI k) = some (if smooth g k = true then 1 else 0) := by
  unfold F_X1_isSmooth
  by_cases e : k = 0
  · subst e
    obtain ⟨fu, hfu, -⟩ := fu1 (d := 0) (fu := FU) (FU_lt (by omega))
    rw [hfu, F_X1_isSmooth_L2, if_pos (by rw [q1, le_I (by omega) (by omega)]; omega)]
    rfl
  · exact isSmoothL_I hn hg h hk (k - 1) 1 FU (by omega) (FU_lt (by omega)) (Nat.le_refl 1)
/-- inversions -/
def ginv (g : Nat → Nat) (n : Nat) : Nat := sumL (fun p => sumL (fun q => b2n (g q < g p)) (p + 1) (n - (p + 1))) 0 n
theorem invI_I {n p : Nat} {g : Nat → Nat} {a : Nat → Int32} {K : Int32 → Int32 → Option Int32} (hn : n ≤ 11) (hg : RG n g) (h : RA n g a) (hp : p < n) : ∀ (d q x fu : Nat), q + d = n → d < fu → F_X1_inversions_L16 K (nI n) a fu (nI x) (nI p) (nI q) = K (nI (x + sumL (fun q => b2n (g q < g p)) q d)) (nI (p + 1)) := by
  intro d
  induction d with
  | zero =>
    intro q x fu h1 h2
    obtain ⟨fu, rfl, hf⟩ := fu1 h2
    rw [F_X1_inversions_L16, if_pos (by rw [le_I (by omega) (by omega)]; omega), nI_1]
    rfl
  | succ d ih =>
    intro q x fu h1 h2
    obtain ⟨fu, rfl, hf⟩ := fu1 h2
    have hgi := hg p hp
    have hgi2 := hg q (by omega)
    rw [F_X1_inversions_L16, if_neg (by rw [le_I (by omega) (by omega)]; omega), at_I hp hn, Option.bind_some, at_I (by omega) hn, Option.bind_some, h p hp, h q (by omega), q0, q1, nI_add, nI_add, nI_add]
    have e : (if nI (g p) ≤ nI (g q) then nI (x + 0) else nI (x + 1)) = nI (x + b2n (g q < g p)) := by
      by_cases e : g p ≤ g q
      · rw [if_pos (by rw [le_I (by omega) (by omega)]; exact e)]; unfold b2n; rw [if_neg (by omega)]
      · rw [if_neg (by rw [le_I (by omega) (by omega)]; exact e)]; unfold b2n; rw [if_pos (by omega)]
    rw [e, ih (q + 1) _ fu (by omega) (by omega), sumL, Nat.add_assoc]
theorem invO_I {n : Nat} {g : Nat → Nat} {a : Nat → Int32} (hn : n ≤ 11) (hg : RG n g) (h : RA n g a) : ∀ (d p x fu : Nat), p + d = n → d < fu → F_X1_inversions_L4 (nI n) a fu (nI x) (nI p) = some (nI (x + sumL (fun p => sumL (fun q => b2n (g q < g p)) (p + 1) (n - (p + 1))) p d)) := by
  intro d
  induction d with
  | zero =>
    intro p x fu h1 h2
    obtain ⟨fu, rfl, hf⟩ := fu1 h2
    rw [F_X1_inversions_L4, if_pos (by rw [le_I (by omega) (by omega)]; omega)]
    rfl
  | succ d ih =>
    intro p x fu h1 h2
    obtain ⟨fu, rfl, hf⟩ := fu1 h2
    rw [F_X1_inversions_L4, if_neg (by rw [le_I (by omega) (by omega)]; omega), q1, nI_add, invI_I hn hg h (by omega) (n - (p + 1)) (p + 1) x FU (by omega) (FU_lt (by omega)), ih (p + 1) _ fu (by omega) (by omega)]
    rw [sumL, Nat.add_assoc]
theorem inversions_I {n : Nat} {g : Nat → Nat} {a : Nat → Int32} (hn : n ≤ 11) (hg : RG n g) (h : RA n g a) : F_X1_inversions (nI n) a = some (nI (ginv g n)) := by
  unfold F_X1_inversions
  have := invO_I hn hg h n 0 0 FU (by omega) (FU_lt (by omega))
  rw [Nat.zero_add] at this
  exact this
/-- descents -/
def gdes (g : Nat → Nat) (n p : Nat) : Nat := if p + 1 < n then b2n (g (p + 1) < g p) else 0
theorem falls_I {n p : Nat} {g : Nat → Nat} {a : Nat → Int32} (hn : n ≤ 11) (hg : RG n g) (h : RA n g a) (hp : p < n) : F_X1_fallsBehind (nI n) a (nI p) = some (nI (gdes g n p)) := by
  unfold F_X1_fallsBehind gdes
  rw [q1, sub_I (by omega), nI_add]
  by_cases e : p + 1 < n
  · have hgi := hg p hp
    have hgi2 := hg (p + 1) e
    rw [if_neg (by rw [le_I (by omega) (by omega)]; omega), at_I hp hn, Option.bind_some, at_I e hn, Option.bind_some, h p hp, h (p + 1) e, if_pos e]
    by_cases e2 : g p ≤ g (p + 1)
    · rw [if_pos (by rw [le_I (by omega) (by omega)]; exact e2)]; unfold b2n; rw [if_neg (by omega)]; rfl
    · rw [if_neg (by rw [le_I (by omega) (by omega)]; exact e2)]; unfold b2n; rw [if_pos (by omega)]
  · rw [if_pos (by rw [le_I (by omega) (by omega)]; omega), if_neg e]; rfl
theorem gdes_le (g : Nat → Nat) (n p : Nat) : gdes g n p ≤ 1 := by unfold gdes; split; exact b2n_le _; omega
theorem desL_I {n : Nat} {g : Nat → Nat} {a : Nat → Int32} (hn : n ≤ 11) (hg : RG n g) (h : RA n g a) : ∀ (d p x fu : Nat), p + d = n → d < fu → F_X1_descents_L4 (nI n) a fu (nI x) (nI p) = some (nI (x + sumL (gdes g n) p d)) := by
  intro d
  induction d with
  | zero =>
    intro p x fu h1 h2
    obtain ⟨fu, rfl, hf⟩ := fu1 h2
    rw [F_X1_descents_L4, if_pos (by rw [le_I (by omega) (by omega)]; omega)]
    rfl
  | succ d ih =>
    intro p x fu h1 h2
    obtain ⟨fu, rfl, hf⟩ := fu1 h2
    have hle := gdes_le g n p
    rw [F_X1_descents_L4, if_neg (by rw [le_I (by omega) (by omega)]; omega), falls_I hn hg h (by omega), Option.bind_some, q0, q1, nI_add, nI_add, nI_add]
    have e : (if nI (gdes g n p) = nI 0 then nI (x + 0) else nI (x + 1)) = nI (x + gdes g n p) := by
      by_cases e : gdes g n p = 0
      · rw [if_pos (by rw [e]), e]
      · rw [if_neg (by rw [eq_I (by omega) (by omega)]; exact e), show gdes g n p = 1 by omega]
    rw [e, ih (p + 1) _ fu (by omega) (by omega), sumL, Nat.add_assoc]
theorem descents_I {n : Nat} {g : Nat → Nat} {a : Nat → Int32} (hn : n ≤ 11) (hg : RG n g) (h : RA n g a) : F_X1_descents (nI n) a = some (nI (sumL (gdes g n) 0 n)) := by
  unfold F_X1_descents
  have := desL_I hn hg h n 0 0 FU (by omega) (FU_lt (by omega))
  rw [Nat.zero_add] at this
  exact this
theorem majL_I {n : Nat} {g : Nat → Nat} {a : Nat → Int32} (hn : n ≤ 11) (hg : RG n g) (h : RA n g a) : ∀ (d p x fu : Nat), p + d = n → d < fu → F_X1_majorIndex_L4 (nI n) a fu (nI x) (nI p) = some (nI (x + sumL (fun p => gdes g n p * (p + 1)) p d)) := by
  intro d
  induction d with
  | zero =>
    intro p x fu h1 h2
    obtain ⟨fu, rfl, hf⟩ := fu1 h2
    rw [F_X1_majorIndex_L4, if_pos (by rw [le_I (by omega) (by omega)]; omega)]
    rfl
  | succ d ih =>
    intro p x fu h1 h2
    obtain ⟨fu, rfl, hf⟩ := fu1 h2
    have hle := gdes_le g n p
    rw [F_X1_majorIndex_L4, if_neg (by rw [le_I (by omega) (by omega)]; omega), falls_I hn hg h (by omega), Option.bind_some, q0, q1, nI_add, nI_add, nI_add]
    have e : (if nI (gdes g n p) = nI 0 then nI (x + 0) else nI (x + (p + 1))) = nI (x + gdes g n p * (p + 1)) := by
      by_cases e : gdes g n p = 0
      · rw [if_pos (by rw [e]), e, Nat.zero_mul]
      · rw [if_neg (by rw [eq_I (by omega) (by omega)]; exact e), show gdes g n p = 1 by omega, Nat.one_mul]
    rw [e, ih (p + 1) _ fu (by omega) (by omega), sumL, Nat.add_assoc]
theorem majorIndex_I {n : Nat} {g : Nat → Nat} {a : Nat → Int32} (hn : n ≤ 11) (hg : RG n g) (h : RA n g a) : F_X1_majorIndex (nI n) a = some (nI (sumL (fun p => gdes g n p * (p + 1)) 0 n)) := by
  unfold F_X1_majorIndex
  have := majL_I hn hg h n 0 0 FU (by omega) (FU_lt (by omega))
  rw [Nat.zero_add] at this
  exact this
