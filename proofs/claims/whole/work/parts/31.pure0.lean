/-! pure words: numbers, rows, reads and writes -/
theorem q0 : (0 : Int32) = nI 0 := rfl
theorem q1 : (1 : Int32) = nI 1 := rfl
theorem q2 : (2 : Int32) = nI 2 := rfl
theorem q3 : (3 : Int32) = nI 3 := rfl
theorem q4 : (4 : Int32) = nI 4 := rfl
theorem q5 : (5 : Int32) = nI 5 := rfl
theorem q6 : (6 : Int32) = nI 6 := rfl
theorem q7 : (7 : Int32) = nI 7 := rfl
theorem q8 : (8 : Int32) = nI 8 := rfl
theorem q9 : (9 : Int32) = nI 9 := rfl
theorem q10 : (10 : Int32) = nI 10 := rfl
theorem q11 : (11 : Int32) = nI 11 := rfl
theorem q12 : (12 : Int32) = nI 12 := rfl
theorem q13 : (13 : Int32) = nI 13 := rfl
theorem q14 : (14 : Int32) = nI 14 := rfl
theorem q20 : (20 : Int32) = nI 20 := rfl
theorem q33 : (33 : Int32) = nI 33 := rfl
theorem q48 : (48 : Int32) = nI 48 := rfl
theorem q49 : (49 : Int32) = nI 49 := rfl
theorem q50 : (50 : Int32) = nI 50 := rfl
theorem q57 : (57 : Int32) = nI 57 := rfl
theorem q60 : (60 : Int32) = nI 60 := rfl
theorem q61 : (61 : Int32) = nI 61 := rfl
theorem q78 : (78 : Int32) = nI 78 := rfl
theorem q97 : (97 : Int32) = nI 97 := rfl
theorem q102 : (102 : Int32) = nI 102 := rfl
theorem q126 : (126 : Int32) = nI 126 := rfl
theorem q486 : (486 : Int32) = nI 486 := rfl
theorem q600 : (600 : Int32) = nI 600 := rfl
theorem q2916 : (2916 : Int32) = nI 2916 := rfl
theorem q4200 : (4200 : Int32) = nI 4200 := rfl
theorem le_I {a b : Nat} (ha : a < 2147483648) (hb : b < 2147483648) : (nI a ≤ nI b) ↔ a ≤ b := nI_leI ha hb
theorem lt_I {a b : Nat} (ha : a < 2147483648) (hb : b < 2147483648) : (nI a < nI b) ↔ a < b := nI_ltI ha hb
theorem eq_I {a b : Nat} (ha : a < 2147483648) (hb : b < 2147483648) : (nI a = nI b) ↔ a = b := nI_eq ha hb
theorem cl_I {a : Nat} (ha : a < 2147483648) : (nI a).toNatClampNeg = a := nI_clamp ha
theorem nl0_I {a : Nat} (ha : a < 2147483648) : ¬ nI a < 0 := nI_pos ha
theorem sub_I {a b : Nat} (h : b ≤ a) : nI a - nI b = nI (a - b) := pk_sub h
theorem m1_I {a : Nat} (h : 1 ≤ a) : nI a + (-1) = nI (a - 1) := by
  obtain ⟨k, rfl⟩ : ∃ k, a = k + 1 := ⟨a - 1, by omega⟩
  exact pk_m1 k
theorem vin_I {i n : Nat} (h : i < n) (hn : n < 2147483648) : vin (nI i) n = true := decide_eq_true (by have := vp_in_nI (n := i) (N := n) h (by omega); exact this)
theorem gd_t {β : Type} {b : Bool} (x : Option β) (h : b = true) : gd b x = x := by rw [gd, if_pos h]
theorem upd_s (f : Nat → Int32) (k : Nat) (x : Int32) : upd f k x k = x := pk_us
theorem upd_n (f : Nat → Int32) {k j : Nat} (x : Int32) (h : j ≠ k) : upd f k x j = f j := pk_un h
/-- the row a holds the first n signs of g -/
def RA (n : Nat) (g : Nat → Nat) (a : Nat → Int32) : Prop := ∀ i, i < n → a i = nI (g i)
def RG (n : Nat) (g : Nat → Nat) : Prop := ∀ i, i < n → g i < 6
def gset (g : Nat → Nat) (k v : Nat) : Nat → Nat := fun i => if i = k then v else g i
def gswap (g : Nat → Nat) (p q : Nat) : Nat → Nat := gset (gset g p (g q)) q (g p)
theorem gset_s (g : Nat → Nat) (k v : Nat) : gset g k v k = v := if_pos rfl
theorem gset_n (g : Nat → Nat) {k j : Nat} (v : Nat) (h : j ≠ k) : gset g k v j = g j := if_neg h
theorem RA.upd {n : Nat} {g : Nat → Nat} {a : Nat → Int32} (h : RA n g a) (k v : Nat) : RA n (gset g k v) (upd a k (nI v)) := by
  intro i hi
  by_cases hk : i = k
  · subst hk; rw [gset_s, upd_s]
  · rw [gset_n _ _ hk, upd_n _ _ hk]; exact h i hi
-- Row
theorem at_I {n i : Nat} {a : Nat → Int32} (hi : i < n) (hn : n ≤ 11) : F_X1_at (nI n) a (nI i) = some (a i) := by
  unfold F_X1_at
  rw [if_neg (nl0_I (by omega)), if_neg (by rw [le_I (by omega) (by omega)]; omega), if_neg (by rw [q11, le_I (by omega) (by omega)]; omega), gd_t _ (vin_I (by omega) (by omega)), cl_I (by omega)]
theorem at_out {n i : Nat} {a : Nat → Int32} (hi : n ≤ i) (hi2 : i < 2147483648) : F_X1_at (nI n) a (nI i) = some 0 := by
  unfold F_X1_at
  rw [if_neg (nl0_I (by omega)), if_pos (by rw [le_I (by omega) (by omega)]; omega)]
theorem set_I {n i : Nat} {a : Nat → Int32} {x : Int32} (hi : i < n) (hn : n ≤ 11) : F_X1_set (nI n) a (nI i) x = some (upd a i x) := by
  unfold F_X1_set
  rw [if_neg (nl0_I (by omega)), if_neg (by rw [le_I (by omega) (by omega)]; omega), if_neg (by rw [q11, le_I (by omega) (by omega)]; omega), gd_t _ (vin_I (by omega) (by omega)), cl_I (by omega)]
theorem add_I {n : Nat} {a : Nat → Int32} {x : Int32} (hn : n < 11) : F_X1_add (nI n) a x = some (nI (n + 1), upd a n x) := by
  unfold F_X1_add
  rw [if_neg (by rw [q11, le_I (by omega) (by omega)]; omega), q1, nI_add, sub_I (by omega), Nat.add_sub_cancel, set_I (by omega) (by omega)]
  rfl
theorem exchange_I {n p q : Nat} {g : Nat → Nat} {a : Nat → Int32} (h : RA n g a) (hp : p < n) (hq : q < n) (hn : n ≤ 11) : ∃ a', F_X1_exchange (nI n) a (nI p) (nI q) = some a' ∧ RA n (gswap g p q) a' := by
  refine ⟨upd (upd a p (nI (g q))) q (nI (g p)), ?_, (h.upd p (g q)).upd q (g p)⟩
  unfold F_X1_exchange
  rw [at_I hp hn, Option.bind_some, at_I hq hn, Option.bind_some, set_I hp hn, Option.bind_some, set_I hq hn, Option.bind_some, h p hp, h q hq]
/-- bringing the sign at 'from' ahead to 'to', past those between -/
def gbring (g : Nat → Nat) (to : Nat) : Nat → Nat → Nat
  | 0 => g
  | d + 1 => gbring (gswap g (to + d + 1) (to + d)) to d
theorem bringL_I {n to : Nat} {y : Int32} (hn : n ≤ 11) : ∀ (d : Nat) (fu : Nat) (g : Nat → Nat) (a : Nat → Int32), d < fu → to + d < n → RA n g a → ∃ a', F_X1_bringAhead_L2 (nI n) y (nI to) fu a (nI (to + d)) = some a' ∧ RA n (gbring g to d) a' := by
  intro d
  induction d with
  | zero =>
    intro fu g a hf ht h
    obtain ⟨fu, rfl⟩ : ∃ k, fu = k + 1 := ⟨fu - 1, by omega⟩
    refine ⟨a, ?_, h⟩
    rw [F_X1_bringAhead_L2, if_pos (by rw [le_I (by omega) (by omega)]; omega)]
  | succ d ih =>
    intro fu g a hf ht h
    obtain ⟨fu, rfl⟩ : ∃ k, fu = k + 1 := ⟨fu - 1, by omega⟩
    obtain ⟨a1, h1, h2⟩ := exchange_I (p := to + d + 1) (q := to + d) h (by omega) (by omega) hn
    obtain ⟨a2, h3, h4⟩ := ih fu _ a1 (by omega) (by omega) h2
    refine ⟨a2, ?_, h4⟩
    have e1 : to + (d + 1) - 1 = to + d := by omega
    rw [F_X1_bringAhead_L2, if_neg (by rw [le_I (by omega) (by omega)]; omega), m1_I (by omega), q1, sub_I (by omega), e1]
    show (F_X1_exchange (nI n) a (nI (to + d + 1)) (nI (to + d))).bind _ = _
    rw [h1, Option.bind_some]
    exact h3
theorem FU_lt {d : Nat} (h : d < 100000) : d < FU := h
theorem bring_I {n to d : Nat} {g : Nat → Nat} {a : Nat → Int32} (hn : n ≤ 11) (ht : to + d < n) (h : RA n g a) : ∃ a', F_X1_bringAhead (nI n) a (nI (to + d)) (nI to) = some a' ∧ RA n (gbring g to d) a' := by
  unfold F_X1_bringAhead
  exact bringL_I hn d FU g a (FU_lt (by omega)) ht h
