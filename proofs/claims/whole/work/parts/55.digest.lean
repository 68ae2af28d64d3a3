/-! the digest -/
def mx (h v : Int64) : Int64 := 31 * h + v
theorem mxd_T (h v : Int64) : F_X5_mixed h v = some (mx h v) := Eq.trans (b := some (mx h v)) rfl rfl
theorem mix_T (h v : Int64) : F_X6_mix h v = some (mx h v) := Eq.trans (b := some (mx h v)) rfl rfl
def d1 (g : Nat → Nat) (n : Nat) (gone : Int32) (S : Nat) : Nat → Nat → Int64 → Int64
  | 0, _, h => h
  | d + 1, w, h => d1 g n gone S d (w + 1) (mx h (cnv g n gone S w).toInt64)
def d2b (g : Nat → Nat) (n p : Nat) : Nat → Nat → Int64 → Int64
  | 0, _, h => h
  | d + 1, w, h => d2b g n p d (w + 1) (mx h (nI (blk g n p w)).toInt64)
/-- behind the blocks of a place -/
def d2e (g : Nat → Nat) (n p : Nat) (h : Int64) : Int64 := mx (mx h (nI (rk (gswap g p 0) n n)).toInt64) (nI (hv g n p 0 (rk g n n)) - nI (hv g n p 0 0)).toInt64
def d2p (g : Nat → Nat) (n p : Nat) (h : Int64) : Int64 := d2e g n p (d2b g n p 3 0 (mx (mx h (nI (g p)).toInt64) (nI (dgt g n p)).toInt64))
def d2 (g : Nat → Nat) (n : Nat) : Nat → Nat → Int64 → Int64
  | 0, _, h => h
  | d + 1, p, h => d2 g n d (p + 1) (d2p g n p h)
def d3 (g : Nat → Nat) (n : Nat) : Nat → Nat → Int64 → Int64
  | 0, _, h => h
  | d + 1, s, h => d3 g n d (s + 1) (mx h (nI (cF g n 0 s)).toInt64)
def d4 (W : Nat → Nat) : Nat → Nat → Int64 → Int64
  | 0, _, h => h
  | d + 1, p, h => d4 W d (p + 1) (mx h (nI (W p)).toInt64)
def d5 (g : Nat → Nat) (n : Nat) : Nat → Nat → Int64 → Int64
  | 0, _, h => h
  | d + 1, w, h => d5 g n d (w + 1) (mx h (bst g n (nI w)).toInt64)
def d6 (t : Nat → Nat) : Nat → Nat → Int64 → Int64
  | 0, _, h => h
  | d + 1, i, h => d6 t d (i + 1) (mx h (nI (t i)).toInt64)
/-- behind the best exchanges -/
def f5 (g : Nat → Nat) (n L : Nat) (t : Nat → Nat) (h : Int64) : Int64 := d6 t L 0 (mx (mx h (shv g n).toInt64) (nI L).toInt64)
/-- behind the signs of the middle one -/
def f4 (g : Nat → Nat) (n L : Nat) (t : Nat → Nat) (h : Int64) : Int64 := f5 g n L t (d5 g n 3 0 (mx h (nI (stN (gl g n (ways (cF g n 0) / 2)) n n g 0)).toInt64))
def f3 (g : Nat → Nat) (n L : Nat) (t : Nat → Nat) (h : Int64) : Int64 := f4 g n L t (d4 (gl g n (ways (cF g n 0) / 2)) n 0 h)
def f2 (g : Nat → Nat) (n L : Nat) (t : Nat → Nat) (h : Int64) : Int64 := f3 g n L t (d3 g n 6 0 h)
def f1 (g : Nat → Nat) (n L : Nat) (t : Nat → Nat) (h : Int64) : Int64 := f2 g n L t (d2 g n n 0 h)
theorem leN {a b : Nat} (h : a ≤ b) (hb : b < 2147483648) : nI a ≤ nI b := (le_I (by omega) hb).mpr h
theorem nleN {a b : Nat} (h : b < a) (ha : a < 2147483648) : ¬ nI a ≤ nI b := fun q => by
  have := (le_I ha (by omega)).mp q
  omega
theorem mid_lt {n : Nat} {g : Nat → Nat} : ways (cF g n 0) / 2 < ways (cF g n 0) := by
  have := ways_pos (cF g n 0)
  omega
theorem mid_I {n : Nat} {g : Nat → Nat} (hn : n ≤ 11) (hg : RG n g) : nI (ways (cF g n 0)) / (2 : Int32) = nI (ways (cF g n 0) / 2) := by
  have := N_11 hn hg
  rw [zq2, div_I (by omega) (by omega) (by omega)]
theorem nz2 : nz (2 : Int32) = true := by decide
theorem c6_I {n S L : Nat} {g t : Nat → Nat} {rs tc : Nat → Int32} {gone : Int32} {ql bt wl : Int32} {bo qs al ic mf st wg ws : Nat → Int32} (hx : XI L t tc) : ∀ (d i fu : Nat) (h : Int64), i + d = L → d < fu → F_X5_digest_L278 gone (nI n) rs (nI S) (nI L) tc fu bt bo ql qs al ic mf st wg wl ws h (nI i) = some (d6 t d i h, bt, bo, ql, qs, al, ic, mf, st, wg, wl, ws) := by
  have h60 := hx.1
  intro d
  induction d with
  | zero =>
    intro i fu h h1 h2
    obtain ⟨fu, rfl, hf⟩ := fu1 h2
    rw [F_X5_digest_L278, xlen_T, Option.bind_some, if_pos (leN (by omega) (by omega))]
    rfl
  | succ d ih =>
    intro i fu h h1 h2
    obtain ⟨fu, rfl, hf⟩ := fu1 h2
    rw [F_X5_digest_L278, xlen_T, Option.bind_some, if_neg (nleN (by omega) (by omega)), xat_J hx i (by omega), Option.bind_some, mxd_T, Option.bind_some, nI_1]
    exact ih (i + 1) fu _ (by omega) (by omega)
theorem c5_I {n S L : Nat} {g t : Nat → Nat} {rs tc : Nat → Int32} {gone : Int32} (hn : n ≤ 11) (h0 : 1 ≤ n) (hg : RG n g) (hr : RA n g rs) (hx : XI L t tc) : ∀ (d w fu : Nat) (h : Int64) (bt : Int32) (bo : Nat → Int32) (ql : Int32) (qs al ic mf st wg : Nat → Int32) (wl : Int32) (ws : Nat → Int32), w + d = 3 → d < fu → SMI al mf st wg → Ret (F_X5_digest_L226 gone (nI n) rs (nI S) (nI L) tc fu bt bo ql qs al ic mf st wg wl ws h (nI w)) (fun r => r.1 = f5 g n L t (d5 g n d w h) ∧ SMI r.2.2.2.2.2.1 r.2.2.2.2.2.2.2.1 r.2.2.2.2.2.2.2.2.1 r.2.2.2.2.2.2.2.2.2.1) := by
  have h60 := hx.1
  intro d
  induction d with
  | zero =>
    intro w fu h bt bo ql qs al ic mf st wg wl ws h1 h2 hS
    obtain ⟨fu, rfl, hf⟩ := fu1 h2
    obtain rfl : w = 3 := by omega
    obtain ⟨⟨x, bt1, bo1⟩, e1, a1⟩ := shr_V (t := bt) (o := bo) hn hg hr
    have a1 : x = shv g n := a1
    subst a1
    have k := c6_I (g := g) (gone := gone) (n := n) (S := S) (rs := rs) (bt := bt1) (bo := bo1) (ql := ql) (qs := qs) (al := al) (ic := ic) (mf := mf) (st := st) (wg := wg) (wl := wl) (ws := ws) hx L 0 FU (mx (mx h (shv g n).toInt64) (nI L).toInt64) (by omega) (FU_lt (by omega))
    refine ⟨(d6 t L 0 (mx (mx h (shv g n).toInt64) (nI L).toInt64), bt1, bo1, ql, qs, al, ic, mf, st, wg, wl, ws), ?_, rfl, hS⟩
    rw [F_X5_digest_L226, if_pos (by rw [zq3]; exact leN (by omega) (by omega)), e1, Option.bind_some, sbits_V hn hg, Option.bind_some, mxd_T, Option.bind_some, xlen_T, Option.bind_some, mxd_T, Option.bind_some, zq0]
    exact k
  | succ d ih =>
    intro w fu h bt bo ql qs al ic mf st wg wl ws h1 h2 hS
    obtain ⟨fu, rfl, hf⟩ := fu1 h2
    obtain ⟨⟨x, bt1, bo1, wl1, ws1⟩, e1, a1⟩ := best_I (bt := bt) (o := bo) (wl := wl) (wk := ws) hn hg hr (show w < 3 by omega)
    have a1 : x = bst g n (nI w) := a1
    subst a1
    have k := ih (w + 1) fu (mx h (bst g n (nI w)).toInt64) bt1 bo1 ql qs al ic mf st wg wl1 ws1 (by omega) (by omega) hS
    rw [F_X5_digest_L226, if_neg (by rw [zq3]; exact nleN (by omega) (by omega)), e1, Option.bind_some, mxd_T, Option.bind_some, nI_1]
    exact k
theorem c4_I {n S L : Nat} {g t : Nat → Nat} {rs tc : Nat → Int32} {gone : Int32} (hn : n ≤ 11) (h0 : 1 ≤ n) (hg : RG n g) (hr : RA n g rs) (hx : XI L t tc) : ∀ (d p fu : Nat) (h : Int64) (bt : Int32) (bo : Nat → Int32) (ql : Int32) (qs al ic mf st wg : Nat → Int32) (wl : Int32) (ws : Nat → Int32), p + d = n → d < fu → SMI al mf st wg → Ret (F_X5_digest_L179 gone (nI n) rs (nI S) (nI L) tc fu bt bo ql qs al ic mf st wg wl ws h (nI (ways (cF g n 0) / 2)) (nI p)) (fun r => r.1 = f4 g n L t (d4 (gl g n (ways (cF g n 0) / 2)) d p h) ∧ SMI r.2.2.2.2.2.1 r.2.2.2.2.2.2.2.1 r.2.2.2.2.2.2.2.2.1 r.2.2.2.2.2.2.2.2.2.1) := by
  have h60 := hx.1
  intro d
  induction d with
  | zero =>
    intro p fu h bt bo ql qs al ic mf st wg wl ws h1 h2 hS
    obtain ⟨fu, rfl, hf⟩ := fu1 h2
    obtain rfl : p = n := by omega
    obtain ⟨⟨x, bt1, bo1, ql1, qs1, wl1, ws1⟩, e1, a1⟩ := steps_I (bt := bt) (o := bo) (rl := ql) (ra := qs) (wl := wl) (wk := ws) hn hg hr (mid_lt (n := p) (g := g))
    have a1 : x = nI (stN (gl g p (ways (cF g p 0) / 2)) p p g 0) := a1
    subst a1
    have k := c5_I (gone := gone) (S := S) hn h0 hg hr hx 3 0 FU (mx h (nI (stN (gl g p (ways (cF g p 0) / 2)) p p g 0)).toInt64) bt1 bo1 ql1 qs1 al ic mf st wg wl1 ws1 (by omega) (FU_lt (by omega)) hS
    rw [F_X5_digest_L179, len_T, Option.bind_some, if_pos (leN (by omega) (by omega)), e1, Option.bind_some, mxd_T, Option.bind_some, zq0]
    exact k
  | succ d ih =>
    intro p fu h bt bo ql qs al ic mf st wg wl ws h1 h2 hS
    obtain ⟨fu, rfl, hf⟩ := fu1 h2
    obtain ⟨⟨x, bt1, bo1, wl1, ws1⟩, e1, a1⟩ := sgo_V (t := bt) (o := bo) (wl := wl) (ws := ws) hn hg hr (show p < n by omega) (mid_lt (n := n) (g := g))
    have a1 : x = nI (gl g n (ways (cF g n 0) / 2) p) := a1
    subst a1
    have k := ih (p + 1) fu (mx h (nI (gl g n (ways (cF g n 0) / 2) p)).toInt64) bt1 bo1 ql qs al ic mf st wg wl1 ws1 (by omega) (by omega) hS
    rw [F_X5_digest_L179, len_T, Option.bind_some, if_neg (nleN (by omega) (by omega)), e1, Option.bind_some, mxd_T, Option.bind_some, nI_1]
    exact k
theorem c3_I {n S L : Nat} {g t : Nat → Nat} {rs tc : Nat → Int32} {gone : Int32} (hn : n ≤ 11) (h0 : 1 ≤ n) (hg : RG n g) (hr : RA n g rs) (hx : XI L t tc) : ∀ (d s fu : Nat) (h : Int64) (bt : Int32) (bo : Nat → Int32) (ql : Int32) (qs al ic mf st wg : Nat → Int32) (wl : Int32) (ws : Nat → Int32), s + d = 6 → d < fu → SMI al mf st wg → Ret (F_X5_digest_L143 gone (nI n) rs (nI S) (nI L) tc fu bt bo ql qs al ic mf st wg wl ws h (nI s)) (fun r => r.1 = f3 g n L t (d3 g n d s h) ∧ SMI r.2.2.2.2.2.1 r.2.2.2.2.2.2.2.1 r.2.2.2.2.2.2.2.2.1 r.2.2.2.2.2.2.2.2.2.1) := by
  have h60 := hx.1
  intro d
  induction d with
  | zero =>
    intro s fu h bt bo ql qs al ic mf st wg wl ws h1 h2 hS
    obtain ⟨fu, rfl, hf⟩ := fu1 h2
    obtain rfl : s = 6 := by omega
    obtain ⟨bo1, e1, -⟩ := all_I (t := bt) (o := bo) hn hg hr
    have k := c4_I (gone := gone) (S := S) hn h0 hg hr hx n 0 FU h (nI n) bo1 ql qs al ic mf st wg wl ws (by omega) (FU_lt (by omega)) hS
    rw [F_X5_digest_L143, if_pos (by rw [zq6]; exact leN (by omega) (by omega)), e1, Option.bind_some, gd_t _ nz2, mid_I hn hg, zq0]
    exact k
  | succ d ih =>
    intro s fu h bt bo ql qs al ic mf st wg wl ws h1 h2 hS
    obtain ⟨fu, rfl, hf⟩ := fu1 h2
    obtain ⟨⟨x, bt1, bo1⟩, e1, a1⟩ := many_V (t := bt) (o := bo) hn hg hr (show s < 6 by omega)
    have a1 : x = nI (cF g n 0 s) := a1
    subst a1
    have k := ih (s + 1) fu (mx h (nI (cF g n 0 s)).toInt64) bt1 bo1 ql qs al ic mf st wg wl ws (by omega) (by omega) hS
    rw [F_X5_digest_L143, if_neg (by rw [zq6]; exact nleN (by omega) (by omega)), e1, Option.bind_some, mxd_T, Option.bind_some, nI_1]
    exact k
theorem c2b_I {n S L : Nat} {g t : Nat → Nat} {rs tc : Nat → Int32} {gone : Int32} {p : Nat} {ql : Int32} {qs : Nat → Int32} {K : Int32 → (Nat → Int32) → Int32 → (Nat → Int32) → (Nat → Int32) → (Nat → Int32) → (Nat → Int32) → (Nat → Int32) → (Nat → Int32) → Int32 → (Nat → Int32) → Int64 → Int32 → Int32 → Option (Int64 × Int32 × (Nat → Int32) × Int32 × (Nat → Int32) × (Nat → Int32) × (Nat → Int32) × (Nat → Int32) × (Nat → Int32) × (Nat → Int32) × Int32 × (Nat → Int32))} (hn : n ≤ 11) (h0 : 1 ≤ n) (hg : RG n g) (hr : RA n g rs) (hx : XI L t tc) (hp : p < n) : ∀ (d w fu : Nat) (h : Int64) (bt : Int32) (bo al ic mf st wg : Nat → Int32) (wl : Int32) (ws : Nat → Int32), w + d = 3 → d < fu → SMI al mf st wg → ∃ bt' bo' al' ic' mf' st' wg' wl' ws', F_X5_digest_L80 K gone (nI n) rs (nI S) (nI L) tc fu bt bo ql qs al ic mf st wg wl ws h (nI (rk g n n)) (nI p) (nI w) = K bt' bo' ql qs al' ic' mf' st' wg' wl' ws' (d2e g n p (d2b g n p d w h)) (nI (rk g n n)) (nI (p + 1)) ∧ SMI al' mf' st' wg' := by
  have hrk := rk_all hg
  intro d
  induction d with
  | zero =>
    intro w fu h bt bo al ic mf st wg wl ws h1 h2 hS
    obtain ⟨fu, rfl, hf⟩ := fu1 h2
    obtain rfl : w = 3 := by omega
    obtain ⟨⟨x, bt1, bo1, wl1, ws1⟩, e1, a1⟩ := ifS_V (t := bt) (o := bo) (wl := wl) (ws := ws) hn hg hr hp (show 0 < n by omega)
    have a1 : x = nI (rk (gswap g p 0) n n) := a1
    subst a1
    obtain ⟨⟨x, bt2, bo2, wl2, ws2⟩, e2, a2⟩ := hav_V (a := 0) (b := rk g n n) (s := 0) (t := bt1) (o := bo1) (wl := wl1) (ws := ws1) hn h0 hg hr hp (by omega) (Nat.zero_le _) (Nat.le_of_lt hrk)
    have a2 : x = nI (hv g n p 0 (rk g n n)) - nI (hv g n p 0 0) := a2
    subst a2
    refine ⟨bt2, bo2, al, ic, mf, st, wg, wl2, ws2, ?_, hS⟩
    rw [F_X5_digest_L80, if_pos (by rw [zq3]; exact leN (by omega) (by omega)), zq0, e1, Option.bind_some, mxd_T, Option.bind_some, e2, Option.bind_some, mxd_T, Option.bind_some, nI_1]
    rfl
  | succ d ih =>
    intro w fu h bt bo al ic mf st wg wl ws h1 h2 hS
    obtain ⟨fu, rfl, hf⟩ := fu1 h2
    obtain ⟨⟨x, bt1, bo1, al1, ic1, mf1, st1, wg1⟩, e1, a1, hS1⟩ := blk_V (t := bt) (o := bo) (ic := ic) hn h0 hg hr hS (show p ≤ n by omega) (show w < 3 by omega)
    have a1 : x = nI (blk g n p w) := a1
    subst a1
    obtain ⟨bt', bo', al', ic', mf', st', wg', wl', ws', e2, hS2⟩ := ih (w + 1) fu (mx h (nI (blk g n p w)).toInt64) bt1 bo1 al1 ic1 mf1 st1 wg1 wl ws (by omega) (by omega) hS1
    refine ⟨bt', bo', al', ic', mf', st', wg', wl', ws', ?_, hS2⟩
    rw [F_X5_digest_L80, if_neg (by rw [zq3]; exact nleN (by omega) (by omega)), e1, Option.bind_some, mxd_T, Option.bind_some, nI_1]
    exact e2
theorem c2_I {n S L : Nat} {g t : Nat → Nat} {rs tc : Nat → Int32} {gone : Int32} (hn : n ≤ 11) (h0 : 1 ≤ n) (hg : RG n g) (hr : RA n g rs) (hx : XI L t tc) : ∀ (d p fu : Nat) (h : Int64) (bt : Int32) (bo : Nat → Int32) (ql : Int32) (qs al ic mf st wg : Nat → Int32) (wl : Int32) (ws : Nat → Int32), p + d = n → d < fu → SMI al mf st wg → Ret (F_X5_digest_L41 gone (nI n) rs (nI S) (nI L) tc fu bt bo ql qs al ic mf st wg wl ws h (nI (rk g n n)) (nI p)) (fun r => r.1 = f2 g n L t (d2 g n d p h) ∧ SMI r.2.2.2.2.2.1 r.2.2.2.2.2.2.2.1 r.2.2.2.2.2.2.2.2.1 r.2.2.2.2.2.2.2.2.2.1) := by
  have h60 := hx.1
  intro d
  induction d with
  | zero =>
    intro p fu h bt bo ql qs al ic mf st wg wl ws h1 h2 hS
    obtain ⟨fu, rfl, hf⟩ := fu1 h2
    obtain rfl : p = n := by omega
    have k := c3_I (gone := gone) (S := S) hn h0 hg hr hx 6 0 FU h bt bo ql qs al ic mf st wg wl ws (by omega) (FU_lt (by omega)) hS
    rw [F_X5_digest_L41, len_T, Option.bind_some, if_pos (leN (by omega) (by omega)), zq0]
    exact k
  | succ d ih =>
    intro p fu h bt bo ql qs al ic mf st wg wl ws h1 h2 hS
    obtain ⟨fu, rfl, hf⟩ := fu1 h2
    obtain ⟨⟨x, bt1, bo1⟩, e1, a1⟩ := dig_V (t := bt) (o := bo) hn hg hr (show p < n by omega)
    have a1 : x = nI (dgt g n p) := a1
    subst a1
    obtain ⟨bt', bo', al', ic', mf', st', wg', wl', ws', e2, hS2⟩ := c2b_I (gone := gone) (S := S) (ql := ql) (qs := qs) (K := F_X5_digest_L41 gone (nI n) rs (nI S) (nI L) tc fu) hn h0 hg hr hx (show p < n by omega) 3 0 FU (mx (mx h (nI (g p)).toInt64) (nI (dgt g n p)).toInt64) bt1 bo1 al ic mf st wg wl ws (by omega) (FU_lt (by omega)) hS
    have k := ih (p + 1) fu (d2p g n p h) bt' bo' ql qs al' ic' mf' st' wg' wl' ws' (by omega) (by omega) hS2
    rw [F_X5_digest_L41, len_T, Option.bind_some, if_neg (nleN (by omega) (by omega)), sgn_V hn hr (show p < n by omega), Option.bind_some, mxd_T, Option.bind_some, e1, Option.bind_some, mxd_T, Option.bind_some, zq0, e2]
    exact k
theorem c1_I {n S L : Nat} {g t : Nat → Nat} {rs tc : Nat → Int32} {gone : Int32} (hn : n ≤ 11) (h0 : 1 ≤ n) (hg : RG n g) (hr : RA n g rs) (hx : XI L t tc) : ∀ (d w fu : Nat) (h : Int64) (bt : Int32) (bo : Nat → Int32) (ql : Int32) (qs al ic mf st wg : Nat → Int32) (wl : Int32) (ws : Nat → Int32), w + d = 14 → d < fu → SMI al mf st wg → Ret (F_X5_digest_L6 gone (nI n) rs (nI S) (nI L) tc fu bt bo ql qs al ic mf st wg wl ws h (nI w)) (fun r => r.1 = f1 g n L t (d1 g n gone S d w h) ∧ SMI r.2.2.2.2.2.1 r.2.2.2.2.2.2.2.1 r.2.2.2.2.2.2.2.2.1 r.2.2.2.2.2.2.2.2.2.1) := by
  have h60 := hx.1
  intro d
  induction d with
  | zero =>
    intro w fu h bt bo ql qs al ic mf st wg wl ws h1 h2 hS
    obtain ⟨fu, rfl, hf⟩ := fu1 h2
    obtain rfl : w = 14 := by omega
    obtain ⟨bo1, e1⟩ := rankOf_I (t := bt) (o := bo) hn hg hr
    have k := c2_I (gone := gone) (S := S) hn h0 hg hr hx n 0 FU h (nI 0) bo1 ql qs al ic mf st wg wl ws (by omega) (FU_lt (by omega)) hS
    rw [F_X5_digest_L6, if_pos (by rw [zq14]; exact leN (by omega) (by omega)), e1, Option.bind_some, zq0]
    exact k
  | succ d ih =>
    intro w fu h bt bo ql qs al ic mf st wg wl ws h1 h2 hS
    obtain ⟨fu, rfl, hf⟩ := fu1 h2
    obtain ⟨⟨x, bt1, bo1, al1, ic1, mf1, st1, wg1, wl1, ws1⟩, e1, a1, hS1⟩ := cnt_V (S := S) (gone := gone) (t := bt) (o := bo) (ic := ic) (wl := wl) (ws := ws) hn h0 hg hr hS (show w < 14 by omega)
    have a1 : x = cnv g n gone S w := a1
    subst a1
    have k := ih (w + 1) fu (mx h (cnv g n gone S w).toInt64) bt1 bo1 ql qs al1 ic1 mf1 st1 wg1 wl1 ws1 (by omega) (by omega) hS1
    rw [F_X5_digest_L6, if_neg (by rw [zq14]; exact nleN (by omega) (by omega)), e1, Option.bind_some, mxd_T, Option.bind_some, nI_1]
    exact k
theorem vin0 : vin (0 : Int32) 13 = true := by decide
theorem r6_I {n S L : Nat} {g t : Nat → Nat} {z tx : Nat → Int32} (hz : ZI z n g) (hn : n ≤ 11) (h0 : 1 ≤ n) (hg : RG n g) (hx : XI L t tx) : ∀ (d i fu : Nat) (th cc : Int32) (h : Int64) (lf oth sm wts wkd : Nat → Int32), i + d = L → d < fu → Ret (F_X6_digest_L177 (nI S) (nI L) tx z fu th cc h lf oth sm wts wkd (nI i)) (fun r => r.1 = d6 t d i h) := by
  have h60 := hx.1
  intro d
  induction d with
  | zero =>
    intro i fu th cc h lf oth sm wts wkd h1 h2
    obtain ⟨fu, rfl, hf⟩ := fu1 h2
    refine ⟨(h, th, cc, h, lf, oth, sm, wts, wkd), ?_, rfl⟩
    rw [F_X6_digest_L177, if_pos (leN (by omega) (by omega))]
  | succ d ih =>
    intro i fu th cc h lf oth sm wts wkd h1 h2
    obtain ⟨fu, rfl, hf⟩ := fu1 h2
    have k := ih (i + 1) fu th cc (mx h (nI (t i)).toInt64) lf oth sm wts wkd (by omega) (by omega)
    have e1 : tx (nI i).toNatClampNeg = nI (t i) := by rw [cl_I (by omega)]; exact hx.at i (by omega)
    rw [F_X6_digest_L177, if_neg (nleN (by omega) (by omega)), gd_t _ (vin_I (by omega) (by omega)), e1, mix_T, Option.bind_some, nI_1]
    exact k
theorem r5_I {n S L : Nat} {g t : Nat → Nat} {z tx : Nat → Int32} (hz : ZI z n g) (hn : n ≤ 11) (h0 : 1 ≤ n) (hg : RG n g) (hx : XI L t tx) : ∀ (d w fu : Nat) (th cc : Int32) (h : Int64) (lf oth sm wts wkd : Nat → Int32), w + d = 3 → d < fu → Ret (F_X6_digest_L134 (nI S) (nI L) tx z fu th cc h lf oth sm wts wkd (nI w)) (fun r => r.1 = f5 g n L t (d5 g n d w h)) := by
  have h60 := hx.1
  intro d
  induction d with
  | zero =>
    intro w fu th cc h lf oth sm wts wkd h1 h2
    obtain ⟨fu, rfl, hf⟩ := fu1 h2
    obtain rfl : w = 3 := by omega
    obtain ⟨⟨x, lf1, oth1⟩, e1, a1⟩ := rshr_V (lf := lf) (oth := oth) hz hn hg
    have a1 : x = shv g n := a1
    subst a1
    have k := r6_I (S := S) hz hn h0 hg hx L 0 FU th cc (mx (mx h (shv g n).toInt64) (nI L).toInt64) lf1 oth1 sm wts wkd (by omega) (FU_lt (by omega))
    rw [F_X6_digest_L134, if_pos (by rw [zq3]; exact leN (by omega) (by omega)), e1, Option.bind_some, sdlb_V hn hg, Option.bind_some, mix_T, Option.bind_some, mix_T, Option.bind_some, zq0]
    exact k
  | succ d ih =>
    intro w fu th cc h lf oth sm wts wkd h1 h2
    obtain ⟨fu, rfl, hf⟩ := fu1 h2
    obtain ⟨⟨x, lf1, oth1⟩, e1, a1⟩ := rbest_I (lf := lf) (oth := oth) (y := nI w) hz hn hg
    have a1 : x = bst g n (nI w) := a1
    subst a1
    have k := ih (w + 1) fu th cc (mx h (bst g n (nI w)).toInt64) lf1 oth1 sm wts wkd (by omega) (by omega)
    rw [F_X6_digest_L134, if_neg (by rw [zq3]; exact nleN (by omega) (by omega)), e1, Option.bind_some, mix_T, Option.bind_some, nI_1]
    exact k
theorem r4_I {n S L : Nat} {g t : Nat → Nat} {z tx : Nat → Int32} (hz : ZI z n g) (hn : n ≤ 11) (h0 : 1 ≤ n) (hg : RG n g) (hx : XI L t tx) : ∀ (d p fu : Nat) (th cc : Int32) (h : Int64) (lf oth sm wts wkd : Nat → Int32), p + d = n → d < fu → Ret (F_X6_digest_L85 (nI S) (nI L) tx z fu th cc h lf oth sm wts wkd (nI p)) (fun r => r.1 = f4 g n L t (d4 (gl g n (ways (cF g n 0) / 2)) d p h)) := by
  have h60 := hx.1
  intro d
  induction d with
  | zero =>
    intro p fu th cc h lf oth sm wts wkd h1 h2
    obtain ⟨fu, rfl, hf⟩ := fu1 h2
    obtain rfl : p = n := by omega
    have hz0 : z ((0 : Int32)).toNatClampNeg = nI p := hz.n
    obtain ⟨lf1, e1, -⟩ := allRows_I (o := lf) hz hn hg
    obtain ⟨⟨x, lf2, oth2, wkd2⟩, e2, a2⟩ := rsteps_I (lf := lf1) (oth := oth) (wkd := wkd) hz hn hg (mid_lt (n := p) (g := g))
    have a2 : x = nI (stN (gl g p (ways (cF g p 0) / 2)) p p g 0) := a2
    subst a2
    have k := r5_I (S := S) hz hn h0 hg hx 3 0 FU th cc (mx h (nI (stN (gl g p (ways (cF g p 0) / 2)) p p g 0)).toInt64) lf2 oth2 sm wts wkd2 (by omega) (FU_lt (by omega))
    rw [F_X6_digest_L85, gd_t _ vin0, hz0, if_pos (leN (by omega) (by omega)), e1, Option.bind_some, gd_t _ nz2, mid_I hn hg, e2, Option.bind_some, mix_T, Option.bind_some, zq0]
    exact k
  | succ d ih =>
    intro p fu th cc h lf oth sm wts wkd h1 h2
    obtain ⟨fu, rfl, hf⟩ := fu1 h2
    have hz0 : z ((0 : Int32)).toNatClampNeg = nI n := hz.n
    obtain ⟨lf1, e1, -⟩ := allRows_I (o := lf) hz hn hg
    obtain ⟨⟨x, lf2, oth2⟩, e2, a2⟩ := rsgo_V (lf := lf1) (oth := oth) hz hn hg (show p < n by omega) (mid_lt (n := n) (g := g))
    have a2 : x = nI (gl g n (ways (cF g n 0) / 2) p) := a2
    subst a2
    have k := ih (p + 1) fu th cc (mx h (nI (gl g n (ways (cF g n 0) / 2) p)).toInt64) lf2 oth2 sm wts wkd (by omega) (by omega)
    rw [F_X6_digest_L85, gd_t _ vin0, hz0, if_neg (nleN (by omega) (by omega)), e1, Option.bind_some, gd_t _ nz2, mid_I hn hg, e2, Option.bind_some, mix_T, Option.bind_some, nI_1]
    exact k
theorem r3_I {n S L : Nat} {g t : Nat → Nat} {z tx : Nat → Int32} (hz : ZI z n g) (hn : n ≤ 11) (h0 : 1 ≤ n) (hg : RG n g) (hx : XI L t tx) : ∀ (d s fu : Nat) (th cc : Int32) (h : Int64) (lf oth sm wts wkd : Nat → Int32), s + d = 6 → d < fu → Ret (F_X6_digest_L61 (nI S) (nI L) tx z fu th cc h lf oth sm wts wkd (nI s)) (fun r => r.1 = f3 g n L t (d3 g n d s h)) := by
  have h60 := hx.1
  intro d
  induction d with
  | zero =>
    intro s fu th cc h lf oth sm wts wkd h1 h2
    obtain ⟨fu, rfl, hf⟩ := fu1 h2
    obtain rfl : s = 6 := by omega
    have k := r4_I (S := S) hz hn h0 hg hx n 0 FU th cc h lf oth sm wts wkd (by omega) (FU_lt (by omega))
    rw [F_X6_digest_L61, if_pos (by rw [zq6]; exact leN (by omega) (by omega)), zq0]
    exact k
  | succ d ih =>
    intro s fu th cc h lf oth sm wts wkd h1 h2
    obtain ⟨fu, rfl, hf⟩ := fu1 h2
    obtain ⟨⟨x, lf1⟩, e1, a1⟩ := rmany_V (lf := lf) hz hn hg (show s < 6 by omega)
    have a1 : x = nI (cF g n 0 s) := a1
    subst a1
    have k := ih (s + 1) fu th cc (mx h (nI (cF g n 0 s)).toInt64) lf1 oth sm wts wkd (by omega) (by omega)
    rw [F_X6_digest_L61, if_neg (by rw [zq6]; exact nleN (by omega) (by omega)), e1, Option.bind_some, mix_T, Option.bind_some, nI_1]
    exact k
theorem r2b_I {n p : Nat} {g : Nat → Nat} {z : Nat → Int32} (hz : ZI z n g) (hn : n ≤ 11) (h0 : 1 ≤ n) (hg : RG n g) (hp : p < n) : ∀ (d w fu : Nat) (cc : Int32) (h : Int64) (lf oth sm wts : Nat → Int32), w + d = 3 → d < fu → Ret (F_X6_mixPlace_L25 z (nI p) fu cc h lf oth sm wts (nI w)) (fun r => r.2.1 = d2e g n p (d2b g n p d w h)) := by
  have hrk := rk_all hg
  intro d
  induction d with
  | zero =>
    intro w fu cc h lf oth sm wts h1 h2
    obtain ⟨fu, rfl, hf⟩ := fu1 h2
    obtain rfl : w = 3 := by omega
    obtain ⟨⟨x, lf1, oth1⟩, e1, a1⟩ := rswapped_I (lf := lf) (a := oth) hn hg hz hp (show 0 < n by omega)
    have a1 : x = nI (rk (gswap g p 0) n n) := a1
    subst a1
    obtain ⟨lf2, oth2, e2⟩ := rankNow_I (o := lf1) (a := oth1) hz hn hg
    obtain ⟨⟨x, lf3, oth3⟩, e3, a3⟩ := rhav_V (a := 0) (b := rk g n n) (s := 0) (lf := lf2) (oth := oth2) hz hn hg hp (by omega) (Nat.zero_le _) (Nat.le_of_lt hrk)
    have a3 : x = nI (hv g n p 0 (rk g n n)) - nI (hv g n p 0 0) := a3
    subst a3
    refine ⟨(cc, d2e g n p h, lf3, oth3, sm, wts), ?_, rfl⟩
    rw [F_X6_mixPlace_L25, if_pos (by rw [zq3]; exact leN (by omega) (by omega)), zq0, e1, Option.bind_some, mix_T, Option.bind_some, e2, Option.bind_some, e3, Option.bind_some, mix_T, Option.bind_some]
    rfl
  | succ d ih =>
    intro w fu cc h lf oth sm wts h1 h2
    obtain ⟨fu, rfl, hf⟩ := fu1 h2
    obtain ⟨⟨x, cc1, lf1, oth1, sm1, wts1⟩, e1, a1⟩ := rblk_V (cd := cc) (lf := lf) (a := oth) (sm := sm) (wts := wts) hz hn hg (show p ≤ n by omega) (show w < 3 by omega)
    have a1 : x = nI (blk g n p w) := a1
    subst a1
    have k := ih (w + 1) fu cc1 (mx h (nI (blk g n p w)).toInt64) lf1 oth1 sm1 wts1 (by omega) (by omega)
    rw [F_X6_mixPlace_L25, if_neg (by rw [zq3]; exact nleN (by omega) (by omega)), e1, Option.bind_some, mix_T, Option.bind_some, nI_1]
    exact k
theorem r2p_I {n p : Nat} {g : Nat → Nat} {z lf oth sm wts : Nat → Int32} {cc : Int32} {h : Int64} (hz : ZI z n g) (hn : n ≤ 11) (h0 : 1 ≤ n) (hg : RG n g) (hp : p < n) : Ret (F_X6_mixPlace cc h lf oth sm wts z (nI p)) (fun r => r.2.1 = d2p g n p h) := by
  have k := r2b_I hz hn h0 hg hp 3 0 FU cc (mx (mx h (nI (g p)).toInt64) (nI (dgt g n p)).toInt64) lf oth sm wts (by omega) (FU_lt (by omega))
  have e1 : z (nI (2 + p)).toNatClampNeg = nI (g p) := by rw [cl_I (by omega)]; exact hz.g p hp
  unfold F_X6_mixPlace
  rw [zq2, nI_add, gd_t _ (vin_I (by omega) (by omega)), e1, mix_T, Option.bind_some, rdig_V hz hn hg hp, Option.bind_some, mix_T, Option.bind_some, zq0]
  exact k
theorem r2_I {n S L : Nat} {g t : Nat → Nat} {z tx : Nat → Int32} (hz : ZI z n g) (hn : n ≤ 11) (h0 : 1 ≤ n) (hg : RG n g) (hx : XI L t tx) : ∀ (d p fu : Nat) (th cc : Int32) (h : Int64) (lf oth sm wts wkd : Nat → Int32), p + d = n → d < fu → Ret (F_X6_digest_L38 (nI S) (nI L) tx z fu th cc h lf oth sm wts wkd (nI p)) (fun r => r.1 = f2 g n L t (d2 g n d p h)) := by
  have h60 := hx.1
  intro d
  induction d with
  | zero =>
    intro p fu th cc h lf oth sm wts wkd h1 h2
    obtain ⟨fu, rfl, hf⟩ := fu1 h2
    obtain rfl : p = n := by omega
    have hz0 : z ((0 : Int32)).toNatClampNeg = nI p := hz.n
    have k := r3_I (S := S) hz hn h0 hg hx 6 0 FU th cc h lf oth sm wts wkd (by omega) (FU_lt (by omega))
    rw [F_X6_digest_L38, gd_t _ vin0, hz0, if_pos (leN (by omega) (by omega)), zq0]
    exact k
  | succ d ih =>
    intro p fu th cc h lf oth sm wts wkd h1 h2
    obtain ⟨fu, rfl, hf⟩ := fu1 h2
    have hz0 : z ((0 : Int32)).toNatClampNeg = nI n := hz.n
    obtain ⟨⟨cc1, x, lf1, oth1, sm1, wts1⟩, e1, a1⟩ := r2p_I (cc := cc) (h := h) (lf := lf) (oth := oth) (sm := sm) (wts := wts) hz hn h0 hg (show p < n by omega)
    have a1 : x = d2p g n p h := a1
    subst a1
    have k := ih (p + 1) fu th cc1 (d2p g n p h) lf1 oth1 sm1 wts1 wkd (by omega) (by omega)
    rw [F_X6_digest_L38, gd_t _ vin0, hz0, if_neg (nleN (by omega) (by omega)), e1, Option.bind_some, nI_1]
    exact k
theorem r1_I {n S L : Nat} {g t : Nat → Nat} {z tx : Nat → Int32} (hz : ZI z n g) (hn : n ≤ 11) (h0 : 1 ≤ n) (hg : RG n g) (hx : XI L t tx) : ∀ (d w fu : Nat) (th cc : Int32) (h : Int64) (lf oth sm wts wkd : Nat → Int32), w + d = 14 → d < fu → Ret (F_X6_digest_L14 (nI S) (nI L) tx z fu th cc h lf oth sm wts wkd (nI w)) (fun r => r.1 = f1 g n L t (d1 g n (z 1) S d w h)) := by
  have h60 := hx.1
  intro d
  induction d with
  | zero =>
    intro w fu th cc h lf oth sm wts wkd h1 h2
    obtain ⟨fu, rfl, hf⟩ := fu1 h2
    obtain rfl : w = 14 := by omega
    have k := r2_I (S := S) hz hn h0 hg hx n 0 FU th cc h lf oth sm wts wkd (by omega) (FU_lt (by omega))
    rw [F_X6_digest_L14, if_pos (by rw [zq14]; exact leN (by omega) (by omega)), zq0]
    exact k
  | succ d ih =>
    intro w fu th cc h lf oth sm wts wkd h1 h2
    obtain ⟨fu, rfl, hf⟩ := fu1 h2
    obtain ⟨⟨x, cc1, lf1, oth1, sm1, wts1⟩, e1, a1⟩ := rcnt_V (S := S) (cc := cc) (lf := lf) (oth := oth) (sm := sm) (wts := wts) hz h0 hn hg (show w < 14 by omega)
    have a1 : x = cnv g n (z 1) S w := a1
    subst a1
    have k := ih (w + 1) fu th cc1 (mx h (cnv g n (z 1) S w).toInt64) lf1 oth1 sm1 wts1 wkd (by omega) (by omega)
    rw [F_X6_digest_L14, if_neg (by rw [zq14]; exact nleN (by omega) (by omega)), e1, Option.bind_some, mix_T, Option.bind_some, nI_1]
    exact k
theorem ok_digest {X : XS} {M : MS} (h : RelX X M) : Ok_digest RelX X M := by
  refine RelX_e (P := fun X M => Ok_digest RelX X M) h ?_
  intro n g S L t rs wl ws ql qs bt bo mf wg ic al st tc sl th cc rd op hash z hi tx lf oth sm wts sg wkd h0 hn hg hr hz hS hx1 hx2 hR
  have hN := N_11 hn hg
  have hS6 := hR.1
  obtain ⟨r5, e5, a5, hS1⟩ := c1_I (gone := z 1) (S := S) hn h0 hg hr hx1 14 0 FU 2579 bt bo ql qs al ic mf st wg wl ws (by omega) (FU_lt (by omega)) hS
  obtain ⟨r6, e6, a6⟩ := r1_I (S := S) hz hn h0 hg hx2 14 0 FU (nI 0) cc 2579 lf oth sm wts wkd (by omega) (FU_lt (by omega))
  have e5' : F_X5_digest (z 1) bt bo ql qs (nI n) rs (nI S) al ic mf st wg (nI L) tc wl ws = some r5 := by
    unfold F_X5_digest
    rw [zq0]
    exact e5
  have e6' : F_X6_digest (nI S) (nI L) th cc hash lf oth sm tx wts wkd z = some r6 := by
    unfold F_X6_digest
    rw [zq0]
    exact e6
  exact ⟨_, _, _, mapR e6' a6, mapR e5' a5, RelX_k n g S L t h0 hn hg rfl hr hz rfl hS1 rfl rfl hx1 hx2 rfl rfl hR⟩
