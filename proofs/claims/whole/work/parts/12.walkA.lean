abbrev wd_X0_total (cI : ClassId) (a_t a_often : Nat) (c_total : Int32) : va_W := [(a_t, .inr (0, [.ref a_often, .int c_total]))]
def rm_X0_total : Room := { frames := 0, cells := 0, slots := 0, locals := 0 }
set_option maxHeartbeats 4000000 in
set_option maxRecDepth 100000 in
theorem c_X0_total (l : Launch) (D : va_G) (cI : ClassId) (a_t a_often : Nat) (sz : Nat) (c_total : Int32) (o : Int32) (hF : F_X0_total c_total = some o) : Met l yX0_total (Cond.code yX0_total cX0_total 1 (some .int) :: WL) rm_X0_total (preM D [(cI, .int)] (wd_X0_total cI a_t a_often c_total) sz [.ref a_t]) (postI D o (wd_X0_total cI a_t a_often c_total) (wd_X0_total cI a_t a_often c_total) sz) 0 0 (va_A (wd_X0_total cI a_t a_often c_total) sz) := by
  refine mofI (by decide +kernel) (Nat.le_of_ble_eq_true rfl) ?_
  intro p e s m args below meth c Q A ls hx hb hml hown hts hK hP hD hS hA hG hl hret hsz0
  have hl : lv_has ls 1 [(0, .ref a_t)] := hl
  unfold F_X0_total at hF
  have hP : va_P D vwCl (wd_X0_total cI a_t a_often c_total) s.heap := hP
  obtain ⟨H, hH⟩ : ∃ H, H = s.heap := ⟨_, rfl⟩
  rw [← hH]
  rw [← hH] at hP
  obtain ⟨locs, hlo⟩ : ∃ z : List Loc, z = [] := ⟨_, rfl⟩
  rw [← hlo]
  have hS : va_S A s.heap H locs := by rw [hH, hlo]; exact hS
  refine lv_aload_n hx hb dX0_total_0 rfl (lv_at hl 0 rfl) ?_
  refine get_X0_15 hx hb hts hown hK hP 0 rfl rfl dX0_total_1 ?_
  have ho := Option.some.inj hF
  exact hret H locs ls 4 c_total _ hP hS rfl ho dX0_total_4
abbrev wd_X0_of (cI : ClassId) (a_t a_often : Nat) (c_total : Int32) (c_often : Nat → Int32) : va_W := [(a_t, .inr (0, [.ref a_often, .int c_total])), (a_often, .inl (cI, 6, .inl c_often))]
def rm_X0_of : Room := { frames := 0, cells := 0, slots := 0, locals := 0 }
set_option maxHeartbeats 4000000 in
set_option maxRecDepth 100000 in
theorem c_X0_of (l : Launch) (D : va_G) (cI : ClassId) (a_t a_often : Nat) (sz : Nat) (c_total : Int32) (c_often : Nat → Int32) (x1 : Int32) (o : Int32) (hF : F_X0_of c_often x1 = some o) : Met l yX0_of (Cond.code yX0_of cX0_of 2 (some .int) :: WL) rm_X0_of (preM D [(cI, .int)] (wd_X0_of cI a_t a_often c_total c_often) sz [.ref a_t, .int x1]) (postI D o (wd_X0_of cI a_t a_often c_total c_often) (wd_X0_of cI a_t a_often c_total c_often) sz) 0 0 (va_A (wd_X0_of cI a_t a_often c_total c_often) sz) := by
  refine mofI (by decide +kernel) (Nat.le_of_ble_eq_true rfl) ?_
  intro p e s m args below meth c Q A ls hx hb hml hown hts hK hP hD hS hA hG hl hret hsz0
  have hl : lv_has ls 2 [(0, .ref a_t), (1, .int x1)] := hl
  unfold F_X0_of at hF
  have hP : va_P D vwCl (wd_X0_of cI a_t a_often c_total c_often) s.heap := hP
  obtain ⟨H, hH⟩ : ∃ H, H = s.heap := ⟨_, rfl⟩
  rw [← hH]
  rw [← hH] at hP
  obtain ⟨locs, hlo⟩ : ∃ z : List Loc, z = [] := ⟨_, rfl⟩
  rw [← hlo]
  have hS : va_S A s.heap H locs := by rw [hH, hlo]; exact hS
  refine lv_iload_n hx hb dX0_of_0 rfl (lv_at hl 1 rfl) ?_
  refine lv_if_lt (tgt := 19) hx hb dX0_of_1 (by decide) (fun k1 => ?_) (fun k1 => ?_)
  · replace hF := (if_pos k1).symm.trans hF
    refine lv_iconst (v := 0) hx hb dX0_of_19 (by decide) ?_
    have ho := Option.some.inj hF
    exact hret H locs ls 20 (0 : Int32) _ hP hS rfl ho dX0_of_20
  · replace hF := (if_neg k1).symm.trans hF
    refine lv_iload_n hx hb dX0_of_4 rfl (lv_at hl 1 rfl) ?_
    refine lv_bipush (v := 6) hx hb dX0_of_5 (by decide) ?_
    refine lv_icmp_ge (tgt := 19) hx hb dX0_of_7 (by decide) (fun k7 => ?_) (fun k7 => ?_)
    · replace hF := (if_pos k7).symm.trans hF
      refine lv_iconst (v := 0) hx hb dX0_of_19 (by decide) ?_
      have ho := Option.some.inj hF
      exact hret H locs ls 20 (0 : Int32) _ hP hS rfl ho dX0_of_20
    · replace hF := (if_neg k7).symm.trans hF
      refine lv_aload_n hx hb dX0_of_10 rfl (lv_at hl 0 rfl) ?_
      refine get_X0_9 hx hb hts hown hK hP 0 rfl rfl dX0_of_11 ?_
      refine lv_iload_n hx hb dX0_of_14 rfl (lv_at hl 1 rfl) ?_
      obtain ⟨g15, hF⟩ := gdb hF
      refine va_iald hx hb hK hP 1 0 rfl rfl (vinb g15) dX0_of_15 ?_
      refine lv_goto (tgt := 20) hx hb dX0_of_16 (by decide) ?_
      have ho := Option.some.inj hF
      exact hret H locs ls 20 (c_often (x1).toNatClampNeg) _ hP hS rfl ho dX0_of_20
abbrev wd_X0_add (cI : ClassId) (a_t a_often : Nat) (c_total : Int32) (c_often : Nat → Int32) : va_W := [(a_t, .inr (0, [.ref a_often, .int c_total])), (a_often, .inl (cI, 6, .inl c_often))]
def rm_X0_add : Room := { frames := 0, cells := 0, slots := 0, locals := 0 }
set_option maxHeartbeats 4000000 in
set_option maxRecDepth 100000 in
theorem c_X0_add (l : Launch) (D : va_G) (cI : ClassId) (a_t a_often : Nat) (sz : Nat) (c_total : Int32) (c_often : Nat → Int32) (x1 : Int32) (o : Int32 × (Nat → Int32)) (hF : F_X0_add c_total c_often x1 = some o) : Met l yX0_add (Cond.code yX0_add cX0_add 2 none :: WL) rm_X0_add (preM D [(cI, .int)] (wd_X0_add cI a_t a_often c_total c_often) sz [.ref a_t, .int x1]) (postV D (wd_X0_add cI a_t a_often o.1 o.2) (wd_X0_add cI a_t a_often c_total c_often) sz) 0 0 (va_A (wd_X0_add cI a_t a_often c_total c_often) sz) := by
  refine mofV (by decide +kernel) (Nat.le_of_ble_eq_true rfl) ?_
  intro p e s m args below meth c Q A ls hx hb hml hown hts hK hP hD hS hA hG hl hret hsz0
  have hl : lv_has ls 2 [(0, .ref a_t), (1, .int x1)] := hl
  unfold F_X0_add at hF
  have hP : va_P D vwCl (wd_X0_add cI a_t a_often c_total c_often) s.heap := hP
  obtain ⟨H, hH⟩ : ∃ H, H = s.heap := ⟨_, rfl⟩
  rw [← hH]
  rw [← hH] at hP
  obtain ⟨locs, hlo⟩ : ∃ z : List Loc, z = [] := ⟨_, rfl⟩
  rw [← hlo]
  have hS : va_S A s.heap H locs := by rw [hH, hlo]; exact hS
  refine lv_iload_n hx hb dX0_add_0 rfl (lv_at hl 1 rfl) ?_
  refine lv_if_lt (tgt := 30) hx hb dX0_add_1 (by decide) (fun k1 => ?_) (fun k1 => ?_)
  · replace hF := (if_pos k1).symm.trans hF
    have ho := Option.some.inj hF
    exact hret H locs ls 30 _ hP hS (by rw [← ho]) dX0_add_30
  · replace hF := (if_neg k1).symm.trans hF
    refine lv_iload_n hx hb dX0_add_4 rfl (lv_at hl 1 rfl) ?_
    refine lv_bipush (v := 6) hx hb dX0_add_5 (by decide) ?_
    refine lv_icmp_ge (tgt := 30) hx hb dX0_add_7 (by decide) (fun k7 => ?_) (fun k7 => ?_)
    · replace hF := (if_pos k7).symm.trans hF
      have ho := Option.some.inj hF
      exact hret H locs ls 30 _ hP hS (by rw [← ho]) dX0_add_30
    · replace hF := (if_neg k7).symm.trans hF
      refine lv_aload_n hx hb dX0_add_10 rfl (lv_at hl 0 rfl) ?_
      refine get_X0_9 hx hb hts hown hK hP 0 rfl rfl dX0_add_11 ?_
      refine lv_iload_n hx hb dX0_add_14 rfl (lv_at hl 1 rfl) ?_
      refine lv_dup2_11 hx hb dX0_add_15 rfl rfl ?_
      obtain ⟨g16, hF⟩ := gdb hF
      refine va_iald hx hb hK hP 1 0 rfl rfl (vinb g16) dX0_add_16 ?_
      refine lv_iconst (v := 1) hx hb dX0_add_17 (by decide) ?_
      refine lv_iadd hx hb dX0_add_18 ?_
      obtain ⟨g19, hF⟩ := gdb hF
      refine va_iast hx hb hK hP hD hS 1 0 rfl rfl (vinb g19) dX0_add_19 (fun H locs hP hD hS => ?_)
      have hP : va_P D vwCl (wd_X0_add cI a_t a_often c_total (upd c_often (x1).toNatClampNeg ((c_often (x1).toNatClampNeg) + (1 : Int32)))) H := hP
      have hD : va_D A (wd_X0_add cI a_t a_often c_total (upd c_often (x1).toNatClampNeg ((c_often (x1).toNatClampNeg) + (1 : Int32)))) := hD
      refine lv_aload_n hx hb dX0_add_20 rfl (lv_at hl 0 rfl) ?_
      refine lv_dup hx hb dX0_add_21 rfl ?_
      refine get_X0_15 hx hb hts hown hK hP 0 rfl rfl dX0_add_22 ?_
      refine lv_iconst (v := 1) hx hb dX0_add_25 (by decide) ?_
      refine lv_iadd hx hb dX0_add_26 ?_
      refine put_X0_15 hx hb hts hown hK hP hD hS 0 rfl rfl rfl (Nat.le_of_ble_eq_true rfl) dX0_add_27 (fun H locs hP hD hS => ?_)
      have hP : va_P D vwCl (wd_X0_add cI a_t a_often (c_total + (1 : Int32)) (upd c_often (x1).toNatClampNeg ((c_often (x1).toNatClampNeg) + (1 : Int32)))) H := hP
      have hD : va_D A (wd_X0_add cI a_t a_often (c_total + (1 : Int32)) (upd c_often (x1).toNatClampNeg ((c_often (x1).toNatClampNeg) + (1 : Int32)))) := hD
      have ho := Option.some.inj hF
      exact hret H locs ls 30 _ hP hS (by rw [← ho]) dX0_add_30
abbrev wd_X0_drop (cI : ClassId) (a_t a_often : Nat) (c_total : Int32) (c_often : Nat → Int32) : va_W := [(a_t, .inr (0, [.ref a_often, .int c_total])), (a_often, .inl (cI, 6, .inl c_often))]
def rm_X0_drop : Room := { frames := 0, cells := 0, slots := 0, locals := 0 }
set_option maxHeartbeats 4000000 in
set_option maxRecDepth 100000 in
theorem c_X0_drop (l : Launch) (D : va_G) (cI : ClassId) (a_t a_often : Nat) (sz : Nat) (c_total : Int32) (c_often : Nat → Int32) (x1 : Int32) (o : Int32 × (Nat → Int32)) (hF : F_X0_drop c_total c_often x1 = some o) : Met l yX0_drop (Cond.code yX0_drop cX0_drop 2 none :: WL) rm_X0_drop (preM D [(cI, .int)] (wd_X0_drop cI a_t a_often c_total c_often) sz [.ref a_t, .int x1]) (postV D (wd_X0_drop cI a_t a_often o.1 o.2) (wd_X0_drop cI a_t a_often c_total c_often) sz) 0 0 (va_A (wd_X0_drop cI a_t a_often c_total c_often) sz) := by
  refine mofV (by decide +kernel) (Nat.le_of_ble_eq_true rfl) ?_
  intro p e s m args below meth c Q A ls hx hb hml hown hts hK hP hD hS hA hG hl hret hsz0
  have hl : lv_has ls 2 [(0, .ref a_t), (1, .int x1)] := hl
  unfold F_X0_drop at hF
  have hP : va_P D vwCl (wd_X0_drop cI a_t a_often c_total c_often) s.heap := hP
  obtain ⟨H, hH⟩ : ∃ H, H = s.heap := ⟨_, rfl⟩
  rw [← hH]
  rw [← hH] at hP
  obtain ⟨locs, hlo⟩ : ∃ z : List Loc, z = [] := ⟨_, rfl⟩
  rw [← hlo]
  have hS : va_S A s.heap H locs := by rw [hH, hlo]; exact hS
  refine lv_iload_n hx hb dX0_drop_0 rfl (lv_at hl 1 rfl) ?_
  refine lv_if_lt (tgt := 39) hx hb dX0_drop_1 (by decide) (fun k1 => ?_) (fun k1 => ?_)
  · replace hF := (if_pos k1).symm.trans hF
    have ho := Option.some.inj hF
    exact hret H locs ls 39 _ hP hS (by rw [← ho]) dX0_drop_39
  · replace hF := (if_neg k1).symm.trans hF
    refine lv_iload_n hx hb dX0_drop_4 rfl (lv_at hl 1 rfl) ?_
    refine lv_bipush (v := 6) hx hb dX0_drop_5 (by decide) ?_
    refine lv_icmp_ge (tgt := 39) hx hb dX0_drop_7 (by decide) (fun k7 => ?_) (fun k7 => ?_)
    · replace hF := (if_pos k7).symm.trans hF
      have ho := Option.some.inj hF
      exact hret H locs ls 39 _ hP hS (by rw [← ho]) dX0_drop_39
    · replace hF := (if_neg k7).symm.trans hF
      refine lv_aload_n hx hb dX0_drop_10 rfl (lv_at hl 0 rfl) ?_
      refine get_X0_9 hx hb hts hown hK hP 0 rfl rfl dX0_drop_11 ?_
      refine lv_iload_n hx hb dX0_drop_14 rfl (lv_at hl 1 rfl) ?_
      obtain ⟨g15, hF⟩ := gdb hF
      refine va_iald hx hb hK hP 1 0 rfl rfl (vinb g15) dX0_drop_15 ?_
      refine lv_if_le (tgt := 39) hx hb dX0_drop_16 (by decide) (fun k16 => ?_) (fun k16 => ?_)
      · replace hF := (if_pos k16).symm.trans hF
        have ho := Option.some.inj hF
        exact hret H locs ls 39 _ hP hS (by rw [← ho]) dX0_drop_39
      · replace hF := (if_neg k16).symm.trans hF
        refine lv_aload_n hx hb dX0_drop_19 rfl (lv_at hl 0 rfl) ?_
        refine get_X0_9 hx hb hts hown hK hP 0 rfl rfl dX0_drop_20 ?_
        refine lv_iload_n hx hb dX0_drop_23 rfl (lv_at hl 1 rfl) ?_
        refine lv_dup2_11 hx hb dX0_drop_24 rfl rfl ?_
        obtain ⟨g25, hF⟩ := gdb hF
        refine va_iald hx hb hK hP 1 0 rfl rfl (vinb g25) dX0_drop_25 ?_
        refine lv_iconst (v := 1) hx hb dX0_drop_26 (by decide) ?_
        refine lv_isub hx hb dX0_drop_27 ?_
        obtain ⟨g28, hF⟩ := gdb hF
        refine va_iast hx hb hK hP hD hS 1 0 rfl rfl (vinb g28) dX0_drop_28 (fun H locs hP hD hS => ?_)
        have hP : va_P D vwCl (wd_X0_drop cI a_t a_often c_total (upd c_often (x1).toNatClampNeg ((c_often (x1).toNatClampNeg) - (1 : Int32)))) H := hP
        have hD : va_D A (wd_X0_drop cI a_t a_often c_total (upd c_often (x1).toNatClampNeg ((c_often (x1).toNatClampNeg) - (1 : Int32)))) := hD
        refine lv_aload_n hx hb dX0_drop_29 rfl (lv_at hl 0 rfl) ?_
        refine lv_dup hx hb dX0_drop_30 rfl ?_
        refine get_X0_15 hx hb hts hown hK hP 0 rfl rfl dX0_drop_31 ?_
        refine lv_iconst (v := 1) hx hb dX0_drop_34 (by decide) ?_
        refine lv_isub hx hb dX0_drop_35 ?_
        refine put_X0_15 hx hb hts hown hK hP hD hS 0 rfl rfl rfl (Nat.le_of_ble_eq_true rfl) dX0_drop_36 (fun H locs hP hD hS => ?_)
        have hP : va_P D vwCl (wd_X0_drop cI a_t a_often (c_total - (1 : Int32)) (upd c_often (x1).toNatClampNeg ((c_often (x1).toNatClampNeg) - (1 : Int32)))) H := hP
        have hD : va_D A (wd_X0_drop cI a_t a_often (c_total - (1 : Int32)) (upd c_often (x1).toNatClampNeg ((c_often (x1).toNatClampNeg) - (1 : Int32)))) := hD
        have ho := Option.some.inj hF
        exact hret H locs ls 39 _ hP hS (by rw [← ho]) dX0_drop_39
abbrev wd_X1_length (cI : ClassId) (a_t a_signs : Nat) (c_length : Int32) : va_W := [(a_t, .inr (1, [.ref a_signs, .int c_length]))]
def rm_X1_length : Room := { frames := 0, cells := 0, slots := 0, locals := 0 }
set_option maxHeartbeats 4000000 in
set_option maxRecDepth 100000 in
theorem c_X1_length (l : Launch) (D : va_G) (cI : ClassId) (a_t a_signs : Nat) (sz : Nat) (c_length : Int32) (o : Int32) (hF : F_X1_length c_length = some o) : Met l yX1_length (Cond.code yX1_length cX1_length 1 (some .int) :: WL) rm_X1_length (preM D [(cI, .int)] (wd_X1_length cI a_t a_signs c_length) sz [.ref a_t]) (postI D o (wd_X1_length cI a_t a_signs c_length) (wd_X1_length cI a_t a_signs c_length) sz) 0 0 (va_A (wd_X1_length cI a_t a_signs c_length) sz) := by
  refine mofI (by decide +kernel) (Nat.le_of_ble_eq_true rfl) ?_
  intro p e s m args below meth c Q A ls hx hb hml hown hts hK hP hD hS hA hG hl hret hsz0
  have hl : lv_has ls 1 [(0, .ref a_t)] := hl
  unfold F_X1_length at hF
  have hP : va_P D vwCl (wd_X1_length cI a_t a_signs c_length) s.heap := hP
  obtain ⟨H, hH⟩ : ∃ H, H = s.heap := ⟨_, rfl⟩
  rw [← hH]
  rw [← hH] at hP
  obtain ⟨locs, hlo⟩ : ∃ z : List Loc, z = [] := ⟨_, rfl⟩
  rw [← hlo]
  have hS : va_S A s.heap H locs := by rw [hH, hlo]; exact hS
  refine lv_aload_n hx hb dX1_length_0 rfl (lv_at hl 0 rfl) ?_
  refine get_X1_15 hx hb hts hown hK hP 0 rfl rfl dX1_length_1 ?_
  have ho := Option.some.inj hF
  exact hret H locs ls 4 c_length _ hP hS rfl ho dX1_length_4
abbrev wd_X1_at (cI : ClassId) (a_t a_signs : Nat) (c_length : Int32) (c_signs : Nat → Int32) : va_W := [(a_t, .inr (1, [.ref a_signs, .int c_length])), (a_signs, .inl (cI, 11, .inl c_signs))]
def rm_X1_at : Room := { frames := 0, cells := 0, slots := 0, locals := 0 }
set_option maxHeartbeats 4000000 in
set_option maxRecDepth 100000 in
theorem c_X1_at (l : Launch) (D : va_G) (cI : ClassId) (a_t a_signs : Nat) (sz : Nat) (c_length : Int32) (c_signs : Nat → Int32) (x1 : Int32) (o : Int32) (hF : F_X1_at c_length c_signs x1 = some o) : Met l yX1_at (Cond.code yX1_at cX1_at 2 (some .int) :: WL) rm_X1_at (preM D [(cI, .int)] (wd_X1_at cI a_t a_signs c_length c_signs) sz [.ref a_t, .int x1]) (postI D o (wd_X1_at cI a_t a_signs c_length c_signs) (wd_X1_at cI a_t a_signs c_length c_signs) sz) 0 0 (va_A (wd_X1_at cI a_t a_signs c_length c_signs) sz) := by
  refine mofI (by decide +kernel) (Nat.le_of_ble_eq_true rfl) ?_
  intro p e s m args below meth c Q A ls hx hb hml hown hts hK hP hD hS hA hG hl hret hsz0
  have hl : lv_has ls 2 [(0, .ref a_t), (1, .int x1)] := hl
  unfold F_X1_at at hF
  have hP : va_P D vwCl (wd_X1_at cI a_t a_signs c_length c_signs) s.heap := hP
  obtain ⟨H, hH⟩ : ∃ H, H = s.heap := ⟨_, rfl⟩
  rw [← hH]
  rw [← hH] at hP
  obtain ⟨locs, hlo⟩ : ∃ z : List Loc, z = [] := ⟨_, rfl⟩
  rw [← hlo]
  have hS : va_S A s.heap H locs := by rw [hH, hlo]; exact hS
  refine lv_iload_n hx hb dX1_at_0 rfl (lv_at hl 1 rfl) ?_
  refine lv_if_lt (tgt := 27) hx hb dX1_at_1 (by decide) (fun k1 => ?_) (fun k1 => ?_)
  · replace hF := (if_pos k1).symm.trans hF
    refine lv_iconst (v := 0) hx hb dX1_at_27 (by decide) ?_
    have ho := Option.some.inj hF
    exact hret H locs ls 28 (0 : Int32) _ hP hS rfl ho dX1_at_28
  · replace hF := (if_neg k1).symm.trans hF
    refine lv_iload_n hx hb dX1_at_4 rfl (lv_at hl 1 rfl) ?_
    refine lv_aload_n hx hb dX1_at_5 rfl (lv_at hl 0 rfl) ?_
    refine get_X1_15 hx hb hts hown hK hP 0 rfl rfl dX1_at_6 ?_
    refine lv_icmp_ge (tgt := 27) hx hb dX1_at_9 (by decide) (fun k9 => ?_) (fun k9 => ?_)
    · replace hF := (if_pos k9).symm.trans hF
      refine lv_iconst (v := 0) hx hb dX1_at_27 (by decide) ?_
      have ho := Option.some.inj hF
      exact hret H locs ls 28 (0 : Int32) _ hP hS rfl ho dX1_at_28
    · replace hF := (if_neg k9).symm.trans hF
      refine lv_iload_n hx hb dX1_at_12 rfl (lv_at hl 1 rfl) ?_
      refine lv_bipush (v := 11) hx hb dX1_at_13 (by decide) ?_
      refine lv_icmp_ge (tgt := 27) hx hb dX1_at_15 (by decide) (fun k15 => ?_) (fun k15 => ?_)
      · replace hF := (if_pos k15).symm.trans hF
        refine lv_iconst (v := 0) hx hb dX1_at_27 (by decide) ?_
        have ho := Option.some.inj hF
        exact hret H locs ls 28 (0 : Int32) _ hP hS rfl ho dX1_at_28
      · replace hF := (if_neg k15).symm.trans hF
        refine lv_aload_n hx hb dX1_at_18 rfl (lv_at hl 0 rfl) ?_
        refine get_X1_9 hx hb hts hown hK hP 0 rfl rfl dX1_at_19 ?_
        refine lv_iload_n hx hb dX1_at_22 rfl (lv_at hl 1 rfl) ?_
        obtain ⟨g23, hF⟩ := gdb hF
        refine va_iald hx hb hK hP 1 0 rfl rfl (vinb g23) dX1_at_23 ?_
        refine lv_goto (tgt := 28) hx hb dX1_at_24 (by decide) ?_
        have ho := Option.some.inj hF
        exact hret H locs ls 28 (c_signs (x1).toNatClampNeg) _ hP hS rfl ho dX1_at_28
abbrev wd_X0_fill (cI : ClassId) (a_t a_p a_often a_p_signs : Nat) (c_total : Int32) (c_often : Nat → Int32) (c_p_length : Int32) (c_p_signs : Nat → Int32) : va_W := [(a_t, .inr (0, [.ref a_often, .int c_total])), (a_often, .inl (cI, 6, .inl c_often)), (a_p, .inr (1, [.ref a_p_signs, .int c_p_length])), (a_p_signs, .inl (cI, 11, .inl c_p_signs))]
def rm_X0_fill : Room := { frames := 1, cells := 0, slots := 0, locals := 21 }
set_option maxHeartbeats 4000000 in
set_option maxRecDepth 100000 in
theorem c_X0_fill (l : Launch) (D : va_G) (cI : ClassId) (a_t a_p a_often a_p_signs : Nat) (sz : Nat) (c_total : Int32) (c_often : Nat → Int32) (c_p_length : Int32) (c_p_signs : Nat → Int32) (x2 : Int32) (o : Int32 × (Nat → Int32)) (hF : F_X0_fill c_total c_often c_p_length c_p_signs x2 = some o) : Met l yX0_fill (Cond.code yX0_fill cX0_fill 4 none :: WL) rm_X0_fill (preM D [(cI, .int)] (wd_X0_fill cI a_t a_p a_often a_p_signs c_total c_often c_p_length c_p_signs) sz [.ref a_t, .ref a_p, .int x2]) (postV D (wd_X0_fill cI a_t a_p a_often a_p_signs o.1 o.2 c_p_length c_p_signs) (wd_X0_fill cI a_t a_p a_often a_p_signs c_total c_often c_p_length c_p_signs) sz) 0 0 (va_A (wd_X0_fill cI a_t a_p a_often a_p_signs c_total c_often c_p_length c_p_signs) sz) := by
  refine mofV (by decide +kernel) (Nat.le_of_ble_eq_true rfl) ?_
  intro p e s m args below meth c Q A ls hx hb hml hown hts hK hP hD hS hA hG hl hret hsz0
  have hl : lv_has ls 4 [(0, .ref a_t), (1, .ref a_p), (2, .int x2)] := hl
  have K28 : ∀ (n28 : Nat) (c_total : Int32) (c_often : Nat → Int32) (x3 : Int32) (H : Heap) (locs : List Loc) (ls : Array Slot), va_P D vwCl (wd_X0_fill cI a_t a_p a_often a_p_signs c_total c_often c_p_length c_p_signs) H → va_D A (wd_X0_fill cI a_t a_p a_often a_p_signs c_total c_often c_p_length c_p_signs) → va_S A s.heap H locs → lv_has ls 4 [(0, .ref a_t), (1, .ref a_p), (3, .int x3)] → F_X0_fill_L28 c_p_length c_p_signs x2 n28 c_total c_often x3 = some o → W p l e rm_X0_fill s m args below meth c H locs 0 0 Q (F0 m 28 ls []) := by
    intro n28
    induction n28 with
    | zero => intro c_total c_often x3 H locs ls hP hD hS hl hF; exact nos hF
    | succ n28 ih28 =>
      intro c_total c_often x3 H locs ls hP hD hS hl hF
      rw [F_X0_fill_L28] at hF
      refine lv_iload_n hx hb dX0_fill_28 rfl (lv_at hl 2 rfl) ?_
      refine lv_aload_n hx hb dX0_fill_29 rfl (lv_at hl 1 rfl) ?_
      obtain ⟨r30, hr30, hF⟩ := opb hF
      refine kVI (As := []) (rest := [.int x3]) (ws' := (wd_X0_fill cI a_t a_p a_often a_p_signs c_total c_often c_p_length c_p_signs)) ⟨hx, hb, hml, hown, hts⟩ (c_X1_length l D cI a_p a_p_signs H.size c_p_length  r30 hr30) (cwV 0 hts mw_X0_19 rfl rfl rfl hd_X1_length ⟨Nat.le_of_ble_eq_true rfl, Nat.le_of_ble_eq_true rfl⟩) hS hA hG hK hP hD [2] rfl rfl rfl rfl rfl ⟨Nat.zero_le _, Nat.zero_le _⟩ 1 2 rfl rfl rfl rfl hl.1 rfl (Nat.le_of_ble_eq_true rfl) dX0_fill_30 (fun H locs hP hD hS => ?_)
      refine lv_icmp_ge (tgt := 51) hx hb dX0_fill_33 (by decide) (fun k33 => ?_) (fun k33 => ?_)
      · replace hF := (if_pos k33).symm.trans hF
        have ho := Option.some.inj hF
        exact hret H locs ls 51 _ hP hS (by rw [← ho]) dX0_fill_51
      · replace hF := (if_neg k33).symm.trans hF
        refine lv_aload_n hx hb dX0_fill_36 rfl (lv_at hl 0 rfl) ?_
        refine lv_aload_n hx hb dX0_fill_37 rfl (lv_at hl 1 rfl) ?_
        refine lv_iload_n hx hb dX0_fill_38 rfl (lv_at hl 2 rfl) ?_
        obtain ⟨r39, hr39, hF⟩ := opb hF
        refine kVI (As := [.int x3]) (rest := [.ref a_t]) (ws' := (wd_X0_fill cI a_t a_p a_often a_p_signs c_total c_often c_p_length c_p_signs)) ⟨hx, hb, hml, hown, hts⟩ (c_X1_at l D cI a_p a_p_signs H.size c_p_length c_p_signs x3 r39 hr39) (cwV 1 hts mw_X0_25 rfl rfl rfl hd_X1_at ⟨Nat.le_of_ble_eq_true rfl, Nat.le_of_ble_eq_true rfl⟩) hS hA hG hK hP hD [2, 3] rfl rfl rfl rfl rfl ⟨Nat.zero_le _, Nat.zero_le _⟩ 1 2 rfl rfl rfl rfl hl.1 rfl (Nat.le_of_ble_eq_true rfl) dX0_fill_39 (fun H locs hP hD hS => ?_)
        obtain ⟨r42, hr42, hF⟩ := opb hF
        refine kVV (As := [.int r39]) (rest := []) (ws' := (wd_X0_fill cI a_t a_p a_often a_p_signs r42.1 r42.2 c_p_length c_p_signs)) ⟨hx, hb, hml, hown, hts⟩ (c_X0_add l D cI a_t a_often H.size c_total c_often r39 r42 hr42) (cwV 1 hts mw_X0_29 rfl rfl rfl hd_X0_add ⟨Nat.le_of_ble_eq_true rfl, Nat.le_of_ble_eq_true rfl⟩) hS hA hG hK hP hD [0, 1] rfl rfl rfl rfl rfl ⟨Nat.zero_le _, Nat.zero_le _⟩ 0 0 rfl rfl rfl rfl hl.1 rfl (Nat.le_of_ble_eq_true rfl) dX0_fill_42 (fun H locs hP hD hS => ?_)
        refine lv_iinc (v := x3 + 1) (lv' := [(3, .int (x3 + 1)), (0, .ref a_t), (1, .ref a_p)]) hx hb dX0_fill_45 hl (k := 2) rfl rfl (by decide) rfl (fun ls hl => ?_)
        refine lv_goto (tgt := 28) hx hb dX0_fill_48 (by decide) ?_
        exact ih28 r42.1 r42.2 (x3 + 1) H locs ls hP hD hS (lv_sub hl [1, 2, 0] rfl) hF
  have K7 : ∀ (n7 : Nat) (c_total : Int32) (c_often : Nat → Int32) (x3 : Int32) (H : Heap) (locs : List Loc) (ls : Array Slot), va_P D vwCl (wd_X0_fill cI a_t a_p a_often a_p_signs c_total c_often c_p_length c_p_signs) H → va_D A (wd_X0_fill cI a_t a_p a_often a_p_signs c_total c_often c_p_length c_p_signs) → va_S A s.heap H locs → lv_has ls 4 [(0, .ref a_t), (1, .ref a_p), (2, .int x2), (3, .int x3)] → F_X0_fill_L7 c_p_length c_p_signs x2 n7 c_total c_often x3 = some o → W p l e rm_X0_fill s m args below meth c H locs 0 0 Q (F0 m 7 ls []) := by
    intro n7
    induction n7 with
    | zero => intro c_total c_often x3 H locs ls hP hD hS hl hF; exact nos hF
    | succ n7 ih7 =>
      intro c_total c_often x3 H locs ls hP hD hS hl hF
      rw [F_X0_fill_L7] at hF
      refine lv_iload_n hx hb dX0_fill_7 rfl (lv_at hl 3 rfl) ?_
      refine lv_bipush (v := 6) hx hb dX0_fill_8 (by decide) ?_
      refine lv_icmp_ge (tgt := 26) hx hb dX0_fill_10 (by decide) (fun k10 => ?_) (fun k10 => ?_)
      · replace hF := (if_pos k10).symm.trans hF
        refine lv_iload_n hx hb dX0_fill_26 rfl (lv_at hl 2 rfl) ?_
        refine lv_istore_n (lv' := [(3, .int x2), (0, .ref a_t), (1, .ref a_p), (2, .int x2)]) hx hb dX0_fill_27 rfl hl (by decide) rfl (fun ls hl => ?_)
        exact K28 FU c_total c_often x2 H locs ls hP hD hS (lv_sub hl [1, 2, 0] rfl) hF
      · replace hF := (if_neg k10).symm.trans hF
        refine lv_aload_n hx hb dX0_fill_13 rfl (lv_at hl 0 rfl) ?_
        refine get_X0_9 hx hb hts hown hK hP 0 rfl rfl dX0_fill_14 ?_
        refine lv_iload_n hx hb dX0_fill_17 rfl (lv_at hl 3 rfl) ?_
        refine lv_iconst (v := 0) hx hb dX0_fill_18 (by decide) ?_
        obtain ⟨g19, hF⟩ := gdb hF
        refine va_iast hx hb hK hP hD hS 1 0 rfl rfl (vinb g19) dX0_fill_19 (fun H locs hP hD hS => ?_)
        have hP : va_P D vwCl (wd_X0_fill cI a_t a_p a_often a_p_signs c_total (upd c_often (x3).toNatClampNeg (0 : Int32)) c_p_length c_p_signs) H := hP
        have hD : va_D A (wd_X0_fill cI a_t a_p a_often a_p_signs c_total (upd c_often (x3).toNatClampNeg (0 : Int32)) c_p_length c_p_signs) := hD
        refine lv_iinc (v := x3 + 1) (lv' := [(3, .int (x3 + 1)), (0, .ref a_t), (1, .ref a_p), (2, .int x2)]) hx hb dX0_fill_20 hl (k := 3) rfl rfl (by decide) rfl (fun ls hl => ?_)
        refine lv_goto (tgt := 7) hx hb dX0_fill_23 (by decide) ?_
        exact ih7 c_total (upd c_often (x3).toNatClampNeg (0 : Int32)) (x3 + 1) H locs ls hP hD hS (lv_sub hl [1, 2, 3, 0] rfl) hF
  unfold F_X0_fill at hF
  have hP : va_P D vwCl (wd_X0_fill cI a_t a_p a_often a_p_signs c_total c_often c_p_length c_p_signs) s.heap := hP
  obtain ⟨H, hH⟩ : ∃ H, H = s.heap := ⟨_, rfl⟩
  rw [← hH]
  rw [← hH] at hP
  obtain ⟨locs, hlo⟩ : ∃ z : List Loc, z = [] := ⟨_, rfl⟩
  rw [← hlo]
  have hS : va_S A s.heap H locs := by rw [hH, hlo]; exact hS
  refine lv_aload_n hx hb dX0_fill_0 rfl (lv_at hl 0 rfl) ?_
  refine lv_iconst (v := 0) hx hb dX0_fill_1 (by decide) ?_
  refine put_X0_15 hx hb hts hown hK hP hD hS 0 rfl rfl rfl (Nat.le_of_ble_eq_true rfl) dX0_fill_2 (fun H locs hP hD hS => ?_)
  have hP : va_P D vwCl (wd_X0_fill cI a_t a_p a_often a_p_signs (0 : Int32) c_often c_p_length c_p_signs) H := hP
  have hD : va_D A (wd_X0_fill cI a_t a_p a_often a_p_signs (0 : Int32) c_often c_p_length c_p_signs) := hD
  refine lv_iconst (v := 0) hx hb dX0_fill_5 (by decide) ?_
  refine lv_istore_n (lv' := [(3, .int (0 : Int32)), (0, .ref a_t), (1, .ref a_p), (2, .int x2)]) hx hb dX0_fill_6 rfl hl (by decide) rfl (fun ls hl => ?_)
  exact K7 FU (0 : Int32) c_often (0 : Int32) H locs ls hP hD hS (lv_sub hl [1, 2, 3, 0] rfl) hF
abbrev wd_X0_below (cI : ClassId) (a_t a_often : Nat) (c_total : Int32) (c_often : Nat → Int32) : va_W := [(a_t, .inr (0, [.ref a_often, .int c_total])), (a_often, .inl (cI, 6, .inl c_often))]
def rm_X0_below : Room := { frames := 1, cells := 0, slots := 0, locals := 21 }
set_option maxHeartbeats 4000000 in
set_option maxRecDepth 100000 in
theorem c_X0_below (l : Launch) (D : va_G) (cI : ClassId) (a_t a_often : Nat) (sz : Nat) (c_total : Int32) (c_often : Nat → Int32) (x1 : Int32) (o : Int32) (hF : F_X0_below c_often x1 = some o) : Met l yX0_below (Cond.code yX0_below cX0_below 4 (some .int) :: WL) rm_X0_below (preM D [(cI, .int)] (wd_X0_below cI a_t a_often c_total c_often) sz [.ref a_t, .int x1]) (postI D o (wd_X0_below cI a_t a_often c_total c_often) (wd_X0_below cI a_t a_often c_total c_often) sz) 0 0 (va_A (wd_X0_below cI a_t a_often c_total c_often) sz) := by
  refine mofI (by decide +kernel) (Nat.le_of_ble_eq_true rfl) ?_
  intro p e s m args below meth c Q A ls hx hb hml hown hts hK hP hD hS hA hG hl hret hsz0
  have hl : lv_has ls 4 [(0, .ref a_t), (1, .int x1)] := hl
  have K4 : ∀ (n4 : Nat) (x2 : Int32) (x3 : Int32) (H : Heap) (locs : List Loc) (ls : Array Slot), va_P D vwCl (wd_X0_below cI a_t a_often c_total c_often) H → va_D A (wd_X0_below cI a_t a_often c_total c_often) → va_S A s.heap H locs → lv_has ls 4 [(0, .ref a_t), (1, .int x1), (2, .int x2), (3, .int x3)] → F_X0_below_L4 c_often x1 n4 x2 x3 = some o → W p l e rm_X0_below s m args below meth c H locs 0 0 Q (F0 m 4 ls []) := by
    intro n4
    induction n4 with
    | zero => intro x2 x3 H locs ls hP hD hS hl hF; exact nos hF
    | succ n4 ih4 =>
      intro x2 x3 H locs ls hP hD hS hl hF
      rw [F_X0_below_L4] at hF
      refine lv_iload_n hx hb dX0_below_4 rfl (lv_at hl 3 rfl) ?_
      refine lv_iload_n hx hb dX0_below_5 rfl (lv_at hl 1 rfl) ?_
      refine lv_icmp_ge (tgt := 23) hx hb dX0_below_6 (by decide) (fun k6 => ?_) (fun k6 => ?_)
      · replace hF := (if_pos k6).symm.trans hF
        refine lv_iload_n hx hb dX0_below_23 rfl (lv_at hl 2 rfl) ?_
        have ho := Option.some.inj hF
        exact hret H locs ls 24 x2 _ hP hS rfl ho dX0_below_24
      · replace hF := (if_neg k6).symm.trans hF
        refine lv_iload_n hx hb dX0_below_9 rfl (lv_at hl 2 rfl) ?_
        refine lv_aload_n hx hb dX0_below_10 rfl (lv_at hl 0 rfl) ?_
        refine lv_iload_n hx hb dX0_below_11 rfl (lv_at hl 3 rfl) ?_
        obtain ⟨r12, hr12, hF⟩ := opb hF
        refine kVI (As := [.int x3]) (rest := [.int x2]) (ws' := (wd_X0_below cI a_t a_often c_total c_often)) ⟨hx, hb, hml, hown, hts⟩ (c_X0_of l D cI a_t a_often H.size c_total c_often x3 r12 hr12) (cwV 1 hts mw_X0_33 rfl rfl rfl hd_X0_of ⟨Nat.le_of_ble_eq_true rfl, Nat.le_of_ble_eq_true rfl⟩) hS hA hG hK hP hD [0, 1] rfl rfl rfl rfl rfl ⟨Nat.zero_le _, Nat.zero_le _⟩ 0 0 rfl rfl rfl rfl hl.1 rfl (Nat.le_of_ble_eq_true rfl) dX0_below_12 (fun H locs hP hD hS => ?_)
        refine lv_iadd hx hb dX0_below_15 ?_
        refine lv_istore_n (lv' := [(2, .int (x2 + r12)), (0, .ref a_t), (1, .int x1), (3, .int x3)]) hx hb dX0_below_16 rfl hl (by decide) rfl (fun ls hl => ?_)
        refine lv_iinc (v := x3 + 1) (lv' := [(3, .int (x3 + 1)), (2, .int (x2 + r12)), (0, .ref a_t), (1, .int x1)]) hx hb dX0_below_17 hl (k := 3) rfl rfl (by decide) rfl (fun ls hl => ?_)
        refine lv_goto (tgt := 4) hx hb dX0_below_20 (by decide) ?_
        exact ih4 (x2 + r12) (x3 + 1) H locs ls hP hD hS (lv_sub hl [2, 3, 1, 0] rfl) hF
  unfold F_X0_below at hF
  have hP : va_P D vwCl (wd_X0_below cI a_t a_often c_total c_often) s.heap := hP
  obtain ⟨H, hH⟩ : ∃ H, H = s.heap := ⟨_, rfl⟩
  rw [← hH]
  rw [← hH] at hP
  obtain ⟨locs, hlo⟩ : ∃ z : List Loc, z = [] := ⟨_, rfl⟩
  rw [← hlo]
  have hS : va_S A s.heap H locs := by rw [hH, hlo]; exact hS
  refine lv_iconst (v := 0) hx hb dX0_below_0 (by decide) ?_
  refine lv_istore_n (lv' := [(2, .int (0 : Int32)), (0, .ref a_t), (1, .int x1)]) hx hb dX0_below_1 rfl hl (by decide) rfl (fun ls hl => ?_)
  refine lv_iconst (v := 0) hx hb dX0_below_2 (by decide) ?_
  refine lv_istore_n (lv' := [(3, .int (0 : Int32)), (2, .int (0 : Int32)), (0, .ref a_t), (1, .int x1)]) hx hb dX0_below_3 rfl hl (by decide) rfl (fun ls hl => ?_)
  exact K4 FU (0 : Int32) (0 : Int32) H locs ls hP hD hS (lv_sub hl [2, 3, 1, 0] rfl) hF
abbrev wd_X0_unlikeBelow (cI : ClassId) (a_t a_often : Nat) (c_total : Int32) (c_often : Nat → Int32) : va_W := [(a_t, .inr (0, [.ref a_often, .int c_total])), (a_often, .inl (cI, 6, .inl c_often))]
def rm_X0_unlikeBelow : Room := { frames := 1, cells := 0, slots := 0, locals := 21 }
set_option maxHeartbeats 4000000 in
set_option maxRecDepth 100000 in
theorem c_X0_unlikeBelow (l : Launch) (D : va_G) (cI : ClassId) (a_t a_often : Nat) (sz : Nat) (c_total : Int32) (c_often : Nat → Int32) (x1 : Int32) (o : Int32) (hF : F_X0_unlikeBelow c_often x1 = some o) : Met l yX0_unlikeBelow (Cond.code yX0_unlikeBelow cX0_unlikeBelow 4 (some .int) :: WL) rm_X0_unlikeBelow (preM D [(cI, .int)] (wd_X0_unlikeBelow cI a_t a_often c_total c_often) sz [.ref a_t, .int x1]) (postI D o (wd_X0_unlikeBelow cI a_t a_often c_total c_often) (wd_X0_unlikeBelow cI a_t a_often c_total c_often) sz) 0 0 (va_A (wd_X0_unlikeBelow cI a_t a_often c_total c_often) sz) := by
  refine mofI (by decide +kernel) (Nat.le_of_ble_eq_true rfl) ?_
  intro p e s m args below meth c Q A ls hx hb hml hown hts hK hP hD hS hA hG hl hret hsz0
  have hl : lv_has ls 4 [(0, .ref a_t), (1, .int x1)] := hl
  have K4 : ∀ (n4 : Nat) (x2 : Int32) (x3 : Int32) (H : Heap) (locs : List Loc) (ls : Array Slot), va_P D vwCl (wd_X0_unlikeBelow cI a_t a_often c_total c_often) H → va_D A (wd_X0_unlikeBelow cI a_t a_often c_total c_often) → va_S A s.heap H locs → lv_has ls 4 [(0, .ref a_t), (1, .int x1), (2, .int x2), (3, .int x3)] → F_X0_unlikeBelow_L4 c_often x1 n4 x2 x3 = some o → W p l e rm_X0_unlikeBelow s m args below meth c H locs 0 0 Q (F0 m 4 ls []) := by
    intro n4
    induction n4 with
    | zero => intro x2 x3 H locs ls hP hD hS hl hF; exact nos hF
    | succ n4 ih4 =>
      intro x2 x3 H locs ls hP hD hS hl hF
      rw [F_X0_unlikeBelow_L4] at hF
      refine lv_iload_n hx hb dX0_unlikeBelow_4 rfl (lv_at hl 3 rfl) ?_
      refine lv_iload_n hx hb dX0_unlikeBelow_5 rfl (lv_at hl 1 rfl) ?_
      refine lv_icmp_ge (tgt := 31) hx hb dX0_unlikeBelow_6 (by decide) (fun k6 => ?_) (fun k6 => ?_)
      · replace hF := (if_pos k6).symm.trans hF
        refine lv_iload_n hx hb dX0_unlikeBelow_31 rfl (lv_at hl 2 rfl) ?_
        have ho := Option.some.inj hF
        exact hret H locs ls 32 x2 _ hP hS rfl ho dX0_unlikeBelow_32
      · replace hF := (if_neg k6).symm.trans hF
        refine lv_iload_n hx hb dX0_unlikeBelow_9 rfl (lv_at hl 2 rfl) ?_
        refine lv_aload_n hx hb dX0_unlikeBelow_10 rfl (lv_at hl 0 rfl) ?_
        refine lv_iload_n hx hb dX0_unlikeBelow_11 rfl (lv_at hl 3 rfl) ?_
        obtain ⟨r12, hr12, hF⟩ := opb hF
        refine kVI (As := [.int x3]) (rest := [.int x2]) (ws' := (wd_X0_unlikeBelow cI a_t a_often c_total c_often)) ⟨hx, hb, hml, hown, hts⟩ (c_X0_of l D cI a_t a_often H.size c_total c_often x3 r12 hr12) (cwV 1 hts mw_X0_33 rfl rfl rfl hd_X0_of ⟨Nat.le_of_ble_eq_true rfl, Nat.le_of_ble_eq_true rfl⟩) hS hA hG hK hP hD [0, 1] rfl rfl rfl rfl rfl ⟨Nat.zero_le _, Nat.zero_le _⟩ 0 0 rfl rfl rfl rfl hl.1 rfl (Nat.le_of_ble_eq_true rfl) dX0_unlikeBelow_12 (fun H locs hP hD hS => ?_)
        refine lv_if_le (tgt := 22) hx hb dX0_unlikeBelow_15 (by decide) (fun k15 => ?_) (fun k15 => ?_)
        · (try simp only [if_pos k15] at hF)
          refine lv_iconst (v := 0) hx hb dX0_unlikeBelow_22 (by decide) ?_
          refine lv_iadd hx hb dX0_unlikeBelow_23 ?_
          refine lv_istore_n (lv' := [(2, .int (x2 + (0 : Int32))), (0, .ref a_t), (1, .int x1), (3, .int x3)]) hx hb dX0_unlikeBelow_24 rfl hl (by decide) rfl (fun ls hl => ?_)
          refine lv_iinc (v := x3 + 1) (lv' := [(3, .int (x3 + 1)), (2, .int (x2 + (0 : Int32))), (0, .ref a_t), (1, .int x1)]) hx hb dX0_unlikeBelow_25 hl (k := 3) rfl rfl (by decide) rfl (fun ls hl => ?_)
          refine lv_goto (tgt := 4) hx hb dX0_unlikeBelow_28 (by decide) ?_
          exact ih4 (x2 + (0 : Int32)) (x3 + 1) H locs ls hP hD hS (lv_sub hl [2, 3, 1, 0] rfl) hF
        · (try simp only [if_neg k15] at hF)
          refine lv_iconst (v := 1) hx hb dX0_unlikeBelow_18 (by decide) ?_
          refine lv_goto (tgt := 23) hx hb dX0_unlikeBelow_19 (by decide) ?_
          refine lv_iadd hx hb dX0_unlikeBelow_23 ?_
          refine lv_istore_n (lv' := [(2, .int (x2 + (1 : Int32))), (0, .ref a_t), (1, .int x1), (3, .int x3)]) hx hb dX0_unlikeBelow_24 rfl hl (by decide) rfl (fun ls hl => ?_)
          refine lv_iinc (v := x3 + 1) (lv' := [(3, .int (x3 + 1)), (2, .int (x2 + (1 : Int32))), (0, .ref a_t), (1, .int x1)]) hx hb dX0_unlikeBelow_25 hl (k := 3) rfl rfl (by decide) rfl (fun ls hl => ?_)
          refine lv_goto (tgt := 4) hx hb dX0_unlikeBelow_28 (by decide) ?_
          exact ih4 (x2 + (1 : Int32)) (x3 + 1) H locs ls hP hD hS (lv_sub hl [2, 3, 1, 0] rfl) hF
  unfold F_X0_unlikeBelow at hF
  have hP : va_P D vwCl (wd_X0_unlikeBelow cI a_t a_often c_total c_often) s.heap := hP
  obtain ⟨H, hH⟩ : ∃ H, H = s.heap := ⟨_, rfl⟩
  rw [← hH]
  rw [← hH] at hP
  obtain ⟨locs, hlo⟩ : ∃ z : List Loc, z = [] := ⟨_, rfl⟩
  rw [← hlo]
  have hS : va_S A s.heap H locs := by rw [hH, hlo]; exact hS
  refine lv_iconst (v := 0) hx hb dX0_unlikeBelow_0 (by decide) ?_
  refine lv_istore_n (lv' := [(2, .int (0 : Int32)), (0, .ref a_t), (1, .int x1)]) hx hb dX0_unlikeBelow_1 rfl hl (by decide) rfl (fun ls hl => ?_)
  refine lv_iconst (v := 0) hx hb dX0_unlikeBelow_2 (by decide) ?_
  refine lv_istore_n (lv' := [(3, .int (0 : Int32)), (2, .int (0 : Int32)), (0, .ref a_t), (1, .int x1)]) hx hb dX0_unlikeBelow_3 rfl hl (by decide) rfl (fun ls hl => ?_)
  exact K4 FU (0 : Int32) (0 : Int32) H locs ls hP hD hS (lv_sub hl [2, 3, 1, 0] rfl) hF
abbrev wd_X0_factorial (cI : ClassId)  : va_W := []
def rm_X0_factorial : Room := { frames := 0, cells := 0, slots := 0, locals := 0 }
set_option maxHeartbeats 4000000 in
set_option maxRecDepth 100000 in
theorem c_X0_factorial (l : Launch) (D : va_G) (cI : ClassId) (sz : Nat) (x0 : Int32) (o : Int32) (hF : F_X0_factorial x0 = some o) : Met l yX0_factorial (Cond.code yX0_factorial cX0_factorial 1 (some .int) :: WL) rm_X0_factorial (preM D [(cI, .int)] (wd_X0_factorial cI ) sz [.int x0]) (postI D o (wd_X0_factorial cI ) (wd_X0_factorial cI ) sz) 0 0 (va_A (wd_X0_factorial cI ) sz) := by
  refine mofI (by decide +kernel) (Nat.le_of_ble_eq_true rfl) ?_
  intro p e s m args below meth c Q A ls hx hb hml hown hts hK hP hD hS hA hG hl hret hsz0
  have hl : lv_has ls 1 [(0, .int x0)] := hl
  unfold F_X0_factorial at hF
  have hP : va_P D vwCl (wd_X0_factorial cI ) s.heap := hP
  obtain ⟨H, hH⟩ : ∃ H, H = s.heap := ⟨_, rfl⟩
  rw [← hH]
  rw [← hH] at hP
  obtain ⟨locs, hlo⟩ : ∃ z : List Loc, z = [] := ⟨_, rfl⟩
  rw [← hlo]
  have hS : va_S A s.heap H locs := by rw [hH, hlo]; exact hS
  refine lv_iload_n hx hb dX0_factorial_0 rfl (lv_at hl 0 rfl) ?_
  refine lv_if_lt (tgt := 20) hx hb dX0_factorial_1 (by decide) (fun k1 => ?_) (fun k1 => ?_)
  · replace hF := (if_pos k1).symm.trans hF
    refine lv_iconst (v := 0) hx hb dX0_factorial_20 (by decide) ?_
    have ho := Option.some.inj hF
    exact hret H locs ls 21 (0 : Int32) _ hP hS rfl ho dX0_factorial_21
  · replace hF := (if_neg k1).symm.trans hF
    refine lv_iload_n hx hb dX0_factorial_4 rfl (lv_at hl 0 rfl) ?_
    obtain ⟨ft, hZ, hT⟩ := hG.1
    refine va_gets hx hb hZ hS hown (hts _ k1_167) (fun _ h9 => h9) dX0_factorial_5 ?_
    refine va_tlen (v := 12) hx hb hT hS (by decide) dX0_factorial_8 ?_
    refine lv_icmp_ge (tgt := 20) hx hb dX0_factorial_9 (by decide) (fun k9 => ?_) (fun k9 => ?_)
    · replace hF := (if_pos k9).symm.trans hF
      refine lv_iconst (v := 0) hx hb dX0_factorial_20 (by decide) ?_
      have ho := Option.some.inj hF
      exact hret H locs ls 21 (0 : Int32) _ hP hS rfl ho dX0_factorial_21
    · replace hF := (if_neg k9).symm.trans hF
      obtain ⟨ft, hZ, hT⟩ := hG.1
      refine va_gets hx hb hZ hS hown (hts _ k1_167) (fun _ h9 => h9) dX0_factorial_12 ?_
      refine lv_iload_n hx hb dX0_factorial_15 rfl (lv_at hl 0 rfl) ?_
      obtain ⟨g16, hF⟩ := gdb hF
      refine va_ti hx hb hT hS (vinb g16) rfl dX0_factorial_16 ?_
      refine lv_goto (tgt := 21) hx hb dX0_factorial_17 (by decide) ?_
      have ho := Option.some.inj hF
      exact hret H locs ls 21 (kF (x0).toNatClampNeg) _ hP hS rfl ho dX0_factorial_21
abbrev wd_X0_ways (cI : ClassId) (a_t a_often : Nat) (c_total : Int32) (c_often : Nat → Int32) : va_W := [(a_t, .inr (0, [.ref a_often, .int c_total])), (a_often, .inl (cI, 6, .inl c_often))]
def rm_X0_ways : Room := { frames := 1, cells := 0, slots := 0, locals := 20 }
set_option maxHeartbeats 4000000 in
set_option maxRecDepth 100000 in
theorem c_X0_ways (l : Launch) (D : va_G) (cI : ClassId) (a_t a_often : Nat) (sz : Nat) (c_total : Int32) (c_often : Nat → Int32) (o : Int32) (hF : F_X0_ways c_total c_often = some o) : Met l yX0_ways (Cond.code yX0_ways cX0_ways 4 (some .int) :: WL) rm_X0_ways (preM D [(cI, .int)] (wd_X0_ways cI a_t a_often c_total c_often) sz [.ref a_t]) (postI D o (wd_X0_ways cI a_t a_often c_total c_often) (wd_X0_ways cI a_t a_often c_total c_often) sz) 0 0 (va_A (wd_X0_ways cI a_t a_often c_total c_often) sz) := by
  refine mofI (by decide +kernel) (Nat.le_of_ble_eq_true rfl) ?_
  intro p e s m args below meth c Q A ls hx hb hml hown hts hK hP hD hS hA hG hl hret hsz0
  have hl : lv_has ls 4 [(0, .ref a_t)] := hl
  have K10 : ∀ (n10 : Nat) (x1 : Int32) (x2 : Int32) (H : Heap) (locs : List Loc) (ls : Array Slot), va_P D vwCl (wd_X0_ways cI a_t a_often c_total c_often) H → va_D A (wd_X0_ways cI a_t a_often c_total c_often) → va_S A s.heap H locs → lv_has ls 4 [(0, .ref a_t), (1, .int x1), (2, .int x2)] → F_X0_ways_L10 c_total c_often n10 x1 x2 = some o → W p l e rm_X0_ways s m args below meth c H locs 0 0 Q (F0 m 10 ls []) := by
    intro n10
    induction n10 with
    | zero => intro x1 x2 H locs ls hP hD hS hl hF; exact nos hF
    | succ n10 ih10 =>
      intro x1 x2 H locs ls hP hD hS hl hF
      rw [F_X0_ways_L10] at hF
      refine lv_iload_n hx hb dX0_ways_10 rfl (lv_at hl 2 rfl) ?_
      refine lv_bipush (v := 6) hx hb dX0_ways_11 (by decide) ?_
      refine lv_icmp_ge (tgt := 44) hx hb dX0_ways_13 (by decide) (fun k13 => ?_) (fun k13 => ?_)
      · replace hF := (if_pos k13).symm.trans hF
        refine lv_iload_n hx hb dX0_ways_44 rfl (lv_at hl 1 rfl) ?_
        have ho := Option.some.inj hF
        exact hret H locs ls 45 x1 _ hP hS rfl ho dX0_ways_45
      · replace hF := (if_neg k13).symm.trans hF
        refine lv_aload_n hx hb dX0_ways_16 rfl (lv_at hl 0 rfl) ?_
        refine get_X0_9 hx hb hts hown hK hP 0 rfl rfl dX0_ways_17 ?_
        refine lv_iload_n hx hb dX0_ways_20 rfl (lv_at hl 2 rfl) ?_
        obtain ⟨g21, hF⟩ := gdb hF
        refine va_iald hx hb hK hP 1 0 rfl rfl (vinb g21) dX0_ways_21 ?_
        obtain ⟨r22, hr22, hF⟩ := opb hF
        refine kSI (As := [.int (c_often (x2).toNatClampNeg)]) (rest := []) (ws' := (wd_X0_ways cI a_t a_often c_total c_often)) ⟨hx, hb, hml, hown, hts⟩ (c_X0_factorial l D cI  H.size  (c_often (x2).toNatClampNeg) r22 hr22) (va_cwS 1 hts mw_X0_36 rfl rfl rfl hd_X0_factorial ⟨Nat.le_of_ble_eq_true rfl, Nat.le_of_ble_eq_true rfl⟩) hS hA hG hK hP hD [] rfl rfl rfl rfl rfl ⟨Nat.zero_le _, Nat.zero_le _⟩ rfl hl.1 rfl (Nat.le_of_ble_eq_true rfl) dX0_ways_22 (fun H locs hP hD hS => ?_)
        refine lv_istore_n (lv' := [(3, .int r22), (0, .ref a_t), (1, .int x1), (2, .int x2)]) hx hb dX0_ways_25 rfl hl (by decide) rfl (fun ls hl => ?_)
        refine lv_iload_n hx hb dX0_ways_26 rfl (lv_at hl 0 rfl) ?_
        refine lv_if_le (tgt := 36) hx hb dX0_ways_27 (by decide) (fun k27 => ?_) (fun k27 => ?_)
        · replace hF := (if_pos k27).symm.trans hF
          refine lv_iconst (v := 0) hx hb dX0_ways_36 (by decide) ?_
          refine lv_istore_n (lv' := [(1, .int (0 : Int32)), (3, .int r22), (0, .ref a_t), (2, .int x2)]) hx hb dX0_ways_37 rfl hl (by decide) rfl (fun ls hl => ?_)
          refine lv_iinc (v := x2 + 1) (lv' := [(2, .int (x2 + 1)), (1, .int (0 : Int32)), (3, .int r22), (0, .ref a_t)]) hx hb dX0_ways_38 hl (k := 3) rfl rfl (by decide) rfl (fun ls hl => ?_)
          refine lv_goto (tgt := 10) hx hb dX0_ways_41 (by decide) ?_
          exact ih10 (0 : Int32) (x2 + 1) H locs ls hP hD hS (lv_sub hl [3, 1, 0] rfl) hF
        · replace hF := (if_neg k27).symm.trans hF
          refine lv_iload_n hx hb dX0_ways_30 rfl (lv_at hl 2 rfl) ?_
          refine lv_iload_n hx hb dX0_ways_31 rfl (lv_at hl 0 rfl) ?_
          obtain ⟨g32, hF⟩ := gdb hF
          refine lv_idiv hx hb dX0_ways_32 (nzb g32) ?_
          refine lv_goto (tgt := 37) hx hb dX0_ways_33 (by decide) ?_
          refine lv_istore_n (lv' := [(1, .int (x1 / r22)), (3, .int r22), (0, .ref a_t), (2, .int x2)]) hx hb dX0_ways_37 rfl hl (by decide) rfl (fun ls hl => ?_)
          refine lv_iinc (v := x2 + 1) (lv' := [(2, .int (x2 + 1)), (1, .int (x1 / r22)), (3, .int r22), (0, .ref a_t)]) hx hb dX0_ways_38 hl (k := 3) rfl rfl (by decide) rfl (fun ls hl => ?_)
          refine lv_goto (tgt := 10) hx hb dX0_ways_41 (by decide) ?_
          exact ih10 (x1 / r22) (x2 + 1) H locs ls hP hD hS (lv_sub hl [3, 1, 0] rfl) hF
  unfold F_X0_ways at hF
  have hP : va_P D vwCl (wd_X0_ways cI a_t a_often c_total c_often) s.heap := hP
  obtain ⟨H, hH⟩ : ∃ H, H = s.heap := ⟨_, rfl⟩
  rw [← hH]
  rw [← hH] at hP
  obtain ⟨locs, hlo⟩ : ∃ z : List Loc, z = [] := ⟨_, rfl⟩
  rw [← hlo]
  have hS : va_S A s.heap H locs := by rw [hH, hlo]; exact hS
  refine lv_aload_n hx hb dX0_ways_0 rfl (lv_at hl 0 rfl) ?_
  refine get_X0_15 hx hb hts hown hK hP 0 rfl rfl dX0_ways_1 ?_
  obtain ⟨r4, hr4, hF⟩ := opb hF
  refine kSI (As := [.int c_total]) (rest := []) (ws' := (wd_X0_ways cI a_t a_often c_total c_often)) ⟨hx, hb, hml, hown, hts⟩ (c_X0_factorial l D cI  H.size  c_total r4 hr4) (va_cwS 1 hts mw_X0_36 rfl rfl rfl hd_X0_factorial ⟨Nat.le_of_ble_eq_true rfl, Nat.le_of_ble_eq_true rfl⟩) hS hA hG hK hP hD [] rfl rfl rfl rfl rfl ⟨Nat.zero_le _, Nat.zero_le _⟩ rfl hl.1 rfl (Nat.le_of_ble_eq_true rfl) dX0_ways_4 (fun H locs hP hD hS => ?_)
  refine lv_istore_n (lv' := [(1, .int r4), (0, .ref a_t)]) hx hb dX0_ways_7 rfl hl (by decide) rfl (fun ls hl => ?_)
  refine lv_iconst (v := 0) hx hb dX0_ways_8 (by decide) ?_
  refine lv_istore_n (lv' := [(2, .int (0 : Int32)), (1, .int r4), (0, .ref a_t)]) hx hb dX0_ways_9 rfl hl (by decide) rfl (fun ls hl => ?_)
  exact K10 FU r4 (0 : Int32) H locs ls hP hD hS (lv_sub hl [2, 1, 0] rfl) hF
abbrev wd_X0_waysBehind (cI : ClassId) (a_t a_often : Nat) (c_total : Int32) (c_often : Nat → Int32) : va_W := [(a_t, .inr (0, [.ref a_often, .int c_total])), (a_often, .inl (cI, 6, .inl c_often))]
def rm_X0_waysBehind : Room := { frames := 2, cells := 0, slots := 0, locals := 43 }
set_option maxHeartbeats 4000000 in
set_option maxRecDepth 100000 in
theorem c_X0_waysBehind (l : Launch) (D : va_G) (cI : ClassId) (a_t a_often : Nat) (sz : Nat) (c_total : Int32) (c_often : Nat → Int32) (x1 : Int32) (o : Int32 × Int32 × (Nat → Int32)) (hF : F_X0_waysBehind c_total c_often x1 = some o) : Met l yX0_waysBehind (Cond.code yX0_waysBehind cX0_waysBehind 3 (some .int) :: WL) rm_X0_waysBehind (preM D [(cI, .int)] (wd_X0_waysBehind cI a_t a_often c_total c_often) sz [.ref a_t, .int x1]) (postI D o.1 (wd_X0_waysBehind cI a_t a_often o.2.1 o.2.2) (wd_X0_waysBehind cI a_t a_often c_total c_often) sz) 0 0 (va_A (wd_X0_waysBehind cI a_t a_often c_total c_often) sz) := by
  refine mofI (by decide +kernel) (Nat.le_of_ble_eq_true rfl) ?_
  intro p e s m args below meth c Q A ls hx hb hml hown hts hK hP hD hS hA hG hl hret hsz0
  have hl : lv_has ls 3 [(0, .ref a_t), (1, .int x1)] := hl
  unfold F_X0_waysBehind at hF
  have hP : va_P D vwCl (wd_X0_waysBehind cI a_t a_often c_total c_often) s.heap := hP
  obtain ⟨H, hH⟩ : ∃ H, H = s.heap := ⟨_, rfl⟩
  rw [← hH]
  rw [← hH] at hP
  obtain ⟨locs, hlo⟩ : ∃ z : List Loc, z = [] := ⟨_, rfl⟩
  rw [← hlo]
  have hS : va_S A s.heap H locs := by rw [hH, hlo]; exact hS
  refine lv_aload_n hx hb dX0_waysBehind_0 rfl (lv_at hl 0 rfl) ?_
  refine lv_iload_n hx hb dX0_waysBehind_1 rfl (lv_at hl 1 rfl) ?_
  obtain ⟨r2, hr2, hF⟩ := opb hF
  refine kVI (As := [.int x1]) (rest := []) (ws' := (wd_X0_waysBehind cI a_t a_often c_total c_often)) ⟨hx, hb, hml, hown, hts⟩ (c_X0_of l D cI a_t a_often H.size c_total c_often x1 r2 hr2) (cwV 1 hts mw_X0_33 rfl rfl rfl hd_X0_of ⟨Nat.le_of_ble_eq_true rfl, Nat.le_of_ble_eq_true rfl⟩) hS hA hG hK hP hD [0, 1] rfl rfl rfl rfl rfl ⟨Nat.zero_le _, Nat.zero_le _⟩ 0 0 rfl rfl rfl rfl hl.1 rfl (Nat.le_of_ble_eq_true rfl) dX0_waysBehind_2 (fun H locs hP hD hS => ?_)
  refine lv_if_ne (tgt := 10) hx hb dX0_waysBehind_5 (by decide) (fun k5 => ?_) (fun k5 => ?_)
  · replace hF := (if_neg k5).symm.trans hF
    refine lv_aload_n hx hb dX0_waysBehind_10 rfl (lv_at hl 0 rfl) ?_
    refine lv_iload_n hx hb dX0_waysBehind_11 rfl (lv_at hl 1 rfl) ?_
    obtain ⟨r12, hr12, hF⟩ := opb hF
    refine kVV (As := [.int x1]) (rest := []) (ws' := (wd_X0_waysBehind cI a_t a_often r12.1 r12.2)) ⟨hx, hb, hml, hown, hts⟩ (c_X0_drop l D cI a_t a_often H.size c_total c_often x1 r12 hr12) (cwV 1 hts mw_X0_39 rfl rfl rfl hd_X0_drop ⟨Nat.le_of_ble_eq_true rfl, Nat.le_of_ble_eq_true rfl⟩) hS hA hG hK hP hD [0, 1] rfl rfl rfl rfl rfl ⟨Nat.zero_le _, Nat.zero_le _⟩ 0 0 rfl rfl rfl rfl hl.1 rfl (Nat.le_of_ble_eq_true rfl) dX0_waysBehind_12 (fun H locs hP hD hS => ?_)
    refine lv_aload_n hx hb dX0_waysBehind_15 rfl (lv_at hl 0 rfl) ?_
    obtain ⟨r16, hr16, hF⟩ := opb hF
    refine kVI (As := []) (rest := []) (ws' := (wd_X0_waysBehind cI a_t a_often r12.1 r12.2)) ⟨hx, hb, hml, hown, hts⟩ (c_X0_ways l D cI a_t a_often H.size r12.1 r12.2  r16 hr16) (cwV 0 hts mw_X0_42 rfl rfl rfl hd_X0_ways ⟨Nat.le_of_ble_eq_true rfl, Nat.le_of_ble_eq_true rfl⟩) hS hA hG hK hP hD [0, 1] rfl rfl rfl rfl rfl ⟨Nat.zero_le _, Nat.zero_le _⟩ 0 0 rfl rfl rfl rfl hl.1 rfl (Nat.le_of_ble_eq_true rfl) dX0_waysBehind_16 (fun H locs hP hD hS => ?_)
    refine lv_istore_n (lv' := [(2, .int r16), (0, .ref a_t), (1, .int x1)]) hx hb dX0_waysBehind_19 rfl hl (by decide) rfl (fun ls hl => ?_)
    refine lv_aload_n hx hb dX0_waysBehind_20 rfl (lv_at hl 1 rfl) ?_
    refine lv_iload_n hx hb dX0_waysBehind_21 rfl (lv_at hl 2 rfl) ?_
    obtain ⟨r22, hr22, hF⟩ := opb hF
    refine kVV (As := [.int x1]) (rest := []) (ws' := (wd_X0_waysBehind cI a_t a_often r22.1 r22.2)) ⟨hx, hb, hml, hown, hts⟩ (c_X0_add l D cI a_t a_often H.size r12.1 r12.2 x1 r22 hr22) (cwV 1 hts mw_X0_29 rfl rfl rfl hd_X0_add ⟨Nat.le_of_ble_eq_true rfl, Nat.le_of_ble_eq_true rfl⟩) hS hA hG hK hP hD [0, 1] rfl rfl rfl rfl rfl ⟨Nat.zero_le _, Nat.zero_le _⟩ 0 0 rfl rfl rfl rfl hl.1 rfl (Nat.le_of_ble_eq_true rfl) dX0_waysBehind_22 (fun H locs hP hD hS => ?_)
    refine lv_iload_n hx hb dX0_waysBehind_25 rfl (lv_at hl 0 rfl) ?_
    have ho := Option.some.inj hF
    exact hret H locs ls 26 r16 _ hP hS (by rw [← ho]) (by rw [← ho]) dX0_waysBehind_26
  · replace hF := (if_pos k5).symm.trans hF
    refine lv_iconst (v := 0) hx hb dX0_waysBehind_8 (by decide) ?_
    have ho := Option.some.inj hF
    exact hret H locs ls 9 (0 : Int32) _ hP hS (by rw [← ho]) (by rw [← ho]) dX0_waysBehind_9
abbrev wd_X1_has (cI : ClassId) (a_t a_signs : Nat) (c_length : Int32) : va_W := [(a_t, .inr (1, [.ref a_signs, .int c_length]))]
def rm_X1_has : Room := { frames := 0, cells := 0, slots := 0, locals := 0 }
set_option maxHeartbeats 4000000 in
set_option maxRecDepth 100000 in
theorem c_X1_has (l : Launch) (D : va_G) (cI : ClassId) (a_t a_signs : Nat) (sz : Nat) (c_length : Int32) (x1 : Int32) (o : Int32) (hF : F_X1_has c_length x1 = some o) : Met l yX1_has (Cond.code yX1_has cX1_has 2 (some .boolean) :: WL) rm_X1_has (preM D [(cI, .int)] (wd_X1_has cI a_t a_signs c_length) sz [.ref a_t, .int x1]) (postI D o (wd_X1_has cI a_t a_signs c_length) (wd_X1_has cI a_t a_signs c_length) sz) 0 0 (va_A (wd_X1_has cI a_t a_signs c_length) sz) := by
  refine mofZ (by decide +kernel) (Nat.le_of_ble_eq_true rfl) ?_
  intro p e s m args below meth c Q A ls hx hb hml hown hts hK hP hD hS hA hG hl hret hsz0
  have hl : lv_has ls 2 [(0, .ref a_t), (1, .int x1)] := hl
  unfold F_X1_has at hF
  have hP : va_P D vwCl (wd_X1_has cI a_t a_signs c_length) s.heap := hP
  obtain ⟨H, hH⟩ : ∃ H, H = s.heap := ⟨_, rfl⟩
  rw [← hH]
  rw [← hH] at hP
  obtain ⟨locs, hlo⟩ : ∃ z : List Loc, z = [] := ⟨_, rfl⟩
  rw [← hlo]
  have hS : va_S A s.heap H locs := by rw [hH, hlo]; exact hS
  refine lv_iload_n hx hb dX1_has_0 rfl (lv_at hl 1 rfl) ?_
  refine lv_if_lt (tgt := 22) hx hb dX1_has_1 (by decide) (fun k1 => ?_) (fun k1 => ?_)
  · (try simp only [if_pos k1] at hF)
    refine lv_iconst (v := 0) hx hb dX1_has_22 (by decide) ?_
    have ho := Option.some.inj hF
    exact hret H locs ls 23 (0 : Int32) _ hP hS rfl ho (by decide) dX1_has_23
  · (try simp only [if_neg k1] at hF)
    refine lv_iload_n hx hb dX1_has_4 rfl (lv_at hl 1 rfl) ?_
    refine lv_aload_n hx hb dX1_has_5 rfl (lv_at hl 0 rfl) ?_
    refine get_X1_15 hx hb hts hown hK hP 0 rfl rfl dX1_has_6 ?_
    refine lv_icmp_ge (tgt := 22) hx hb dX1_has_9 (by decide) (fun k9 => ?_) (fun k9 => ?_)
    · (try simp only [if_pos k9] at hF)
      refine lv_iconst (v := 0) hx hb dX1_has_22 (by decide) ?_
      have ho := Option.some.inj hF
      exact hret H locs ls 23 (0 : Int32) _ hP hS rfl ho (by decide) dX1_has_23
    · (try simp only [if_neg k9] at hF)
      refine lv_iload_n hx hb dX1_has_12 rfl (lv_at hl 1 rfl) ?_
      refine lv_bipush (v := 11) hx hb dX1_has_13 (by decide) ?_
      refine lv_icmp_ge (tgt := 22) hx hb dX1_has_15 (by decide) (fun k15 => ?_) (fun k15 => ?_)
      · (try simp only [if_pos k15] at hF)
        refine lv_iconst (v := 0) hx hb dX1_has_22 (by decide) ?_
        have ho := Option.some.inj hF
        exact hret H locs ls 23 (0 : Int32) _ hP hS rfl ho (by decide) dX1_has_23
      · (try simp only [if_neg k15] at hF)
        refine lv_iconst (v := 1) hx hb dX1_has_18 (by decide) ?_
        refine lv_goto (tgt := 23) hx hb dX1_has_19 (by decide) ?_
        have ho := Option.some.inj hF
        exact hret H locs ls 23 (1 : Int32) _ hP hS rfl ho (by decide) dX1_has_23
abbrev wd_X1_set (cI : ClassId) (a_t a_signs : Nat) (c_length : Int32) (c_signs : Nat → Int32) : va_W := [(a_t, .inr (1, [.ref a_signs, .int c_length])), (a_signs, .inl (cI, 11, .inl c_signs))]
def rm_X1_set : Room := { frames := 0, cells := 0, slots := 0, locals := 0 }
set_option maxHeartbeats 4000000 in
set_option maxRecDepth 100000 in
theorem c_X1_set (l : Launch) (D : va_G) (cI : ClassId) (a_t a_signs : Nat) (sz : Nat) (c_length : Int32) (c_signs : Nat → Int32) (x1 : Int32) (x2 : Int32) (o : (Nat → Int32)) (hF : F_X1_set c_length c_signs x1 x2 = some o) : Met l yX1_set (Cond.code yX1_set cX1_set 3 none :: WL) rm_X1_set (preM D [(cI, .int)] (wd_X1_set cI a_t a_signs c_length c_signs) sz [.ref a_t, .int x1, .int x2]) (postV D (wd_X1_set cI a_t a_signs c_length o) (wd_X1_set cI a_t a_signs c_length c_signs) sz) 0 0 (va_A (wd_X1_set cI a_t a_signs c_length c_signs) sz) := by
  refine mofV (by decide +kernel) (Nat.le_of_ble_eq_true rfl) ?_
  intro p e s m args below meth c Q A ls hx hb hml hown hts hK hP hD hS hA hG hl hret hsz0
  have hl : lv_has ls 3 [(0, .ref a_t), (1, .int x1), (2, .int x2)] := hl
  unfold F_X1_set at hF
  have hP : va_P D vwCl (wd_X1_set cI a_t a_signs c_length c_signs) s.heap := hP
  obtain ⟨H, hH⟩ : ∃ H, H = s.heap := ⟨_, rfl⟩
  rw [← hH]
  rw [← hH] at hP
  obtain ⟨locs, hlo⟩ : ∃ z : List Loc, z = [] := ⟨_, rfl⟩
  rw [← hlo]
  have hS : va_S A s.heap H locs := by rw [hH, hlo]; exact hS
  refine lv_iload_n hx hb dX1_set_0 rfl (lv_at hl 1 rfl) ?_
  refine lv_if_lt (tgt := 25) hx hb dX1_set_1 (by decide) (fun k1 => ?_) (fun k1 => ?_)
  · replace hF := (if_pos k1).symm.trans hF
    have ho := Option.some.inj hF
    exact hret H locs ls 25 _ hP hS (by rw [← ho]) dX1_set_25
  · replace hF := (if_neg k1).symm.trans hF
    refine lv_iload_n hx hb dX1_set_4 rfl (lv_at hl 1 rfl) ?_
    refine lv_aload_n hx hb dX1_set_5 rfl (lv_at hl 0 rfl) ?_
    refine get_X1_15 hx hb hts hown hK hP 0 rfl rfl dX1_set_6 ?_
    refine lv_icmp_ge (tgt := 25) hx hb dX1_set_9 (by decide) (fun k9 => ?_) (fun k9 => ?_)
    · replace hF := (if_pos k9).symm.trans hF
      have ho := Option.some.inj hF
      exact hret H locs ls 25 _ hP hS (by rw [← ho]) dX1_set_25
    · replace hF := (if_neg k9).symm.trans hF
      refine lv_iload_n hx hb dX1_set_12 rfl (lv_at hl 1 rfl) ?_
      refine lv_bipush (v := 11) hx hb dX1_set_13 (by decide) ?_
      refine lv_icmp_ge (tgt := 25) hx hb dX1_set_15 (by decide) (fun k15 => ?_) (fun k15 => ?_)
      · replace hF := (if_pos k15).symm.trans hF
        have ho := Option.some.inj hF
        exact hret H locs ls 25 _ hP hS (by rw [← ho]) dX1_set_25
      · replace hF := (if_neg k15).symm.trans hF
        refine lv_aload_n hx hb dX1_set_18 rfl (lv_at hl 0 rfl) ?_
        refine get_X1_9 hx hb hts hown hK hP 0 rfl rfl dX1_set_19 ?_
        refine lv_iload_n hx hb dX1_set_22 rfl (lv_at hl 1 rfl) ?_
        refine lv_iload_n hx hb dX1_set_23 rfl (lv_at hl 2 rfl) ?_
        obtain ⟨g24, hF⟩ := gdb hF
        refine va_iast hx hb hK hP hD hS 1 0 rfl rfl (vinb g24) dX1_set_24 (fun H locs hP hD hS => ?_)
        have hP : va_P D vwCl (wd_X1_set cI a_t a_signs c_length (upd c_signs (x1).toNatClampNeg x2)) H := hP
        have hD : va_D A (wd_X1_set cI a_t a_signs c_length (upd c_signs (x1).toNatClampNeg x2)) := hD
        have ho := Option.some.inj hF
        exact hret H locs ls 25 _ hP hS (by rw [← ho]) dX1_set_25
abbrev wd_X1_clear (cI : ClassId) (a_t a_signs : Nat) (c_length : Int32) : va_W := [(a_t, .inr (1, [.ref a_signs, .int c_length]))]
def rm_X1_clear : Room := { frames := 0, cells := 0, slots := 0, locals := 0 }
set_option maxHeartbeats 4000000 in
set_option maxRecDepth 100000 in
theorem c_X1_clear (l : Launch) (D : va_G) (cI : ClassId) (a_t a_signs : Nat) (sz : Nat) (c_length : Int32) (o : Int32) (hF : F_X1_clear c_length = some o) : Met l yX1_clear (Cond.code yX1_clear cX1_clear 1 none :: WL) rm_X1_clear (preM D [(cI, .int)] (wd_X1_clear cI a_t a_signs c_length) sz [.ref a_t]) (postV D (wd_X1_clear cI a_t a_signs o) (wd_X1_clear cI a_t a_signs c_length) sz) 0 0 (va_A (wd_X1_clear cI a_t a_signs c_length) sz) := by
  refine mofV (by decide +kernel) (Nat.le_of_ble_eq_true rfl) ?_
  intro p e s m args below meth c Q A ls hx hb hml hown hts hK hP hD hS hA hG hl hret hsz0
  have hl : lv_has ls 1 [(0, .ref a_t)] := hl
  unfold F_X1_clear at hF
  have hP : va_P D vwCl (wd_X1_clear cI a_t a_signs c_length) s.heap := hP
  obtain ⟨H, hH⟩ : ∃ H, H = s.heap := ⟨_, rfl⟩
  rw [← hH]
  rw [← hH] at hP
  obtain ⟨locs, hlo⟩ : ∃ z : List Loc, z = [] := ⟨_, rfl⟩
  rw [← hlo]
  have hS : va_S A s.heap H locs := by rw [hH, hlo]; exact hS
  refine lv_aload_n hx hb dX1_clear_0 rfl (lv_at hl 0 rfl) ?_
  refine lv_iconst (v := 0) hx hb dX1_clear_1 (by decide) ?_
  refine put_X1_15 hx hb hts hown hK hP hD hS 0 rfl rfl rfl (Nat.le_of_ble_eq_true rfl) dX1_clear_2 (fun H locs hP hD hS => ?_)
  have hP : va_P D vwCl (wd_X1_clear cI a_t a_signs (0 : Int32)) H := hP
  have hD : va_D A (wd_X1_clear cI a_t a_signs (0 : Int32)) := hD
  have ho := Option.some.inj hF
  exact hret H locs ls 5 _ hP hS (by rw [← ho]) dX1_clear_5
abbrev wd_X1_add (cI : ClassId) (a_t a_signs : Nat) (c_length : Int32) (c_signs : Nat → Int32) : va_W := [(a_t, .inr (1, [.ref a_signs, .int c_length])), (a_signs, .inl (cI, 11, .inl c_signs))]
def rm_X1_add : Room := { frames := 1, cells := 0, slots := 0, locals := 22 }
set_option maxHeartbeats 4000000 in
set_option maxRecDepth 100000 in
theorem c_X1_add (l : Launch) (D : va_G) (cI : ClassId) (a_t a_signs : Nat) (sz : Nat) (c_length : Int32) (c_signs : Nat → Int32) (x1 : Int32) (o : Int32 × (Nat → Int32)) (hF : F_X1_add c_length c_signs x1 = some o) : Met l yX1_add (Cond.code yX1_add cX1_add 2 none :: WL) rm_X1_add (preM D [(cI, .int)] (wd_X1_add cI a_t a_signs c_length c_signs) sz [.ref a_t, .int x1]) (postV D (wd_X1_add cI a_t a_signs o.1 o.2) (wd_X1_add cI a_t a_signs c_length c_signs) sz) 0 0 (va_A (wd_X1_add cI a_t a_signs c_length c_signs) sz) := by
  refine mofV (by decide +kernel) (Nat.le_of_ble_eq_true rfl) ?_
  intro p e s m args below meth c Q A ls hx hb hml hown hts hK hP hD hS hA hG hl hret hsz0
  have hl : lv_has ls 2 [(0, .ref a_t), (1, .int x1)] := hl
  unfold F_X1_add at hF
  have hP : va_P D vwCl (wd_X1_add cI a_t a_signs c_length c_signs) s.heap := hP
  obtain ⟨H, hH⟩ : ∃ H, H = s.heap := ⟨_, rfl⟩
  rw [← hH]
  rw [← hH] at hP
  obtain ⟨locs, hlo⟩ : ∃ z : List Loc, z = [] := ⟨_, rfl⟩
  rw [← hlo]
  have hS : va_S A s.heap H locs := by rw [hH, hlo]; exact hS
  refine lv_aload_n hx hb dX1_add_0 rfl (lv_at hl 0 rfl) ?_
  refine get_X1_15 hx hb hts hown hK hP 0 rfl rfl dX1_add_1 ?_
  refine lv_bipush (v := 11) hx hb dX1_add_4 (by decide) ?_
  refine lv_icmp_ge (tgt := 30) hx hb dX1_add_6 (by decide) (fun k6 => ?_) (fun k6 => ?_)
  · replace hF := (if_pos k6).symm.trans hF
    have ho := Option.some.inj hF
    exact hret H locs ls 30 _ hP hS (by rw [← ho]) dX1_add_30
  · replace hF := (if_neg k6).symm.trans hF
    refine lv_aload_n hx hb dX1_add_9 rfl (lv_at hl 0 rfl) ?_
    refine lv_dup hx hb dX1_add_10 rfl ?_
    refine get_X1_15 hx hb hts hown hK hP 0 rfl rfl dX1_add_11 ?_
    refine lv_iconst (v := 1) hx hb dX1_add_14 (by decide) ?_
    refine lv_iadd hx hb dX1_add_15 ?_
    refine put_X1_15 hx hb hts hown hK hP hD hS 0 rfl rfl rfl (Nat.le_of_ble_eq_true rfl) dX1_add_16 (fun H locs hP hD hS => ?_)
    have hP : va_P D vwCl (wd_X1_add cI a_t a_signs (c_length + (1 : Int32)) c_signs) H := hP
    have hD : va_D A (wd_X1_add cI a_t a_signs (c_length + (1 : Int32)) c_signs) := hD
    refine lv_aload_n hx hb dX1_add_19 rfl (lv_at hl 0 rfl) ?_
    refine lv_aload_n hx hb dX1_add_20 rfl (lv_at hl 0 rfl) ?_
    refine get_X1_15 hx hb hts hown hK hP 0 rfl rfl dX1_add_21 ?_
    refine lv_iconst (v := 1) hx hb dX1_add_24 (by decide) ?_
    refine lv_isub hx hb dX1_add_25 ?_
    refine lv_iload_n hx hb dX1_add_26 rfl (lv_at hl 1 rfl) ?_
    obtain ⟨r27, hr27, hF⟩ := opb hF
    refine kVV (As := [.int ((c_length + (1 : Int32)) - (1 : Int32)), .int x1]) (rest := []) (ws' := (wd_X1_add cI a_t a_signs (c_length + (1 : Int32)) r27)) ⟨hx, hb, hml, hown, hts⟩ (c_X1_set l D cI a_t a_signs H.size (c_length + (1 : Int32)) c_signs ((c_length + (1 : Int32)) - (1 : Int32)) x1 r27 hr27) (cwV 2 hts mw_X1_19 rfl rfl rfl hd_X1_set ⟨Nat.le_of_ble_eq_true rfl, Nat.le_of_ble_eq_true rfl⟩) hS hA hG hK hP hD [0, 1] rfl rfl rfl rfl rfl ⟨Nat.zero_le _, Nat.zero_le _⟩ 1 0 rfl rfl rfl rfl hl.1 rfl (Nat.le_of_ble_eq_true rfl) dX1_add_27 (fun H locs hP hD hS => ?_)
    have ho := Option.some.inj hF
    exact hret H locs ls 30 _ hP hS (by rw [← ho]) dX1_add_30
abbrev wd_X1_exchange (cI : ClassId) (a_t a_signs : Nat) (c_length : Int32) (c_signs : Nat → Int32) : va_W := [(a_t, .inr (1, [.ref a_signs, .int c_length])), (a_signs, .inl (cI, 11, .inl c_signs))]
def rm_X1_exchange : Room := { frames := 1, cells := 0, slots := 0, locals := 22 }
set_option maxHeartbeats 4000000 in
set_option maxRecDepth 100000 in
theorem c_X1_exchange (l : Launch) (D : va_G) (cI : ClassId) (a_t a_signs : Nat) (sz : Nat) (c_length : Int32) (c_signs : Nat → Int32) (x1 : Int32) (x2 : Int32) (o : (Nat → Int32)) (hF : F_X1_exchange c_length c_signs x1 x2 = some o) : Met l yX1_exchange (Cond.code yX1_exchange cX1_exchange 4 none :: WL) rm_X1_exchange (preM D [(cI, .int)] (wd_X1_exchange cI a_t a_signs c_length c_signs) sz [.ref a_t, .int x1, .int x2]) (postV D (wd_X1_exchange cI a_t a_signs c_length o) (wd_X1_exchange cI a_t a_signs c_length c_signs) sz) 0 0 (va_A (wd_X1_exchange cI a_t a_signs c_length c_signs) sz) := by
  refine mofV (by decide +kernel) (Nat.le_of_ble_eq_true rfl) ?_
  intro p e s m args below meth c Q A ls hx hb hml hown hts hK hP hD hS hA hG hl hret hsz0
  have hl : lv_has ls 4 [(0, .ref a_t), (1, .int x1), (2, .int x2)] := hl
  unfold F_X1_exchange at hF
  have hP : va_P D vwCl (wd_X1_exchange cI a_t a_signs c_length c_signs) s.heap := hP
  obtain ⟨H, hH⟩ : ∃ H, H = s.heap := ⟨_, rfl⟩
  rw [← hH]
  rw [← hH] at hP
  obtain ⟨locs, hlo⟩ : ∃ z : List Loc, z = [] := ⟨_, rfl⟩
  rw [← hlo]
  have hS : va_S A s.heap H locs := by rw [hH, hlo]; exact hS
  refine lv_aload_n hx hb dX1_exchange_0 rfl (lv_at hl 0 rfl) ?_
  refine lv_iload_n hx hb dX1_exchange_1 rfl (lv_at hl 1 rfl) ?_
  obtain ⟨r2, hr2, hF⟩ := opb hF
  refine kVI (As := [.int x1]) (rest := []) (ws' := (wd_X1_exchange cI a_t a_signs c_length c_signs)) ⟨hx, hb, hml, hown, hts⟩ (c_X1_at l D cI a_t a_signs H.size c_length c_signs x1 r2 hr2) (cwV 1 hts mw_X1_30 rfl rfl rfl hd_X1_at ⟨Nat.le_of_ble_eq_true rfl, Nat.le_of_ble_eq_true rfl⟩) hS hA hG hK hP hD [0, 1] rfl rfl rfl rfl rfl ⟨Nat.zero_le _, Nat.zero_le _⟩ 1 0 rfl rfl rfl rfl hl.1 rfl (Nat.le_of_ble_eq_true rfl) dX1_exchange_2 (fun H locs hP hD hS => ?_)
  refine lv_istore_n (lv' := [(3, .int r2), (0, .ref a_t), (1, .int x1), (2, .int x2)]) hx hb dX1_exchange_5 rfl hl (by decide) rfl (fun ls hl => ?_)
  refine lv_aload_n hx hb dX1_exchange_6 rfl (lv_at hl 1 rfl) ?_
  refine lv_iload_n hx hb dX1_exchange_7 rfl (lv_at hl 2 rfl) ?_
  refine lv_aload_n hx hb dX1_exchange_8 rfl (lv_at hl 1 rfl) ?_
  refine lv_iload_n hx hb dX1_exchange_9 rfl (lv_at hl 3 rfl) ?_
  obtain ⟨r10, hr10, hF⟩ := opb hF
  refine kVI (As := [.int x2]) (rest := [.int x1, .ref a_t]) (ws' := (wd_X1_exchange cI a_t a_signs c_length c_signs)) ⟨hx, hb, hml, hown, hts⟩ (c_X1_at l D cI a_t a_signs H.size c_length c_signs x2 r10 hr10) (cwV 1 hts mw_X1_30 rfl rfl rfl hd_X1_at ⟨Nat.le_of_ble_eq_true rfl, Nat.le_of_ble_eq_true rfl⟩) hS hA hG hK hP hD [0, 1] rfl rfl rfl rfl rfl ⟨Nat.zero_le _, Nat.zero_le _⟩ 1 0 rfl rfl rfl rfl hl.1 rfl (Nat.le_of_ble_eq_true rfl) dX1_exchange_10 (fun H locs hP hD hS => ?_)
  obtain ⟨r13, hr13, hF⟩ := opb hF
  refine kVV (As := [.int x1, .int r10]) (rest := []) (ws' := (wd_X1_exchange cI a_t a_signs c_length r13)) ⟨hx, hb, hml, hown, hts⟩ (c_X1_set l D cI a_t a_signs H.size c_length c_signs x1 r10 r13 hr13) (cwV 2 hts mw_X1_19 rfl rfl rfl hd_X1_set ⟨Nat.le_of_ble_eq_true rfl, Nat.le_of_ble_eq_true rfl⟩) hS hA hG hK hP hD [0, 1] rfl rfl rfl rfl rfl ⟨Nat.zero_le _, Nat.zero_le _⟩ 1 0 rfl rfl rfl rfl hl.1 rfl (Nat.le_of_ble_eq_true rfl) dX1_exchange_13 (fun H locs hP hD hS => ?_)
  refine lv_aload_n hx hb dX1_exchange_16 rfl (lv_at hl 1 rfl) ?_
  refine lv_iload_n hx hb dX1_exchange_17 rfl (lv_at hl 3 rfl) ?_
  refine lv_iload_n hx hb dX1_exchange_18 rfl (lv_at hl 0 rfl) ?_
  obtain ⟨r19, hr19, hF⟩ := opb hF
  refine kVV (As := [.int x2, .int r2]) (rest := []) (ws' := (wd_X1_exchange cI a_t a_signs c_length r19)) ⟨hx, hb, hml, hown, hts⟩ (c_X1_set l D cI a_t a_signs H.size c_length r13 x2 r2 r19 hr19) (cwV 2 hts mw_X1_19 rfl rfl rfl hd_X1_set ⟨Nat.le_of_ble_eq_true rfl, Nat.le_of_ble_eq_true rfl⟩) hS hA hG hK hP hD [0, 1] rfl rfl rfl rfl rfl ⟨Nat.zero_le _, Nat.zero_le _⟩ 1 0 rfl rfl rfl rfl hl.1 rfl (Nat.le_of_ble_eq_true rfl) dX1_exchange_19 (fun H locs hP hD hS => ?_)
  have ho := Option.some.inj hF
  exact hret H locs ls 22 _ hP hS (by rw [← ho]) dX1_exchange_22
abbrev wd_X1_bringAhead (cI : ClassId) (a_t a_signs : Nat) (c_length : Int32) (c_signs : Nat → Int32) : va_W := [(a_t, .inr (1, [.ref a_signs, .int c_length])), (a_signs, .inl (cI, 11, .inl c_signs))]
def rm_X1_bringAhead : Room := { frames := 2, cells := 0, slots := 0, locals := 45 }
set_option maxHeartbeats 4000000 in
set_option maxRecDepth 100000 in
theorem c_X1_bringAhead (l : Launch) (D : va_G) (cI : ClassId) (a_t a_signs : Nat) (sz : Nat) (c_length : Int32) (c_signs : Nat → Int32) (x1 : Int32) (x2 : Int32) (o : (Nat → Int32)) (hF : F_X1_bringAhead c_length c_signs x1 x2 = some o) : Met l yX1_bringAhead (Cond.code yX1_bringAhead cX1_bringAhead 4 none :: WL) rm_X1_bringAhead (preM D [(cI, .int)] (wd_X1_bringAhead cI a_t a_signs c_length c_signs) sz [.ref a_t, .int x1, .int x2]) (postV D (wd_X1_bringAhead cI a_t a_signs c_length o) (wd_X1_bringAhead cI a_t a_signs c_length c_signs) sz) 0 0 (va_A (wd_X1_bringAhead cI a_t a_signs c_length c_signs) sz) := by
  refine mofV (by decide +kernel) (Nat.le_of_ble_eq_true rfl) ?_
  intro p e s m args below meth c Q A ls hx hb hml hown hts hK hP hD hS hA hG hl hret hsz0
  have hl : lv_has ls 4 [(0, .ref a_t), (1, .int x1), (2, .int x2)] := hl
  have K2 : ∀ (n2 : Nat) (c_signs : Nat → Int32) (x3 : Int32) (H : Heap) (locs : List Loc) (ls : Array Slot), va_P D vwCl (wd_X1_bringAhead cI a_t a_signs c_length c_signs) H → va_D A (wd_X1_bringAhead cI a_t a_signs c_length c_signs) → va_S A s.heap H locs → lv_has ls 4 [(0, .ref a_t), (2, .int x2), (3, .int x3)] → F_X1_bringAhead_L2 c_length x1 x2 n2 c_signs x3 = some o → W p l e rm_X1_bringAhead s m args below meth c H locs 0 0 Q (F0 m 2 ls []) := by
    intro n2
    induction n2 with
    | zero => intro c_signs x3 H locs ls hP hD hS hl hF; exact nos hF
    | succ n2 ih2 =>
      intro c_signs x3 H locs ls hP hD hS hl hF
      rw [F_X1_bringAhead_L2] at hF
      refine lv_iload_n hx hb dX1_bringAhead_2 rfl (lv_at hl 2 rfl) ?_
      refine lv_iload_n hx hb dX1_bringAhead_3 rfl (lv_at hl 1 rfl) ?_
      refine lv_icmp_le (tgt := 21) hx hb dX1_bringAhead_4 (by decide) (fun k4 => ?_) (fun k4 => ?_)
      · replace hF := (if_pos k4).symm.trans hF
        have ho := Option.some.inj hF
        exact hret H locs ls 21 _ hP hS (by rw [← ho]) dX1_bringAhead_21
      · replace hF := (if_neg k4).symm.trans hF
        refine lv_aload_n hx hb dX1_bringAhead_7 rfl (lv_at hl 0 rfl) ?_
        refine lv_iload_n hx hb dX1_bringAhead_8 rfl (lv_at hl 2 rfl) ?_
        refine lv_iload_n hx hb dX1_bringAhead_9 rfl (lv_at hl 2 rfl) ?_
        refine lv_iconst (v := 1) hx hb dX1_bringAhead_10 (by decide) ?_
        refine lv_isub hx hb dX1_bringAhead_11 ?_
        obtain ⟨r12, hr12, hF⟩ := opb hF
        refine kVV (As := [.int x3, .int (x3 - (1 : Int32))]) (rest := []) (ws' := (wd_X1_bringAhead cI a_t a_signs c_length r12)) ⟨hx, hb, hml, hown, hts⟩ (c_X1_exchange l D cI a_t a_signs H.size c_length c_signs x3 (x3 - (1 : Int32)) r12 hr12) (cwV 2 hts mw_X1_38 rfl rfl rfl hd_X1_exchange ⟨Nat.le_of_ble_eq_true rfl, Nat.le_of_ble_eq_true rfl⟩) hS hA hG hK hP hD [0, 1] rfl rfl rfl rfl rfl ⟨Nat.zero_le _, Nat.zero_le _⟩ 1 0 rfl rfl rfl rfl hl.1 rfl (Nat.le_of_ble_eq_true rfl) dX1_bringAhead_12 (fun H locs hP hD hS => ?_)
        refine lv_iinc (v := x3 + (-1)) (lv' := [(3, .int (x3 + (-1))), (0, .ref a_t), (2, .int x2)]) hx hb dX1_bringAhead_15 hl (k := 2) rfl rfl (by decide) rfl (fun ls hl => ?_)
        refine lv_goto (tgt := 2) hx hb dX1_bringAhead_18 (by decide) ?_
        exact ih2 r12 (x3 + (-1)) H locs ls hP hD hS (lv_sub hl [1, 2, 0] rfl) hF
  unfold F_X1_bringAhead at hF
  have hP : va_P D vwCl (wd_X1_bringAhead cI a_t a_signs c_length c_signs) s.heap := hP
  obtain ⟨H, hH⟩ : ∃ H, H = s.heap := ⟨_, rfl⟩
  rw [← hH]
  rw [← hH] at hP
  obtain ⟨locs, hlo⟩ : ∃ z : List Loc, z = [] := ⟨_, rfl⟩
  rw [← hlo]
  have hS : va_S A s.heap H locs := by rw [hH, hlo]; exact hS
  refine lv_iload_n hx hb dX1_bringAhead_0 rfl (lv_at hl 1 rfl) ?_
  refine lv_istore_n (lv' := [(3, .int x1), (0, .ref a_t), (1, .int x1), (2, .int x2)]) hx hb dX1_bringAhead_1 rfl hl (by decide) rfl (fun ls hl => ?_)
  exact K2 FU c_signs x1 H locs ls hP hD hS (lv_sub hl [1, 3, 0] rfl) hF
abbrev wd_X1_insert (cI : ClassId) (a_t a_signs : Nat) (c_length : Int32) (c_signs : Nat → Int32) : va_W := [(a_t, .inr (1, [.ref a_signs, .int c_length])), (a_signs, .inl (cI, 11, .inl c_signs))]
def rm_X1_insert : Room := { frames := 3, cells := 0, slots := 0, locals := 68 }
set_option maxHeartbeats 4000000 in
set_option maxRecDepth 100000 in
theorem c_X1_insert (l : Launch) (D : va_G) (cI : ClassId) (a_t a_signs : Nat) (sz : Nat) (c_length : Int32) (c_signs : Nat → Int32) (x1 : Int32) (x2 : Int32) (o : Int32 × (Nat → Int32)) (hF : F_X1_insert c_length c_signs x1 x2 = some o) : Met l yX1_insert (Cond.code yX1_insert cX1_insert 3 none :: WL) rm_X1_insert (preM D [(cI, .int)] (wd_X1_insert cI a_t a_signs c_length c_signs) sz [.ref a_t, .int x1, .int x2]) (postV D (wd_X1_insert cI a_t a_signs o.1 o.2) (wd_X1_insert cI a_t a_signs c_length c_signs) sz) 0 0 (va_A (wd_X1_insert cI a_t a_signs c_length c_signs) sz) := by
  refine mofV (by decide +kernel) (Nat.le_of_ble_eq_true rfl) ?_
  intro p e s m args below meth c Q A ls hx hb hml hown hts hK hP hD hS hA hG hl hret hsz0
  have hl : lv_has ls 3 [(0, .ref a_t), (1, .int x1), (2, .int x2)] := hl
  unfold F_X1_insert at hF
  have hP : va_P D vwCl (wd_X1_insert cI a_t a_signs c_length c_signs) s.heap := hP
  obtain ⟨H, hH⟩ : ∃ H, H = s.heap := ⟨_, rfl⟩
  rw [← hH]
  rw [← hH] at hP
  obtain ⟨locs, hlo⟩ : ∃ z : List Loc, z = [] := ⟨_, rfl⟩
  rw [← hlo]
  have hS : va_S A s.heap H locs := by rw [hH, hlo]; exact hS
  refine lv_aload_n hx hb dX1_insert_0 rfl (lv_at hl 0 rfl) ?_
  refine lv_iload_n hx hb dX1_insert_1 rfl (lv_at hl 2 rfl) ?_
  obtain ⟨r2, hr2, hF⟩ := opb hF
  refine kVV (As := [.int x2]) (rest := []) (ws' := (wd_X1_insert cI a_t a_signs r2.1 r2.2)) ⟨hx, hb, hml, hown, hts⟩ (c_X1_add l D cI a_t a_signs H.size c_length c_signs x2 r2 hr2) (cwV 1 hts mw_X1_23 rfl rfl rfl hd_X1_add ⟨Nat.le_of_ble_eq_true rfl, Nat.le_of_ble_eq_true rfl⟩) hS hA hG hK hP hD [0, 1] rfl rfl rfl rfl rfl ⟨Nat.zero_le _, Nat.zero_le _⟩ 1 0 rfl rfl rfl rfl hl.1 rfl (Nat.le_of_ble_eq_true rfl) dX1_insert_2 (fun H locs hP hD hS => ?_)
  refine lv_aload_n hx hb dX1_insert_5 rfl (lv_at hl 0 rfl) ?_
  refine lv_aload_n hx hb dX1_insert_6 rfl (lv_at hl 0 rfl) ?_
  refine get_X1_15 hx hb hts hown hK hP 0 rfl rfl dX1_insert_7 ?_
  refine lv_iconst (v := 1) hx hb dX1_insert_10 (by decide) ?_
  refine lv_isub hx hb dX1_insert_11 ?_
  refine lv_iload_n hx hb dX1_insert_12 rfl (lv_at hl 1 rfl) ?_
  obtain ⟨r13, hr13, hF⟩ := opb hF
  refine kVV (As := [.int (r2.1 - (1 : Int32)), .int x1]) (rest := []) (ws' := (wd_X1_insert cI a_t a_signs r2.1 r13)) ⟨hx, hb, hml, hown, hts⟩ (c_X1_bringAhead l D cI a_t a_signs H.size r2.1 r2.2 (r2.1 - (1 : Int32)) x1 r13 hr13) (cwV 2 hts mw_X1_27 rfl rfl rfl hd_X1_bringAhead ⟨Nat.le_of_ble_eq_true rfl, Nat.le_of_ble_eq_true rfl⟩) hS hA hG hK hP hD [0, 1] rfl rfl rfl rfl rfl ⟨Nat.zero_le _, Nat.zero_le _⟩ 1 0 rfl rfl rfl rfl hl.1 rfl (Nat.le_of_ble_eq_true rfl) dX1_insert_13 (fun H locs hP hD hS => ?_)
  have ho := Option.some.inj hF
  exact hret H locs ls 16 _ hP hS (by rw [← ho]) dX1_insert_16
abbrev wd_X1_remove (cI : ClassId) (a_t a_signs : Nat) (c_length : Int32) (c_signs : Nat → Int32) : va_W := [(a_t, .inr (1, [.ref a_signs, .int c_length])), (a_signs, .inl (cI, 11, .inl c_signs))]
def rm_X1_remove : Room := { frames := 1, cells := 0, slots := 0, locals := 22 }
set_option maxHeartbeats 4000000 in
set_option maxRecDepth 100000 in
theorem c_X1_remove (l : Launch) (D : va_G) (cI : ClassId) (a_t a_signs : Nat) (sz : Nat) (c_length : Int32) (c_signs : Nat → Int32) (x1 : Int32) (o : Int32 × (Nat → Int32)) (hF : F_X1_remove c_length c_signs x1 = some o) : Met l yX1_remove (Cond.code yX1_remove cX1_remove 3 none :: WL) rm_X1_remove (preM D [(cI, .int)] (wd_X1_remove cI a_t a_signs c_length c_signs) sz [.ref a_t, .int x1]) (postV D (wd_X1_remove cI a_t a_signs o.1 o.2) (wd_X1_remove cI a_t a_signs c_length c_signs) sz) 0 0 (va_A (wd_X1_remove cI a_t a_signs c_length c_signs) sz) := by
  refine mofV (by decide +kernel) (Nat.le_of_ble_eq_true rfl) ?_
  intro p e s m args below meth c Q A ls hx hb hml hown hts hK hP hD hS hA hG hl hret hsz0
  have hl : lv_has ls 3 [(0, .ref a_t), (1, .int x1)] := hl
  have K2 : ∀ (n2 : Nat) (c_length : Int32) (c_signs : Nat → Int32) (x2 : Int32) (H : Heap) (locs : List Loc) (ls : Array Slot), va_P D vwCl (wd_X1_remove cI a_t a_signs c_length c_signs) H → va_D A (wd_X1_remove cI a_t a_signs c_length c_signs) → va_S A s.heap H locs → lv_has ls 3 [(0, .ref a_t), (1, .int x1), (2, .int x2)] → F_X1_remove_L2 x1 n2 c_length c_signs x2 = some o → W p l e rm_X1_remove s m args below meth c H locs 0 0 Q (F0 m 2 ls []) := by
    intro n2
    induction n2 with
    | zero => intro c_length c_signs x2 H locs ls hP hD hS hl hF; exact nos hF
    | succ n2 ih2 =>
      intro c_length c_signs x2 H locs ls hP hD hS hl hF
      rw [F_X1_remove_L2] at hF
      refine lv_iload_n hx hb dX1_remove_2 rfl (lv_at hl 2 rfl) ?_
      refine lv_aload_n hx hb dX1_remove_3 rfl (lv_at hl 0 rfl) ?_
      refine get_X1_15 hx hb hts hown hK hP 0 rfl rfl dX1_remove_4 ?_
      refine lv_iconst (v := 1) hx hb dX1_remove_7 (by decide) ?_
      refine lv_isub hx hb dX1_remove_8 ?_
      refine lv_icmp_ge (tgt := 30) hx hb dX1_remove_9 (by decide) (fun k9 => ?_) (fun k9 => ?_)
      · replace hF := (if_pos k9).symm.trans hF
        refine lv_aload_n hx hb dX1_remove_30 rfl (lv_at hl 0 rfl) ?_
        refine lv_iload_n hx hb dX1_remove_31 rfl (lv_at hl 1 rfl) ?_
        obtain ⟨r32, hr32, hF⟩ := opb hF
        refine kVI (As := [.int x1]) (rest := []) (ws' := (wd_X1_remove cI a_t a_signs c_length c_signs)) ⟨hx, hb, hml, hown, hts⟩ (c_X1_has l D cI a_t a_signs H.size c_length x1 r32 hr32) (cwV 1 hts mw_X1_34 rfl rfl rfl hd_X1_has ⟨Nat.le_of_ble_eq_true rfl, Nat.le_of_ble_eq_true rfl⟩) hS hA hG hK hP hD [0] rfl rfl rfl rfl rfl ⟨Nat.zero_le _, Nat.zero_le _⟩ 1 0 rfl rfl rfl rfl hl.1 rfl (Nat.le_of_ble_eq_true rfl) dX1_remove_32 (fun H locs hP hD hS => ?_)
        refine lv_if_eq (tgt := 48) hx hb dX1_remove_35 (by decide) (fun k35 => ?_) (fun k35 => ?_)
        · (try simp only [if_pos k35] at hF)
          have ho := Option.some.inj hF
          exact hret H locs ls 48 _ hP hS (by rw [← ho]) dX1_remove_48
        · (try simp only [if_neg k35] at hF)
          refine lv_aload_n hx hb dX1_remove_38 rfl (lv_at hl 0 rfl) ?_
          refine lv_dup hx hb dX1_remove_39 rfl ?_
          refine get_X1_15 hx hb hts hown hK hP 0 rfl rfl dX1_remove_40 ?_
          refine lv_iconst (v := 1) hx hb dX1_remove_43 (by decide) ?_
          refine lv_isub hx hb dX1_remove_44 ?_
          refine put_X1_15 hx hb hts hown hK hP hD hS 0 rfl rfl rfl (Nat.le_of_ble_eq_true rfl) dX1_remove_45 (fun H locs hP hD hS => ?_)
          have hP : va_P D vwCl (wd_X1_remove cI a_t a_signs (c_length - (1 : Int32)) c_signs) H := hP
          have hD : va_D A (wd_X1_remove cI a_t a_signs (c_length - (1 : Int32)) c_signs) := hD
          have ho := Option.some.inj hF
          exact hret H locs ls 48 _ hP hS (by rw [← ho]) dX1_remove_48
      · replace hF := (if_neg k9).symm.trans hF
        refine lv_aload_n hx hb dX1_remove_12 rfl (lv_at hl 0 rfl) ?_
        refine lv_iload_n hx hb dX1_remove_13 rfl (lv_at hl 2 rfl) ?_
        refine lv_aload_n hx hb dX1_remove_14 rfl (lv_at hl 0 rfl) ?_
        refine lv_iload_n hx hb dX1_remove_15 rfl (lv_at hl 2 rfl) ?_
        refine lv_iconst (v := 1) hx hb dX1_remove_16 (by decide) ?_
        refine lv_iadd hx hb dX1_remove_17 ?_
        obtain ⟨r18, hr18, hF⟩ := opb hF
        refine kVI (As := [.int (x2 + (1 : Int32))]) (rest := [.int x2, .ref a_t]) (ws' := (wd_X1_remove cI a_t a_signs c_length c_signs)) ⟨hx, hb, hml, hown, hts⟩ (c_X1_at l D cI a_t a_signs H.size c_length c_signs (x2 + (1 : Int32)) r18 hr18) (cwV 1 hts mw_X1_30 rfl rfl rfl hd_X1_at ⟨Nat.le_of_ble_eq_true rfl, Nat.le_of_ble_eq_true rfl⟩) hS hA hG hK hP hD [0, 1] rfl rfl rfl rfl rfl ⟨Nat.zero_le _, Nat.zero_le _⟩ 1 0 rfl rfl rfl rfl hl.1 rfl (Nat.le_of_ble_eq_true rfl) dX1_remove_18 (fun H locs hP hD hS => ?_)
        obtain ⟨r21, hr21, hF⟩ := opb hF
        refine kVV (As := [.int x2, .int r18]) (rest := []) (ws' := (wd_X1_remove cI a_t a_signs c_length r21)) ⟨hx, hb, hml, hown, hts⟩ (c_X1_set l D cI a_t a_signs H.size c_length c_signs x2 r18 r21 hr21) (cwV 2 hts mw_X1_19 rfl rfl rfl hd_X1_set ⟨Nat.le_of_ble_eq_true rfl, Nat.le_of_ble_eq_true rfl⟩) hS hA hG hK hP hD [0, 1] rfl rfl rfl rfl rfl ⟨Nat.zero_le _, Nat.zero_le _⟩ 1 0 rfl rfl rfl rfl hl.1 rfl (Nat.le_of_ble_eq_true rfl) dX1_remove_21 (fun H locs hP hD hS => ?_)
        refine lv_iinc (v := x2 + 1) (lv' := [(2, .int (x2 + 1)), (0, .ref a_t), (1, .int x1)]) hx hb dX1_remove_24 hl (k := 2) rfl rfl (by decide) rfl (fun ls hl => ?_)
        refine lv_goto (tgt := 2) hx hb dX1_remove_27 (by decide) ?_
        exact ih2 c_length r21 (x2 + 1) H locs ls hP hD hS (lv_sub hl [1, 2, 0] rfl) hF
  unfold F_X1_remove at hF
  have hP : va_P D vwCl (wd_X1_remove cI a_t a_signs c_length c_signs) s.heap := hP
  obtain ⟨H, hH⟩ : ∃ H, H = s.heap := ⟨_, rfl⟩
  rw [← hH]
  rw [← hH] at hP
  obtain ⟨locs, hlo⟩ : ∃ z : List Loc, z = [] := ⟨_, rfl⟩
  rw [← hlo]
  have hS : va_S A s.heap H locs := by rw [hH, hlo]; exact hS
  refine lv_iload_n hx hb dX1_remove_0 rfl (lv_at hl 1 rfl) ?_
  refine lv_istore_n (lv' := [(2, .int x1), (0, .ref a_t), (1, .int x1)]) hx hb dX1_remove_1 rfl hl (by decide) rfl (fun ls hl => ?_)
  exact K2 FU c_length c_signs x1 H locs ls hP hD hS (lv_sub hl [1, 2, 0] rfl) hF
abbrev wd_X1_become (cI : ClassId) (a_t a_p a_signs a_p_signs : Nat) (c_length : Int32) (c_signs : Nat → Int32) (c_p_length : Int32) (c_p_signs : Nat → Int32) : va_W := [(a_t, .inr (1, [.ref a_signs, .int c_length])), (a_signs, .inl (cI, 11, .inl c_signs)), (a_p, .inr (1, [.ref a_p_signs, .int c_p_length])), (a_p_signs, .inl (cI, 11, .inl c_p_signs))]
def rm_X1_become : Room := { frames := 2, cells := 0, slots := 0, locals := 43 }
set_option maxHeartbeats 4000000 in
set_option maxRecDepth 100000 in
theorem c_X1_become (l : Launch) (D : va_G) (cI : ClassId) (a_t a_p a_signs a_p_signs : Nat) (sz : Nat) (c_length : Int32) (c_signs : Nat → Int32) (c_p_length : Int32) (c_p_signs : Nat → Int32) (o : Int32 × (Nat → Int32)) (hF : F_X1_become c_length c_signs c_p_length c_p_signs = some o) : Met l yX1_become (Cond.code yX1_become cX1_become 3 none :: WL) rm_X1_become (preM D [(cI, .int)] (wd_X1_become cI a_t a_p a_signs a_p_signs c_length c_signs c_p_length c_p_signs) sz [.ref a_t, .ref a_p]) (postV D (wd_X1_become cI a_t a_p a_signs a_p_signs o.1 o.2 c_p_length c_p_signs) (wd_X1_become cI a_t a_p a_signs a_p_signs c_length c_signs c_p_length c_p_signs) sz) 0 0 (va_A (wd_X1_become cI a_t a_p a_signs a_p_signs c_length c_signs c_p_length c_p_signs) sz) := by
  refine mofV (by decide +kernel) (Nat.le_of_ble_eq_true rfl) ?_
  intro p e s m args below meth c Q A ls hx hb hml hown hts hK hP hD hS hA hG hl hret hsz0
  have hl : lv_has ls 3 [(0, .ref a_t), (1, .ref a_p)] := hl
  have K7 : ∀ (n7 : Nat) (c_length : Int32) (c_signs : Nat → Int32) (x2 : Int32) (H : Heap) (locs : List Loc) (ls : Array Slot), va_P D vwCl (wd_X1_become cI a_t a_p a_signs a_p_signs c_length c_signs c_p_length c_p_signs) H → va_D A (wd_X1_become cI a_t a_p a_signs a_p_signs c_length c_signs c_p_length c_p_signs) → va_S A s.heap H locs → lv_has ls 3 [(0, .ref a_t), (1, .ref a_p), (2, .int x2)] → F_X1_become_L7 c_p_length c_p_signs n7 c_length c_signs x2 = some o → W p l e rm_X1_become s m args below meth c H locs 0 0 Q (F0 m 7 ls []) := by
    intro n7
    induction n7 with
    | zero => intro c_length c_signs x2 H locs ls hP hD hS hl hF; exact nos hF
    | succ n7 ih7 =>
      intro c_length c_signs x2 H locs ls hP hD hS hl hF
      rw [F_X1_become_L7] at hF
      refine lv_iload_n hx hb dX1_become_7 rfl (lv_at hl 2 rfl) ?_
      refine lv_aload_n hx hb dX1_become_8 rfl (lv_at hl 1 rfl) ?_
      refine get_X1_15 hx hb hts hown hK hP 2 rfl rfl dX1_become_9 ?_
      refine lv_icmp_ge (tgt := 30) hx hb dX1_become_12 (by decide) (fun k12 => ?_) (fun k12 => ?_)
      · replace hF := (if_pos k12).symm.trans hF
        have ho := Option.some.inj hF
        exact hret H locs ls 30 _ hP hS (by rw [← ho]) dX1_become_30
      · replace hF := (if_neg k12).symm.trans hF
        refine lv_aload_n hx hb dX1_become_15 rfl (lv_at hl 0 rfl) ?_
        refine lv_aload_n hx hb dX1_become_16 rfl (lv_at hl 1 rfl) ?_
        refine lv_iload_n hx hb dX1_become_17 rfl (lv_at hl 2 rfl) ?_
        obtain ⟨r18, hr18, hF⟩ := opb hF
        refine kVI (As := [.int x2]) (rest := [.ref a_t]) (ws' := (wd_X1_become cI a_t a_p a_signs a_p_signs c_length c_signs c_p_length c_p_signs)) ⟨hx, hb, hml, hown, hts⟩ (c_X1_at l D cI a_p a_p_signs H.size c_p_length c_p_signs x2 r18 hr18) (cwV 1 hts mw_X1_30 rfl rfl rfl hd_X1_at ⟨Nat.le_of_ble_eq_true rfl, Nat.le_of_ble_eq_true rfl⟩) hS hA hG hK hP hD [2, 3] rfl rfl rfl rfl rfl ⟨Nat.zero_le _, Nat.zero_le _⟩ 1 2 rfl rfl rfl rfl hl.1 rfl (Nat.le_of_ble_eq_true rfl) dX1_become_18 (fun H locs hP hD hS => ?_)
        obtain ⟨r21, hr21, hF⟩ := opb hF
        refine kVV (As := [.int r18]) (rest := []) (ws' := (wd_X1_become cI a_t a_p a_signs a_p_signs r21.1 r21.2 c_p_length c_p_signs)) ⟨hx, hb, hml, hown, hts⟩ (c_X1_add l D cI a_t a_signs H.size c_length c_signs r18 r21 hr21) (cwV 1 hts mw_X1_23 rfl rfl rfl hd_X1_add ⟨Nat.le_of_ble_eq_true rfl, Nat.le_of_ble_eq_true rfl⟩) hS hA hG hK hP hD [0, 1] rfl rfl rfl rfl rfl ⟨Nat.zero_le _, Nat.zero_le _⟩ 1 0 rfl rfl rfl rfl hl.1 rfl (Nat.le_of_ble_eq_true rfl) dX1_become_21 (fun H locs hP hD hS => ?_)
        refine lv_iinc (v := x2 + 1) (lv' := [(2, .int (x2 + 1)), (0, .ref a_t), (1, .ref a_p)]) hx hb dX1_become_24 hl (k := 2) rfl rfl (by decide) rfl (fun ls hl => ?_)
        refine lv_goto (tgt := 7) hx hb dX1_become_27 (by decide) ?_
        exact ih7 r21.1 r21.2 (x2 + 1) H locs ls hP hD hS (lv_sub hl [1, 2, 0] rfl) hF
  unfold F_X1_become at hF
  have hP : va_P D vwCl (wd_X1_become cI a_t a_p a_signs a_p_signs c_length c_signs c_p_length c_p_signs) s.heap := hP
  obtain ⟨H, hH⟩ : ∃ H, H = s.heap := ⟨_, rfl⟩
  rw [← hH]
  rw [← hH] at hP
  obtain ⟨locs, hlo⟩ : ∃ z : List Loc, z = [] := ⟨_, rfl⟩
  rw [← hlo]
  have hS : va_S A s.heap H locs := by rw [hH, hlo]; exact hS
  refine lv_aload_n hx hb dX1_become_0 rfl (lv_at hl 0 rfl) ?_
  refine lv_iconst (v := 0) hx hb dX1_become_1 (by decide) ?_
  refine put_X1_15 hx hb hts hown hK hP hD hS 0 rfl rfl rfl (Nat.le_of_ble_eq_true rfl) dX1_become_2 (fun H locs hP hD hS => ?_)
  have hP : va_P D vwCl (wd_X1_become cI a_t a_p a_signs a_p_signs (0 : Int32) c_signs c_p_length c_p_signs) H := hP
  have hD : va_D A (wd_X1_become cI a_t a_p a_signs a_p_signs (0 : Int32) c_signs c_p_length c_p_signs) := hD
  refine lv_iconst (v := 0) hx hb dX1_become_5 (by decide) ?_
  refine lv_istore_n (lv' := [(2, .int (0 : Int32)), (0, .ref a_t), (1, .ref a_p)]) hx hb dX1_become_6 rfl hl (by decide) rfl (fun ls hl => ?_)
  exact K7 FU (0 : Int32) c_signs (0 : Int32) H locs ls hP hD hS (lv_sub hl [1, 2, 0] rfl) hF
abbrev wd_X1_reverse (cI : ClassId) (a_t a_signs : Nat) (c_length : Int32) (c_signs : Nat → Int32) : va_W := [(a_t, .inr (1, [.ref a_signs, .int c_length])), (a_signs, .inl (cI, 11, .inl c_signs))]
def rm_X1_reverse : Room := { frames := 2, cells := 0, slots := 0, locals := 45 }
set_option maxHeartbeats 4000000 in
set_option maxRecDepth 100000 in
theorem c_X1_reverse (l : Launch) (D : va_G) (cI : ClassId) (a_t a_signs : Nat) (sz : Nat) (c_length : Int32) (c_signs : Nat → Int32) (x1 : Int32) (x2 : Int32) (o : (Nat → Int32)) (hF : F_X1_reverse c_length c_signs x1 x2 = some o) : Met l yX1_reverse (Cond.code yX1_reverse cX1_reverse 5 none :: WL) rm_X1_reverse (preM D [(cI, .int)] (wd_X1_reverse cI a_t a_signs c_length c_signs) sz [.ref a_t, .int x1, .int x2]) (postV D (wd_X1_reverse cI a_t a_signs c_length o) (wd_X1_reverse cI a_t a_signs c_length c_signs) sz) 0 0 (va_A (wd_X1_reverse cI a_t a_signs c_length c_signs) sz) := by
  refine mofV (by decide +kernel) (Nat.le_of_ble_eq_true rfl) ?_
  intro p e s m args below meth c Q A ls hx hb hml hown hts hK hP hD hS hA hG hl hret hsz0
  have hl : lv_has ls 5 [(0, .ref a_t), (1, .int x1), (2, .int x2)] := hl
  have K5 : ∀ (n5 : Nat) (c_signs : Nat → Int32) (x3 : Int32) (x4 : Int32) (H : Heap) (locs : List Loc) (ls : Array Slot), va_P D vwCl (wd_X1_reverse cI a_t a_signs c_length c_signs) H → va_D A (wd_X1_reverse cI a_t a_signs c_length c_signs) → va_S A s.heap H locs → lv_has ls 5 [(0, .ref a_t), (3, .int x3), (4, .int x4)] → F_X1_reverse_L5 c_length x1 x2 n5 c_signs x3 x4 = some o → W p l e rm_X1_reverse s m args below meth c H locs 0 0 Q (F0 m 5 ls []) := by
    intro n5
    induction n5 with
    | zero => intro c_signs x3 x4 H locs ls hP hD hS hl hF; exact nos hF
    | succ n5 ih5 =>
      intro c_signs x3 x4 H locs ls hP hD hS hl hF
      rw [F_X1_reverse_L5] at hF
      refine lv_iload hx hb dX1_reverse_5 (lv_at hl 2 rfl) ?_
      refine lv_iload_n hx hb dX1_reverse_7 rfl (lv_at hl 1 rfl) ?_
      refine lv_icmp_ge (tgt := 27) hx hb dX1_reverse_8 (by decide) (fun k8 => ?_) (fun k8 => ?_)
      · replace hF := (if_pos k8).symm.trans hF
        have ho := Option.some.inj hF
        exact hret H locs ls 27 _ hP hS (by rw [← ho]) dX1_reverse_27
      · replace hF := (if_neg k8).symm.trans hF
        refine lv_aload_n hx hb dX1_reverse_11 rfl (lv_at hl 0 rfl) ?_
        refine lv_iload hx hb dX1_reverse_12 (lv_at hl 2 rfl) ?_
        refine lv_iload_n hx hb dX1_reverse_14 rfl (lv_at hl 1 rfl) ?_
        obtain ⟨r15, hr15, hF⟩ := opb hF
        refine kVV (As := [.int x4, .int x3]) (rest := []) (ws' := (wd_X1_reverse cI a_t a_signs c_length r15)) ⟨hx, hb, hml, hown, hts⟩ (c_X1_exchange l D cI a_t a_signs H.size c_length c_signs x4 x3 r15 hr15) (cwV 2 hts mw_X1_38 rfl rfl rfl hd_X1_exchange ⟨Nat.le_of_ble_eq_true rfl, Nat.le_of_ble_eq_true rfl⟩) hS hA hG hK hP hD [0, 1] rfl rfl rfl rfl rfl ⟨Nat.zero_le _, Nat.zero_le _⟩ 1 0 rfl rfl rfl rfl hl.1 rfl (Nat.le_of_ble_eq_true rfl) dX1_reverse_15 (fun H locs hP hD hS => ?_)
        refine lv_iinc (v := x3 + (-1)) (lv' := [(3, .int (x3 + (-1))), (0, .ref a_t), (4, .int x4)]) hx hb dX1_reverse_18 hl (k := 1) rfl rfl (by decide) rfl (fun ls hl => ?_)
        refine lv_iinc (v := x4 + 1) (lv' := [(4, .int (x4 + 1)), (3, .int (x3 + (-1))), (0, .ref a_t)]) hx hb dX1_reverse_21 hl (k := 2) rfl rfl (by decide) rfl (fun ls hl => ?_)
        refine lv_goto (tgt := 5) hx hb dX1_reverse_24 (by decide) ?_
        exact ih5 r15 (x3 + (-1)) (x4 + 1) H locs ls hP hD hS (lv_sub hl [2, 1, 0] rfl) hF
  unfold F_X1_reverse at hF
  have hP : va_P D vwCl (wd_X1_reverse cI a_t a_signs c_length c_signs) s.heap := hP
  obtain ⟨H, hH⟩ : ∃ H, H = s.heap := ⟨_, rfl⟩
  rw [← hH]
  rw [← hH] at hP
  obtain ⟨locs, hlo⟩ : ∃ z : List Loc, z = [] := ⟨_, rfl⟩
  rw [← hlo]
  have hS : va_S A s.heap H locs := by rw [hH, hlo]; exact hS
  refine lv_iload_n hx hb dX1_reverse_0 rfl (lv_at hl 2 rfl) ?_
  refine lv_istore_n (lv' := [(3, .int x2), (0, .ref a_t), (1, .int x1), (2, .int x2)]) hx hb dX1_reverse_1 rfl hl (by decide) rfl (fun ls hl => ?_)
  refine lv_iload_n hx hb dX1_reverse_2 rfl (lv_at hl 2 rfl) ?_
  refine lv_istore (lv' := [(4, .int x1), (3, .int x2), (0, .ref a_t), (1, .int x1), (2, .int x2)]) hx hb dX1_reverse_3 hl (by decide) rfl (fun ls hl => ?_)
  exact K5 FU c_signs x2 x1 H locs ls hP hD hS (lv_sub hl [2, 1, 0] rfl) hF
abbrev wd_X1_roll (cI : ClassId) (a_t a_signs : Nat) (c_length : Int32) (c_signs : Nat → Int32) : va_W := [(a_t, .inr (1, [.ref a_signs, .int c_length])), (a_signs, .inl (cI, 11, .inl c_signs))]
def rm_X1_roll : Room := { frames := 3, cells := 0, slots := 0, locals := 68 }
set_option maxHeartbeats 4000000 in
set_option maxRecDepth 100000 in
theorem c_X1_roll (l : Launch) (D : va_G) (cI : ClassId) (a_t a_signs : Nat) (sz : Nat) (c_length : Int32) (c_signs : Nat → Int32) (o : (Nat → Int32)) (hF : F_X1_roll c_length c_signs = some o) : Met l yX1_roll (Cond.code yX1_roll cX1_roll 1 none :: WL) rm_X1_roll (preM D [(cI, .int)] (wd_X1_roll cI a_t a_signs c_length c_signs) sz [.ref a_t]) (postV D (wd_X1_roll cI a_t a_signs c_length o) (wd_X1_roll cI a_t a_signs c_length c_signs) sz) 0 0 (va_A (wd_X1_roll cI a_t a_signs c_length c_signs) sz) := by
  refine mofV (by decide +kernel) (Nat.le_of_ble_eq_true rfl) ?_
  intro p e s m args below meth c Q A ls hx hb hml hown hts hK hP hD hS hA hG hl hret hsz0
  have hl : lv_has ls 1 [(0, .ref a_t)] := hl
  unfold F_X1_roll at hF
  have hP : va_P D vwCl (wd_X1_roll cI a_t a_signs c_length c_signs) s.heap := hP
  obtain ⟨H, hH⟩ : ∃ H, H = s.heap := ⟨_, rfl⟩
  rw [← hH]
  rw [← hH] at hP
  obtain ⟨locs, hlo⟩ : ∃ z : List Loc, z = [] := ⟨_, rfl⟩
  rw [← hlo]
  have hS : va_S A s.heap H locs := by rw [hH, hlo]; exact hS
  refine lv_aload_n hx hb dX1_roll_0 rfl (lv_at hl 0 rfl) ?_
  refine lv_aload_n hx hb dX1_roll_1 rfl (lv_at hl 0 rfl) ?_
  refine get_X1_15 hx hb hts hown hK hP 0 rfl rfl dX1_roll_2 ?_
  refine lv_iconst (v := 1) hx hb dX1_roll_5 (by decide) ?_
  refine lv_isub hx hb dX1_roll_6 ?_
  refine lv_iconst (v := 0) hx hb dX1_roll_7 (by decide) ?_
  obtain ⟨r8, hr8, hF⟩ := opb hF
  refine kVV (As := [.int (c_length - (1 : Int32)), .int (0 : Int32)]) (rest := []) (ws' := (wd_X1_roll cI a_t a_signs c_length r8)) ⟨hx, hb, hml, hown, hts⟩ (c_X1_bringAhead l D cI a_t a_signs H.size c_length c_signs (c_length - (1 : Int32)) (0 : Int32) r8 hr8) (cwV 2 hts mw_X1_27 rfl rfl rfl hd_X1_bringAhead ⟨Nat.le_of_ble_eq_true rfl, Nat.le_of_ble_eq_true rfl⟩) hS hA hG hK hP hD [0, 1] rfl rfl rfl rfl rfl ⟨Nat.zero_le _, Nat.zero_le _⟩ 1 0 rfl rfl rfl rfl hl.1 rfl (Nat.le_of_ble_eq_true rfl) dX1_roll_8 (fun H locs hP hD hS => ?_)
  have ho := Option.some.inj hF
  exact hret H locs ls 11 _ hP hS (by rw [← ho]) dX1_roll_11
abbrev wd_X1_find (cI : ClassId) (a_t a_signs : Nat) (c_length : Int32) (c_signs : Nat → Int32) : va_W := [(a_t, .inr (1, [.ref a_signs, .int c_length])), (a_signs, .inl (cI, 11, .inl c_signs))]
def rm_X1_find : Room := { frames := 1, cells := 0, slots := 0, locals := 21 }
set_option maxHeartbeats 4000000 in
set_option maxRecDepth 100000 in
theorem c_X1_find (l : Launch) (D : va_G) (cI : ClassId) (a_t a_signs : Nat) (sz : Nat) (c_length : Int32) (c_signs : Nat → Int32) (x1 : Int32) (x2 : Int32) (o : Int32) (hF : F_X1_find c_length c_signs x1 x2 = some o) : Met l yX1_find (Cond.code yX1_find cX1_find 4 (some .int) :: WL) rm_X1_find (preM D [(cI, .int)] (wd_X1_find cI a_t a_signs c_length c_signs) sz [.ref a_t, .int x1, .int x2]) (postI D o (wd_X1_find cI a_t a_signs c_length c_signs) (wd_X1_find cI a_t a_signs c_length c_signs) sz) 0 0 (va_A (wd_X1_find cI a_t a_signs c_length c_signs) sz) := by
  refine mofI (by decide +kernel) (Nat.le_of_ble_eq_true rfl) ?_
  intro p e s m args below meth c Q A ls hx hb hml hown hts hK hP hD hS hA hG hl hret hsz0
  have hl : lv_has ls 4 [(0, .ref a_t), (1, .int x1), (2, .int x2)] := hl
  have K2 : ∀ (n2 : Nat) (x3 : Int32) (H : Heap) (locs : List Loc) (ls : Array Slot), va_P D vwCl (wd_X1_find cI a_t a_signs c_length c_signs) H → va_D A (wd_X1_find cI a_t a_signs c_length c_signs) → va_S A s.heap H locs → lv_has ls 4 [(0, .ref a_t), (1, .int x1), (2, .int x2), (3, .int x3)] → F_X1_find_L2 c_length c_signs x1 x2 n2 x3 = some o → W p l e rm_X1_find s m args below meth c H locs 0 0 Q (F0 m 2 ls []) := by
    intro n2
    induction n2 with
    | zero => intro x3 H locs ls hP hD hS hl hF; exact nos hF
    | succ n2 ih2 =>
      intro x3 H locs ls hP hD hS hl hF
      rw [F_X1_find_L2] at hF
      refine lv_iload_n hx hb dX1_find_2 rfl (lv_at hl 3 rfl) ?_
      refine lv_aload_n hx hb dX1_find_3 rfl (lv_at hl 0 rfl) ?_
      refine get_X1_15 hx hb hts hown hK hP 0 rfl rfl dX1_find_4 ?_
      refine lv_icmp_ge (tgt := 27) hx hb dX1_find_7 (by decide) (fun k7 => ?_) (fun k7 => ?_)
      · replace hF := (if_pos k7).symm.trans hF
        refine lv_iload_n hx hb dX1_find_27 rfl (lv_at hl 2 rfl) ?_
        have ho := Option.some.inj hF
        exact hret H locs ls 28 x2 _ hP hS rfl ho dX1_find_28
      · replace hF := (if_neg k7).symm.trans hF
        refine lv_aload_n hx hb dX1_find_10 rfl (lv_at hl 0 rfl) ?_
        refine lv_iload_n hx hb dX1_find_11 rfl (lv_at hl 3 rfl) ?_
        obtain ⟨r12, hr12, hF⟩ := opb hF
        refine kVI (As := [.int x3]) (rest := []) (ws' := (wd_X1_find cI a_t a_signs c_length c_signs)) ⟨hx, hb, hml, hown, hts⟩ (c_X1_at l D cI a_t a_signs H.size c_length c_signs x3 r12 hr12) (cwV 1 hts mw_X1_30 rfl rfl rfl hd_X1_at ⟨Nat.le_of_ble_eq_true rfl, Nat.le_of_ble_eq_true rfl⟩) hS hA hG hK hP hD [0, 1] rfl rfl rfl rfl rfl ⟨Nat.zero_le _, Nat.zero_le _⟩ 1 0 rfl rfl rfl rfl hl.1 rfl (Nat.le_of_ble_eq_true rfl) dX1_find_12 (fun H locs hP hD hS => ?_)
        refine lv_iload_n hx hb dX1_find_15 rfl (lv_at hl 1 rfl) ?_
        refine lv_icmp_ne (tgt := 21) hx hb dX1_find_16 (by decide) (fun k16 => ?_) (fun k16 => ?_)
        · replace hF := (if_neg k16).symm.trans hF
          refine lv_iinc (v := x3 + 1) (lv' := [(3, .int (x3 + 1)), (0, .ref a_t), (1, .int x1), (2, .int x2)]) hx hb dX1_find_21 hl (k := 3) rfl rfl (by decide) rfl (fun ls hl => ?_)
          refine lv_goto (tgt := 2) hx hb dX1_find_24 (by decide) ?_
          exact ih2 (x3 + 1) H locs ls hP hD hS (lv_sub hl [1, 2, 3, 0] rfl) hF
        · replace hF := (if_pos k16).symm.trans hF
          refine lv_iload_n hx hb dX1_find_19 rfl (lv_at hl 3 rfl) ?_
          have ho := Option.some.inj hF
          exact hret H locs ls 20 x3 _ hP hS rfl ho dX1_find_20
  unfold F_X1_find at hF
  have hP : va_P D vwCl (wd_X1_find cI a_t a_signs c_length c_signs) s.heap := hP
  obtain ⟨H, hH⟩ : ∃ H, H = s.heap := ⟨_, rfl⟩
  rw [← hH]
  rw [← hH] at hP
  obtain ⟨locs, hlo⟩ : ∃ z : List Loc, z = [] := ⟨_, rfl⟩
  rw [← hlo]
  have hS : va_S A s.heap H locs := by rw [hH, hlo]; exact hS
  refine lv_iload_n hx hb dX1_find_0 rfl (lv_at hl 2 rfl) ?_
  refine lv_istore_n (lv' := [(3, .int x2), (0, .ref a_t), (1, .int x1), (2, .int x2)]) hx hb dX1_find_1 rfl hl (by decide) rfl (fun ls hl => ?_)
  exact K2 FU x2 H locs ls hP hD hS (lv_sub hl [1, 2, 3, 0] rfl) hF
abbrev wd_X1_placesUnlike (cI : ClassId) (a_t a_p a_signs a_p_signs : Nat) (c_length : Int32) (c_signs : Nat → Int32) (c_p_length : Int32) (c_p_signs : Nat → Int32) : va_W := [(a_t, .inr (1, [.ref a_signs, .int c_length])), (a_signs, .inl (cI, 11, .inl c_signs)), (a_p, .inr (1, [.ref a_p_signs, .int c_p_length])), (a_p_signs, .inl (cI, 11, .inl c_p_signs))]
def rm_X1_placesUnlike : Room := { frames := 1, cells := 0, slots := 0, locals := 21 }
set_option maxHeartbeats 4000000 in
set_option maxRecDepth 100000 in
theorem c_X1_placesUnlike (l : Launch) (D : va_G) (cI : ClassId) (a_t a_p a_signs a_p_signs : Nat) (sz : Nat) (c_length : Int32) (c_signs : Nat → Int32) (c_p_length : Int32) (c_p_signs : Nat → Int32) (o : Int32) (hF : F_X1_placesUnlike c_length c_signs c_p_length c_p_signs = some o) : Met l yX1_placesUnlike (Cond.code yX1_placesUnlike cX1_placesUnlike 4 (some .int) :: WL) rm_X1_placesUnlike (preM D [(cI, .int)] (wd_X1_placesUnlike cI a_t a_p a_signs a_p_signs c_length c_signs c_p_length c_p_signs) sz [.ref a_t, .ref a_p]) (postI D o (wd_X1_placesUnlike cI a_t a_p a_signs a_p_signs c_length c_signs c_p_length c_p_signs) (wd_X1_placesUnlike cI a_t a_p a_signs a_p_signs c_length c_signs c_p_length c_p_signs) sz) 0 0 (va_A (wd_X1_placesUnlike cI a_t a_p a_signs a_p_signs c_length c_signs c_p_length c_p_signs) sz) := by
  refine mofI (by decide +kernel) (Nat.le_of_ble_eq_true rfl) ?_
  intro p e s m args below meth c Q A ls hx hb hml hown hts hK hP hD hS hA hG hl hret hsz0
  have hl : lv_has ls 4 [(0, .ref a_t), (1, .ref a_p)] := hl
  have K4 : ∀ (n4 : Nat) (x2 : Int32) (x3 : Int32) (H : Heap) (locs : List Loc) (ls : Array Slot), va_P D vwCl (wd_X1_placesUnlike cI a_t a_p a_signs a_p_signs c_length c_signs c_p_length c_p_signs) H → va_D A (wd_X1_placesUnlike cI a_t a_p a_signs a_p_signs c_length c_signs c_p_length c_p_signs) → va_S A s.heap H locs → lv_has ls 4 [(0, .ref a_t), (1, .ref a_p), (2, .int x2), (3, .int x3)] → F_X1_placesUnlike_L4 c_length c_signs c_p_length c_p_signs n4 x2 x3 = some o → W p l e rm_X1_placesUnlike s m args below meth c H locs 0 0 Q (F0 m 4 ls []) := by
    intro n4
    induction n4 with
    | zero => intro x2 x3 H locs ls hP hD hS hl hF; exact nos hF
    | succ n4 ih4 =>
      intro x2 x3 H locs ls hP hD hS hl hF
      rw [F_X1_placesUnlike_L4] at hF
      refine lv_iload_n hx hb dX1_placesUnlike_4 rfl (lv_at hl 3 rfl) ?_
      refine lv_aload_n hx hb dX1_placesUnlike_5 rfl (lv_at hl 0 rfl) ?_
      refine get_X1_15 hx hb hts hown hK hP 0 rfl rfl dX1_placesUnlike_6 ?_
      refine lv_icmp_ge (tgt := 39) hx hb dX1_placesUnlike_9 (by decide) (fun k9 => ?_) (fun k9 => ?_)
      · replace hF := (if_pos k9).symm.trans hF
        refine lv_iload_n hx hb dX1_placesUnlike_39 rfl (lv_at hl 2 rfl) ?_
        have ho := Option.some.inj hF
        exact hret H locs ls 40 x2 _ hP hS rfl ho dX1_placesUnlike_40
      · replace hF := (if_neg k9).symm.trans hF
        refine lv_iload_n hx hb dX1_placesUnlike_12 rfl (lv_at hl 2 rfl) ?_
        refine lv_aload_n hx hb dX1_placesUnlike_13 rfl (lv_at hl 0 rfl) ?_
        refine lv_iload_n hx hb dX1_placesUnlike_14 rfl (lv_at hl 3 rfl) ?_
        obtain ⟨r15, hr15, hF⟩ := opb hF
        refine kVI (As := [.int x3]) (rest := [.int x2]) (ws' := (wd_X1_placesUnlike cI a_t a_p a_signs a_p_signs c_length c_signs c_p_length c_p_signs)) ⟨hx, hb, hml, hown, hts⟩ (c_X1_at l D cI a_t a_signs H.size c_length c_signs x3 r15 hr15) (cwV 1 hts mw_X1_30 rfl rfl rfl hd_X1_at ⟨Nat.le_of_ble_eq_true rfl, Nat.le_of_ble_eq_true rfl⟩) hS hA hG hK hP hD [0, 1] rfl rfl rfl rfl rfl ⟨Nat.zero_le _, Nat.zero_le _⟩ 1 0 rfl rfl rfl rfl hl.1 rfl (Nat.le_of_ble_eq_true rfl) dX1_placesUnlike_15 (fun H locs hP hD hS => ?_)
        refine lv_aload_n hx hb dX1_placesUnlike_18 rfl (lv_at hl 1 rfl) ?_
        refine lv_iload_n hx hb dX1_placesUnlike_19 rfl (lv_at hl 3 rfl) ?_
        obtain ⟨r20, hr20, hF⟩ := opb hF
        refine kVI (As := [.int x3]) (rest := [.int r15, .int x2]) (ws' := (wd_X1_placesUnlike cI a_t a_p a_signs a_p_signs c_length c_signs c_p_length c_p_signs)) ⟨hx, hb, hml, hown, hts⟩ (c_X1_at l D cI a_p a_p_signs H.size c_p_length c_p_signs x3 r20 hr20) (cwV 1 hts mw_X1_30 rfl rfl rfl hd_X1_at ⟨Nat.le_of_ble_eq_true rfl, Nat.le_of_ble_eq_true rfl⟩) hS hA hG hK hP hD [2, 3] rfl rfl rfl rfl rfl ⟨Nat.zero_le _, Nat.zero_le _⟩ 1 2 rfl rfl rfl rfl hl.1 rfl (Nat.le_of_ble_eq_true rfl) dX1_placesUnlike_20 (fun H locs hP hD hS => ?_)
        refine lv_icmp_ne (tgt := 30) hx hb dX1_placesUnlike_23 (by decide) (fun k23 => ?_) (fun k23 => ?_)
        · (try simp only [if_neg k23] at hF)
          refine lv_iconst (v := 1) hx hb dX1_placesUnlike_30 (by decide) ?_
          refine lv_iadd hx hb dX1_placesUnlike_31 ?_
          refine lv_istore_n (lv' := [(2, .int (x2 + (1 : Int32))), (0, .ref a_t), (1, .ref a_p), (3, .int x3)]) hx hb dX1_placesUnlike_32 rfl hl (by decide) rfl (fun ls hl => ?_)
          refine lv_iinc (v := x3 + 1) (lv' := [(3, .int (x3 + 1)), (2, .int (x2 + (1 : Int32))), (0, .ref a_t), (1, .ref a_p)]) hx hb dX1_placesUnlike_33 hl (k := 3) rfl rfl (by decide) rfl (fun ls hl => ?_)
          refine lv_goto (tgt := 4) hx hb dX1_placesUnlike_36 (by decide) ?_
          exact ih4 (x2 + (1 : Int32)) (x3 + 1) H locs ls hP hD hS (lv_sub hl [2, 3, 1, 0] rfl) hF
        · (try simp only [if_pos k23] at hF)
          refine lv_iconst (v := 0) hx hb dX1_placesUnlike_26 (by decide) ?_
          refine lv_goto (tgt := 31) hx hb dX1_placesUnlike_27 (by decide) ?_
          refine lv_iadd hx hb dX1_placesUnlike_31 ?_
          refine lv_istore_n (lv' := [(2, .int (x2 + (0 : Int32))), (0, .ref a_t), (1, .ref a_p), (3, .int x3)]) hx hb dX1_placesUnlike_32 rfl hl (by decide) rfl (fun ls hl => ?_)
          refine lv_iinc (v := x3 + 1) (lv' := [(3, .int (x3 + 1)), (2, .int (x2 + (0 : Int32))), (0, .ref a_t), (1, .ref a_p)]) hx hb dX1_placesUnlike_33 hl (k := 3) rfl rfl (by decide) rfl (fun ls hl => ?_)
          refine lv_goto (tgt := 4) hx hb dX1_placesUnlike_36 (by decide) ?_
          exact ih4 (x2 + (0 : Int32)) (x3 + 1) H locs ls hP hD hS (lv_sub hl [2, 3, 1, 0] rfl) hF
  unfold F_X1_placesUnlike at hF
  have hP : va_P D vwCl (wd_X1_placesUnlike cI a_t a_p a_signs a_p_signs c_length c_signs c_p_length c_p_signs) s.heap := hP
  obtain ⟨H, hH⟩ : ∃ H, H = s.heap := ⟨_, rfl⟩
  rw [← hH]
  rw [← hH] at hP
  obtain ⟨locs, hlo⟩ : ∃ z : List Loc, z = [] := ⟨_, rfl⟩
  rw [← hlo]
  have hS : va_S A s.heap H locs := by rw [hH, hlo]; exact hS
  refine lv_iconst (v := 0) hx hb dX1_placesUnlike_0 (by decide) ?_
  refine lv_istore_n (lv' := [(2, .int (0 : Int32)), (0, .ref a_t), (1, .ref a_p)]) hx hb dX1_placesUnlike_1 rfl hl (by decide) rfl (fun ls hl => ?_)
  refine lv_iconst (v := 0) hx hb dX1_placesUnlike_2 (by decide) ?_
  refine lv_istore_n (lv' := [(3, .int (0 : Int32)), (2, .int (0 : Int32)), (0, .ref a_t), (1, .ref a_p)]) hx hb dX1_placesUnlike_3 rfl hl (by decide) rfl (fun ls hl => ?_)
  exact K4 FU (0 : Int32) (0 : Int32) H locs ls hP hD hS (lv_sub hl [2, 3, 1, 0] rfl) hF
abbrev wd_X1_isSmooth (cI : ClassId) (a_t a_signs : Nat) (c_length : Int32) (c_signs : Nat → Int32) : va_W := [(a_t, .inr (1, [.ref a_signs, .int c_length])), (a_signs, .inl (cI, 11, .inl c_signs))]
def rm_X1_isSmooth : Room := { frames := 1, cells := 0, slots := 0, locals := 21 }
set_option maxHeartbeats 4000000 in
set_option maxRecDepth 100000 in
theorem c_X1_isSmooth (l : Launch) (D : va_G) (cI : ClassId) (a_t a_signs : Nat) (sz : Nat) (c_length : Int32) (c_signs : Nat → Int32) (x1 : Int32) (o : Int32) (hF : F_X1_isSmooth c_length c_signs x1 = some o) : Met l yX1_isSmooth (Cond.code yX1_isSmooth cX1_isSmooth 3 (some .boolean) :: WL) rm_X1_isSmooth (preM D [(cI, .int)] (wd_X1_isSmooth cI a_t a_signs c_length c_signs) sz [.ref a_t, .int x1]) (postI D o (wd_X1_isSmooth cI a_t a_signs c_length c_signs) (wd_X1_isSmooth cI a_t a_signs c_length c_signs) sz) 0 0 (va_A (wd_X1_isSmooth cI a_t a_signs c_length c_signs) sz) := by
  refine mofZ (by decide +kernel) (Nat.le_of_ble_eq_true rfl) ?_
  intro p e s m args below meth c Q A ls hx hb hml hown hts hK hP hD hS hA hG hl hret hsz0
  have hl : lv_has ls 3 [(0, .ref a_t), (1, .int x1)] := hl
  have K2 : ∀ (n2 : Nat) (x2 : Int32) (H : Heap) (locs : List Loc) (ls : Array Slot), va_P D vwCl (wd_X1_isSmooth cI a_t a_signs c_length c_signs) H → va_D A (wd_X1_isSmooth cI a_t a_signs c_length c_signs) → va_S A s.heap H locs → lv_has ls 3 [(0, .ref a_t), (1, .int x1), (2, .int x2)] → F_X1_isSmooth_L2 c_length c_signs x1 n2 x2 = some o → W p l e rm_X1_isSmooth s m args below meth c H locs 0 0 Q (F0 m 2 ls []) := by
    intro n2
    induction n2 with
    | zero => intro x2 H locs ls hP hD hS hl hF; exact nos hF
    | succ n2 ih2 =>
      intro x2 H locs ls hP hD hS hl hF
      rw [F_X1_isSmooth_L2] at hF
      refine lv_iload_n hx hb dX1_isSmooth_2 rfl (lv_at hl 2 rfl) ?_
      refine lv_iload_n hx hb dX1_isSmooth_3 rfl (lv_at hl 1 rfl) ?_
      refine lv_icmp_ge (tgt := 30) hx hb dX1_isSmooth_4 (by decide) (fun k4 => ?_) (fun k4 => ?_)
      · replace hF := (if_pos k4).symm.trans hF
        refine lv_iconst (v := 1) hx hb dX1_isSmooth_30 (by decide) ?_
        have ho := Option.some.inj hF
        exact hret H locs ls 31 (1 : Int32) _ hP hS rfl ho (by decide) dX1_isSmooth_31
      · replace hF := (if_neg k4).symm.trans hF
        refine lv_aload_n hx hb dX1_isSmooth_7 rfl (lv_at hl 0 rfl) ?_
        refine lv_iload_n hx hb dX1_isSmooth_8 rfl (lv_at hl 2 rfl) ?_
        obtain ⟨r9, hr9, hF⟩ := opb hF
        refine kVI (As := [.int x2]) (rest := []) (ws' := (wd_X1_isSmooth cI a_t a_signs c_length c_signs)) ⟨hx, hb, hml, hown, hts⟩ (c_X1_at l D cI a_t a_signs H.size c_length c_signs x2 r9 hr9) (cwV 1 hts mw_X1_30 rfl rfl rfl hd_X1_at ⟨Nat.le_of_ble_eq_true rfl, Nat.le_of_ble_eq_true rfl⟩) hS hA hG hK hP hD [0, 1] rfl rfl rfl rfl rfl ⟨Nat.zero_le _, Nat.zero_le _⟩ 1 0 rfl rfl rfl rfl hl.1 rfl (Nat.le_of_ble_eq_true rfl) dX1_isSmooth_9 (fun H locs hP hD hS => ?_)
        refine lv_aload_n hx hb dX1_isSmooth_12 rfl (lv_at hl 0 rfl) ?_
        refine lv_iload_n hx hb dX1_isSmooth_13 rfl (lv_at hl 2 rfl) ?_
        refine lv_iconst (v := 1) hx hb dX1_isSmooth_14 (by decide) ?_
        refine lv_isub hx hb dX1_isSmooth_15 ?_
        obtain ⟨r16, hr16, hF⟩ := opb hF
        refine kVI (As := [.int (x2 - (1 : Int32))]) (rest := [.int r9]) (ws' := (wd_X1_isSmooth cI a_t a_signs c_length c_signs)) ⟨hx, hb, hml, hown, hts⟩ (c_X1_at l D cI a_t a_signs H.size c_length c_signs (x2 - (1 : Int32)) r16 hr16) (cwV 1 hts mw_X1_30 rfl rfl rfl hd_X1_at ⟨Nat.le_of_ble_eq_true rfl, Nat.le_of_ble_eq_true rfl⟩) hS hA hG hK hP hD [0, 1] rfl rfl rfl rfl rfl ⟨Nat.zero_le _, Nat.zero_le _⟩ 1 0 rfl rfl rfl rfl hl.1 rfl (Nat.le_of_ble_eq_true rfl) dX1_isSmooth_16 (fun H locs hP hD hS => ?_)
        refine lv_icmp_ne (tgt := 24) hx hb dX1_isSmooth_19 (by decide) (fun k19 => ?_) (fun k19 => ?_)
        · replace hF := (if_neg k19).symm.trans hF
          refine lv_iinc (v := x2 + 1) (lv' := [(2, .int (x2 + 1)), (0, .ref a_t), (1, .int x1)]) hx hb dX1_isSmooth_24 hl (k := 2) rfl rfl (by decide) rfl (fun ls hl => ?_)
          refine lv_goto (tgt := 2) hx hb dX1_isSmooth_27 (by decide) ?_
          exact ih2 (x2 + 1) H locs ls hP hD hS (lv_sub hl [1, 2, 0] rfl) hF
        · replace hF := (if_pos k19).symm.trans hF
          refine lv_iconst (v := 0) hx hb dX1_isSmooth_22 (by decide) ?_
          have ho := Option.some.inj hF
          exact hret H locs ls 23 (0 : Int32) _ hP hS rfl ho (by decide) dX1_isSmooth_23
  unfold F_X1_isSmooth at hF
  have hP : va_P D vwCl (wd_X1_isSmooth cI a_t a_signs c_length c_signs) s.heap := hP
  obtain ⟨H, hH⟩ : ∃ H, H = s.heap := ⟨_, rfl⟩
  rw [← hH]
  rw [← hH] at hP
  obtain ⟨locs, hlo⟩ : ∃ z : List Loc, z = [] := ⟨_, rfl⟩
  rw [← hlo]
  have hS : va_S A s.heap H locs := by rw [hH, hlo]; exact hS
  refine lv_iconst (v := 1) hx hb dX1_isSmooth_0 (by decide) ?_
  refine lv_istore_n (lv' := [(2, .int (1 : Int32)), (0, .ref a_t), (1, .int x1)]) hx hb dX1_isSmooth_1 rfl hl (by decide) rfl (fun ls hl => ?_)
  exact K2 FU (1 : Int32) H locs ls hP hD hS (lv_sub hl [1, 2, 0] rfl) hF
abbrev wd_X1_inversions (cI : ClassId) (a_t a_signs : Nat) (c_length : Int32) (c_signs : Nat → Int32) : va_W := [(a_t, .inr (1, [.ref a_signs, .int c_length])), (a_signs, .inl (cI, 11, .inl c_signs))]
def rm_X1_inversions : Room := { frames := 1, cells := 0, slots := 0, locals := 21 }
set_option maxHeartbeats 4000000 in
set_option maxRecDepth 100000 in
theorem c_X1_inversions (l : Launch) (D : va_G) (cI : ClassId) (a_t a_signs : Nat) (sz : Nat) (c_length : Int32) (c_signs : Nat → Int32) (o : Int32) (hF : F_X1_inversions c_length c_signs = some o) : Met l yX1_inversions (Cond.code yX1_inversions cX1_inversions 4 (some .int) :: WL) rm_X1_inversions (preM D [(cI, .int)] (wd_X1_inversions cI a_t a_signs c_length c_signs) sz [.ref a_t]) (postI D o (wd_X1_inversions cI a_t a_signs c_length c_signs) (wd_X1_inversions cI a_t a_signs c_length c_signs) sz) 0 0 (va_A (wd_X1_inversions cI a_t a_signs c_length c_signs) sz) := by
  refine mofI (by decide +kernel) (Nat.le_of_ble_eq_true rfl) ?_
  intro p e s m args below meth c Q A ls hx hb hml hown hts hK hP hD hS hA hG hl hret hsz0
  have hl : lv_has ls 4 [(0, .ref a_t)] := hl
  have K4 : ∀ (n4 : Nat) (x1 : Int32) (x2 : Int32) (H : Heap) (locs : List Loc) (ls : Array Slot), va_P D vwCl (wd_X1_inversions cI a_t a_signs c_length c_signs) H → va_D A (wd_X1_inversions cI a_t a_signs c_length c_signs) → va_S A s.heap H locs → lv_has ls 4 [(0, .ref a_t), (1, .int x1), (2, .int x2)] → F_X1_inversions_L4 c_length c_signs n4 x1 x2 = some o → W p l e rm_X1_inversions s m args below meth c H locs 0 0 Q (F0 m 4 ls []) := by
    intro n4
    induction n4 with
    | zero => intro x1 x2 H locs ls hP hD hS hl hF; exact nos hF
    | succ n4 ih4 =>
      have K16 : ∀ (n16 : Nat) (x1 : Int32) (x2 : Int32) (x3 : Int32) (H : Heap) (locs : List Loc) (ls : Array Slot), va_P D vwCl (wd_X1_inversions cI a_t a_signs c_length c_signs) H → va_D A (wd_X1_inversions cI a_t a_signs c_length c_signs) → va_S A s.heap H locs → lv_has ls 4 [(0, .ref a_t), (1, .int x1), (2, .int x2), (3, .int x3)] → F_X1_inversions_L16 (F_X1_inversions_L4 c_length c_signs n4) c_length c_signs n16 x1 x2 x3 = some o → W p l e rm_X1_inversions s m args below meth c H locs 0 0 Q (F0 m 16 ls []) := by
        intro n16
        induction n16 with
        | zero => intro x1 x2 x3 H locs ls hP hD hS hl hF; exact nos hF
        | succ n16 ih16 =>
          intro x1 x2 x3 H locs ls hP hD hS hl hF
          rw [F_X1_inversions_L16] at hF
          refine lv_iload_n hx hb dX1_inversions_16 rfl (lv_at hl 3 rfl) ?_
          refine lv_aload_n hx hb dX1_inversions_17 rfl (lv_at hl 0 rfl) ?_
          refine get_X1_15 hx hb hts hown hK hP 0 rfl rfl dX1_inversions_18 ?_
          refine lv_icmp_ge (tgt := 51) hx hb dX1_inversions_21 (by decide) (fun k21 => ?_) (fun k21 => ?_)
          · replace hF := (if_pos k21).symm.trans hF
            refine lv_iinc (v := x2 + 1) (lv' := [(2, .int (x2 + 1)), (0, .ref a_t), (1, .int x1), (3, .int x3)]) hx hb dX1_inversions_51 hl (k := 2) rfl rfl (by decide) rfl (fun ls hl => ?_)
            refine lv_goto (tgt := 4) hx hb dX1_inversions_54 (by decide) ?_
            exact ih4 x1 (x2 + 1) H locs ls hP hD hS (lv_sub hl [1, 2, 0] rfl) hF
          · replace hF := (if_neg k21).symm.trans hF
            refine lv_iload_n hx hb dX1_inversions_24 rfl (lv_at hl 1 rfl) ?_
            refine lv_aload_n hx hb dX1_inversions_25 rfl (lv_at hl 0 rfl) ?_
            refine lv_iload_n hx hb dX1_inversions_26 rfl (lv_at hl 2 rfl) ?_
            obtain ⟨r27, hr27, hF⟩ := opb hF
            refine kVI (As := [.int x2]) (rest := [.int x1]) (ws' := (wd_X1_inversions cI a_t a_signs c_length c_signs)) ⟨hx, hb, hml, hown, hts⟩ (c_X1_at l D cI a_t a_signs H.size c_length c_signs x2 r27 hr27) (cwV 1 hts mw_X1_30 rfl rfl rfl hd_X1_at ⟨Nat.le_of_ble_eq_true rfl, Nat.le_of_ble_eq_true rfl⟩) hS hA hG hK hP hD [0, 1] rfl rfl rfl rfl rfl ⟨Nat.zero_le _, Nat.zero_le _⟩ 1 0 rfl rfl rfl rfl hl.1 rfl (Nat.le_of_ble_eq_true rfl) dX1_inversions_27 (fun H locs hP hD hS => ?_)
            refine lv_aload_n hx hb dX1_inversions_30 rfl (lv_at hl 0 rfl) ?_
            refine lv_iload_n hx hb dX1_inversions_31 rfl (lv_at hl 3 rfl) ?_
            obtain ⟨r32, hr32, hF⟩ := opb hF
            refine kVI (As := [.int x3]) (rest := [.int r27, .int x1]) (ws' := (wd_X1_inversions cI a_t a_signs c_length c_signs)) ⟨hx, hb, hml, hown, hts⟩ (c_X1_at l D cI a_t a_signs H.size c_length c_signs x3 r32 hr32) (cwV 1 hts mw_X1_30 rfl rfl rfl hd_X1_at ⟨Nat.le_of_ble_eq_true rfl, Nat.le_of_ble_eq_true rfl⟩) hS hA hG hK hP hD [0, 1] rfl rfl rfl rfl rfl ⟨Nat.zero_le _, Nat.zero_le _⟩ 1 0 rfl rfl rfl rfl hl.1 rfl (Nat.le_of_ble_eq_true rfl) dX1_inversions_32 (fun H locs hP hD hS => ?_)
            refine lv_icmp_le (tgt := 42) hx hb dX1_inversions_35 (by decide) (fun k35 => ?_) (fun k35 => ?_)
            · (try simp only [if_pos k35] at hF)
              refine lv_iconst (v := 0) hx hb dX1_inversions_42 (by decide) ?_
              refine lv_iadd hx hb dX1_inversions_43 ?_
              refine lv_istore_n (lv' := [(1, .int (x1 + (0 : Int32))), (0, .ref a_t), (2, .int x2), (3, .int x3)]) hx hb dX1_inversions_44 rfl hl (by decide) rfl (fun ls hl => ?_)
              refine lv_iinc (v := x3 + 1) (lv' := [(3, .int (x3 + 1)), (1, .int (x1 + (0 : Int32))), (0, .ref a_t), (2, .int x2)]) hx hb dX1_inversions_45 hl (k := 3) rfl rfl (by decide) rfl (fun ls hl => ?_)
              refine lv_goto (tgt := 16) hx hb dX1_inversions_48 (by decide) ?_
              exact ih16 (x1 + (0 : Int32)) x2 (x3 + 1) H locs ls hP hD hS (lv_sub hl [2, 1, 3, 0] rfl) hF
            · (try simp only [if_neg k35] at hF)
              refine lv_iconst (v := 1) hx hb dX1_inversions_38 (by decide) ?_
              refine lv_goto (tgt := 43) hx hb dX1_inversions_39 (by decide) ?_
              refine lv_iadd hx hb dX1_inversions_43 ?_
              refine lv_istore_n (lv' := [(1, .int (x1 + (1 : Int32))), (0, .ref a_t), (2, .int x2), (3, .int x3)]) hx hb dX1_inversions_44 rfl hl (by decide) rfl (fun ls hl => ?_)
              refine lv_iinc (v := x3 + 1) (lv' := [(3, .int (x3 + 1)), (1, .int (x1 + (1 : Int32))), (0, .ref a_t), (2, .int x2)]) hx hb dX1_inversions_45 hl (k := 3) rfl rfl (by decide) rfl (fun ls hl => ?_)
              refine lv_goto (tgt := 16) hx hb dX1_inversions_48 (by decide) ?_
              exact ih16 (x1 + (1 : Int32)) x2 (x3 + 1) H locs ls hP hD hS (lv_sub hl [2, 1, 3, 0] rfl) hF
      intro x1 x2 H locs ls hP hD hS hl hF
      rw [F_X1_inversions_L4] at hF
      refine lv_iload_n hx hb dX1_inversions_4 rfl (lv_at hl 2 rfl) ?_
      refine lv_aload_n hx hb dX1_inversions_5 rfl (lv_at hl 0 rfl) ?_
      refine get_X1_15 hx hb hts hown hK hP 0 rfl rfl dX1_inversions_6 ?_
      refine lv_icmp_ge (tgt := 57) hx hb dX1_inversions_9 (by decide) (fun k9 => ?_) (fun k9 => ?_)
      · replace hF := (if_pos k9).symm.trans hF
        refine lv_iload_n hx hb dX1_inversions_57 rfl (lv_at hl 1 rfl) ?_
        have ho := Option.some.inj hF
        exact hret H locs ls 58 x1 _ hP hS rfl ho dX1_inversions_58
      · replace hF := (if_neg k9).symm.trans hF
        refine lv_iload_n hx hb dX1_inversions_12 rfl (lv_at hl 2 rfl) ?_
        refine lv_iconst (v := 1) hx hb dX1_inversions_13 (by decide) ?_
        refine lv_iadd hx hb dX1_inversions_14 ?_
        refine lv_istore_n (lv' := [(3, .int (x2 + (1 : Int32))), (0, .ref a_t), (1, .int x1), (2, .int x2)]) hx hb dX1_inversions_15 rfl hl (by decide) rfl (fun ls hl => ?_)
        exact K16 FU x1 x2 (x2 + (1 : Int32)) H locs ls hP hD hS (lv_sub hl [1, 2, 3, 0] rfl) hF
  unfold F_X1_inversions at hF
  have hP : va_P D vwCl (wd_X1_inversions cI a_t a_signs c_length c_signs) s.heap := hP
  obtain ⟨H, hH⟩ : ∃ H, H = s.heap := ⟨_, rfl⟩
  rw [← hH]
  rw [← hH] at hP
  obtain ⟨locs, hlo⟩ : ∃ z : List Loc, z = [] := ⟨_, rfl⟩
  rw [← hlo]
  have hS : va_S A s.heap H locs := by rw [hH, hlo]; exact hS
  refine lv_iconst (v := 0) hx hb dX1_inversions_0 (by decide) ?_
  refine lv_istore_n (lv' := [(1, .int (0 : Int32)), (0, .ref a_t)]) hx hb dX1_inversions_1 rfl hl (by decide) rfl (fun ls hl => ?_)
  refine lv_iconst (v := 0) hx hb dX1_inversions_2 (by decide) ?_
  refine lv_istore_n (lv' := [(2, .int (0 : Int32)), (1, .int (0 : Int32)), (0, .ref a_t)]) hx hb dX1_inversions_3 rfl hl (by decide) rfl (fun ls hl => ?_)
  exact K4 FU (0 : Int32) (0 : Int32) H locs ls hP hD hS (lv_sub hl [2, 1, 0] rfl) hF
abbrev wd_X1_fallsBehind (cI : ClassId) (a_t a_signs : Nat) (c_length : Int32) (c_signs : Nat → Int32) : va_W := [(a_t, .inr (1, [.ref a_signs, .int c_length])), (a_signs, .inl (cI, 11, .inl c_signs))]
def rm_X1_fallsBehind : Room := { frames := 1, cells := 0, slots := 0, locals := 21 }
set_option maxHeartbeats 4000000 in
set_option maxRecDepth 100000 in
theorem c_X1_fallsBehind (l : Launch) (D : va_G) (cI : ClassId) (a_t a_signs : Nat) (sz : Nat) (c_length : Int32) (c_signs : Nat → Int32) (x1 : Int32) (o : Int32) (hF : F_X1_fallsBehind c_length c_signs x1 = some o) : Met l yX1_fallsBehind (Cond.code yX1_fallsBehind cX1_fallsBehind 2 (some .boolean) :: WL) rm_X1_fallsBehind (preM D [(cI, .int)] (wd_X1_fallsBehind cI a_t a_signs c_length c_signs) sz [.ref a_t, .int x1]) (postI D o (wd_X1_fallsBehind cI a_t a_signs c_length c_signs) (wd_X1_fallsBehind cI a_t a_signs c_length c_signs) sz) 0 0 (va_A (wd_X1_fallsBehind cI a_t a_signs c_length c_signs) sz) := by
  refine mofZ (by decide +kernel) (Nat.le_of_ble_eq_true rfl) ?_
  intro p e s m args below meth c Q A ls hx hb hml hown hts hK hP hD hS hA hG hl hret hsz0
  have hl : lv_has ls 2 [(0, .ref a_t), (1, .int x1)] := hl
  unfold F_X1_fallsBehind at hF
  have hP : va_P D vwCl (wd_X1_fallsBehind cI a_t a_signs c_length c_signs) s.heap := hP
  obtain ⟨H, hH⟩ : ∃ H, H = s.heap := ⟨_, rfl⟩
  rw [← hH]
  rw [← hH] at hP
  obtain ⟨locs, hlo⟩ : ∃ z : List Loc, z = [] := ⟨_, rfl⟩
  rw [← hlo]
  have hS : va_S A s.heap H locs := by rw [hH, hlo]; exact hS
  refine lv_iload_n hx hb dX1_fallsBehind_0 rfl (lv_at hl 1 rfl) ?_
  refine lv_aload_n hx hb dX1_fallsBehind_1 rfl (lv_at hl 0 rfl) ?_
  refine get_X1_15 hx hb hts hown hK hP 0 rfl rfl dX1_fallsBehind_2 ?_
  refine lv_iconst (v := 1) hx hb dX1_fallsBehind_5 (by decide) ?_
  refine lv_isub hx hb dX1_fallsBehind_6 ?_
  refine lv_icmp_ge (tgt := 29) hx hb dX1_fallsBehind_7 (by decide) (fun k7 => ?_) (fun k7 => ?_)
  · replace hF := (if_pos k7).symm.trans hF
    refine lv_iconst (v := 0) hx hb dX1_fallsBehind_29 (by decide) ?_
    have ho := Option.some.inj hF
    exact hret H locs ls 30 (0 : Int32) _ hP hS rfl ho (by decide) dX1_fallsBehind_30
  · replace hF := (if_neg k7).symm.trans hF
    refine lv_aload_n hx hb dX1_fallsBehind_10 rfl (lv_at hl 0 rfl) ?_
    refine lv_iload_n hx hb dX1_fallsBehind_11 rfl (lv_at hl 1 rfl) ?_
    obtain ⟨r12, hr12, hF⟩ := opb hF
    refine kVI (As := [.int x1]) (rest := []) (ws' := (wd_X1_fallsBehind cI a_t a_signs c_length c_signs)) ⟨hx, hb, hml, hown, hts⟩ (c_X1_at l D cI a_t a_signs H.size c_length c_signs x1 r12 hr12) (cwV 1 hts mw_X1_30 rfl rfl rfl hd_X1_at ⟨Nat.le_of_ble_eq_true rfl, Nat.le_of_ble_eq_true rfl⟩) hS hA hG hK hP hD [0, 1] rfl rfl rfl rfl rfl ⟨Nat.zero_le _, Nat.zero_le _⟩ 1 0 rfl rfl rfl rfl hl.1 rfl (Nat.le_of_ble_eq_true rfl) dX1_fallsBehind_12 (fun H locs hP hD hS => ?_)
    refine lv_aload_n hx hb dX1_fallsBehind_15 rfl (lv_at hl 0 rfl) ?_
    refine lv_iload_n hx hb dX1_fallsBehind_16 rfl (lv_at hl 1 rfl) ?_
    refine lv_iconst (v := 1) hx hb dX1_fallsBehind_17 (by decide) ?_
    refine lv_iadd hx hb dX1_fallsBehind_18 ?_
    obtain ⟨r19, hr19, hF⟩ := opb hF
    refine kVI (As := [.int (x1 + (1 : Int32))]) (rest := [.int r12]) (ws' := (wd_X1_fallsBehind cI a_t a_signs c_length c_signs)) ⟨hx, hb, hml, hown, hts⟩ (c_X1_at l D cI a_t a_signs H.size c_length c_signs (x1 + (1 : Int32)) r19 hr19) (cwV 1 hts mw_X1_30 rfl rfl rfl hd_X1_at ⟨Nat.le_of_ble_eq_true rfl, Nat.le_of_ble_eq_true rfl⟩) hS hA hG hK hP hD [0, 1] rfl rfl rfl rfl rfl ⟨Nat.zero_le _, Nat.zero_le _⟩ 1 0 rfl rfl rfl rfl hl.1 rfl (Nat.le_of_ble_eq_true rfl) dX1_fallsBehind_19 (fun H locs hP hD hS => ?_)
    refine lv_icmp_le (tgt := 29) hx hb dX1_fallsBehind_22 (by decide) (fun k22 => ?_) (fun k22 => ?_)
    · (try simp only [if_pos k22] at hF)
      refine lv_iconst (v := 0) hx hb dX1_fallsBehind_29 (by decide) ?_
      have ho := Option.some.inj hF
      exact hret H locs ls 30 (0 : Int32) _ hP hS rfl ho (by decide) dX1_fallsBehind_30
    · (try simp only [if_neg k22] at hF)
      refine lv_iconst (v := 1) hx hb dX1_fallsBehind_25 (by decide) ?_
      refine lv_goto (tgt := 30) hx hb dX1_fallsBehind_26 (by decide) ?_
      have ho := Option.some.inj hF
      exact hret H locs ls 30 (1 : Int32) _ hP hS rfl ho (by decide) dX1_fallsBehind_30
abbrev wd_X1_descents (cI : ClassId) (a_t a_signs : Nat) (c_length : Int32) (c_signs : Nat → Int32) : va_W := [(a_t, .inr (1, [.ref a_signs, .int c_length])), (a_signs, .inl (cI, 11, .inl c_signs))]
def rm_X1_descents : Room := { frames := 2, cells := 0, slots := 0, locals := 42 }
set_option maxHeartbeats 4000000 in
set_option maxRecDepth 100000 in
theorem c_X1_descents (l : Launch) (D : va_G) (cI : ClassId) (a_t a_signs : Nat) (sz : Nat) (c_length : Int32) (c_signs : Nat → Int32) (o : Int32) (hF : F_X1_descents c_length c_signs = some o) : Met l yX1_descents (Cond.code yX1_descents cX1_descents 3 (some .int) :: WL) rm_X1_descents (preM D [(cI, .int)] (wd_X1_descents cI a_t a_signs c_length c_signs) sz [.ref a_t]) (postI D o (wd_X1_descents cI a_t a_signs c_length c_signs) (wd_X1_descents cI a_t a_signs c_length c_signs) sz) 0 0 (va_A (wd_X1_descents cI a_t a_signs c_length c_signs) sz) := by
  refine mofI (by decide +kernel) (Nat.le_of_ble_eq_true rfl) ?_
  intro p e s m args below meth c Q A ls hx hb hml hown hts hK hP hD hS hA hG hl hret hsz0
  have hl : lv_has ls 3 [(0, .ref a_t)] := hl
  have K4 : ∀ (n4 : Nat) (x1 : Int32) (x2 : Int32) (H : Heap) (locs : List Loc) (ls : Array Slot), va_P D vwCl (wd_X1_descents cI a_t a_signs c_length c_signs) H → va_D A (wd_X1_descents cI a_t a_signs c_length c_signs) → va_S A s.heap H locs → lv_has ls 3 [(0, .ref a_t), (1, .int x1), (2, .int x2)] → F_X1_descents_L4 c_length c_signs n4 x1 x2 = some o → W p l e rm_X1_descents s m args below meth c H locs 0 0 Q (F0 m 4 ls []) := by
    intro n4
    induction n4 with
    | zero => intro x1 x2 H locs ls hP hD hS hl hF; exact nos hF
    | succ n4 ih4 =>
      intro x1 x2 H locs ls hP hD hS hl hF
      rw [F_X1_descents_L4] at hF
      refine lv_iload_n hx hb dX1_descents_4 rfl (lv_at hl 2 rfl) ?_
      refine lv_aload_n hx hb dX1_descents_5 rfl (lv_at hl 0 rfl) ?_
      refine get_X1_15 hx hb hts hown hK hP 0 rfl rfl dX1_descents_6 ?_
      refine lv_icmp_ge (tgt := 34) hx hb dX1_descents_9 (by decide) (fun k9 => ?_) (fun k9 => ?_)
      · replace hF := (if_pos k9).symm.trans hF
        refine lv_iload_n hx hb dX1_descents_34 rfl (lv_at hl 1 rfl) ?_
        have ho := Option.some.inj hF
        exact hret H locs ls 35 x1 _ hP hS rfl ho dX1_descents_35
      · replace hF := (if_neg k9).symm.trans hF
        refine lv_iload_n hx hb dX1_descents_12 rfl (lv_at hl 1 rfl) ?_
        refine lv_aload_n hx hb dX1_descents_13 rfl (lv_at hl 0 rfl) ?_
        refine lv_iload_n hx hb dX1_descents_14 rfl (lv_at hl 2 rfl) ?_
        obtain ⟨r15, hr15, hF⟩ := opb hF
        refine kVI (As := [.int x2]) (rest := [.int x1]) (ws' := (wd_X1_descents cI a_t a_signs c_length c_signs)) ⟨hx, hb, hml, hown, hts⟩ (c_X1_fallsBehind l D cI a_t a_signs H.size c_length c_signs x2 r15 hr15) (cwV 1 hts mw_X1_41 rfl rfl rfl hd_X1_fallsBehind ⟨Nat.le_of_ble_eq_true rfl, Nat.le_of_ble_eq_true rfl⟩) hS hA hG hK hP hD [0, 1] rfl rfl rfl rfl rfl ⟨Nat.zero_le _, Nat.zero_le _⟩ 1 0 rfl rfl rfl rfl hl.1 rfl (Nat.le_of_ble_eq_true rfl) dX1_descents_15 (fun H locs hP hD hS => ?_)
        refine lv_if_eq (tgt := 25) hx hb dX1_descents_18 (by decide) (fun k18 => ?_) (fun k18 => ?_)
        · (try simp only [if_pos k18] at hF)
          refine lv_iconst (v := 0) hx hb dX1_descents_25 (by decide) ?_
          refine lv_iadd hx hb dX1_descents_26 ?_
          refine lv_istore_n (lv' := [(1, .int (x1 + (0 : Int32))), (0, .ref a_t), (2, .int x2)]) hx hb dX1_descents_27 rfl hl (by decide) rfl (fun ls hl => ?_)
          refine lv_iinc (v := x2 + 1) (lv' := [(2, .int (x2 + 1)), (1, .int (x1 + (0 : Int32))), (0, .ref a_t)]) hx hb dX1_descents_28 hl (k := 2) rfl rfl (by decide) rfl (fun ls hl => ?_)
          refine lv_goto (tgt := 4) hx hb dX1_descents_31 (by decide) ?_
          exact ih4 (x1 + (0 : Int32)) (x2 + 1) H locs ls hP hD hS (lv_sub hl [2, 1, 0] rfl) hF
        · (try simp only [if_neg k18] at hF)
          refine lv_iconst (v := 1) hx hb dX1_descents_21 (by decide) ?_
          refine lv_goto (tgt := 26) hx hb dX1_descents_22 (by decide) ?_
          refine lv_iadd hx hb dX1_descents_26 ?_
          refine lv_istore_n (lv' := [(1, .int (x1 + (1 : Int32))), (0, .ref a_t), (2, .int x2)]) hx hb dX1_descents_27 rfl hl (by decide) rfl (fun ls hl => ?_)
          refine lv_iinc (v := x2 + 1) (lv' := [(2, .int (x2 + 1)), (1, .int (x1 + (1 : Int32))), (0, .ref a_t)]) hx hb dX1_descents_28 hl (k := 2) rfl rfl (by decide) rfl (fun ls hl => ?_)
          refine lv_goto (tgt := 4) hx hb dX1_descents_31 (by decide) ?_
          exact ih4 (x1 + (1 : Int32)) (x2 + 1) H locs ls hP hD hS (lv_sub hl [2, 1, 0] rfl) hF
  unfold F_X1_descents at hF
  have hP : va_P D vwCl (wd_X1_descents cI a_t a_signs c_length c_signs) s.heap := hP
  obtain ⟨H, hH⟩ : ∃ H, H = s.heap := ⟨_, rfl⟩
  rw [← hH]
  rw [← hH] at hP
  obtain ⟨locs, hlo⟩ : ∃ z : List Loc, z = [] := ⟨_, rfl⟩
  rw [← hlo]
  have hS : va_S A s.heap H locs := by rw [hH, hlo]; exact hS
  refine lv_iconst (v := 0) hx hb dX1_descents_0 (by decide) ?_
  refine lv_istore_n (lv' := [(1, .int (0 : Int32)), (0, .ref a_t)]) hx hb dX1_descents_1 rfl hl (by decide) rfl (fun ls hl => ?_)
  refine lv_iconst (v := 0) hx hb dX1_descents_2 (by decide) ?_
  refine lv_istore_n (lv' := [(2, .int (0 : Int32)), (1, .int (0 : Int32)), (0, .ref a_t)]) hx hb dX1_descents_3 rfl hl (by decide) rfl (fun ls hl => ?_)
  exact K4 FU (0 : Int32) (0 : Int32) H locs ls hP hD hS (lv_sub hl [2, 1, 0] rfl) hF
abbrev wd_X1_majorIndex (cI : ClassId) (a_t a_signs : Nat) (c_length : Int32) (c_signs : Nat → Int32) : va_W := [(a_t, .inr (1, [.ref a_signs, .int c_length])), (a_signs, .inl (cI, 11, .inl c_signs))]
def rm_X1_majorIndex : Room := { frames := 2, cells := 0, slots := 0, locals := 42 }
set_option maxHeartbeats 4000000 in
set_option maxRecDepth 100000 in
theorem c_X1_majorIndex (l : Launch) (D : va_G) (cI : ClassId) (a_t a_signs : Nat) (sz : Nat) (c_length : Int32) (c_signs : Nat → Int32) (o : Int32) (hF : F_X1_majorIndex c_length c_signs = some o) : Met l yX1_majorIndex (Cond.code yX1_majorIndex cX1_majorIndex 3 (some .int) :: WL) rm_X1_majorIndex (preM D [(cI, .int)] (wd_X1_majorIndex cI a_t a_signs c_length c_signs) sz [.ref a_t]) (postI D o (wd_X1_majorIndex cI a_t a_signs c_length c_signs) (wd_X1_majorIndex cI a_t a_signs c_length c_signs) sz) 0 0 (va_A (wd_X1_majorIndex cI a_t a_signs c_length c_signs) sz) := by
  refine mofI (by decide +kernel) (Nat.le_of_ble_eq_true rfl) ?_
  intro p e s m args below meth c Q A ls hx hb hml hown hts hK hP hD hS hA hG hl hret hsz0
  have hl : lv_has ls 3 [(0, .ref a_t)] := hl
  have K4 : ∀ (n4 : Nat) (x1 : Int32) (x2 : Int32) (H : Heap) (locs : List Loc) (ls : Array Slot), va_P D vwCl (wd_X1_majorIndex cI a_t a_signs c_length c_signs) H → va_D A (wd_X1_majorIndex cI a_t a_signs c_length c_signs) → va_S A s.heap H locs → lv_has ls 3 [(0, .ref a_t), (1, .int x1), (2, .int x2)] → F_X1_majorIndex_L4 c_length c_signs n4 x1 x2 = some o → W p l e rm_X1_majorIndex s m args below meth c H locs 0 0 Q (F0 m 4 ls []) := by
    intro n4
    induction n4 with
    | zero => intro x1 x2 H locs ls hP hD hS hl hF; exact nos hF
    | succ n4 ih4 =>
      intro x1 x2 H locs ls hP hD hS hl hF
      rw [F_X1_majorIndex_L4] at hF
      refine lv_iload_n hx hb dX1_majorIndex_4 rfl (lv_at hl 2 rfl) ?_
      refine lv_aload_n hx hb dX1_majorIndex_5 rfl (lv_at hl 0 rfl) ?_
      refine get_X1_15 hx hb hts hown hK hP 0 rfl rfl dX1_majorIndex_6 ?_
      refine lv_icmp_ge (tgt := 36) hx hb dX1_majorIndex_9 (by decide) (fun k9 => ?_) (fun k9 => ?_)
      · replace hF := (if_pos k9).symm.trans hF
        refine lv_iload_n hx hb dX1_majorIndex_36 rfl (lv_at hl 1 rfl) ?_
        have ho := Option.some.inj hF
        exact hret H locs ls 37 x1 _ hP hS rfl ho dX1_majorIndex_37
      · replace hF := (if_neg k9).symm.trans hF
        refine lv_iload_n hx hb dX1_majorIndex_12 rfl (lv_at hl 1 rfl) ?_
        refine lv_aload_n hx hb dX1_majorIndex_13 rfl (lv_at hl 0 rfl) ?_
        refine lv_iload_n hx hb dX1_majorIndex_14 rfl (lv_at hl 2 rfl) ?_
        obtain ⟨r15, hr15, hF⟩ := opb hF
        refine kVI (As := [.int x2]) (rest := [.int x1]) (ws' := (wd_X1_majorIndex cI a_t a_signs c_length c_signs)) ⟨hx, hb, hml, hown, hts⟩ (c_X1_fallsBehind l D cI a_t a_signs H.size c_length c_signs x2 r15 hr15) (cwV 1 hts mw_X1_41 rfl rfl rfl hd_X1_fallsBehind ⟨Nat.le_of_ble_eq_true rfl, Nat.le_of_ble_eq_true rfl⟩) hS hA hG hK hP hD [0, 1] rfl rfl rfl rfl rfl ⟨Nat.zero_le _, Nat.zero_le _⟩ 1 0 rfl rfl rfl rfl hl.1 rfl (Nat.le_of_ble_eq_true rfl) dX1_majorIndex_15 (fun H locs hP hD hS => ?_)
        refine lv_if_eq (tgt := 27) hx hb dX1_majorIndex_18 (by decide) (fun k18 => ?_) (fun k18 => ?_)
        · (try simp only [if_pos k18] at hF)
          refine lv_iconst (v := 0) hx hb dX1_majorIndex_27 (by decide) ?_
          refine lv_iadd hx hb dX1_majorIndex_28 ?_
          refine lv_istore_n (lv' := [(1, .int (x1 + (0 : Int32))), (0, .ref a_t), (2, .int x2)]) hx hb dX1_majorIndex_29 rfl hl (by decide) rfl (fun ls hl => ?_)
          refine lv_iinc (v := x2 + 1) (lv' := [(2, .int (x2 + 1)), (1, .int (x1 + (0 : Int32))), (0, .ref a_t)]) hx hb dX1_majorIndex_30 hl (k := 2) rfl rfl (by decide) rfl (fun ls hl => ?_)
          refine lv_goto (tgt := 4) hx hb dX1_majorIndex_33 (by decide) ?_
          exact ih4 (x1 + (0 : Int32)) (x2 + 1) H locs ls hP hD hS (lv_sub hl [2, 1, 0] rfl) hF
        · (try simp only [if_neg k18] at hF)
          refine lv_iload_n hx hb dX1_majorIndex_21 rfl (lv_at hl 2 rfl) ?_
          refine lv_iconst (v := 1) hx hb dX1_majorIndex_22 (by decide) ?_
          refine lv_iadd hx hb dX1_majorIndex_23 ?_
          refine lv_goto (tgt := 28) hx hb dX1_majorIndex_24 (by decide) ?_
          refine lv_iadd hx hb dX1_majorIndex_28 ?_
          refine lv_istore_n (lv' := [(1, .int (x1 + (x2 + (1 : Int32)))), (0, .ref a_t), (2, .int x2)]) hx hb dX1_majorIndex_29 rfl hl (by decide) rfl (fun ls hl => ?_)
          refine lv_iinc (v := x2 + 1) (lv' := [(2, .int (x2 + 1)), (1, .int (x1 + (x2 + (1 : Int32)))), (0, .ref a_t)]) hx hb dX1_majorIndex_30 hl (k := 2) rfl rfl (by decide) rfl (fun ls hl => ?_)
          refine lv_goto (tgt := 4) hx hb dX1_majorIndex_33 (by decide) ?_
          exact ih4 (x1 + (x2 + (1 : Int32))) (x2 + 1) H locs ls hP hD hS (lv_sub hl [2, 1, 0] rfl) hF
  unfold F_X1_majorIndex at hF
  have hP : va_P D vwCl (wd_X1_majorIndex cI a_t a_signs c_length c_signs) s.heap := hP
  obtain ⟨H, hH⟩ : ∃ H, H = s.heap := ⟨_, rfl⟩
  rw [← hH]
  rw [← hH] at hP
  obtain ⟨locs, hlo⟩ : ∃ z : List Loc, z = [] := ⟨_, rfl⟩
  rw [← hlo]
  have hS : va_S A s.heap H locs := by rw [hH, hlo]; exact hS
  refine lv_iconst (v := 0) hx hb dX1_majorIndex_0 (by decide) ?_
  refine lv_istore_n (lv' := [(1, .int (0 : Int32)), (0, .ref a_t)]) hx hb dX1_majorIndex_1 rfl hl (by decide) rfl (fun ls hl => ?_)
  refine lv_iconst (v := 0) hx hb dX1_majorIndex_2 (by decide) ?_
  refine lv_istore_n (lv' := [(2, .int (0 : Int32)), (1, .int (0 : Int32)), (0, .ref a_t)]) hx hb dX1_majorIndex_3 rfl hl (by decide) rfl (fun ls hl => ?_)
  exact K4 FU (0 : Int32) (0 : Int32) H locs ls hP hD hS (lv_sub hl [2, 1, 0] rfl) hF
abbrev wd_Jxe99ae_isNaN_b9ae7 (cI : ClassId)  : va_W := []
def rm_Jxe99ae_isNaN_b9ae7 : Room := { frames := 0, cells := 0, slots := 0, locals := 0 }
set_option maxHeartbeats 4000000 in
set_option maxRecDepth 100000 in
theorem c_Jxe99ae_isNaN_b9ae7 (l : Launch) (D : va_G) (cI : ClassId) (sz : Nat) (x0 : UInt64) (o : Int32) (hF : F_Jxe99ae_isNaN_b9ae7 x0 = some o) : Met l yJxe99ae_isNaN_b9ae7 (Cond.code yJxe99ae_isNaN_b9ae7 cJxe99ae_isNaN_b9ae7 2 (some .boolean) :: WL) rm_Jxe99ae_isNaN_b9ae7 (preM D [(cI, .int)] (wd_Jxe99ae_isNaN_b9ae7 cI ) sz [.double x0]) (postI D o (wd_Jxe99ae_isNaN_b9ae7 cI ) (wd_Jxe99ae_isNaN_b9ae7 cI ) sz) 0 0 (va_A (wd_Jxe99ae_isNaN_b9ae7 cI ) sz) := by
  refine mofZ (by decide +kernel) (Nat.le_of_ble_eq_true rfl) ?_
  intro p e s m args below meth c Q A ls hx hb hml hown hts hK hP hD hS hA hG hl hret hsz0
  have hl : lv_has ls 2 [(0, .double x0)] := hl
  unfold F_Jxe99ae_isNaN_b9ae7 at hF
  have hP : va_P D vwCl (wd_Jxe99ae_isNaN_b9ae7 cI ) s.heap := hP
  obtain ⟨H, hH⟩ : ∃ H, H = s.heap := ⟨_, rfl⟩
  rw [← hH]
  rw [← hH] at hP
  obtain ⟨locs, hlo⟩ : ∃ z : List Loc, z = [] := ⟨_, rfl⟩
  rw [← hlo]
  have hS : va_S A s.heap H locs := by rw [hH, hlo]; exact hS
  refine lv_dload_n hx hb dJxe99ae_isNaN_b9ae7_0 rfl (lv_at hl 0 rfl) ?_
  refine lv_dload_n hx hb dJxe99ae_isNaN_b9ae7_1 rfl (lv_at hl 0 rfl) ?_
  refine lv_dcmp hx hb dJxe99ae_isNaN_b9ae7_2 ?_
  refine lv_if_eq (tgt := 10) hx hb dJxe99ae_isNaN_b9ae7_3 (by decide) (fun k3 => ?_) (fun k3 => ?_)
  · (try simp only [if_pos k3] at hF)
    refine lv_iconst (v := 0) hx hb dJxe99ae_isNaN_b9ae7_10 (by decide) ?_
    have ho := Option.some.inj hF
    exact hret H locs ls 11 (0 : Int32) _ hP hS rfl ho (by decide) dJxe99ae_isNaN_b9ae7_11
  · (try simp only [if_neg k3] at hF)
    refine lv_iconst (v := 1) hx hb dJxe99ae_isNaN_b9ae7_6 (by decide) ?_
    refine lv_goto (tgt := 11) hx hb dJxe99ae_isNaN_b9ae7_7 (by decide) ?_
    have ho := Option.some.inj hF
    exact hret H locs ls 11 (1 : Int32) _ hP hS rfl ho (by decide) dJxe99ae_isNaN_b9ae7_11
abbrev wd_Jxe99ae_doubleToLongBits_ccdee (cI : ClassId)  : va_W := []
def rm_Jxe99ae_doubleToLongBits_ccdee : Room := { frames := 1, cells := 0, slots := 0, locals := 40 }
set_option maxHeartbeats 4000000 in
set_option maxRecDepth 100000 in
theorem c_Jxe99ae_doubleToLongBits_ccdee (l : Launch) (D : va_G) (cI : ClassId) (sz : Nat) (x0 : UInt64) (o : Int64) (hF : F_Jxe99ae_doubleToLongBits_ccdee x0 = some o) : Met l yJxe99ae_doubleToLongBits_ccdee (Cond.code yJxe99ae_doubleToLongBits_ccdee cJxe99ae_doubleToLongBits_ccdee 2 (some .long) :: WL) rm_Jxe99ae_doubleToLongBits_ccdee (preM D [(cI, .int)] (wd_Jxe99ae_doubleToLongBits_ccdee cI ) sz [.double x0]) (postL D o (wd_Jxe99ae_doubleToLongBits_ccdee cI ) (wd_Jxe99ae_doubleToLongBits_ccdee cI ) sz) 0 0 (va_A (wd_Jxe99ae_doubleToLongBits_ccdee cI ) sz) := by
  refine mofL (by decide +kernel) (Nat.le_of_ble_eq_true rfl) ?_
  intro p e s m args below meth c Q A ls hx hb hml hown hts hK hP hD hS hA hG hl hret hsz0
  have hl : lv_has ls 2 [(0, .double x0)] := hl
  unfold F_Jxe99ae_doubleToLongBits_ccdee at hF
  have hP : va_P D vwCl (wd_Jxe99ae_doubleToLongBits_ccdee cI ) s.heap := hP
  obtain ⟨H, hH⟩ : ∃ H, H = s.heap := ⟨_, rfl⟩
  rw [← hH]
  rw [← hH] at hP
  obtain ⟨locs, hlo⟩ : ∃ z : List Loc, z = [] := ⟨_, rfl⟩
  rw [← hlo]
  have hS : va_S A s.heap H locs := by rw [hH, hlo]; exact hS
  refine lv_dload_n hx hb dJxe99ae_doubleToLongBits_ccdee_0 rfl (lv_at hl 0 rfl) ?_
  obtain ⟨r1, hr1, hF⟩ := opb hF
  refine kSI (As := [.double x0]) (rest := []) (ws' := (wd_Jxe99ae_doubleToLongBits_ccdee cI )) ⟨hx, hb, hml, hown, hts⟩ (c_Jxe99ae_isNaN_b9ae7 l D cI  H.size  x0 r1 hr1) (va_cwS 1 hts mw_Jxe99ae_122 rfl rfl rfl hd_Jxe99ae_isNaN_b9ae7 ⟨Nat.le_of_ble_eq_true rfl, Nat.le_of_ble_eq_true rfl⟩) hS hA hG hK hP hD [] rfl rfl rfl rfl rfl ⟨Nat.zero_le _, Nat.zero_le _⟩ rfl hl.1 rfl (Nat.le_of_ble_eq_true rfl) dJxe99ae_doubleToLongBits_ccdee_1 (fun H locs hP hD hS => ?_)
  refine lv_if_ne (tgt := 12) hx hb dJxe99ae_doubleToLongBits_ccdee_4 (by decide) (fun k4 => ?_) (fun k4 => ?_)
  · (try simp only [if_neg k4] at hF)
    refine lv_ldc2 (v := 9221120237041090560) hx hb hown (hts _ k5_175) dJxe99ae_doubleToLongBits_ccdee_12 ?_
    have ho := Option.some.inj hF
    exact hret H locs ls 15 (9221120237041090560 : Int64) _ hP hS rfl ho dJxe99ae_doubleToLongBits_ccdee_15
  · (try simp only [if_pos k4] at hF)
    refine lv_dload_n hx hb dJxe99ae_doubleToLongBits_ccdee_7 rfl (lv_at hl 0 rfl) ?_
    refine vn_d2l hx hb (hml.trans hl.1.symm) hown (hts _ k5_172) (hts _ k5_174) (hts _ k5_173) (hts _ k1_14) (Nat.le_of_ble_eq_true rfl) (Nat.le_of_ble_eq_true rfl) dJxe99ae_doubleToLongBits_ccdee_8 ?_
    have ho := Option.some.inj hF
    exact hret H locs ls 11 ((x0).toInt64) _ hP hS rfl ho dJxe99ae_doubleToLongBits_ccdee_11
