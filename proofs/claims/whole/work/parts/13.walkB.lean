abbrev wd_X2_held (cI : ClassId) (a_t a_slots : Nat) (c_held : Int32) : va_W := [(a_t, .inr (2, [.ref a_slots, .int c_held]))]
def rm_X2_held : Room := { frames := 0, cells := 0, slots := 0, locals := 0 }
set_option maxHeartbeats 4000000 in
set_option maxRecDepth 100000 in
theorem c_X2_held (l : Launch) (D : va_G) (cI : ClassId) (a_t a_slots : Nat) (sz : Nat) (c_held : Int32) (o : Int32) (hF : F_X2_held c_held = some o) : Met l yX2_held (Cond.code yX2_held cX2_held 1 (some .int) :: WL) rm_X2_held (preM D [(cI, .int)] (wd_X2_held cI a_t a_slots c_held) sz [.ref a_t]) (postI D o (wd_X2_held cI a_t a_slots c_held) (wd_X2_held cI a_t a_slots c_held) sz) 0 0 (va_A (wd_X2_held cI a_t a_slots c_held) sz) := by
  refine mofI (by decide +kernel) (Nat.le_of_ble_eq_true rfl) ?_
  intro p e s m args below meth c Q A ls hx hb hml hown hts hK hP hD hS hA hG hl hret hsz0
  have hl : lv_has ls 1 [(0, .ref a_t)] := hl
  unfold F_X2_held at hF
  have hP : va_P D vwCl (wd_X2_held cI a_t a_slots c_held) s.heap := hP
  obtain ⟨H, hH⟩ : ∃ H, H = s.heap := ⟨_, rfl⟩
  rw [← hH]
  rw [← hH] at hP
  obtain ⟨locs, hlo⟩ : ∃ z : List Loc, z = [] := ⟨_, rfl⟩
  rw [← hlo]
  have hS : va_S A s.heap H locs := by rw [hH, hlo]; exact hS
  refine lv_aload_n hx hb dX2_held_0 rfl (lv_at hl 0 rfl) ?_
  refine get_X2_15 hx hb hts hown hK hP 0 rfl rfl dX2_held_1 ?_
  have ho := Option.some.inj hF
  exact hret H locs ls 4 c_held _ hP hS rfl ho dX2_held_4
abbrev wd_X2_slot (cI : ClassId) (a_t a_slots : Nat) (c_held : Int32) (c_slots : Nat → Int32) : va_W := [(a_t, .inr (2, [.ref a_slots, .int c_held])), (a_slots, .inl (cI, 78, .inl c_slots))]
def rm_X2_slot : Room := { frames := 0, cells := 0, slots := 0, locals := 0 }
set_option maxHeartbeats 4000000 in
set_option maxRecDepth 100000 in
theorem c_X2_slot (l : Launch) (D : va_G) (cI : ClassId) (a_t a_slots : Nat) (sz : Nat) (c_held : Int32) (c_slots : Nat → Int32) (x1 : Int32) (o : Int32) (hF : F_X2_slot c_slots x1 = some o) : Met l yX2_slot (Cond.code yX2_slot cX2_slot 2 (some .int) :: WL) rm_X2_slot (preM D [(cI, .int)] (wd_X2_slot cI a_t a_slots c_held c_slots) sz [.ref a_t, .int x1]) (postI D o (wd_X2_slot cI a_t a_slots c_held c_slots) (wd_X2_slot cI a_t a_slots c_held c_slots) sz) 0 0 (va_A (wd_X2_slot cI a_t a_slots c_held c_slots) sz) := by
  refine mofI (by decide +kernel) (Nat.le_of_ble_eq_true rfl) ?_
  intro p e s m args below meth c Q A ls hx hb hml hown hts hK hP hD hS hA hG hl hret hsz0
  have hl : lv_has ls 2 [(0, .ref a_t), (1, .int x1)] := hl
  unfold F_X2_slot at hF
  have hP : va_P D vwCl (wd_X2_slot cI a_t a_slots c_held c_slots) s.heap := hP
  obtain ⟨H, hH⟩ : ∃ H, H = s.heap := ⟨_, rfl⟩
  rw [← hH]
  rw [← hH] at hP
  obtain ⟨locs, hlo⟩ : ∃ z : List Loc, z = [] := ⟨_, rfl⟩
  rw [← hlo]
  have hS : va_S A s.heap H locs := by rw [hH, hlo]; exact hS
  refine lv_iload_n hx hb dX2_slot_0 rfl (lv_at hl 1 rfl) ?_
  refine lv_if_lt (tgt := 22) hx hb dX2_slot_1 (by decide) (fun k1 => ?_) (fun k1 => ?_)
  · replace hF := (if_pos k1).symm.trans hF
    refine lv_iconst (v := 0) hx hb dX2_slot_22 (by decide) ?_
    have ho := Option.some.inj hF
    exact hret H locs ls 23 (0 : Int32) _ hP hS rfl ho dX2_slot_23
  · replace hF := (if_neg k1).symm.trans hF
    refine lv_iload_n hx hb dX2_slot_4 rfl (lv_at hl 1 rfl) ?_
    refine lv_aload_n hx hb dX2_slot_5 rfl (lv_at hl 0 rfl) ?_
    refine get_X2_11 hx hb hts hown hK hP 0 rfl rfl dX2_slot_6 ?_
    refine va_alen (v := 78) hx hb hK hP 1 0 rfl rfl rfl dX2_slot_9 ?_
    refine lv_icmp_ge (tgt := 22) hx hb dX2_slot_10 (by decide) (fun k10 => ?_) (fun k10 => ?_)
    · replace hF := (if_pos k10).symm.trans hF
      refine lv_iconst (v := 0) hx hb dX2_slot_22 (by decide) ?_
      have ho := Option.some.inj hF
      exact hret H locs ls 23 (0 : Int32) _ hP hS rfl ho dX2_slot_23
    · replace hF := (if_neg k10).symm.trans hF
      refine lv_aload_n hx hb dX2_slot_13 rfl (lv_at hl 0 rfl) ?_
      refine get_X2_11 hx hb hts hown hK hP 0 rfl rfl dX2_slot_14 ?_
      refine lv_iload_n hx hb dX2_slot_17 rfl (lv_at hl 1 rfl) ?_
      obtain ⟨g18, hF⟩ := gdb hF
      refine va_iald hx hb hK hP 1 0 rfl rfl (vinb g18) dX2_slot_18 ?_
      refine lv_goto (tgt := 23) hx hb dX2_slot_19 (by decide) ?_
      have ho := Option.some.inj hF
      exact hret H locs ls 23 (c_slots (x1).toNatClampNeg) _ hP hS rfl ho dX2_slot_23
abbrev wd_X2_setSlot (cI : ClassId) (a_t a_slots : Nat) (c_held : Int32) (c_slots : Nat → Int32) : va_W := [(a_t, .inr (2, [.ref a_slots, .int c_held])), (a_slots, .inl (cI, 78, .inl c_slots))]
def rm_X2_setSlot : Room := { frames := 0, cells := 0, slots := 0, locals := 0 }
set_option maxHeartbeats 4000000 in
set_option maxRecDepth 100000 in
theorem c_X2_setSlot (l : Launch) (D : va_G) (cI : ClassId) (a_t a_slots : Nat) (sz : Nat) (c_held : Int32) (c_slots : Nat → Int32) (x1 : Int32) (x2 : Int32) (o : (Nat → Int32)) (hF : F_X2_setSlot c_slots x1 x2 = some o) : Met l yX2_setSlot (Cond.code yX2_setSlot cX2_setSlot 3 none :: WL) rm_X2_setSlot (preM D [(cI, .int)] (wd_X2_setSlot cI a_t a_slots c_held c_slots) sz [.ref a_t, .int x1, .int x2]) (postV D (wd_X2_setSlot cI a_t a_slots c_held o) (wd_X2_setSlot cI a_t a_slots c_held c_slots) sz) 0 0 (va_A (wd_X2_setSlot cI a_t a_slots c_held c_slots) sz) := by
  refine mofV (by decide +kernel) (Nat.le_of_ble_eq_true rfl) ?_
  intro p e s m args below meth c Q A ls hx hb hml hown hts hK hP hD hS hA hG hl hret hsz0
  have hl : lv_has ls 3 [(0, .ref a_t), (1, .int x1), (2, .int x2)] := hl
  unfold F_X2_setSlot at hF
  have hP : va_P D vwCl (wd_X2_setSlot cI a_t a_slots c_held c_slots) s.heap := hP
  obtain ⟨H, hH⟩ : ∃ H, H = s.heap := ⟨_, rfl⟩
  rw [← hH]
  rw [← hH] at hP
  obtain ⟨locs, hlo⟩ : ∃ z : List Loc, z = [] := ⟨_, rfl⟩
  rw [← hlo]
  have hS : va_S A s.heap H locs := by rw [hH, hlo]; exact hS
  refine lv_iload_n hx hb dX2_setSlot_0 rfl (lv_at hl 1 rfl) ?_
  refine lv_if_lt (tgt := 20) hx hb dX2_setSlot_1 (by decide) (fun k1 => ?_) (fun k1 => ?_)
  · replace hF := (if_pos k1).symm.trans hF
    have ho := Option.some.inj hF
    exact hret H locs ls 20 _ hP hS (by rw [← ho]) dX2_setSlot_20
  · replace hF := (if_neg k1).symm.trans hF
    refine lv_iload_n hx hb dX2_setSlot_4 rfl (lv_at hl 1 rfl) ?_
    refine lv_aload_n hx hb dX2_setSlot_5 rfl (lv_at hl 0 rfl) ?_
    refine get_X2_11 hx hb hts hown hK hP 0 rfl rfl dX2_setSlot_6 ?_
    refine va_alen (v := 78) hx hb hK hP 1 0 rfl rfl rfl dX2_setSlot_9 ?_
    refine lv_icmp_ge (tgt := 20) hx hb dX2_setSlot_10 (by decide) (fun k10 => ?_) (fun k10 => ?_)
    · replace hF := (if_pos k10).symm.trans hF
      have ho := Option.some.inj hF
      exact hret H locs ls 20 _ hP hS (by rw [← ho]) dX2_setSlot_20
    · replace hF := (if_neg k10).symm.trans hF
      refine lv_aload_n hx hb dX2_setSlot_13 rfl (lv_at hl 0 rfl) ?_
      refine get_X2_11 hx hb hts hown hK hP 0 rfl rfl dX2_setSlot_14 ?_
      refine lv_iload_n hx hb dX2_setSlot_17 rfl (lv_at hl 1 rfl) ?_
      refine lv_iload_n hx hb dX2_setSlot_18 rfl (lv_at hl 2 rfl) ?_
      obtain ⟨g19, hF⟩ := gdb hF
      refine va_iast hx hb hK hP hD hS 1 0 rfl rfl (vinb g19) dX2_setSlot_19 (fun H locs hP hD hS => ?_)
      have hP : va_P D vwCl (wd_X2_setSlot cI a_t a_slots c_held (upd c_slots (x1).toNatClampNeg x2)) H := hP
      have hD : va_D A (wd_X2_setSlot cI a_t a_slots c_held (upd c_slots (x1).toNatClampNeg x2)) := hD
      have ho := Option.some.inj hF
      exact hret H locs ls 20 _ hP hS (by rw [← ho]) dX2_setSlot_20
abbrev wd_X2_dropOldest (cI : ClassId) (a_t a_slots : Nat) (c_held : Int32) (c_slots : Nat → Int32) : va_W := [(a_t, .inr (2, [.ref a_slots, .int c_held])), (a_slots, .inl (cI, 78, .inl c_slots))]
def rm_X2_dropOldest : Room := { frames := 1, cells := 0, slots := 0, locals := 22 }
set_option maxHeartbeats 4000000 in
set_option maxRecDepth 100000 in
theorem c_X2_dropOldest (l : Launch) (D : va_G) (cI : ClassId) (a_t a_slots : Nat) (sz : Nat) (c_held : Int32) (c_slots : Nat → Int32) (o : Int32 × (Nat → Int32)) (hF : F_X2_dropOldest c_held c_slots = some o) : Met l yX2_dropOldest (Cond.code yX2_dropOldest cX2_dropOldest 2 none :: WL) rm_X2_dropOldest (preM D [(cI, .int)] (wd_X2_dropOldest cI a_t a_slots c_held c_slots) sz [.ref a_t]) (postV D (wd_X2_dropOldest cI a_t a_slots o.1 o.2) (wd_X2_dropOldest cI a_t a_slots c_held c_slots) sz) 0 0 (va_A (wd_X2_dropOldest cI a_t a_slots c_held c_slots) sz) := by
  refine mofV (by decide +kernel) (Nat.le_of_ble_eq_true rfl) ?_
  intro p e s m args below meth c Q A ls hx hb hml hown hts hK hP hD hS hA hG hl hret hsz0
  have hl : lv_has ls 2 [(0, .ref a_t)] := hl
  have K3 : ∀ (n3 : Nat) (c_held : Int32) (c_slots : Nat → Int32) (x1 : Int32) (H : Heap) (locs : List Loc) (ls : Array Slot), va_P D vwCl (wd_X2_dropOldest cI a_t a_slots c_held c_slots) H → va_D A (wd_X2_dropOldest cI a_t a_slots c_held c_slots) → va_S A s.heap H locs → lv_has ls 2 [(0, .ref a_t), (1, .int x1)] → F_X2_dropOldest_L3 n3 c_held c_slots x1 = some o → W p l e rm_X2_dropOldest s m args below meth c H locs 0 0 Q (F0 m 3 ls []) := by
    intro n3
    induction n3 with
    | zero => intro c_held c_slots x1 H locs ls hP hD hS hl hF; exact nos hF
    | succ n3 ih3 =>
      intro c_held c_slots x1 H locs ls hP hD hS hl hF
      rw [F_X2_dropOldest_L3] at hF
      refine lv_iload_n hx hb dX2_dropOldest_3 rfl (lv_at hl 1 rfl) ?_
      refine lv_aload_n hx hb dX2_dropOldest_4 rfl (lv_at hl 0 rfl) ?_
      refine get_X2_11 hx hb hts hown hK hP 0 rfl rfl dX2_dropOldest_5 ?_
      refine va_alen (v := 78) hx hb hK hP 1 0 rfl rfl rfl dX2_dropOldest_8 ?_
      refine lv_icmp_ge (tgt := 31) hx hb dX2_dropOldest_9 (by decide) (fun k9 => ?_) (fun k9 => ?_)
      · replace hF := (if_pos k9).symm.trans hF
        refine lv_aload_n hx hb dX2_dropOldest_31 rfl (lv_at hl 0 rfl) ?_
        refine lv_dup hx hb dX2_dropOldest_32 rfl ?_
        refine get_X2_15 hx hb hts hown hK hP 0 rfl rfl dX2_dropOldest_33 ?_
        refine lv_iconst (v := 1) hx hb dX2_dropOldest_36 (by decide) ?_
        refine lv_isub hx hb dX2_dropOldest_37 ?_
        refine put_X2_15 hx hb hts hown hK hP hD hS 0 rfl rfl rfl (Nat.le_of_ble_eq_true rfl) dX2_dropOldest_38 (fun H locs hP hD hS => ?_)
        have hP : va_P D vwCl (wd_X2_dropOldest cI a_t a_slots (c_held - (1 : Int32)) c_slots) H := hP
        have hD : va_D A (wd_X2_dropOldest cI a_t a_slots (c_held - (1 : Int32)) c_slots) := hD
        have ho := Option.some.inj hF
        exact hret H locs ls 41 _ hP hS (by rw [← ho]) dX2_dropOldest_41
      · replace hF := (if_neg k9).symm.trans hF
        refine lv_aload_n hx hb dX2_dropOldest_12 rfl (lv_at hl 0 rfl) ?_
        refine lv_iload_n hx hb dX2_dropOldest_13 rfl (lv_at hl 1 rfl) ?_
        refine lv_bipush (v := 13) hx hb dX2_dropOldest_14 (by decide) ?_
        refine lv_isub hx hb dX2_dropOldest_16 ?_
        refine lv_aload_n hx hb dX2_dropOldest_17 rfl (lv_at hl 0 rfl) ?_
        refine lv_iload_n hx hb dX2_dropOldest_18 rfl (lv_at hl 1 rfl) ?_
        obtain ⟨r19, hr19, hF⟩ := opb hF
        refine kVI (As := [.int x1]) (rest := [.int (x1 - (13 : Int32)), .ref a_t]) (ws' := (wd_X2_dropOldest cI a_t a_slots c_held c_slots)) ⟨hx, hb, hml, hown, hts⟩ (c_X2_slot l D cI a_t a_slots H.size c_held c_slots x1 r19 hr19) (cwV 1 hts mw_X2_36 rfl rfl rfl hd_X2_slot ⟨Nat.le_of_ble_eq_true rfl, Nat.le_of_ble_eq_true rfl⟩) hS hA hG hK hP hD [0, 1] rfl rfl rfl rfl rfl ⟨Nat.zero_le _, Nat.zero_le _⟩ 2 0 rfl rfl rfl rfl hl.1 rfl (Nat.le_of_ble_eq_true rfl) dX2_dropOldest_19 (fun H locs hP hD hS => ?_)
        obtain ⟨r22, hr22, hF⟩ := opb hF
        refine kVV (As := [.int (x1 - (13 : Int32)), .int r19]) (rest := []) (ws' := (wd_X2_dropOldest cI a_t a_slots c_held r22)) ⟨hx, hb, hml, hown, hts⟩ (c_X2_setSlot l D cI a_t a_slots H.size c_held c_slots (x1 - (13 : Int32)) r19 r22 hr22) (cwV 2 hts mw_X2_22 rfl rfl rfl hd_X2_setSlot ⟨Nat.le_of_ble_eq_true rfl, Nat.le_of_ble_eq_true rfl⟩) hS hA hG hK hP hD [0, 1] rfl rfl rfl rfl rfl ⟨Nat.zero_le _, Nat.zero_le _⟩ 2 0 rfl rfl rfl rfl hl.1 rfl (Nat.le_of_ble_eq_true rfl) dX2_dropOldest_22 (fun H locs hP hD hS => ?_)
        refine lv_iinc (v := x1 + 1) (lv' := [(1, .int (x1 + 1)), (0, .ref a_t)]) hx hb dX2_dropOldest_25 hl (k := 1) rfl rfl (by decide) rfl (fun ls hl => ?_)
        refine lv_goto (tgt := 3) hx hb dX2_dropOldest_28 (by decide) ?_
        exact ih3 c_held r22 (x1 + 1) H locs ls hP hD hS (lv_sub hl [1, 0] rfl) hF
  unfold F_X2_dropOldest at hF
  have hP : va_P D vwCl (wd_X2_dropOldest cI a_t a_slots c_held c_slots) s.heap := hP
  obtain ⟨H, hH⟩ : ∃ H, H = s.heap := ⟨_, rfl⟩
  rw [← hH]
  rw [← hH] at hP
  obtain ⟨locs, hlo⟩ : ∃ z : List Loc, z = [] := ⟨_, rfl⟩
  rw [← hlo]
  have hS : va_S A s.heap H locs := by rw [hH, hlo]; exact hS
  refine lv_bipush (v := 13) hx hb dX2_dropOldest_0 (by decide) ?_
  refine lv_istore_n (lv' := [(1, .int (13 : Int32)), (0, .ref a_t)]) hx hb dX2_dropOldest_2 rfl hl (by decide) rfl (fun ls hl => ?_)
  exact K3 FU c_held c_slots (13 : Int32) H locs ls hP hD hS (lv_sub hl [1, 0] rfl) hF
abbrev wd_X2_keep (cI : ClassId) (a_t a_p a_slots a_p_signs : Nat) (c_held : Int32) (c_slots : Nat → Int32) (c_p_length : Int32) (c_p_signs : Nat → Int32) : va_W := [(a_t, .inr (2, [.ref a_slots, .int c_held])), (a_slots, .inl (cI, 78, .inl c_slots)), (a_p, .inr (1, [.ref a_p_signs, .int c_p_length])), (a_p_signs, .inl (cI, 11, .inl c_p_signs))]
def rm_X2_keep : Room := { frames := 2, cells := 0, slots := 0, locals := 43 }
set_option maxHeartbeats 4000000 in
set_option maxRecDepth 100000 in
theorem c_X2_keep (l : Launch) (D : va_G) (cI : ClassId) (a_t a_p a_slots a_p_signs : Nat) (sz : Nat) (c_held : Int32) (c_slots : Nat → Int32) (c_p_length : Int32) (c_p_signs : Nat → Int32) (x2 : Int32) (o : Int32 × (Nat → Int32)) (hF : F_X2_keep c_held c_slots c_p_length c_p_signs x2 = some o) : Met l yX2_keep (Cond.code yX2_keep cX2_keep 5 none :: WL) rm_X2_keep (preM D [(cI, .int)] (wd_X2_keep cI a_t a_p a_slots a_p_signs c_held c_slots c_p_length c_p_signs) sz [.ref a_t, .ref a_p, .int x2]) (postV D (wd_X2_keep cI a_t a_p a_slots a_p_signs o.1 o.2 c_p_length c_p_signs) (wd_X2_keep cI a_t a_p a_slots a_p_signs c_held c_slots c_p_length c_p_signs) sz) 0 0 (va_A (wd_X2_keep cI a_t a_p a_slots a_p_signs c_held c_slots c_p_length c_p_signs) sz) := by
  refine mofV (by decide +kernel) (Nat.le_of_ble_eq_true rfl) ?_
  intro p e s m args below meth c Q A ls hx hb hml hown hts hK hP hD hS hA hG hl hret hsz0
  have hl : lv_has ls 5 [(0, .ref a_t), (1, .ref a_p), (2, .int x2)] := hl
  have K41 : ∀ (n41 : Nat) (c_held : Int32) (c_slots : Nat → Int32) (x3 : Int32) (x4 : Int32) (H : Heap) (locs : List Loc) (ls : Array Slot), va_P D vwCl (wd_X2_keep cI a_t a_p a_slots a_p_signs c_held c_slots c_p_length c_p_signs) H → va_D A (wd_X2_keep cI a_t a_p a_slots a_p_signs c_held c_slots c_p_length c_p_signs) → va_S A s.heap H locs → lv_has ls 5 [(0, .ref a_t), (1, .ref a_p), (3, .int x3), (4, .int x4)] → F_X2_keep_L41 c_p_length c_p_signs x2 n41 c_held c_slots x3 x4 = some o → W p l e rm_X2_keep s m args below meth c H locs 0 0 Q (F0 m 41 ls []) := by
    intro n41
    induction n41 with
    | zero => intro c_held c_slots x3 x4 H locs ls hP hD hS hl hF; exact nos hF
    | succ n41 ih41 =>
      intro c_held c_slots x3 x4 H locs ls hP hD hS hl hF
      rw [F_X2_keep_L41] at hF
      refine lv_iload hx hb dX2_keep_41 (lv_at hl 3 rfl) ?_
      refine lv_aload_n hx hb dX2_keep_43 rfl (lv_at hl 1 rfl) ?_
      obtain ⟨r44, hr44, hF⟩ := opb hF
      refine kVI (As := []) (rest := [.int x4]) (ws' := (wd_X2_keep cI a_t a_p a_slots a_p_signs c_held c_slots c_p_length c_p_signs)) ⟨hx, hb, hml, hown, hts⟩ (c_X1_length l D cI a_p a_p_signs H.size c_p_length  r44 hr44) (cwV 0 hts mw_X2_26 rfl rfl rfl hd_X1_length ⟨Nat.le_of_ble_eq_true rfl, Nat.le_of_ble_eq_true rfl⟩) hS hA hG hK hP hD [2] rfl rfl rfl rfl rfl ⟨Nat.zero_le _, Nat.zero_le _⟩ 1 2 rfl rfl rfl rfl hl.1 rfl (Nat.le_of_ble_eq_true rfl) dX2_keep_44 (fun H locs hP hD hS => ?_)
      refine lv_icmp_ge (tgt := 72) hx hb dX2_keep_47 (by decide) (fun k47 => ?_) (fun k47 => ?_)
      · replace hF := (if_pos k47).symm.trans hF
        refine lv_aload_n hx hb dX2_keep_72 rfl (lv_at hl 0 rfl) ?_
        refine lv_dup hx hb dX2_keep_73 rfl ?_
        refine get_X2_15 hx hb hts hown hK hP 0 rfl rfl dX2_keep_74 ?_
        refine lv_iconst (v := 1) hx hb dX2_keep_77 (by decide) ?_
        refine lv_iadd hx hb dX2_keep_78 ?_
        refine put_X2_15 hx hb hts hown hK hP hD hS 0 rfl rfl rfl (Nat.le_of_ble_eq_true rfl) dX2_keep_79 (fun H locs hP hD hS => ?_)
        have hP : va_P D vwCl (wd_X2_keep cI a_t a_p a_slots a_p_signs (c_held + (1 : Int32)) c_slots c_p_length c_p_signs) H := hP
        have hD : va_D A (wd_X2_keep cI a_t a_p a_slots a_p_signs (c_held + (1 : Int32)) c_slots c_p_length c_p_signs) := hD
        have ho := Option.some.inj hF
        exact hret H locs ls 82 _ hP hS (by rw [← ho]) dX2_keep_82
      · replace hF := (if_neg k47).symm.trans hF
        refine lv_aload_n hx hb dX2_keep_50 rfl (lv_at hl 0 rfl) ?_
        refine lv_iload_n hx hb dX2_keep_51 rfl (lv_at hl 2 rfl) ?_
        refine lv_iconst (v := 2) hx hb dX2_keep_52 (by decide) ?_
        refine lv_iadd hx hb dX2_keep_53 ?_
        refine lv_iload hx hb dX2_keep_54 (lv_at hl 3 rfl) ?_
        refine lv_iadd hx hb dX2_keep_56 ?_
        refine lv_aload_n hx hb dX2_keep_57 rfl (lv_at hl 1 rfl) ?_
        refine lv_iload hx hb dX2_keep_58 (lv_at hl 3 rfl) ?_
        obtain ⟨r60, hr60, hF⟩ := opb hF
        refine kVI (As := [.int x4]) (rest := [.int ((x3 + (2 : Int32)) + x4), .ref a_t]) (ws' := (wd_X2_keep cI a_t a_p a_slots a_p_signs c_held c_slots c_p_length c_p_signs)) ⟨hx, hb, hml, hown, hts⟩ (c_X1_at l D cI a_p a_p_signs H.size c_p_length c_p_signs x4 r60 hr60) (cwV 1 hts mw_X2_32 rfl rfl rfl hd_X1_at ⟨Nat.le_of_ble_eq_true rfl, Nat.le_of_ble_eq_true rfl⟩) hS hA hG hK hP hD [2, 3] rfl rfl rfl rfl rfl ⟨Nat.zero_le _, Nat.zero_le _⟩ 1 2 rfl rfl rfl rfl hl.1 rfl (Nat.le_of_ble_eq_true rfl) dX2_keep_60 (fun H locs hP hD hS => ?_)
        obtain ⟨r63, hr63, hF⟩ := opb hF
        refine kVV (As := [.int ((x3 + (2 : Int32)) + x4), .int r60]) (rest := []) (ws' := (wd_X2_keep cI a_t a_p a_slots a_p_signs c_held r63 c_p_length c_p_signs)) ⟨hx, hb, hml, hown, hts⟩ (c_X2_setSlot l D cI a_t a_slots H.size c_held c_slots ((x3 + (2 : Int32)) + x4) r60 r63 hr63) (cwV 2 hts mw_X2_22 rfl rfl rfl hd_X2_setSlot ⟨Nat.le_of_ble_eq_true rfl, Nat.le_of_ble_eq_true rfl⟩) hS hA hG hK hP hD [0, 1] rfl rfl rfl rfl rfl ⟨Nat.zero_le _, Nat.zero_le _⟩ 2 0 rfl rfl rfl rfl hl.1 rfl (Nat.le_of_ble_eq_true rfl) dX2_keep_63 (fun H locs hP hD hS => ?_)
        refine lv_iinc (v := x4 + 1) (lv' := [(4, .int (x4 + 1)), (0, .ref a_t), (1, .ref a_p), (3, .int x3)]) hx hb dX2_keep_66 hl (k := 3) rfl rfl (by decide) rfl (fun ls hl => ?_)
        refine lv_goto (tgt := 41) hx hb dX2_keep_69 (by decide) ?_
        exact ih41 c_held r63 x3 (x4 + 1) H locs ls hP hD hS (lv_sub hl [1, 2, 3, 0] rfl) hF
  have K13 : ∀ (c_held : Int32) (c_slots : Nat → Int32)  (H : Heap) (locs : List Loc) (ls : Array Slot), va_P D vwCl (wd_X2_keep cI a_t a_p a_slots a_p_signs c_held c_slots c_p_length c_p_signs) H → va_D A (wd_X2_keep cI a_t a_p a_slots a_p_signs c_held c_slots c_p_length c_p_signs) → va_S A s.heap H locs → lv_has ls 5 [(0, .ref a_t), (1, .ref a_p), (2, .int x2)] → F_X2_keep_J13 c_p_length c_p_signs x2 c_held c_slots = some o → W p l e rm_X2_keep s m args below meth c H locs 0 0 Q (F0 m 13 ls []) := by
    intro c_held c_slots H locs ls hP hD hS hl hF
    unfold F_X2_keep_J13 at hF
    refine lv_aload_n hx hb dX2_keep_13 rfl (lv_at hl 0 rfl) ?_
    refine get_X2_15 hx hb hts hown hK hP 0 rfl rfl dX2_keep_14 ?_
    refine lv_bipush (v := 13) hx hb dX2_keep_17 (by decide) ?_
    refine lv_imul hx hb dX2_keep_19 ?_
    refine lv_istore_n (lv' := [(3, .int (c_held * (13 : Int32))), (0, .ref a_t), (1, .ref a_p), (2, .int x2)]) hx hb dX2_keep_20 rfl hl (by decide) rfl (fun ls hl => ?_)
    refine lv_aload_n hx hb dX2_keep_21 rfl (lv_at hl 1 rfl) ?_
    refine lv_iload_n hx hb dX2_keep_22 rfl (lv_at hl 0 rfl) ?_
    refine lv_iload_n hx hb dX2_keep_23 rfl (lv_at hl 3 rfl) ?_
    obtain ⟨r24, hr24, hF⟩ := opb hF
    refine kVV (As := [.int (c_held * (13 : Int32)), .int x2]) (rest := []) (ws' := (wd_X2_keep cI a_t a_p a_slots a_p_signs c_held r24 c_p_length c_p_signs)) ⟨hx, hb, hml, hown, hts⟩ (c_X2_setSlot l D cI a_t a_slots H.size c_held c_slots (c_held * (13 : Int32)) x2 r24 hr24) (cwV 2 hts mw_X2_22 rfl rfl rfl hd_X2_setSlot ⟨Nat.le_of_ble_eq_true rfl, Nat.le_of_ble_eq_true rfl⟩) hS hA hG hK hP hD [0, 1] rfl rfl rfl rfl rfl ⟨Nat.zero_le _, Nat.zero_le _⟩ 2 0 rfl rfl rfl rfl hl.1 rfl (Nat.le_of_ble_eq_true rfl) dX2_keep_24 (fun H locs hP hD hS => ?_)
    refine lv_aload_n hx hb dX2_keep_27 rfl (lv_at hl 1 rfl) ?_
    refine lv_iload_n hx hb dX2_keep_28 rfl (lv_at hl 0 rfl) ?_
    refine lv_iconst (v := 1) hx hb dX2_keep_29 (by decide) ?_
    refine lv_iadd hx hb dX2_keep_30 ?_
    refine lv_aload_n hx hb dX2_keep_31 rfl (lv_at hl 2 rfl) ?_
    obtain ⟨r32, hr32, hF⟩ := opb hF
    refine kVI (As := []) (rest := [.int ((c_held * (13 : Int32)) + (1 : Int32)), .ref a_t]) (ws' := (wd_X2_keep cI a_t a_p a_slots a_p_signs c_held r24 c_p_length c_p_signs)) ⟨hx, hb, hml, hown, hts⟩ (c_X1_length l D cI a_p a_p_signs H.size c_p_length  r32 hr32) (cwV 0 hts mw_X2_26 rfl rfl rfl hd_X1_length ⟨Nat.le_of_ble_eq_true rfl, Nat.le_of_ble_eq_true rfl⟩) hS hA hG hK hP hD [2] rfl rfl rfl rfl rfl ⟨Nat.zero_le _, Nat.zero_le _⟩ 1 2 rfl rfl rfl rfl hl.1 rfl (Nat.le_of_ble_eq_true rfl) dX2_keep_32 (fun H locs hP hD hS => ?_)
    obtain ⟨r35, hr35, hF⟩ := opb hF
    refine kVV (As := [.int ((c_held * (13 : Int32)) + (1 : Int32)), .int r32]) (rest := []) (ws' := (wd_X2_keep cI a_t a_p a_slots a_p_signs c_held r35 c_p_length c_p_signs)) ⟨hx, hb, hml, hown, hts⟩ (c_X2_setSlot l D cI a_t a_slots H.size c_held r24 ((c_held * (13 : Int32)) + (1 : Int32)) r32 r35 hr35) (cwV 2 hts mw_X2_22 rfl rfl rfl hd_X2_setSlot ⟨Nat.le_of_ble_eq_true rfl, Nat.le_of_ble_eq_true rfl⟩) hS hA hG hK hP hD [0, 1] rfl rfl rfl rfl rfl ⟨Nat.zero_le _, Nat.zero_le _⟩ 2 0 rfl rfl rfl rfl hl.1 rfl (Nat.le_of_ble_eq_true rfl) dX2_keep_35 (fun H locs hP hD hS => ?_)
    refine lv_iconst (v := 0) hx hb dX2_keep_38 (by decide) ?_
    refine lv_istore (lv' := [(4, .int (0 : Int32)), (3, .int (c_held * (13 : Int32))), (0, .ref a_t), (1, .ref a_p), (2, .int x2)]) hx hb dX2_keep_39 hl (by decide) rfl (fun ls hl => ?_)
    exact K41 FU c_held r35 (c_held * (13 : Int32)) (0 : Int32) H locs ls hP hD hS (lv_sub hl [2, 3, 1, 0] rfl) hF
  unfold F_X2_keep at hF
  have hP : va_P D vwCl (wd_X2_keep cI a_t a_p a_slots a_p_signs c_held c_slots c_p_length c_p_signs) s.heap := hP
  obtain ⟨H, hH⟩ : ∃ H, H = s.heap := ⟨_, rfl⟩
  rw [← hH]
  rw [← hH] at hP
  obtain ⟨locs, hlo⟩ : ∃ z : List Loc, z = [] := ⟨_, rfl⟩
  rw [← hlo]
  have hS : va_S A s.heap H locs := by rw [hH, hlo]; exact hS
  refine lv_aload_n hx hb dX2_keep_0 rfl (lv_at hl 0 rfl) ?_
  refine get_X2_15 hx hb hts hown hK hP 0 rfl rfl dX2_keep_1 ?_
  refine lv_bipush (v := 6) hx hb dX2_keep_4 (by decide) ?_
  refine lv_icmp_lt (tgt := 13) hx hb dX2_keep_6 (by decide) (fun k6 => ?_) (fun k6 => ?_)
  · replace hF := (if_pos k6).symm.trans hF
    exact K13 c_held c_slots H locs ls hP hD hS (lv_sub hl [0, 1, 2] rfl) hF
  · replace hF := (if_neg k6).symm.trans hF
    refine lv_aload_n hx hb dX2_keep_9 rfl (lv_at hl 0 rfl) ?_
    obtain ⟨r10, hr10, hF⟩ := opb hF
    refine kVV (As := []) (rest := []) (ws' := (wd_X2_keep cI a_t a_p a_slots a_p_signs r10.1 r10.2 c_p_length c_p_signs)) ⟨hx, hb, hml, hown, hts⟩ (c_X2_dropOldest l D cI a_t a_slots H.size c_held c_slots  r10 hr10) (cwV 0 hts mw_X2_19 rfl rfl rfl hd_X2_dropOldest ⟨Nat.le_of_ble_eq_true rfl, Nat.le_of_ble_eq_true rfl⟩) hS hA hG hK hP hD [0, 1] rfl rfl rfl rfl rfl ⟨Nat.zero_le _, Nat.zero_le _⟩ 2 0 rfl rfl rfl rfl hl.1 rfl (Nat.le_of_ble_eq_true rfl) dX2_keep_10 (fun H locs hP hD hS => ?_)
    exact K13 r10.1 r10.2 H locs ls hP hD hS (lv_sub hl [0, 1, 2] rfl) hF
abbrev wd_X2_restore (cI : ClassId) (a_t a_p a_slots a_p_signs : Nat) (c_held : Int32) (c_slots : Nat → Int32) (c_p_length : Int32) (c_p_signs : Nat → Int32) : va_W := [(a_t, .inr (2, [.ref a_slots, .int c_held])), (a_slots, .inl (cI, 78, .inl c_slots)), (a_p, .inr (1, [.ref a_p_signs, .int c_p_length])), (a_p_signs, .inl (cI, 11, .inl c_p_signs))]
def rm_X2_restore : Room := { frames := 2, cells := 0, slots := 0, locals := 43 }
set_option maxHeartbeats 4000000 in
set_option maxRecDepth 100000 in
theorem c_X2_restore (l : Launch) (D : va_G) (cI : ClassId) (a_t a_p a_slots a_p_signs : Nat) (sz : Nat) (c_held : Int32) (c_slots : Nat → Int32) (c_p_length : Int32) (c_p_signs : Nat → Int32) (o : Int32 × Int32 × Int32 × (Nat → Int32)) (hF : F_X2_restore c_held c_slots c_p_length c_p_signs = some o) : Met l yX2_restore (Cond.code yX2_restore cX2_restore 5 (some .int) :: WL) rm_X2_restore (preM D [(cI, .int)] (wd_X2_restore cI a_t a_p a_slots a_p_signs c_held c_slots c_p_length c_p_signs) sz [.ref a_t, .ref a_p]) (postI D o.1 (wd_X2_restore cI a_t a_p a_slots a_p_signs o.2.1 c_slots o.2.2.1 o.2.2.2) (wd_X2_restore cI a_t a_p a_slots a_p_signs c_held c_slots c_p_length c_p_signs) sz) 0 0 (va_A (wd_X2_restore cI a_t a_p a_slots a_p_signs c_held c_slots c_p_length c_p_signs) sz) := by
  refine mofI (by decide +kernel) (Nat.le_of_ble_eq_true rfl) ?_
  intro p e s m args below meth c Q A ls hx hb hml hown hts hK hP hD hS hA hG hl hret hsz0
  have hl : lv_has ls 5 [(0, .ref a_t), (1, .ref a_p)] := hl
  have K73 : ∀ (c_held : Int32) (c_p_length : Int32) (c_p_signs : Nat → Int32) (x2 : Int32)  (H : Heap) (locs : List Loc) (ls : Array Slot), va_P D vwCl (wd_X2_restore cI a_t a_p a_slots a_p_signs c_held c_slots c_p_length c_p_signs) H → va_D A (wd_X2_restore cI a_t a_p a_slots a_p_signs c_held c_slots c_p_length c_p_signs) → va_S A s.heap H locs → lv_has ls 5 [(0, .ref a_t), (2, .int x2)] → F_X2_restore_J73 c_slots c_held c_p_length c_p_signs x2 = some o → W p l e rm_X2_restore s m args below meth c H locs 0 0 Q (F0 m 73 ls []) := by
    intro c_held c_p_length c_p_signs x2 H locs ls hP hD hS hl hF
    unfold F_X2_restore_J73 at hF
    refine lv_aload_n hx hb dX2_restore_73 rfl (lv_at hl 0 rfl) ?_
    refine lv_iload_n hx hb dX2_restore_74 rfl (lv_at hl 1 rfl) ?_
    obtain ⟨r75, hr75, hF⟩ := opb hF
    refine kVI (As := [.int x2]) (rest := []) (ws' := (wd_X2_restore cI a_t a_p a_slots a_p_signs c_held c_slots c_p_length c_p_signs)) ⟨hx, hb, hml, hown, hts⟩ (c_X2_slot l D cI a_t a_slots H.size c_held c_slots x2 r75 hr75) (cwV 1 hts mw_X2_36 rfl rfl rfl hd_X2_slot ⟨Nat.le_of_ble_eq_true rfl, Nat.le_of_ble_eq_true rfl⟩) hS hA hG hK hP hD [0, 1] rfl rfl rfl rfl rfl ⟨Nat.zero_le _, Nat.zero_le _⟩ 2 0 rfl rfl rfl rfl hl.1 rfl (Nat.le_of_ble_eq_true rfl) dX2_restore_75 (fun H locs hP hD hS => ?_)
    have ho := Option.some.inj hF
    exact hret H locs ls 78 r75 _ hP hS (by rw [← ho]) (by rw [← ho]) dX2_restore_78
  have K40 : ∀ (n40 : Nat) (c_held : Int32) (c_p_length : Int32) (c_p_signs : Nat → Int32) (x2 : Int32) (x3 : Int32) (x4 : Int32) (H : Heap) (locs : List Loc) (ls : Array Slot), va_P D vwCl (wd_X2_restore cI a_t a_p a_slots a_p_signs c_held c_slots c_p_length c_p_signs) H → va_D A (wd_X2_restore cI a_t a_p a_slots a_p_signs c_held c_slots c_p_length c_p_signs) → va_S A s.heap H locs → lv_has ls 5 [(0, .ref a_t), (1, .ref a_p), (2, .int x2), (3, .int x3), (4, .int x4)] → F_X2_restore_L40 c_slots n40 c_held c_p_length c_p_signs x2 x3 x4 = some o → W p l e rm_X2_restore s m args below meth c H locs 0 0 Q (F0 m 40 ls []) := by
    intro n40
    induction n40 with
    | zero => intro c_held c_p_length c_p_signs x2 x3 x4 H locs ls hP hD hS hl hF; exact nos hF
    | succ n40 ih40 =>
      intro c_held c_p_length c_p_signs x2 x3 x4 H locs ls hP hD hS hl hF
      rw [F_X2_restore_L40] at hF
      refine lv_iload hx hb dX2_restore_40 (lv_at hl 4 rfl) ?_
      refine lv_iload_n hx hb dX2_restore_42 rfl (lv_at hl 3 rfl) ?_
      refine lv_icmp_ge (tgt := 73) hx hb dX2_restore_43 (by decide) (fun k43 => ?_) (fun k43 => ?_)
      · replace hF := (if_pos k43).symm.trans hF
        exact K73 c_held c_p_length c_p_signs x2 H locs ls hP hD hS (lv_sub hl [0, 2] rfl) hF
      · replace hF := (if_neg k43).symm.trans hF
        refine lv_iload hx hb dX2_restore_46 (lv_at hl 4 rfl) ?_
        refine lv_bipush (v := 11) hx hb dX2_restore_48 (by decide) ?_
        refine lv_icmp_ge (tgt := 73) hx hb dX2_restore_50 (by decide) (fun k50 => ?_) (fun k50 => ?_)
        · replace hF := (if_pos k50).symm.trans hF
          exact K73 c_held c_p_length c_p_signs x2 H locs ls hP hD hS (lv_sub hl [0, 2] rfl) hF
        · replace hF := (if_neg k50).symm.trans hF
          refine lv_aload_n hx hb dX2_restore_53 rfl (lv_at hl 1 rfl) ?_
          refine lv_aload_n hx hb dX2_restore_54 rfl (lv_at hl 0 rfl) ?_
          refine lv_iload_n hx hb dX2_restore_55 rfl (lv_at hl 2 rfl) ?_
          refine lv_iconst (v := 2) hx hb dX2_restore_56 (by decide) ?_
          refine lv_iadd hx hb dX2_restore_57 ?_
          refine lv_iload hx hb dX2_restore_58 (lv_at hl 4 rfl) ?_
          refine lv_iadd hx hb dX2_restore_60 ?_
          obtain ⟨r61, hr61, hF⟩ := opb hF
          refine kVI (As := [.int ((x2 + (2 : Int32)) + x4)]) (rest := [.ref a_p]) (ws' := (wd_X2_restore cI a_t a_p a_slots a_p_signs c_held c_slots c_p_length c_p_signs)) ⟨hx, hb, hml, hown, hts⟩ (c_X2_slot l D cI a_t a_slots H.size c_held c_slots ((x2 + (2 : Int32)) + x4) r61 hr61) (cwV 1 hts mw_X2_36 rfl rfl rfl hd_X2_slot ⟨Nat.le_of_ble_eq_true rfl, Nat.le_of_ble_eq_true rfl⟩) hS hA hG hK hP hD [0, 1] rfl rfl rfl rfl rfl ⟨Nat.zero_le _, Nat.zero_le _⟩ 2 0 rfl rfl rfl rfl hl.1 rfl (Nat.le_of_ble_eq_true rfl) dX2_restore_61 (fun H locs hP hD hS => ?_)
          obtain ⟨r64, hr64, hF⟩ := opb hF
          refine kVV (As := [.int r61]) (rest := []) (ws' := (wd_X2_restore cI a_t a_p a_slots a_p_signs c_held c_slots r64.1 r64.2)) ⟨hx, hb, hml, hown, hts⟩ (c_X1_add l D cI a_p a_p_signs H.size c_p_length c_p_signs r61 r64 hr64) (cwV 1 hts mw_X2_42 rfl rfl rfl hd_X1_add ⟨Nat.le_of_ble_eq_true rfl, Nat.le_of_ble_eq_true rfl⟩) hS hA hG hK hP hD [2, 3] rfl rfl rfl rfl rfl ⟨Nat.zero_le _, Nat.zero_le _⟩ 1 2 rfl rfl rfl rfl hl.1 rfl (Nat.le_of_ble_eq_true rfl) dX2_restore_64 (fun H locs hP hD hS => ?_)
          refine lv_iinc (v := x4 + 1) (lv' := [(4, .int (x4 + 1)), (0, .ref a_t), (1, .ref a_p), (2, .int x2), (3, .int x3)]) hx hb dX2_restore_67 hl (k := 4) rfl rfl (by decide) rfl (fun ls hl => ?_)
          refine lv_goto (tgt := 40) hx hb dX2_restore_70 (by decide) ?_
          exact ih40 c_held r64.1 r64.2 x2 x3 (x4 + 1) H locs ls hP hD hS (lv_sub hl [1, 2, 3, 4, 0] rfl) hF
  have K17 : ∀ (c_held : Int32) (c_p_length : Int32) (c_p_signs : Nat → Int32)  (H : Heap) (locs : List Loc) (ls : Array Slot), va_P D vwCl (wd_X2_restore cI a_t a_p a_slots a_p_signs c_held c_slots c_p_length c_p_signs) H → va_D A (wd_X2_restore cI a_t a_p a_slots a_p_signs c_held c_slots c_p_length c_p_signs) → va_S A s.heap H locs → lv_has ls 5 [(0, .ref a_t), (1, .ref a_p)] → F_X2_restore_J17 c_slots c_held c_p_length c_p_signs = some o → W p l e rm_X2_restore s m args below meth c H locs 0 0 Q (F0 m 17 ls []) := by
    intro c_held c_p_length c_p_signs H locs ls hP hD hS hl hF
    unfold F_X2_restore_J17 at hF
    refine lv_aload_n hx hb dX2_restore_17 rfl (lv_at hl 0 rfl) ?_
    refine get_X2_15 hx hb hts hown hK hP 0 rfl rfl dX2_restore_18 ?_
    refine lv_bipush (v := 13) hx hb dX2_restore_21 (by decide) ?_
    refine lv_imul hx hb dX2_restore_23 ?_
    refine lv_istore_n (lv' := [(2, .int (c_held * (13 : Int32))), (0, .ref a_t), (1, .ref a_p)]) hx hb dX2_restore_24 rfl hl (by decide) rfl (fun ls hl => ?_)
    refine lv_aload_n hx hb dX2_restore_25 rfl (lv_at hl 1 rfl) ?_
    refine lv_iload_n hx hb dX2_restore_26 rfl (lv_at hl 0 rfl) ?_
    refine lv_iconst (v := 1) hx hb dX2_restore_27 (by decide) ?_
    refine lv_iadd hx hb dX2_restore_28 ?_
    obtain ⟨r29, hr29, hF⟩ := opb hF
    refine kVI (As := [.int ((c_held * (13 : Int32)) + (1 : Int32))]) (rest := []) (ws' := (wd_X2_restore cI a_t a_p a_slots a_p_signs c_held c_slots c_p_length c_p_signs)) ⟨hx, hb, hml, hown, hts⟩ (c_X2_slot l D cI a_t a_slots H.size c_held c_slots ((c_held * (13 : Int32)) + (1 : Int32)) r29 hr29) (cwV 1 hts mw_X2_36 rfl rfl rfl hd_X2_slot ⟨Nat.le_of_ble_eq_true rfl, Nat.le_of_ble_eq_true rfl⟩) hS hA hG hK hP hD [0, 1] rfl rfl rfl rfl rfl ⟨Nat.zero_le _, Nat.zero_le _⟩ 2 0 rfl rfl rfl rfl hl.1 rfl (Nat.le_of_ble_eq_true rfl) dX2_restore_29 (fun H locs hP hD hS => ?_)
    refine lv_istore_n (lv' := [(3, .int r29), (2, .int (c_held * (13 : Int32))), (0, .ref a_t), (1, .ref a_p)]) hx hb dX2_restore_32 rfl hl (by decide) rfl (fun ls hl => ?_)
    refine lv_aload_n hx hb dX2_restore_33 rfl (lv_at hl 3 rfl) ?_
    obtain ⟨r34, hr34, hF⟩ := opb hF
    refine kVV (As := []) (rest := []) (ws' := (wd_X2_restore cI a_t a_p a_slots a_p_signs c_held c_slots r34 c_p_signs)) ⟨hx, hb, hml, hown, hts⟩ (c_X1_clear l D cI a_p a_p_signs H.size c_p_length  r34 hr34) (cwV 0 hts mw_X2_39 rfl rfl rfl hd_X1_clear ⟨Nat.le_of_ble_eq_true rfl, Nat.le_of_ble_eq_true rfl⟩) hS hA hG hK hP hD [2] rfl rfl rfl rfl rfl ⟨Nat.zero_le _, Nat.zero_le _⟩ 1 2 rfl rfl rfl rfl hl.1 rfl (Nat.le_of_ble_eq_true rfl) dX2_restore_34 (fun H locs hP hD hS => ?_)
    refine lv_iconst (v := 0) hx hb dX2_restore_37 (by decide) ?_
    refine lv_istore (lv' := [(4, .int (0 : Int32)), (3, .int r29), (2, .int (c_held * (13 : Int32))), (0, .ref a_t), (1, .ref a_p)]) hx hb dX2_restore_38 hl (by decide) rfl (fun ls hl => ?_)
    exact K40 FU c_held r34 c_p_signs (c_held * (13 : Int32)) r29 (0 : Int32) H locs ls hP hD hS (lv_sub hl [3, 4, 2, 1, 0] rfl) hF
  unfold F_X2_restore at hF
  have hP : va_P D vwCl (wd_X2_restore cI a_t a_p a_slots a_p_signs c_held c_slots c_p_length c_p_signs) s.heap := hP
  obtain ⟨H, hH⟩ : ∃ H, H = s.heap := ⟨_, rfl⟩
  rw [← hH]
  rw [← hH] at hP
  obtain ⟨locs, hlo⟩ : ∃ z : List Loc, z = [] := ⟨_, rfl⟩
  rw [← hlo]
  have hS : va_S A s.heap H locs := by rw [hH, hlo]; exact hS
  refine lv_aload_n hx hb dX2_restore_0 rfl (lv_at hl 0 rfl) ?_
  refine get_X2_15 hx hb hts hown hK hP 0 rfl rfl dX2_restore_1 ?_
  refine lv_if_le (tgt := 17) hx hb dX2_restore_4 (by decide) (fun k4 => ?_) (fun k4 => ?_)
  · (try simp only [if_pos k4] at hF)
    exact K17 c_held c_p_length c_p_signs H locs ls hP hD hS (lv_sub hl [0, 1] rfl) hF
  · (try simp only [if_neg k4] at hF)
    refine lv_aload_n hx hb dX2_restore_7 rfl (lv_at hl 0 rfl) ?_
    refine lv_dup hx hb dX2_restore_8 rfl ?_
    refine get_X2_15 hx hb hts hown hK hP 0 rfl rfl dX2_restore_9 ?_
    refine lv_iconst (v := 1) hx hb dX2_restore_12 (by decide) ?_
    refine lv_isub hx hb dX2_restore_13 ?_
    refine put_X2_15 hx hb hts hown hK hP hD hS 0 rfl rfl rfl (Nat.le_of_ble_eq_true rfl) dX2_restore_14 (fun H locs hP hD hS => ?_)
    have hP : va_P D vwCl (wd_X2_restore cI a_t a_p a_slots a_p_signs (c_held - (1 : Int32)) c_slots c_p_length c_p_signs) H := hP
    have hD : va_D A (wd_X2_restore cI a_t a_p a_slots a_p_signs (c_held - (1 : Int32)) c_slots c_p_length c_p_signs) := hD
    exact K17 (c_held - (1 : Int32)) c_p_length c_p_signs H locs ls hP hD hS (lv_sub hl [0, 1] rfl) hF
abbrev wd_X3_weigh (cI : ClassId) (a_t a_madeFor a_weight a_inCell a_all a_starting : Nat) (c_madeFor : Nat → Int32) (c_weight : Nat → Int32) : va_W := [(a_t, .inr (3, [.ref a_madeFor, .ref a_weight, .ref a_inCell, .ref a_all, .ref a_starting])), (a_madeFor, .inl (cI, 6, .inl c_madeFor)), (a_weight, .inl (cI, 6, .inl c_weight))]
def rm_X3_weigh : Room := { frames := 0, cells := 0, slots := 0, locals := 0 }
set_option maxHeartbeats 4000000 in
set_option maxRecDepth 100000 in
theorem c_X3_weigh (l : Launch) (D : va_G) (cI : ClassId) (a_t a_madeFor a_weight a_inCell a_all a_starting : Nat) (sz : Nat) (c_madeFor : Nat → Int32) (c_weight : Nat → Int32) (o : Int32 × (Nat → Int32)) (hF : F_X3_weigh c_madeFor c_weight = some o) : Met l yX3_weigh (Cond.code yX3_weigh cX3_weigh 3 (some .int) :: WL) rm_X3_weigh (preM D [(cI, .int)] (wd_X3_weigh cI a_t a_madeFor a_weight a_inCell a_all a_starting c_madeFor c_weight) sz [.ref a_t]) (postI D o.1 (wd_X3_weigh cI a_t a_madeFor a_weight a_inCell a_all a_starting c_madeFor o.2) (wd_X3_weigh cI a_t a_madeFor a_weight a_inCell a_all a_starting c_madeFor c_weight) sz) 0 0 (va_A (wd_X3_weigh cI a_t a_madeFor a_weight a_inCell a_all a_starting c_madeFor c_weight) sz) := by
  refine mofI (by decide +kernel) (Nat.le_of_ble_eq_true rfl) ?_
  intro p e s m args below meth c Q A ls hx hb hml hown hts hK hP hD hS hA hG hl hret hsz0
  have hl : lv_has ls 3 [(0, .ref a_t)] := hl
  have K4 : ∀ (n4 : Nat) (c_weight : Nat → Int32) (x1 : Int32) (x2 : Int32) (H : Heap) (locs : List Loc) (ls : Array Slot), va_P D vwCl (wd_X3_weigh cI a_t a_madeFor a_weight a_inCell a_all a_starting c_madeFor c_weight) H → va_D A (wd_X3_weigh cI a_t a_madeFor a_weight a_inCell a_all a_starting c_madeFor c_weight) → va_S A s.heap H locs → lv_has ls 3 [(0, .ref a_t), (1, .int x1), (2, .int x2)] → F_X3_weigh_L4 c_madeFor n4 c_weight x1 x2 = some o → W p l e rm_X3_weigh s m args below meth c H locs 0 0 Q (F0 m 4 ls []) := by
    intro n4
    induction n4 with
    | zero => intro c_weight x1 x2 H locs ls hP hD hS hl hF; exact nos hF
    | succ n4 ih4 =>
      intro c_weight x1 x2 H locs ls hP hD hS hl hF
      rw [F_X3_weigh_L4] at hF
      refine lv_iload_n hx hb dX3_weigh_4 rfl (lv_at hl 2 rfl) ?_
      refine lv_bipush (v := 6) hx hb dX3_weigh_5 (by decide) ?_
      refine lv_icmp_ge (tgt := 34) hx hb dX3_weigh_7 (by decide) (fun k7 => ?_) (fun k7 => ?_)
      · replace hF := (if_pos k7).symm.trans hF
        refine lv_iload_n hx hb dX3_weigh_34 rfl (lv_at hl 1 rfl) ?_
        have ho := Option.some.inj hF
        exact hret H locs ls 35 x1 _ hP hS (by rw [← ho]) (by rw [← ho]) dX3_weigh_35
      · replace hF := (if_neg k7).symm.trans hF
        refine lv_aload_n hx hb dX3_weigh_10 rfl (lv_at hl 0 rfl) ?_
        refine get_X3_15 hx hb hts hown hK hP 0 rfl rfl dX3_weigh_11 ?_
        refine lv_iload_n hx hb dX3_weigh_14 rfl (lv_at hl 2 rfl) ?_
        refine lv_iload_n hx hb dX3_weigh_15 rfl (lv_at hl 1 rfl) ?_
        obtain ⟨g16, hF⟩ := gdb hF
        refine va_iast hx hb hK hP hD hS 2 0 rfl rfl (vinb g16) dX3_weigh_16 (fun H locs hP hD hS => ?_)
        have hP : va_P D vwCl (wd_X3_weigh cI a_t a_madeFor a_weight a_inCell a_all a_starting c_madeFor (upd c_weight (x2).toNatClampNeg x1)) H := hP
        have hD : va_D A (wd_X3_weigh cI a_t a_madeFor a_weight a_inCell a_all a_starting c_madeFor (upd c_weight (x2).toNatClampNeg x1)) := hD
        refine lv_iload_n hx hb dX3_weigh_17 rfl (lv_at hl 1 rfl) ?_
        refine lv_aload_n hx hb dX3_weigh_18 rfl (lv_at hl 0 rfl) ?_
        refine get_X3_9 hx hb hts hown hK hP 0 rfl rfl dX3_weigh_19 ?_
        refine lv_iload_n hx hb dX3_weigh_22 rfl (lv_at hl 2 rfl) ?_
        obtain ⟨g23, hF⟩ := gdb hF
        refine va_iald hx hb hK hP 1 0 rfl rfl (vinb g23) dX3_weigh_23 ?_
        refine lv_iconst (v := 1) hx hb dX3_weigh_24 (by decide) ?_
        refine lv_iadd hx hb dX3_weigh_25 ?_
        refine lv_imul hx hb dX3_weigh_26 ?_
        refine lv_istore_n (lv' := [(1, .int (x1 * ((c_madeFor (x2).toNatClampNeg) + (1 : Int32)))), (0, .ref a_t), (2, .int x2)]) hx hb dX3_weigh_27 rfl hl (by decide) rfl (fun ls hl => ?_)
        refine lv_iinc (v := x2 + 1) (lv' := [(2, .int (x2 + 1)), (1, .int (x1 * ((c_madeFor (x2).toNatClampNeg) + (1 : Int32)))), (0, .ref a_t)]) hx hb dX3_weigh_28 hl (k := 2) rfl rfl (by decide) rfl (fun ls hl => ?_)
        refine lv_goto (tgt := 4) hx hb dX3_weigh_31 (by decide) ?_
        exact ih4 (upd c_weight (x2).toNatClampNeg x1) (x1 * ((c_madeFor (x2).toNatClampNeg) + (1 : Int32))) (x2 + 1) H locs ls hP hD hS (lv_sub hl [2, 1, 0] rfl) hF
  unfold F_X3_weigh at hF
  have hP : va_P D vwCl (wd_X3_weigh cI a_t a_madeFor a_weight a_inCell a_all a_starting c_madeFor c_weight) s.heap := hP
  obtain ⟨H, hH⟩ : ∃ H, H = s.heap := ⟨_, rfl⟩
  rw [← hH]
  rw [← hH] at hP
  obtain ⟨locs, hlo⟩ : ∃ z : List Loc, z = [] := ⟨_, rfl⟩
  rw [← hlo]
  have hS : va_S A s.heap H locs := by rw [hH, hlo]; exact hS
  refine lv_iconst (v := 1) hx hb dX3_weigh_0 (by decide) ?_
  refine lv_istore_n (lv' := [(1, .int (1 : Int32)), (0, .ref a_t)]) hx hb dX3_weigh_1 rfl hl (by decide) rfl (fun ls hl => ?_)
  refine lv_iconst (v := 0) hx hb dX3_weigh_2 (by decide) ?_
  refine lv_istore_n (lv' := [(2, .int (0 : Int32)), (1, .int (1 : Int32)), (0, .ref a_t)]) hx hb dX3_weigh_3 rfl hl (by decide) rfl (fun ls hl => ?_)
  exact K4 FU c_weight (1 : Int32) (0 : Int32) H locs ls hP hD hS (lv_sub hl [2, 1, 0] rfl) hF
abbrev wd_X3_allOf (cI : ClassId) (a_t a_madeFor a_weight a_inCell a_all a_starting : Nat) (c_all : Nat → Int32) : va_W := [(a_t, .inr (3, [.ref a_madeFor, .ref a_weight, .ref a_inCell, .ref a_all, .ref a_starting])), (a_all, .inl (cI, 486, .inl c_all))]
def rm_X3_allOf : Room := { frames := 0, cells := 0, slots := 0, locals := 0 }
set_option maxHeartbeats 4000000 in
set_option maxRecDepth 100000 in
theorem c_X3_allOf (l : Launch) (D : va_G) (cI : ClassId) (a_t a_madeFor a_weight a_inCell a_all a_starting : Nat) (sz : Nat) (c_all : Nat → Int32) (x1 : Int32) (o : Int32) (hF : F_X3_allOf c_all x1 = some o) : Met l yX3_allOf (Cond.code yX3_allOf cX3_allOf 2 (some .int) :: WL) rm_X3_allOf (preM D [(cI, .int)] (wd_X3_allOf cI a_t a_madeFor a_weight a_inCell a_all a_starting c_all) sz [.ref a_t, .int x1]) (postI D o (wd_X3_allOf cI a_t a_madeFor a_weight a_inCell a_all a_starting c_all) (wd_X3_allOf cI a_t a_madeFor a_weight a_inCell a_all a_starting c_all) sz) 0 0 (va_A (wd_X3_allOf cI a_t a_madeFor a_weight a_inCell a_all a_starting c_all) sz) := by
  refine mofI (by decide +kernel) (Nat.le_of_ble_eq_true rfl) ?_
  intro p e s m args below meth c Q A ls hx hb hml hown hts hK hP hD hS hA hG hl hret hsz0
  have hl : lv_has ls 2 [(0, .ref a_t), (1, .int x1)] := hl
  unfold F_X3_allOf at hF
  have hP : va_P D vwCl (wd_X3_allOf cI a_t a_madeFor a_weight a_inCell a_all a_starting c_all) s.heap := hP
  obtain ⟨H, hH⟩ : ∃ H, H = s.heap := ⟨_, rfl⟩
  rw [← hH]
  rw [← hH] at hP
  obtain ⟨locs, hlo⟩ : ∃ z : List Loc, z = [] := ⟨_, rfl⟩
  rw [← hlo]
  have hS : va_S A s.heap H locs := by rw [hH, hlo]; exact hS
  refine lv_iload_n hx hb dX3_allOf_0 rfl (lv_at hl 1 rfl) ?_
  refine lv_if_lt (tgt := 20) hx hb dX3_allOf_1 (by decide) (fun k1 => ?_) (fun k1 => ?_)
  · replace hF := (if_pos k1).symm.trans hF
    refine lv_iconst (v := 0) hx hb dX3_allOf_20 (by decide) ?_
    have ho := Option.some.inj hF
    exact hret H locs ls 21 (0 : Int32) _ hP hS rfl ho dX3_allOf_21
  · replace hF := (if_neg k1).symm.trans hF
    refine lv_iload_n hx hb dX3_allOf_4 rfl (lv_at hl 1 rfl) ?_
    refine lv_sipush (v := 486) hx hb dX3_allOf_5 (by decide) ?_
    refine lv_icmp_ge (tgt := 20) hx hb dX3_allOf_8 (by decide) (fun k8 => ?_) (fun k8 => ?_)
    · replace hF := (if_pos k8).symm.trans hF
      refine lv_iconst (v := 0) hx hb dX3_allOf_20 (by decide) ?_
      have ho := Option.some.inj hF
      exact hret H locs ls 21 (0 : Int32) _ hP hS rfl ho dX3_allOf_21
    · replace hF := (if_neg k8).symm.trans hF
      refine lv_aload_n hx hb dX3_allOf_11 rfl (lv_at hl 0 rfl) ?_
      refine get_X3_21 hx hb hts hown hK hP 0 rfl rfl dX3_allOf_12 ?_
      refine lv_iload_n hx hb dX3_allOf_15 rfl (lv_at hl 1 rfl) ?_
      obtain ⟨g16, hF⟩ := gdb hF
      refine va_iald hx hb hK hP 1 0 rfl rfl (vinb g16) dX3_allOf_16 ?_
      refine lv_goto (tgt := 21) hx hb dX3_allOf_17 (by decide) ?_
      have ho := Option.some.inj hF
      exact hret H locs ls 21 (c_all (x1).toNatClampNeg) _ hP hS rfl ho dX3_allOf_21
abbrev wd_X3_startingOf (cI : ClassId) (a_t a_madeFor a_weight a_inCell a_all a_starting : Nat) (c_starting : Nat → Int32) : va_W := [(a_t, .inr (3, [.ref a_madeFor, .ref a_weight, .ref a_inCell, .ref a_all, .ref a_starting])), (a_starting, .inl (cI, 2916, .inl c_starting))]
def rm_X3_startingOf : Room := { frames := 0, cells := 0, slots := 0, locals := 0 }
set_option maxHeartbeats 4000000 in
set_option maxRecDepth 100000 in
theorem c_X3_startingOf (l : Launch) (D : va_G) (cI : ClassId) (a_t a_madeFor a_weight a_inCell a_all a_starting : Nat) (sz : Nat) (c_starting : Nat → Int32) (x1 : Int32) (x2 : Int32) (o : Int32) (hF : F_X3_startingOf c_starting x1 x2 = some o) : Met l yX3_startingOf (Cond.code yX3_startingOf cX3_startingOf 4 (some .int) :: WL) rm_X3_startingOf (preM D [(cI, .int)] (wd_X3_startingOf cI a_t a_madeFor a_weight a_inCell a_all a_starting c_starting) sz [.ref a_t, .int x1, .int x2]) (postI D o (wd_X3_startingOf cI a_t a_madeFor a_weight a_inCell a_all a_starting c_starting) (wd_X3_startingOf cI a_t a_madeFor a_weight a_inCell a_all a_starting c_starting) sz) 0 0 (va_A (wd_X3_startingOf cI a_t a_madeFor a_weight a_inCell a_all a_starting c_starting) sz) := by
  refine mofI (by decide +kernel) (Nat.le_of_ble_eq_true rfl) ?_
  intro p e s m args below meth c Q A ls hx hb hml hown hts hK hP hD hS hA hG hl hret hsz0
  have hl : lv_has ls 4 [(0, .ref a_t), (1, .int x1), (2, .int x2)] := hl
  have K26 : ∀ (v0 : Int32)  (H : Heap) (locs : List Loc) (ls : Array Slot), va_P D vwCl (wd_X3_startingOf cI a_t a_madeFor a_weight a_inCell a_all a_starting c_starting) H → va_D A (wd_X3_startingOf cI a_t a_madeFor a_weight a_inCell a_all a_starting c_starting) → va_S A s.heap H locs → lv_has ls 4 [(0, .ref a_t), (1, .int x1), (2, .int x2)] → F_X3_startingOf_J26 c_starting x1 x2 v0 = some o → W p l e rm_X3_startingOf s m args below meth c H locs 0 0 Q (F0 m 26 ls [.int v0]) := by
    intro v0 H locs ls hP hD hS hl hF
    unfold F_X3_startingOf_J26 at hF
    refine lv_istore_n (lv' := [(3, .int v0), (0, .ref a_t), (1, .int x1), (2, .int x2)]) hx hb dX3_startingOf_26 rfl hl (by decide) rfl (fun ls hl => ?_)
    refine lv_iload_n hx hb dX3_startingOf_27 rfl (lv_at hl 0 rfl) ?_
    refine lv_if_eq (tgt := 45) hx hb dX3_startingOf_28 (by decide) (fun k28 => ?_) (fun k28 => ?_)
    · replace hF := (if_pos k28).symm.trans hF
      refine lv_iconst (v := 0) hx hb dX3_startingOf_45 (by decide) ?_
      have ho := Option.some.inj hF
      exact hret H locs ls 46 (0 : Int32) _ hP hS rfl ho dX3_startingOf_46
    · replace hF := (if_neg k28).symm.trans hF
      refine lv_aload_n hx hb dX3_startingOf_31 rfl (lv_at hl 1 rfl) ?_
      refine get_X3_24 hx hb hts hown hK hP 0 rfl rfl dX3_startingOf_32 ?_
      refine lv_iload_n hx hb dX3_startingOf_35 rfl (lv_at hl 2 rfl) ?_
      refine lv_bipush (v := 6) hx hb dX3_startingOf_36 (by decide) ?_
      refine lv_imul hx hb dX3_startingOf_38 ?_
      refine lv_iload_n hx hb dX3_startingOf_39 rfl (lv_at hl 3 rfl) ?_
      refine lv_iadd hx hb dX3_startingOf_40 ?_
      obtain ⟨g41, hF⟩ := gdb hF
      refine va_iald hx hb hK hP 1 0 rfl rfl (vinb g41) dX3_startingOf_41 ?_
      refine lv_goto (tgt := 46) hx hb dX3_startingOf_42 (by decide) ?_
      have ho := Option.some.inj hF
      exact hret H locs ls 46 (c_starting ((x1 * (6 : Int32)) + x2).toNatClampNeg) _ hP hS rfl ho dX3_startingOf_46
  unfold F_X3_startingOf at hF
  have hP : va_P D vwCl (wd_X3_startingOf cI a_t a_madeFor a_weight a_inCell a_all a_starting c_starting) s.heap := hP
  obtain ⟨H, hH⟩ : ∃ H, H = s.heap := ⟨_, rfl⟩
  rw [← hH]
  rw [← hH] at hP
  obtain ⟨locs, hlo⟩ : ∃ z : List Loc, z = [] := ⟨_, rfl⟩
  rw [← hlo]
  have hS : va_S A s.heap H locs := by rw [hH, hlo]; exact hS
  refine lv_iload_n hx hb dX3_startingOf_0 rfl (lv_at hl 1 rfl) ?_
  refine lv_if_lt (tgt := 25) hx hb dX3_startingOf_1 (by decide) (fun k1 => ?_) (fun k1 => ?_)
  · (try simp only [if_pos k1] at hF)
    refine lv_iconst (v := 0) hx hb dX3_startingOf_25 (by decide) ?_
    exact K26 (0 : Int32) H locs ls hP hD hS (lv_sub hl [0, 1, 2] rfl) hF
  · (try simp only [if_neg k1] at hF)
    refine lv_iload_n hx hb dX3_startingOf_4 rfl (lv_at hl 1 rfl) ?_
    refine lv_sipush (v := 486) hx hb dX3_startingOf_5 (by decide) ?_
    refine lv_icmp_ge (tgt := 25) hx hb dX3_startingOf_8 (by decide) (fun k8 => ?_) (fun k8 => ?_)
    · (try simp only [if_pos k8] at hF)
      refine lv_iconst (v := 0) hx hb dX3_startingOf_25 (by decide) ?_
      exact K26 (0 : Int32) H locs ls hP hD hS (lv_sub hl [0, 1, 2] rfl) hF
    · (try simp only [if_neg k8] at hF)
      refine lv_iload_n hx hb dX3_startingOf_11 rfl (lv_at hl 2 rfl) ?_
      refine lv_if_lt (tgt := 25) hx hb dX3_startingOf_12 (by decide) (fun k12 => ?_) (fun k12 => ?_)
      · (try simp only [if_pos k12] at hF)
        refine lv_iconst (v := 0) hx hb dX3_startingOf_25 (by decide) ?_
        exact K26 (0 : Int32) H locs ls hP hD hS (lv_sub hl [0, 1, 2] rfl) hF
      · (try simp only [if_neg k12] at hF)
        refine lv_iload_n hx hb dX3_startingOf_15 rfl (lv_at hl 2 rfl) ?_
        refine lv_bipush (v := 6) hx hb dX3_startingOf_16 (by decide) ?_
        refine lv_icmp_ge (tgt := 25) hx hb dX3_startingOf_18 (by decide) (fun k18 => ?_) (fun k18 => ?_)
        · (try simp only [if_pos k18] at hF)
          refine lv_iconst (v := 0) hx hb dX3_startingOf_25 (by decide) ?_
          exact K26 (0 : Int32) H locs ls hP hD hS (lv_sub hl [0, 1, 2] rfl) hF
        · (try simp only [if_neg k18] at hF)
          refine lv_iconst (v := 1) hx hb dX3_startingOf_21 (by decide) ?_
          refine lv_goto (tgt := 26) hx hb dX3_startingOf_22 (by decide) ?_
          exact K26 (1 : Int32) H locs ls hP hD hS (lv_sub hl [0, 1, 2] rfl) hF
abbrev wd_X3_fillCell (cI : ClassId) (a_t a_madeFor a_weight a_inCell a_all a_starting : Nat) (c_all : Nat → Int32) (c_inCell : Nat → Int32) (c_starting : Nat → Int32) (c_weight : Nat → Int32) : va_W := [(a_t, .inr (3, [.ref a_madeFor, .ref a_weight, .ref a_inCell, .ref a_all, .ref a_starting])), (a_all, .inl (cI, 486, .inl c_all)), (a_inCell, .inl (cI, 6, .inl c_inCell)), (a_starting, .inl (cI, 2916, .inl c_starting)), (a_weight, .inl (cI, 6, .inl c_weight))]
def rm_X3_fillCell : Room := { frames := 1, cells := 0, slots := 0, locals := 23 }
set_option maxHeartbeats 4000000 in
set_option maxRecDepth 100000 in
theorem c_X3_fillCell (l : Launch) (D : va_G) (cI : ClassId) (a_t a_madeFor a_weight a_inCell a_all a_starting : Nat) (sz : Nat) (c_all : Nat → Int32) (c_inCell : Nat → Int32) (c_starting : Nat → Int32) (c_weight : Nat → Int32) (x1 : Int32) (o : (Nat → Int32) × (Nat → Int32)) (hF : F_X3_fillCell c_all c_inCell c_starting c_weight x1 = some o) : Met l yX3_fillCell (Cond.code yX3_fillCell cX3_fillCell 6 none :: WL) rm_X3_fillCell (preM D [(cI, .int)] (wd_X3_fillCell cI a_t a_madeFor a_weight a_inCell a_all a_starting c_all c_inCell c_starting c_weight) sz [.ref a_t, .int x1]) (postV D (wd_X3_fillCell cI a_t a_madeFor a_weight a_inCell a_all a_starting o.1 c_inCell o.2 c_weight) (wd_X3_fillCell cI a_t a_madeFor a_weight a_inCell a_all a_starting c_all c_inCell c_starting c_weight) sz) 0 0 (va_A (wd_X3_fillCell cI a_t a_madeFor a_weight a_inCell a_all a_starting c_all c_inCell c_starting c_weight) sz) := by
  refine mofV (by decide +kernel) (Nat.le_of_ble_eq_true rfl) ?_
  intro p e s m args below meth c Q A ls hx hb hml hown hts hK hP hD hS hA hG hl hret hsz0
  have hl : lv_has ls 6 [(0, .ref a_t), (1, .int x1)] := hl
  have K12 : ∀ (n12 : Nat) (c_all : Nat → Int32) (c_starting : Nat → Int32) (x2 : Int32) (x3 : Int32) (H : Heap) (locs : List Loc) (ls : Array Slot), va_P D vwCl (wd_X3_fillCell cI a_t a_madeFor a_weight a_inCell a_all a_starting c_all c_inCell c_starting c_weight) H → va_D A (wd_X3_fillCell cI a_t a_madeFor a_weight a_inCell a_all a_starting c_all c_inCell c_starting c_weight) → va_S A s.heap H locs → lv_has ls 6 [(0, .ref a_t), (1, .int x1), (2, .int x2), (3, .int x3)] → F_X3_fillCell_L12 c_inCell c_weight x1 n12 c_all c_starting x2 x3 = some o → W p l e rm_X3_fillCell s m args below meth c H locs 0 0 Q (F0 m 12 ls []) := by
    intro n12
    induction n12 with
    | zero => intro c_all c_starting x2 x3 H locs ls hP hD hS hl hF; exact nos hF
    | succ n12 ih12 =>
      have K55 : ∀ (c_all : Nat → Int32) (c_starting : Nat → Int32) (x2 : Int32) (x3 : Int32) (v0 : Int32)  (H : Heap) (locs : List Loc) (ls : Array Slot), va_P D vwCl (wd_X3_fillCell cI a_t a_madeFor a_weight a_inCell a_all a_starting c_all c_inCell c_starting c_weight) H → va_D A (wd_X3_fillCell cI a_t a_madeFor a_weight a_inCell a_all a_starting c_all c_inCell c_starting c_weight) → va_S A s.heap H locs → lv_has ls 6 [(0, .ref a_t), (1, .int x1), (2, .int x2), (3, .int x3)] → F_X3_fillCell_J55 (F_X3_fillCell_L12 c_inCell c_weight x1 n12) c_inCell c_weight x1 c_all c_starting x2 x3 v0 = some o → W p l e rm_X3_fillCell s m args below meth c H locs 0 0 Q (F0 m 55 ls [.int v0]) := by
        intro c_all c_starting x2 x3 v0 H locs ls hP hD hS hl hF
        unfold F_X3_fillCell_J55 at hF
        refine lv_istore (lv' := [(5, .int v0), (0, .ref a_t), (1, .int x1), (2, .int x2), (3, .int x3)]) hx hb dX3_fillCell_55 hl (by decide) rfl (fun ls hl => ?_)
        refine lv_aload_n hx hb dX3_fillCell_57 rfl (lv_at hl 1 rfl) ?_
        refine get_X3_24 hx hb hts hown hK hP 0 rfl rfl dX3_fillCell_58 ?_
        refine lv_iload_n hx hb dX3_fillCell_61 rfl (lv_at hl 2 rfl) ?_
        refine lv_bipush (v := 6) hx hb dX3_fillCell_62 (by decide) ?_
        refine lv_imul hx hb dX3_fillCell_64 ?_
        refine lv_iload_n hx hb dX3_fillCell_65 rfl (lv_at hl 4 rfl) ?_
        refine lv_iadd hx hb dX3_fillCell_66 ?_
        refine lv_iload hx hb dX3_fillCell_67 (lv_at hl 0 rfl) ?_
        obtain ⟨g69, hF⟩ := gdb hF
        refine va_iast hx hb hK hP hD hS 3 0 rfl rfl (vinb g69) dX3_fillCell_69 (fun H locs hP hD hS => ?_)
        have hP : va_P D vwCl (wd_X3_fillCell cI a_t a_madeFor a_weight a_inCell a_all a_starting c_all c_inCell (upd c_starting ((x1 * (6 : Int32)) + x3).toNatClampNeg v0) c_weight) H := hP
        have hD : va_D A (wd_X3_fillCell cI a_t a_madeFor a_weight a_inCell a_all a_starting c_all c_inCell (upd c_starting ((x1 * (6 : Int32)) + x3).toNatClampNeg v0) c_weight) := hD
        refine lv_iload_n hx hb dX3_fillCell_70 rfl (lv_at hl 3 rfl) ?_
        refine lv_iload hx hb dX3_fillCell_71 (lv_at hl 0 rfl) ?_
        refine lv_iadd hx hb dX3_fillCell_73 ?_
        refine lv_istore_n (lv' := [(2, .int (x2 + v0)), (5, .int v0), (0, .ref a_t), (1, .int x1), (3, .int x3)]) hx hb dX3_fillCell_74 rfl hl (by decide) rfl (fun ls hl => ?_)
        refine lv_iinc (v := x3 + 1) (lv' := [(3, .int (x3 + 1)), (2, .int (x2 + v0)), (5, .int v0), (0, .ref a_t), (1, .int x1)]) hx hb dX3_fillCell_75 hl (k := 4) rfl rfl (by decide) rfl (fun ls hl => ?_)
        refine lv_goto (tgt := 12) hx hb dX3_fillCell_78 (by decide) ?_
        exact ih12 c_all (upd c_starting ((x1 * (6 : Int32)) + x3).toNatClampNeg v0) (x2 + v0) (x3 + 1) H locs ls hP hD hS (lv_sub hl [3, 4, 1, 0] rfl) hF
      intro c_all c_starting x2 x3 H locs ls hP hD hS hl hF
      rw [F_X3_fillCell_L12] at hF
      refine lv_iload_n hx hb dX3_fillCell_12 rfl (lv_at hl 3 rfl) ?_
      refine lv_bipush (v := 6) hx hb dX3_fillCell_13 (by decide) ?_
      refine lv_icmp_ge (tgt := 81) hx hb dX3_fillCell_15 (by decide) (fun k15 => ?_) (fun k15 => ?_)
      · replace hF := (if_pos k15).symm.trans hF
        refine lv_aload_n hx hb dX3_fillCell_81 rfl (lv_at hl 0 rfl) ?_
        refine get_X3_21 hx hb hts hown hK hP 0 rfl rfl dX3_fillCell_82 ?_
        refine lv_iload_n hx hb dX3_fillCell_85 rfl (lv_at hl 1 rfl) ?_
        refine lv_iload_n hx hb dX3_fillCell_86 rfl (lv_at hl 2 rfl) ?_
        obtain ⟨g87, hF⟩ := gdb hF
        refine va_iast hx hb hK hP hD hS 1 0 rfl rfl (vinb g87) dX3_fillCell_87 (fun H locs hP hD hS => ?_)
        have hP : va_P D vwCl (wd_X3_fillCell cI a_t a_madeFor a_weight a_inCell a_all a_starting (upd c_all (x1).toNatClampNeg x2) c_inCell c_starting c_weight) H := hP
        have hD : va_D A (wd_X3_fillCell cI a_t a_madeFor a_weight a_inCell a_all a_starting (upd c_all (x1).toNatClampNeg x2) c_inCell c_starting c_weight) := hD
        have ho := Option.some.inj hF
        exact hret H locs ls 88 _ hP hS (by rw [← ho]) dX3_fillCell_88
      · replace hF := (if_neg k15).symm.trans hF
        refine lv_iload_n hx hb dX3_fillCell_18 rfl (lv_at hl 1 rfl) ?_
        refine lv_aload_n hx hb dX3_fillCell_19 rfl (lv_at hl 0 rfl) ?_
        refine get_X3_15 hx hb hts hown hK hP 0 rfl rfl dX3_fillCell_20 ?_
        refine lv_iload_n hx hb dX3_fillCell_23 rfl (lv_at hl 3 rfl) ?_
        obtain ⟨g24, hF⟩ := gdb hF
        refine va_iald hx hb hK hP 4 0 rfl rfl (vinb g24) dX3_fillCell_24 ?_
        refine lv_isub hx hb dX3_fillCell_25 ?_
        refine lv_istore (lv' := [(4, .int (x1 - (c_weight (x3).toNatClampNeg))), (0, .ref a_t), (1, .int x1), (2, .int x2), (3, .int x3)]) hx hb dX3_fillCell_26 hl (by decide) rfl (fun ls hl => ?_)
        refine lv_aload_n hx hb dX3_fillCell_28 rfl (lv_at hl 1 rfl) ?_
        refine get_X3_18 hx hb hts hown hK hP 0 rfl rfl dX3_fillCell_29 ?_
        refine lv_iload_n hx hb dX3_fillCell_32 rfl (lv_at hl 4 rfl) ?_
        obtain ⟨g33, hF⟩ := gdb hF
        refine va_iald hx hb hK hP 2 0 rfl rfl (vinb g33) dX3_fillCell_33 ?_
        refine lv_if_le (tgt := 54) hx hb dX3_fillCell_34 (by decide) (fun k34 => ?_) (fun k34 => ?_)
        · replace hF := (if_pos k34).symm.trans hF
          refine lv_iconst (v := 0) hx hb dX3_fillCell_54 (by decide) ?_
          exact K55 c_all c_starting x2 x3 (0 : Int32) H locs ls hP hD hS (lv_sub hl [1, 2, 3, 4] rfl) hF
        · replace hF := (if_neg k34).symm.trans hF
          refine lv_aload_n hx hb dX3_fillCell_37 rfl (lv_at hl 1 rfl) ?_
          refine lv_iload hx hb dX3_fillCell_38 (lv_at hl 0 rfl) ?_
          obtain ⟨r40, hr40, hF⟩ := opb hF
          refine kVI (As := [.int (x1 - (c_weight (x3).toNatClampNeg))]) (rest := []) (ws' := (wd_X3_fillCell cI a_t a_madeFor a_weight a_inCell a_all a_starting c_all c_inCell c_starting c_weight)) ⟨hx, hb, hml, hown, hts⟩ (c_X3_allOf l D cI a_t a_madeFor a_weight a_inCell a_all a_starting H.size c_all (x1 - (c_weight (x3).toNatClampNeg)) r40 hr40) (cwV 1 hts mw_X3_44 rfl rfl rfl hd_X3_allOf ⟨Nat.le_of_ble_eq_true rfl, Nat.le_of_ble_eq_true rfl⟩) hS hA hG hK hP hD [0, 1] rfl rfl rfl rfl rfl ⟨Nat.zero_le _, Nat.zero_le _⟩ 3 0 rfl rfl rfl rfl hl.1 rfl (Nat.le_of_ble_eq_true rfl) dX3_fillCell_40 (fun H locs hP hD hS => ?_)
          refine lv_aload_n hx hb dX3_fillCell_43 rfl (lv_at hl 1 rfl) ?_
          refine lv_iload hx hb dX3_fillCell_44 (lv_at hl 0 rfl) ?_
          refine lv_iload_n hx hb dX3_fillCell_46 rfl (lv_at hl 4 rfl) ?_
          obtain ⟨r47, hr47, hF⟩ := opb hF
          refine kVI (As := [.int (x1 - (c_weight (x3).toNatClampNeg)), .int x3]) (rest := [.int r40]) (ws' := (wd_X3_fillCell cI a_t a_madeFor a_weight a_inCell a_all a_starting c_all c_inCell c_starting c_weight)) ⟨hx, hb, hml, hown, hts⟩ (c_X3_startingOf l D cI a_t a_madeFor a_weight a_inCell a_all a_starting H.size c_starting (x1 - (c_weight (x3).toNatClampNeg)) x3 r47 hr47) (cwV 2 hts mw_X3_47 rfl rfl rfl hd_X3_startingOf ⟨Nat.le_of_ble_eq_true rfl, Nat.le_of_ble_eq_true rfl⟩) hS hA hG hK hP hD [0, 3] rfl rfl rfl rfl rfl ⟨Nat.zero_le _, Nat.zero_le _⟩ 3 0 rfl rfl rfl rfl hl.1 rfl (Nat.le_of_ble_eq_true rfl) dX3_fillCell_47 (fun H locs hP hD hS => ?_)
          refine lv_isub hx hb dX3_fillCell_50 ?_
          refine lv_goto (tgt := 55) hx hb dX3_fillCell_51 (by decide) ?_
          exact K55 c_all c_starting x2 x3 (r40 - r47) H locs ls hP hD hS (lv_sub hl [1, 2, 3, 4] rfl) hF
  unfold F_X3_fillCell at hF
  have hP : va_P D vwCl (wd_X3_fillCell cI a_t a_madeFor a_weight a_inCell a_all a_starting c_all c_inCell c_starting c_weight) s.heap := hP
  obtain ⟨H, hH⟩ : ∃ H, H = s.heap := ⟨_, rfl⟩
  rw [← hH]
  rw [← hH] at hP
  obtain ⟨locs, hlo⟩ : ∃ z : List Loc, z = [] := ⟨_, rfl⟩
  rw [← hlo]
  have hS : va_S A s.heap H locs := by rw [hH, hlo]; exact hS
  refine lv_iload_n hx hb dX3_fillCell_0 rfl (lv_at hl 1 rfl) ?_
  refine lv_if_ne (tgt := 8) hx hb dX3_fillCell_1 (by decide) (fun k1 => ?_) (fun k1 => ?_)
  · (try simp only [if_neg k1] at hF)
    refine lv_iconst (v := 0) hx hb dX3_fillCell_8 (by decide) ?_
    refine lv_istore_n (lv' := [(2, .int (0 : Int32)), (0, .ref a_t), (1, .int x1)]) hx hb dX3_fillCell_9 rfl hl (by decide) rfl (fun ls hl => ?_)
    refine lv_iconst (v := 0) hx hb dX3_fillCell_10 (by decide) ?_
    refine lv_istore_n (lv' := [(3, .int (0 : Int32)), (2, .int (0 : Int32)), (0, .ref a_t), (1, .int x1)]) hx hb dX3_fillCell_11 rfl hl (by decide) rfl (fun ls hl => ?_)
    exact K12 FU c_all c_starting (0 : Int32) (0 : Int32) H locs ls hP hD hS (lv_sub hl [2, 3, 1, 0] rfl) hF
  · (try simp only [if_pos k1] at hF)
    refine lv_iconst (v := 1) hx hb dX3_fillCell_4 (by decide) ?_
    refine lv_goto (tgt := 9) hx hb dX3_fillCell_5 (by decide) ?_
    refine lv_istore_n (lv' := [(2, .int (1 : Int32)), (0, .ref a_t), (1, .int x1)]) hx hb dX3_fillCell_9 rfl hl (by decide) rfl (fun ls hl => ?_)
    refine lv_iconst (v := 0) hx hb dX3_fillCell_10 (by decide) ?_
    refine lv_istore_n (lv' := [(3, .int (0 : Int32)), (2, .int (1 : Int32)), (0, .ref a_t), (1, .int x1)]) hx hb dX3_fillCell_11 rfl hl (by decide) rfl (fun ls hl => ?_)
    exact K12 FU c_all c_starting (1 : Int32) (0 : Int32) H locs ls hP hD hS (lv_sub hl [2, 3, 1, 0] rfl) hF
abbrev wd_X3_goOn (cI : ClassId) (a_t a_madeFor a_weight a_inCell a_all a_starting : Nat) (c_inCell : Nat → Int32) (c_madeFor : Nat → Int32) : va_W := [(a_t, .inr (3, [.ref a_madeFor, .ref a_weight, .ref a_inCell, .ref a_all, .ref a_starting])), (a_inCell, .inl (cI, 6, .inl c_inCell)), (a_madeFor, .inl (cI, 6, .inl c_madeFor))]
def rm_X3_goOn : Room := { frames := 0, cells := 0, slots := 0, locals := 0 }
set_option maxHeartbeats 4000000 in
set_option maxRecDepth 100000 in
theorem c_X3_goOn (l : Launch) (D : va_G) (cI : ClassId) (a_t a_madeFor a_weight a_inCell a_all a_starting : Nat) (sz : Nat) (c_inCell : Nat → Int32) (c_madeFor : Nat → Int32) (o : (Nat → Int32)) (hF : F_X3_goOn c_inCell c_madeFor = some o) : Met l yX3_goOn (Cond.code yX3_goOn cX3_goOn 2 none :: WL) rm_X3_goOn (preM D [(cI, .int)] (wd_X3_goOn cI a_t a_madeFor a_weight a_inCell a_all a_starting c_inCell c_madeFor) sz [.ref a_t]) (postV D (wd_X3_goOn cI a_t a_madeFor a_weight a_inCell a_all a_starting o c_madeFor) (wd_X3_goOn cI a_t a_madeFor a_weight a_inCell a_all a_starting c_inCell c_madeFor) sz) 0 0 (va_A (wd_X3_goOn cI a_t a_madeFor a_weight a_inCell a_all a_starting c_inCell c_madeFor) sz) := by
  refine mofV (by decide +kernel) (Nat.le_of_ble_eq_true rfl) ?_
  intro p e s m args below meth c Q A ls hx hb hml hown hts hK hP hD hS hA hG hl hret hsz0
  have hl : lv_has ls 2 [(0, .ref a_t)] := hl
  have K35 : ∀ (c_inCell : Nat → Int32) (x1 : Int32)  (H : Heap) (locs : List Loc) (ls : Array Slot), va_P D vwCl (wd_X3_goOn cI a_t a_madeFor a_weight a_inCell a_all a_starting c_inCell c_madeFor) H → va_D A (wd_X3_goOn cI a_t a_madeFor a_weight a_inCell a_all a_starting c_inCell c_madeFor) → va_S A s.heap H locs → lv_has ls 2 [(0, .ref a_t), (1, .int x1)] → F_X3_goOn_J35 c_madeFor c_inCell x1 = some o → W p l e rm_X3_goOn s m args below meth c H locs 0 0 Q (F0 m 35 ls []) := by
    intro c_inCell x1 H locs ls hP hD hS hl hF
    unfold F_X3_goOn_J35 at hF
    refine lv_aload_n hx hb dX3_goOn_35 rfl (lv_at hl 0 rfl) ?_
    refine get_X3_18 hx hb hts hown hK hP 0 rfl rfl dX3_goOn_36 ?_
    refine lv_iload_n hx hb dX3_goOn_39 rfl (lv_at hl 1 rfl) ?_
    refine lv_dup2_11 hx hb dX3_goOn_40 rfl rfl ?_
    obtain ⟨g41, hF⟩ := gdb hF
    refine va_iald hx hb hK hP 1 0 rfl rfl (vinb g41) dX3_goOn_41 ?_
    refine lv_iconst (v := 1) hx hb dX3_goOn_42 (by decide) ?_
    refine lv_iadd hx hb dX3_goOn_43 ?_
    obtain ⟨g44, hF⟩ := gdb hF
    refine va_iast hx hb hK hP hD hS 1 0 rfl rfl (vinb g44) dX3_goOn_44 (fun H locs hP hD hS => ?_)
    have hP : va_P D vwCl (wd_X3_goOn cI a_t a_madeFor a_weight a_inCell a_all a_starting (upd c_inCell (x1).toNatClampNeg ((c_inCell (x1).toNatClampNeg) + (1 : Int32))) c_madeFor) H := hP
    have hD : va_D A (wd_X3_goOn cI a_t a_madeFor a_weight a_inCell a_all a_starting (upd c_inCell (x1).toNatClampNeg ((c_inCell (x1).toNatClampNeg) + (1 : Int32))) c_madeFor) := hD
    have ho := Option.some.inj hF
    exact hret H locs ls 45 _ hP hS (by rw [← ho]) dX3_goOn_45
  have K2 : ∀ (n2 : Nat) (c_inCell : Nat → Int32) (x1 : Int32) (H : Heap) (locs : List Loc) (ls : Array Slot), va_P D vwCl (wd_X3_goOn cI a_t a_madeFor a_weight a_inCell a_all a_starting c_inCell c_madeFor) H → va_D A (wd_X3_goOn cI a_t a_madeFor a_weight a_inCell a_all a_starting c_inCell c_madeFor) → va_S A s.heap H locs → lv_has ls 2 [(0, .ref a_t), (1, .int x1)] → F_X3_goOn_L2 c_madeFor n2 c_inCell x1 = some o → W p l e rm_X3_goOn s m args below meth c H locs 0 0 Q (F0 m 2 ls []) := by
    intro n2
    induction n2 with
    | zero => intro c_inCell x1 H locs ls hP hD hS hl hF; exact nos hF
    | succ n2 ih2 =>
      intro c_inCell x1 H locs ls hP hD hS hl hF
      rw [F_X3_goOn_L2] at hF
      refine lv_iload_n hx hb dX3_goOn_2 rfl (lv_at hl 1 rfl) ?_
      refine lv_iconst (v := 5) hx hb dX3_goOn_3 (by decide) ?_
      refine lv_icmp_ge (tgt := 35) hx hb dX3_goOn_4 (by decide) (fun k4 => ?_) (fun k4 => ?_)
      · replace hF := (if_pos k4).symm.trans hF
        exact K35 c_inCell x1 H locs ls hP hD hS (lv_sub hl [0, 1] rfl) hF
      · replace hF := (if_neg k4).symm.trans hF
        refine lv_aload_n hx hb dX3_goOn_7 rfl (lv_at hl 0 rfl) ?_
        refine get_X3_18 hx hb hts hown hK hP 0 rfl rfl dX3_goOn_8 ?_
        refine lv_iload_n hx hb dX3_goOn_11 rfl (lv_at hl 1 rfl) ?_
        obtain ⟨g12, hF⟩ := gdb hF
        refine va_iald hx hb hK hP 1 0 rfl rfl (vinb g12) dX3_goOn_12 ?_
        refine lv_aload_n hx hb dX3_goOn_13 rfl (lv_at hl 0 rfl) ?_
        refine get_X3_9 hx hb hts hown hK hP 0 rfl rfl dX3_goOn_14 ?_
        refine lv_iload_n hx hb dX3_goOn_17 rfl (lv_at hl 1 rfl) ?_
        obtain ⟨g18, hF⟩ := gdb hF
        refine va_iald hx hb hK hP 2 0 rfl rfl (vinb g18) dX3_goOn_18 ?_
        refine lv_icmp_lt (tgt := 35) hx hb dX3_goOn_19 (by decide) (fun k19 => ?_) (fun k19 => ?_)
        · replace hF := (if_pos k19).symm.trans hF
          exact K35 c_inCell x1 H locs ls hP hD hS (lv_sub hl [0, 1] rfl) hF
        · replace hF := (if_neg k19).symm.trans hF
          refine lv_aload_n hx hb dX3_goOn_22 rfl (lv_at hl 0 rfl) ?_
          refine get_X3_18 hx hb hts hown hK hP 0 rfl rfl dX3_goOn_23 ?_
          refine lv_iload_n hx hb dX3_goOn_26 rfl (lv_at hl 1 rfl) ?_
          refine lv_iconst (v := 0) hx hb dX3_goOn_27 (by decide) ?_
          obtain ⟨g28, hF⟩ := gdb hF
          refine va_iast hx hb hK hP hD hS 1 0 rfl rfl (vinb g28) dX3_goOn_28 (fun H locs hP hD hS => ?_)
          have hP : va_P D vwCl (wd_X3_goOn cI a_t a_madeFor a_weight a_inCell a_all a_starting (upd c_inCell (x1).toNatClampNeg (0 : Int32)) c_madeFor) H := hP
          have hD : va_D A (wd_X3_goOn cI a_t a_madeFor a_weight a_inCell a_all a_starting (upd c_inCell (x1).toNatClampNeg (0 : Int32)) c_madeFor) := hD
          refine lv_iinc (v := x1 + 1) (lv' := [(1, .int (x1 + 1)), (0, .ref a_t)]) hx hb dX3_goOn_29 hl (k := 1) rfl rfl (by decide) rfl (fun ls hl => ?_)
          refine lv_goto (tgt := 2) hx hb dX3_goOn_32 (by decide) ?_
          exact ih2 (upd c_inCell (x1).toNatClampNeg (0 : Int32)) (x1 + 1) H locs ls hP hD hS (lv_sub hl [1, 0] rfl) hF
  unfold F_X3_goOn at hF
  have hP : va_P D vwCl (wd_X3_goOn cI a_t a_madeFor a_weight a_inCell a_all a_starting c_inCell c_madeFor) s.heap := hP
  obtain ⟨H, hH⟩ : ∃ H, H = s.heap := ⟨_, rfl⟩
  rw [← hH]
  rw [← hH] at hP
  obtain ⟨locs, hlo⟩ : ∃ z : List Loc, z = [] := ⟨_, rfl⟩
  rw [← hlo]
  have hS : va_S A s.heap H locs := by rw [hH, hlo]; exact hS
  refine lv_iconst (v := 0) hx hb dX3_goOn_0 (by decide) ?_
  refine lv_istore_n (lv' := [(1, .int (0 : Int32)), (0, .ref a_t)]) hx hb dX3_goOn_1 rfl hl (by decide) rfl (fun ls hl => ?_)
  exact K2 FU c_inCell (0 : Int32) H locs ls hP hD hS (lv_sub hl [1, 0] rfl) hF
abbrev wd_X3_prepare (cI : ClassId) (a_t a_p a_madeFor a_weight a_inCell a_all a_starting a_p_often : Nat) (c_all : Nat → Int32) (c_inCell : Nat → Int32) (c_madeFor : Nat → Int32) (c_starting : Nat → Int32) (c_weight : Nat → Int32) (c_p_total : Int32) (c_p_often : Nat → Int32) : va_W := [(a_t, .inr (3, [.ref a_madeFor, .ref a_weight, .ref a_inCell, .ref a_all, .ref a_starting])), (a_all, .inl (cI, 486, .inl c_all)), (a_inCell, .inl (cI, 6, .inl c_inCell)), (a_madeFor, .inl (cI, 6, .inl c_madeFor)), (a_starting, .inl (cI, 2916, .inl c_starting)), (a_weight, .inl (cI, 6, .inl c_weight)), (a_p, .inr (0, [.ref a_p_often, .int c_p_total])), (a_p_often, .inl (cI, 6, .inl c_p_often))]
def rm_X3_prepare : Room := { frames := 2, cells := 0, slots := 0, locals := 48 }
set_option maxHeartbeats 4000000 in
set_option maxRecDepth 100000 in
theorem c_X3_prepare (l : Launch) (D : va_G) (cI : ClassId) (a_t a_p a_madeFor a_weight a_inCell a_all a_starting a_p_often : Nat) (sz : Nat) (c_all : Nat → Int32) (c_inCell : Nat → Int32) (c_madeFor : Nat → Int32) (c_starting : Nat → Int32) (c_weight : Nat → Int32) (c_p_total : Int32) (c_p_often : Nat → Int32) (o : (Nat → Int32) × (Nat → Int32) × (Nat → Int32) × (Nat → Int32) × (Nat → Int32)) (hF : F_X3_prepare c_all c_inCell c_madeFor c_starting c_weight c_p_often = some o) : Met l yX3_prepare (Cond.code yX3_prepare cX3_prepare 5 none :: WL) rm_X3_prepare (preM D [(cI, .int)] (wd_X3_prepare cI a_t a_p a_madeFor a_weight a_inCell a_all a_starting a_p_often c_all c_inCell c_madeFor c_starting c_weight c_p_total c_p_often) sz [.ref a_t, .ref a_p]) (postV D (wd_X3_prepare cI a_t a_p a_madeFor a_weight a_inCell a_all a_starting a_p_often o.1 o.2.1 o.2.2.1 o.2.2.2.1 o.2.2.2.2 c_p_total c_p_often) (wd_X3_prepare cI a_t a_p a_madeFor a_weight a_inCell a_all a_starting a_p_often c_all c_inCell c_madeFor c_starting c_weight c_p_total c_p_often) sz) 0 0 (va_A (wd_X3_prepare cI a_t a_p a_madeFor a_weight a_inCell a_all a_starting a_p_often c_all c_inCell c_madeFor c_starting c_weight c_p_total c_p_often) sz) := by
  refine mofV (by decide +kernel) (Nat.le_of_ble_eq_true rfl) ?_
  intro p e s m args below meth c Q A ls hx hb hml hown hts hK hP hD hS hA hG hl hret hsz0
  have hl : lv_has ls 5 [(0, .ref a_t), (1, .ref a_p)] := hl
  have K71 : ∀ (n71 : Nat) (c_all : Nat → Int32) (c_inCell : Nat → Int32) (c_madeFor : Nat → Int32) (c_starting : Nat → Int32) (c_weight : Nat → Int32) (x3 : Int32) (x4 : Int32) (H : Heap) (locs : List Loc) (ls : Array Slot), va_P D vwCl (wd_X3_prepare cI a_t a_p a_madeFor a_weight a_inCell a_all a_starting a_p_often c_all c_inCell c_madeFor c_starting c_weight c_p_total c_p_often) H → va_D A (wd_X3_prepare cI a_t a_p a_madeFor a_weight a_inCell a_all a_starting a_p_often c_all c_inCell c_madeFor c_starting c_weight c_p_total c_p_often) → va_S A s.heap H locs → lv_has ls 5 [(0, .ref a_t), (3, .int x3), (4, .int x4)] → F_X3_prepare_L71 c_p_often n71 c_all c_inCell c_madeFor c_starting c_weight x3 x4 = some o → W p l e rm_X3_prepare s m args below meth c H locs 0 0 Q (F0 m 71 ls []) := by
    intro n71
    induction n71 with
    | zero => intro c_all c_inCell c_madeFor c_starting c_weight x3 x4 H locs ls hP hD hS hl hF; exact nos hF
    | succ n71 ih71 =>
      intro c_all c_inCell c_madeFor c_starting c_weight x3 x4 H locs ls hP hD hS hl hF
      rw [F_X3_prepare_L71] at hF
      refine lv_iload hx hb dX3_prepare_71 (lv_at hl 2 rfl) ?_
      refine lv_iload_n hx hb dX3_prepare_73 rfl (lv_at hl 1 rfl) ?_
      refine lv_icmp_ge (tgt := 101) hx hb dX3_prepare_74 (by decide) (fun k74 => ?_) (fun k74 => ?_)
      · replace hF := (if_pos k74).symm.trans hF
        have ho := Option.some.inj hF
        exact hret H locs ls 101 _ hP hS (by rw [← ho]) dX3_prepare_101
      · replace hF := (if_neg k74).symm.trans hF
        refine lv_iload hx hb dX3_prepare_77 (lv_at hl 2 rfl) ?_
        refine lv_sipush (v := 486) hx hb dX3_prepare_79 (by decide) ?_
        refine lv_icmp_ge (tgt := 101) hx hb dX3_prepare_82 (by decide) (fun k82 => ?_) (fun k82 => ?_)
        · replace hF := (if_pos k82).symm.trans hF
          have ho := Option.some.inj hF
          exact hret H locs ls 101 _ hP hS (by rw [← ho]) dX3_prepare_101
        · replace hF := (if_neg k82).symm.trans hF
          refine lv_aload_n hx hb dX3_prepare_85 rfl (lv_at hl 0 rfl) ?_
          refine lv_iload hx hb dX3_prepare_86 (lv_at hl 2 rfl) ?_
          obtain ⟨r88, hr88, hF⟩ := opb hF
          refine kVV (As := [.int x4]) (rest := []) (ws' := (wd_X3_prepare cI a_t a_p a_madeFor a_weight a_inCell a_all a_starting a_p_often r88.1 c_inCell c_madeFor r88.2 c_weight c_p_total c_p_often)) ⟨hx, hb, hml, hown, hts⟩ (c_X3_fillCell l D cI a_t a_madeFor a_weight a_inCell a_all a_starting H.size c_all c_inCell c_starting c_weight x4 r88 hr88) (cwV 1 hts mw_X3_37 rfl rfl rfl hd_X3_fillCell ⟨Nat.le_of_ble_eq_true rfl, Nat.le_of_ble_eq_true rfl⟩) hS hA hG hK hP hD [0, 1, 2, 4, 5] rfl rfl rfl rfl rfl ⟨Nat.zero_le _, Nat.zero_le _⟩ 3 0 rfl rfl rfl rfl hl.1 rfl (Nat.le_of_ble_eq_true rfl) dX3_prepare_88 (fun H locs hP hD hS => ?_)
          refine lv_aload_n hx hb dX3_prepare_91 rfl (lv_at hl 0 rfl) ?_
          obtain ⟨r92, hr92, hF⟩ := opb hF
          refine kVV (As := []) (rest := []) (ws' := (wd_X3_prepare cI a_t a_p a_madeFor a_weight a_inCell a_all a_starting a_p_often r88.1 r92 c_madeFor r88.2 c_weight c_p_total c_p_often)) ⟨hx, hb, hml, hown, hts⟩ (c_X3_goOn l D cI a_t a_madeFor a_weight a_inCell a_all a_starting H.size c_inCell c_madeFor  r92 hr92) (cwV 0 hts mw_X3_41 rfl rfl rfl hd_X3_goOn ⟨Nat.le_of_ble_eq_true rfl, Nat.le_of_ble_eq_true rfl⟩) hS hA hG hK hP hD [0, 2, 3] rfl rfl rfl rfl rfl ⟨Nat.zero_le _, Nat.zero_le _⟩ 3 0 rfl rfl rfl rfl hl.1 rfl (Nat.le_of_ble_eq_true rfl) dX3_prepare_92 (fun H locs hP hD hS => ?_)
          refine lv_iinc (v := x4 + 1) (lv' := [(4, .int (x4 + 1)), (0, .ref a_t), (3, .int x3)]) hx hb dX3_prepare_95 hl (k := 2) rfl rfl (by decide) rfl (fun ls hl => ?_)
          refine lv_goto (tgt := 71) hx hb dX3_prepare_98 (by decide) ?_
          exact ih71 r88.1 r92 c_madeFor r88.2 c_weight x3 (x4 + 1) H locs ls hP hD hS (lv_sub hl [1, 2, 0] rfl) hF
  have K4 : ∀ (n4 : Nat) (c_all : Nat → Int32) (c_inCell : Nat → Int32) (c_madeFor : Nat → Int32) (c_starting : Nat → Int32) (c_weight : Nat → Int32) (x2 : Int32) (x3 : Int32) (H : Heap) (locs : List Loc) (ls : Array Slot), va_P D vwCl (wd_X3_prepare cI a_t a_p a_madeFor a_weight a_inCell a_all a_starting a_p_often c_all c_inCell c_madeFor c_starting c_weight c_p_total c_p_often) H → va_D A (wd_X3_prepare cI a_t a_p a_madeFor a_weight a_inCell a_all a_starting a_p_often c_all c_inCell c_madeFor c_starting c_weight c_p_total c_p_often) → va_S A s.heap H locs → lv_has ls 5 [(0, .ref a_t), (1, .ref a_p), (2, .int x2), (3, .int x3)] → F_X3_prepare_L4 c_p_often n4 c_all c_inCell c_madeFor c_starting c_weight x2 x3 = some o → W p l e rm_X3_prepare s m args below meth c H locs 0 0 Q (F0 m 4 ls []) := by
    intro n4
    induction n4 with
    | zero => intro c_all c_inCell c_madeFor c_starting c_weight x2 x3 H locs ls hP hD hS hl hF; exact nos hF
    | succ n4 ih4 =>
      have K33 : ∀ (c_all : Nat → Int32) (c_inCell : Nat → Int32) (c_madeFor : Nat → Int32) (c_starting : Nat → Int32) (c_weight : Nat → Int32) (x3 : Int32) (v0 : Int32)  (H : Heap) (locs : List Loc) (ls : Array Slot), va_P D vwCl (wd_X3_prepare cI a_t a_p a_madeFor a_weight a_inCell a_all a_starting a_p_often c_all c_inCell c_madeFor c_starting c_weight c_p_total c_p_often) H → va_D A (wd_X3_prepare cI a_t a_p a_madeFor a_weight a_inCell a_all a_starting a_p_often c_all c_inCell c_madeFor c_starting c_weight c_p_total c_p_often) → va_S A s.heap H locs → lv_has ls 5 [(0, .ref a_t), (1, .ref a_p), (3, .int x3)] → F_X3_prepare_J33 (F_X3_prepare_L4 c_p_often n4) c_p_often c_all c_inCell c_madeFor c_starting c_weight x3 v0 = some o → W p l e rm_X3_prepare s m args below meth c H locs 0 0 Q (F0 m 33 ls [.int v0]) := by
        intro c_all c_inCell c_madeFor c_starting c_weight x3 v0 H locs ls hP hD hS hl hF
        unfold F_X3_prepare_J33 at hF
        refine lv_istore_n (lv' := [(2, .int v0), (0, .ref a_t), (1, .ref a_p), (3, .int x3)]) hx hb dX3_prepare_33 rfl hl (by decide) rfl (fun ls hl => ?_)
        refine lv_aload_n hx hb dX3_prepare_34 rfl (lv_at hl 1 rfl) ?_
        refine get_X3_9 hx hb hts hown hK hP 0 rfl rfl dX3_prepare_35 ?_
        refine lv_iload_n hx hb dX3_prepare_38 rfl (lv_at hl 3 rfl) ?_
        refine lv_aload_n hx hb dX3_prepare_39 rfl (lv_at hl 2 rfl) ?_
        refine lv_iload_n hx hb dX3_prepare_40 rfl (lv_at hl 3 rfl) ?_
        obtain ⟨r41, hr41, hF⟩ := opb hF
        refine kVI (As := [.int x3]) (rest := [.int x3, .ref a_madeFor]) (ws' := (wd_X3_prepare cI a_t a_p a_madeFor a_weight a_inCell a_all a_starting a_p_often c_all c_inCell c_madeFor c_starting c_weight c_p_total c_p_often)) ⟨hx, hb, hml, hown, hts⟩ (c_X0_of l D cI a_p a_p_often H.size c_p_total c_p_often x3 r41 hr41) (cwV 1 hts mw_X3_27 rfl rfl rfl hd_X0_of ⟨Nat.le_of_ble_eq_true rfl, Nat.le_of_ble_eq_true rfl⟩) hS hA hG hK hP hD [6, 7] rfl rfl rfl rfl rfl ⟨Nat.zero_le _, Nat.zero_le _⟩ 0 6 rfl rfl rfl rfl hl.1 rfl (Nat.le_of_ble_eq_true rfl) dX3_prepare_41 (fun H locs hP hD hS => ?_)
        obtain ⟨g44, hF⟩ := gdb hF
        refine va_iast hx hb hK hP hD hS 3 0 rfl rfl (vinb g44) dX3_prepare_44 (fun H locs hP hD hS => ?_)
        have hP : va_P D vwCl (wd_X3_prepare cI a_t a_p a_madeFor a_weight a_inCell a_all a_starting a_p_often c_all c_inCell (upd c_madeFor (x3).toNatClampNeg r41) c_starting c_weight c_p_total c_p_often) H := hP
        have hD : va_D A (wd_X3_prepare cI a_t a_p a_madeFor a_weight a_inCell a_all a_starting a_p_often c_all c_inCell (upd c_madeFor (x3).toNatClampNeg r41) c_starting c_weight c_p_total c_p_often) := hD
        refine lv_aload_n hx hb dX3_prepare_45 rfl (lv_at hl 1 rfl) ?_
        refine get_X3_18 hx hb hts hown hK hP 0 rfl rfl dX3_prepare_46 ?_
        refine lv_iload_n hx hb dX3_prepare_49 rfl (lv_at hl 3 rfl) ?_
        refine lv_iconst (v := 0) hx hb dX3_prepare_50 (by decide) ?_
        obtain ⟨g51, hF⟩ := gdb hF
        refine va_iast hx hb hK hP hD hS 2 0 rfl rfl (vinb g51) dX3_prepare_51 (fun H locs hP hD hS => ?_)
        have hP : va_P D vwCl (wd_X3_prepare cI a_t a_p a_madeFor a_weight a_inCell a_all a_starting a_p_often c_all (upd c_inCell (x3).toNatClampNeg (0 : Int32)) (upd c_madeFor (x3).toNatClampNeg r41) c_starting c_weight c_p_total c_p_often) H := hP
        have hD : va_D A (wd_X3_prepare cI a_t a_p a_madeFor a_weight a_inCell a_all a_starting a_p_often c_all (upd c_inCell (x3).toNatClampNeg (0 : Int32)) (upd c_madeFor (x3).toNatClampNeg r41) c_starting c_weight c_p_total c_p_often) := hD
        refine lv_iinc (v := x3 + 1) (lv' := [(3, .int (x3 + 1)), (2, .int v0), (0, .ref a_t), (1, .ref a_p)]) hx hb dX3_prepare_52 hl (k := 3) rfl rfl (by decide) rfl (fun ls hl => ?_)
        refine lv_goto (tgt := 4) hx hb dX3_prepare_55 (by decide) ?_
        exact ih4 c_all (upd c_inCell (x3).toNatClampNeg (0 : Int32)) (upd c_madeFor (x3).toNatClampNeg r41) c_starting c_weight v0 (x3 + 1) H locs ls hP hD hS (lv_sub hl [2, 3, 1, 0] rfl) hF
      intro c_all c_inCell c_madeFor c_starting c_weight x2 x3 H locs ls hP hD hS hl hF
      rw [F_X3_prepare_L4] at hF
      refine lv_iload_n hx hb dX3_prepare_4 rfl (lv_at hl 3 rfl) ?_
      refine lv_bipush (v := 6) hx hb dX3_prepare_5 (by decide) ?_
      refine lv_icmp_ge (tgt := 58) hx hb dX3_prepare_7 (by decide) (fun k7 => ?_) (fun k7 => ?_)
      · replace hF := (if_pos k7).symm.trans hF
        refine lv_iload_n hx hb dX3_prepare_58 rfl (lv_at hl 2 rfl) ?_
        refine lv_if_eq (tgt := 63) hx hb dX3_prepare_59 (by decide) (fun k59 => ?_) (fun k59 => ?_)
        · replace hF := (if_pos k59).symm.trans hF
          refine lv_aload_n hx hb dX3_prepare_63 rfl (lv_at hl 0 rfl) ?_
          obtain ⟨r64, hr64, hF⟩ := opb hF
          refine kVI (As := []) (rest := []) (ws' := (wd_X3_prepare cI a_t a_p a_madeFor a_weight a_inCell a_all a_starting a_p_often c_all c_inCell c_madeFor c_starting r64.2 c_p_total c_p_often)) ⟨hx, hb, hml, hown, hts⟩ (c_X3_weigh l D cI a_t a_madeFor a_weight a_inCell a_all a_starting H.size c_madeFor c_weight  r64 hr64) (cwV 0 hts mw_X3_33 rfl rfl rfl hd_X3_weigh ⟨Nat.le_of_ble_eq_true rfl, Nat.le_of_ble_eq_true rfl⟩) hS hA hG hK hP hD [0, 3, 5] rfl rfl rfl rfl rfl ⟨Nat.zero_le _, Nat.zero_le _⟩ 3 0 rfl rfl rfl rfl hl.1 rfl (Nat.le_of_ble_eq_true rfl) dX3_prepare_64 (fun H locs hP hD hS => ?_)
          refine lv_istore_n (lv' := [(3, .int r64.1), (0, .ref a_t), (1, .ref a_p), (2, .int x2)]) hx hb dX3_prepare_67 rfl hl (by decide) rfl (fun ls hl => ?_)
          refine lv_iconst (v := 0) hx hb dX3_prepare_68 (by decide) ?_
          refine lv_istore (lv' := [(4, .int (0 : Int32)), (3, .int r64.1), (0, .ref a_t), (1, .ref a_p), (2, .int x2)]) hx hb dX3_prepare_69 hl (by decide) rfl (fun ls hl => ?_)
          exact K71 FU c_all c_inCell c_madeFor c_starting r64.2 r64.1 (0 : Int32) H locs ls hP hD hS (lv_sub hl [2, 1, 0] rfl) hF
        · replace hF := (if_neg k59).symm.trans hF
          have ho := Option.some.inj hF
          exact hret H locs ls 62 _ hP hS (by rw [← ho]) dX3_prepare_62
      · replace hF := (if_neg k7).symm.trans hF
        refine lv_iload_n hx hb dX3_prepare_10 rfl (lv_at hl 2 rfl) ?_
        refine lv_if_eq (tgt := 32) hx hb dX3_prepare_11 (by decide) (fun k11 => ?_) (fun k11 => ?_)
        · replace hF := (if_pos k11).symm.trans hF
          refine lv_iconst (v := 0) hx hb dX3_prepare_32 (by decide) ?_
          exact K33 c_all c_inCell c_madeFor c_starting c_weight x3 (0 : Int32) H locs ls hP hD hS (lv_sub hl [0, 1, 3] rfl) hF
        · replace hF := (if_neg k11).symm.trans hF
          refine lv_aload_n hx hb dX3_prepare_14 rfl (lv_at hl 0 rfl) ?_
          refine get_X3_9 hx hb hts hown hK hP 0 rfl rfl dX3_prepare_15 ?_
          refine lv_iload_n hx hb dX3_prepare_18 rfl (lv_at hl 3 rfl) ?_
          obtain ⟨g19, hF⟩ := gdb hF
          refine va_iald hx hb hK hP 3 0 rfl rfl (vinb g19) dX3_prepare_19 ?_
          refine lv_aload_n hx hb dX3_prepare_20 rfl (lv_at hl 1 rfl) ?_
          refine lv_iload_n hx hb dX3_prepare_21 rfl (lv_at hl 3 rfl) ?_
          obtain ⟨r22, hr22, hF⟩ := opb hF
          refine kVI (As := [.int x3]) (rest := [.int (c_madeFor (x3).toNatClampNeg)]) (ws' := (wd_X3_prepare cI a_t a_p a_madeFor a_weight a_inCell a_all a_starting a_p_often c_all c_inCell c_madeFor c_starting c_weight c_p_total c_p_often)) ⟨hx, hb, hml, hown, hts⟩ (c_X0_of l D cI a_p a_p_often H.size c_p_total c_p_often x3 r22 hr22) (cwV 1 hts mw_X3_27 rfl rfl rfl hd_X0_of ⟨Nat.le_of_ble_eq_true rfl, Nat.le_of_ble_eq_true rfl⟩) hS hA hG hK hP hD [6, 7] rfl rfl rfl rfl rfl ⟨Nat.zero_le _, Nat.zero_le _⟩ 0 6 rfl rfl rfl rfl hl.1 rfl (Nat.le_of_ble_eq_true rfl) dX3_prepare_22 (fun H locs hP hD hS => ?_)
          refine lv_icmp_ne (tgt := 32) hx hb dX3_prepare_25 (by decide) (fun k25 => ?_) (fun k25 => ?_)
          · (try simp only [if_neg k25] at hF)
            refine lv_iconst (v := 0) hx hb dX3_prepare_32 (by decide) ?_
            exact K33 c_all c_inCell c_madeFor c_starting c_weight x3 (0 : Int32) H locs ls hP hD hS (lv_sub hl [0, 1, 3] rfl) hF
          · (try simp only [if_pos k25] at hF)
            refine lv_iconst (v := 1) hx hb dX3_prepare_28 (by decide) ?_
            refine lv_goto (tgt := 33) hx hb dX3_prepare_29 (by decide) ?_
            exact K33 c_all c_inCell c_madeFor c_starting c_weight x3 (1 : Int32) H locs ls hP hD hS (lv_sub hl [0, 1, 3] rfl) hF
  unfold F_X3_prepare at hF
  have hP : va_P D vwCl (wd_X3_prepare cI a_t a_p a_madeFor a_weight a_inCell a_all a_starting a_p_often c_all c_inCell c_madeFor c_starting c_weight c_p_total c_p_often) s.heap := hP
  obtain ⟨H, hH⟩ : ∃ H, H = s.heap := ⟨_, rfl⟩
  rw [← hH]
  rw [← hH] at hP
  obtain ⟨locs, hlo⟩ : ∃ z : List Loc, z = [] := ⟨_, rfl⟩
  rw [← hlo]
  have hS : va_S A s.heap H locs := by rw [hH, hlo]; exact hS
  refine lv_iconst (v := 1) hx hb dX3_prepare_0 (by decide) ?_
  refine lv_istore_n (lv' := [(2, .int (1 : Int32)), (0, .ref a_t), (1, .ref a_p)]) hx hb dX3_prepare_1 rfl hl (by decide) rfl (fun ls hl => ?_)
  refine lv_iconst (v := 0) hx hb dX3_prepare_2 (by decide) ?_
  refine lv_istore_n (lv' := [(3, .int (0 : Int32)), (2, .int (1 : Int32)), (0, .ref a_t), (1, .ref a_p)]) hx hb dX3_prepare_3 rfl hl (by decide) rfl (fun ls hl => ?_)
  exact K4 FU c_all c_inCell c_madeFor c_starting c_weight (1 : Int32) (0 : Int32) H locs ls hP hD hS (lv_sub hl [2, 3, 1, 0] rfl) hF
abbrev wd_X3_cellOf (cI : ClassId) (a_t a_p a_madeFor a_weight a_inCell a_all a_starting a_p_often : Nat) (c_weight : Nat → Int32) (c_p_total : Int32) (c_p_often : Nat → Int32) : va_W := [(a_t, .inr (3, [.ref a_madeFor, .ref a_weight, .ref a_inCell, .ref a_all, .ref a_starting])), (a_weight, .inl (cI, 6, .inl c_weight)), (a_p, .inr (0, [.ref a_p_often, .int c_p_total])), (a_p_often, .inl (cI, 6, .inl c_p_often))]
def rm_X3_cellOf : Room := { frames := 1, cells := 0, slots := 0, locals := 21 }
set_option maxHeartbeats 4000000 in
set_option maxRecDepth 100000 in
theorem c_X3_cellOf (l : Launch) (D : va_G) (cI : ClassId) (a_t a_p a_madeFor a_weight a_inCell a_all a_starting a_p_often : Nat) (sz : Nat) (c_weight : Nat → Int32) (c_p_total : Int32) (c_p_often : Nat → Int32) (o : Int32) (hF : F_X3_cellOf c_weight c_p_often = some o) : Met l yX3_cellOf (Cond.code yX3_cellOf cX3_cellOf 4 (some .int) :: WL) rm_X3_cellOf (preM D [(cI, .int)] (wd_X3_cellOf cI a_t a_p a_madeFor a_weight a_inCell a_all a_starting a_p_often c_weight c_p_total c_p_often) sz [.ref a_t, .ref a_p]) (postI D o (wd_X3_cellOf cI a_t a_p a_madeFor a_weight a_inCell a_all a_starting a_p_often c_weight c_p_total c_p_often) (wd_X3_cellOf cI a_t a_p a_madeFor a_weight a_inCell a_all a_starting a_p_often c_weight c_p_total c_p_often) sz) 0 0 (va_A (wd_X3_cellOf cI a_t a_p a_madeFor a_weight a_inCell a_all a_starting a_p_often c_weight c_p_total c_p_often) sz) := by
  refine mofI (by decide +kernel) (Nat.le_of_ble_eq_true rfl) ?_
  intro p e s m args below meth c Q A ls hx hb hml hown hts hK hP hD hS hA hG hl hret hsz0
  have hl : lv_has ls 4 [(0, .ref a_t), (1, .ref a_p)] := hl
  have K4 : ∀ (n4 : Nat) (x2 : Int32) (x3 : Int32) (H : Heap) (locs : List Loc) (ls : Array Slot), va_P D vwCl (wd_X3_cellOf cI a_t a_p a_madeFor a_weight a_inCell a_all a_starting a_p_often c_weight c_p_total c_p_often) H → va_D A (wd_X3_cellOf cI a_t a_p a_madeFor a_weight a_inCell a_all a_starting a_p_often c_weight c_p_total c_p_often) → va_S A s.heap H locs → lv_has ls 4 [(0, .ref a_t), (1, .ref a_p), (2, .int x2), (3, .int x3)] → F_X3_cellOf_L4 c_weight c_p_often n4 x2 x3 = some o → W p l e rm_X3_cellOf s m args below meth c H locs 0 0 Q (F0 m 4 ls []) := by
    intro n4
    induction n4 with
    | zero => intro x2 x3 H locs ls hP hD hS hl hF; exact nos hF
    | succ n4 ih4 =>
      intro x2 x3 H locs ls hP hD hS hl hF
      rw [F_X3_cellOf_L4] at hF
      refine lv_iload_n hx hb dX3_cellOf_4 rfl (lv_at hl 3 rfl) ?_
      refine lv_bipush (v := 6) hx hb dX3_cellOf_5 (by decide) ?_
      refine lv_icmp_ge (tgt := 31) hx hb dX3_cellOf_7 (by decide) (fun k7 => ?_) (fun k7 => ?_)
      · replace hF := (if_pos k7).symm.trans hF
        refine lv_iload_n hx hb dX3_cellOf_31 rfl (lv_at hl 2 rfl) ?_
        have ho := Option.some.inj hF
        exact hret H locs ls 32 x2 _ hP hS rfl ho dX3_cellOf_32
      · replace hF := (if_neg k7).symm.trans hF
        refine lv_iload_n hx hb dX3_cellOf_10 rfl (lv_at hl 2 rfl) ?_
        refine lv_aload_n hx hb dX3_cellOf_11 rfl (lv_at hl 1 rfl) ?_
        refine lv_iload_n hx hb dX3_cellOf_12 rfl (lv_at hl 3 rfl) ?_
        obtain ⟨r13, hr13, hF⟩ := opb hF
        refine kVI (As := [.int x3]) (rest := [.int x2]) (ws' := (wd_X3_cellOf cI a_t a_p a_madeFor a_weight a_inCell a_all a_starting a_p_often c_weight c_p_total c_p_often)) ⟨hx, hb, hml, hown, hts⟩ (c_X0_of l D cI a_p a_p_often H.size c_p_total c_p_often x3 r13 hr13) (cwV 1 hts mw_X3_27 rfl rfl rfl hd_X0_of ⟨Nat.le_of_ble_eq_true rfl, Nat.le_of_ble_eq_true rfl⟩) hS hA hG hK hP hD [2, 3] rfl rfl rfl rfl rfl ⟨Nat.zero_le _, Nat.zero_le _⟩ 0 2 rfl rfl rfl rfl hl.1 rfl (Nat.le_of_ble_eq_true rfl) dX3_cellOf_13 (fun H locs hP hD hS => ?_)
        refine lv_aload_n hx hb dX3_cellOf_16 rfl (lv_at hl 0 rfl) ?_
        refine get_X3_15 hx hb hts hown hK hP 0 rfl rfl dX3_cellOf_17 ?_
        refine lv_iload_n hx hb dX3_cellOf_20 rfl (lv_at hl 3 rfl) ?_
        obtain ⟨g21, hF⟩ := gdb hF
        refine va_iald hx hb hK hP 1 0 rfl rfl (vinb g21) dX3_cellOf_21 ?_
        refine lv_imul hx hb dX3_cellOf_22 ?_
        refine lv_iadd hx hb dX3_cellOf_23 ?_
        refine lv_istore_n (lv' := [(2, .int (x2 + (r13 * (c_weight (x3).toNatClampNeg)))), (0, .ref a_t), (1, .ref a_p), (3, .int x3)]) hx hb dX3_cellOf_24 rfl hl (by decide) rfl (fun ls hl => ?_)
        refine lv_iinc (v := x3 + 1) (lv' := [(3, .int (x3 + 1)), (2, .int (x2 + (r13 * (c_weight (x3).toNatClampNeg)))), (0, .ref a_t), (1, .ref a_p)]) hx hb dX3_cellOf_25 hl (k := 3) rfl rfl (by decide) rfl (fun ls hl => ?_)
        refine lv_goto (tgt := 4) hx hb dX3_cellOf_28 (by decide) ?_
        exact ih4 (x2 + (r13 * (c_weight (x3).toNatClampNeg))) (x3 + 1) H locs ls hP hD hS (lv_sub hl [2, 3, 1, 0] rfl) hF
  unfold F_X3_cellOf at hF
  have hP : va_P D vwCl (wd_X3_cellOf cI a_t a_p a_madeFor a_weight a_inCell a_all a_starting a_p_often c_weight c_p_total c_p_often) s.heap := hP
  obtain ⟨H, hH⟩ : ∃ H, H = s.heap := ⟨_, rfl⟩
  rw [← hH]
  rw [← hH] at hP
  obtain ⟨locs, hlo⟩ : ∃ z : List Loc, z = [] := ⟨_, rfl⟩
  rw [← hlo]
  have hS : va_S A s.heap H locs := by rw [hH, hlo]; exact hS
  refine lv_iconst (v := 0) hx hb dX3_cellOf_0 (by decide) ?_
  refine lv_istore_n (lv' := [(2, .int (0 : Int32)), (0, .ref a_t), (1, .ref a_p)]) hx hb dX3_cellOf_1 rfl hl (by decide) rfl (fun ls hl => ?_)
  refine lv_iconst (v := 0) hx hb dX3_cellOf_2 (by decide) ?_
  refine lv_istore_n (lv' := [(3, .int (0 : Int32)), (2, .int (0 : Int32)), (0, .ref a_t), (1, .ref a_p)]) hx hb dX3_cellOf_3 rfl hl (by decide) rfl (fun ls hl => ?_)
  exact K4 FU (0 : Int32) (0 : Int32) H locs ls hP hD hS (lv_sub hl [2, 3, 1, 0] rfl) hF
abbrev wd_X3_startingWith (cI : ClassId) (a_t a_p a_madeFor a_weight a_inCell a_all a_starting a_p_often : Nat) (c_starting : Nat → Int32) (c_weight : Nat → Int32) (c_p_total : Int32) (c_p_often : Nat → Int32) : va_W := [(a_t, .inr (3, [.ref a_madeFor, .ref a_weight, .ref a_inCell, .ref a_all, .ref a_starting])), (a_starting, .inl (cI, 2916, .inl c_starting)), (a_weight, .inl (cI, 6, .inl c_weight)), (a_p, .inr (0, [.ref a_p_often, .int c_p_total])), (a_p_often, .inl (cI, 6, .inl c_p_often))]
def rm_X3_startingWith : Room := { frames := 2, cells := 0, slots := 0, locals := 44 }
set_option maxHeartbeats 4000000 in
set_option maxRecDepth 100000 in
theorem c_X3_startingWith (l : Launch) (D : va_G) (cI : ClassId) (a_t a_p a_madeFor a_weight a_inCell a_all a_starting a_p_often : Nat) (sz : Nat) (c_starting : Nat → Int32) (c_weight : Nat → Int32) (c_p_total : Int32) (c_p_often : Nat → Int32) (x2 : Int32) (o : Int32) (hF : F_X3_startingWith c_starting c_weight c_p_often x2 = some o) : Met l yX3_startingWith (Cond.code yX3_startingWith cX3_startingWith 3 (some .int) :: WL) rm_X3_startingWith (preM D [(cI, .int)] (wd_X3_startingWith cI a_t a_p a_madeFor a_weight a_inCell a_all a_starting a_p_often c_starting c_weight c_p_total c_p_often) sz [.ref a_t, .ref a_p, .int x2]) (postI D o (wd_X3_startingWith cI a_t a_p a_madeFor a_weight a_inCell a_all a_starting a_p_often c_starting c_weight c_p_total c_p_often) (wd_X3_startingWith cI a_t a_p a_madeFor a_weight a_inCell a_all a_starting a_p_often c_starting c_weight c_p_total c_p_often) sz) 0 0 (va_A (wd_X3_startingWith cI a_t a_p a_madeFor a_weight a_inCell a_all a_starting a_p_often c_starting c_weight c_p_total c_p_often) sz) := by
  refine mofI (by decide +kernel) (Nat.le_of_ble_eq_true rfl) ?_
  intro p e s m args below meth c Q A ls hx hb hml hown hts hK hP hD hS hA hG hl hret hsz0
  have hl : lv_has ls 3 [(0, .ref a_t), (1, .ref a_p), (2, .int x2)] := hl
  unfold F_X3_startingWith at hF
  have hP : va_P D vwCl (wd_X3_startingWith cI a_t a_p a_madeFor a_weight a_inCell a_all a_starting a_p_often c_starting c_weight c_p_total c_p_often) s.heap := hP
  obtain ⟨H, hH⟩ : ∃ H, H = s.heap := ⟨_, rfl⟩
  rw [← hH]
  rw [← hH] at hP
  obtain ⟨locs, hlo⟩ : ∃ z : List Loc, z = [] := ⟨_, rfl⟩
  rw [← hlo]
  have hS : va_S A s.heap H locs := by rw [hH, hlo]; exact hS
  refine lv_aload_n hx hb dX3_startingWith_0 rfl (lv_at hl 0 rfl) ?_
  refine lv_aload_n hx hb dX3_startingWith_1 rfl (lv_at hl 0 rfl) ?_
  refine lv_aload_n hx hb dX3_startingWith_2 rfl (lv_at hl 1 rfl) ?_
  obtain ⟨r3, hr3, hF⟩ := opb hF
  refine kVI (As := [.ref a_p]) (rest := [.ref a_t]) (ws' := (wd_X3_startingWith cI a_t a_p a_madeFor a_weight a_inCell a_all a_starting a_p_often c_starting c_weight c_p_total c_p_often)) ⟨hx, hb, hml, hown, hts⟩ (c_X3_cellOf l D cI a_t a_p a_madeFor a_weight a_inCell a_all a_starting a_p_often H.size c_weight c_p_total c_p_often  r3 hr3) (cwV 1 hts mw_X3_51 rfl rfl rfl hd_X3_cellOf ⟨Nat.le_of_ble_eq_true rfl, Nat.le_of_ble_eq_true rfl⟩) hS hA hG hK hP hD [0, 2, 3, 4] rfl rfl rfl rfl rfl ⟨Nat.zero_le _, Nat.zero_le _⟩ 3 0 rfl rfl rfl rfl hl.1 rfl (Nat.le_of_ble_eq_true rfl) dX3_startingWith_3 (fun H locs hP hD hS => ?_)
  refine lv_iload_n hx hb dX3_startingWith_6 rfl (lv_at hl 2 rfl) ?_
  obtain ⟨r7, hr7, hF⟩ := opb hF
  refine kVI (As := [.int r3, .int x2]) (rest := []) (ws' := (wd_X3_startingWith cI a_t a_p a_madeFor a_weight a_inCell a_all a_starting a_p_often c_starting c_weight c_p_total c_p_often)) ⟨hx, hb, hml, hown, hts⟩ (c_X3_startingOf l D cI a_t a_madeFor a_weight a_inCell a_all a_starting H.size c_starting r3 x2 r7 hr7) (cwV 2 hts mw_X3_47 rfl rfl rfl hd_X3_startingOf ⟨Nat.le_of_ble_eq_true rfl, Nat.le_of_ble_eq_true rfl⟩) hS hA hG hK hP hD [0, 1] rfl rfl rfl rfl rfl ⟨Nat.zero_le _, Nat.zero_le _⟩ 3 0 rfl rfl rfl rfl hl.1 rfl (Nat.le_of_ble_eq_true rfl) dX3_startingWith_7 (fun H locs hP hD hS => ?_)
  have ho := Option.some.inj hF
  exact hret H locs ls 10 r7 _ hP hS rfl ho dX3_startingWith_10
abbrev wd_X3_behind (cI : ClassId) (a_t a_p a_madeFor a_weight a_inCell a_all a_starting a_p_often : Nat) (c_all : Nat → Int32) (c_starting : Nat → Int32) (c_weight : Nat → Int32) (c_p_total : Int32) (c_p_often : Nat → Int32) : va_W := [(a_t, .inr (3, [.ref a_madeFor, .ref a_weight, .ref a_inCell, .ref a_all, .ref a_starting])), (a_all, .inl (cI, 486, .inl c_all)), (a_starting, .inl (cI, 2916, .inl c_starting)), (a_weight, .inl (cI, 6, .inl c_weight)), (a_p, .inr (0, [.ref a_p_often, .int c_p_total])), (a_p_often, .inl (cI, 6, .inl c_p_often))]
def rm_X3_behind : Room := { frames := 2, cells := 0, slots := 0, locals := 44 }
set_option maxHeartbeats 4000000 in
set_option maxRecDepth 100000 in
theorem c_X3_behind (l : Launch) (D : va_G) (cI : ClassId) (a_t a_p a_madeFor a_weight a_inCell a_all a_starting a_p_often : Nat) (sz : Nat) (c_all : Nat → Int32) (c_starting : Nat → Int32) (c_weight : Nat → Int32) (c_p_total : Int32) (c_p_often : Nat → Int32) (x2 : Int32) (o : Int32) (hF : F_X3_behind c_all c_starting c_weight c_p_often x2 = some o) : Met l yX3_behind (Cond.code yX3_behind cX3_behind 4 (some .int) :: WL) rm_X3_behind (preM D [(cI, .int)] (wd_X3_behind cI a_t a_p a_madeFor a_weight a_inCell a_all a_starting a_p_often c_all c_starting c_weight c_p_total c_p_often) sz [.ref a_t, .ref a_p, .int x2]) (postI D o (wd_X3_behind cI a_t a_p a_madeFor a_weight a_inCell a_all a_starting a_p_often c_all c_starting c_weight c_p_total c_p_often) (wd_X3_behind cI a_t a_p a_madeFor a_weight a_inCell a_all a_starting a_p_often c_all c_starting c_weight c_p_total c_p_often) sz) 0 0 (va_A (wd_X3_behind cI a_t a_p a_madeFor a_weight a_inCell a_all a_starting a_p_often c_all c_starting c_weight c_p_total c_p_often) sz) := by
  refine mofI (by decide +kernel) (Nat.le_of_ble_eq_true rfl) ?_
  intro p e s m args below meth c Q A ls hx hb hml hown hts hK hP hD hS hA hG hl hret hsz0
  have hl : lv_has ls 4 [(0, .ref a_t), (1, .ref a_p), (2, .int x2)] := hl
  unfold F_X3_behind at hF
  have hP : va_P D vwCl (wd_X3_behind cI a_t a_p a_madeFor a_weight a_inCell a_all a_starting a_p_often c_all c_starting c_weight c_p_total c_p_often) s.heap := hP
  obtain ⟨H, hH⟩ : ∃ H, H = s.heap := ⟨_, rfl⟩
  rw [← hH]
  rw [← hH] at hP
  obtain ⟨locs, hlo⟩ : ∃ z : List Loc, z = [] := ⟨_, rfl⟩
  rw [← hlo]
  have hS : va_S A s.heap H locs := by rw [hH, hlo]; exact hS
  refine lv_aload_n hx hb dX3_behind_0 rfl (lv_at hl 0 rfl) ?_
  refine lv_aload_n hx hb dX3_behind_1 rfl (lv_at hl 1 rfl) ?_
  obtain ⟨r2, hr2, hF⟩ := opb hF
  refine kVI (As := [.ref a_p]) (rest := []) (ws' := (wd_X3_behind cI a_t a_p a_madeFor a_weight a_inCell a_all a_starting a_p_often c_all c_starting c_weight c_p_total c_p_often)) ⟨hx, hb, hml, hown, hts⟩ (c_X3_cellOf l D cI a_t a_p a_madeFor a_weight a_inCell a_all a_starting a_p_often H.size c_weight c_p_total c_p_often  r2 hr2) (cwV 1 hts mw_X3_51 rfl rfl rfl hd_X3_cellOf ⟨Nat.le_of_ble_eq_true rfl, Nat.le_of_ble_eq_true rfl⟩) hS hA hG hK hP hD [0, 3, 4, 5] rfl rfl rfl rfl rfl ⟨Nat.zero_le _, Nat.zero_le _⟩ 3 0 rfl rfl rfl rfl hl.1 rfl (Nat.le_of_ble_eq_true rfl) dX3_behind_2 (fun H locs hP hD hS => ?_)
  refine lv_istore_n (lv' := [(3, .int r2), (0, .ref a_t), (1, .ref a_p), (2, .int x2)]) hx hb dX3_behind_5 rfl hl (by decide) rfl (fun ls hl => ?_)
  refine lv_aload_n hx hb dX3_behind_6 rfl (lv_at hl 1 rfl) ?_
  refine lv_iload_n hx hb dX3_behind_7 rfl (lv_at hl 0 rfl) ?_
  obtain ⟨r8, hr8, hF⟩ := opb hF
  refine kVI (As := [.int r2]) (rest := []) (ws' := (wd_X3_behind cI a_t a_p a_madeFor a_weight a_inCell a_all a_starting a_p_often c_all c_starting c_weight c_p_total c_p_often)) ⟨hx, hb, hml, hown, hts⟩ (c_X3_allOf l D cI a_t a_madeFor a_weight a_inCell a_all a_starting H.size c_all r2 r8 hr8) (cwV 1 hts mw_X3_44 rfl rfl rfl hd_X3_allOf ⟨Nat.le_of_ble_eq_true rfl, Nat.le_of_ble_eq_true rfl⟩) hS hA hG hK hP hD [0, 1] rfl rfl rfl rfl rfl ⟨Nat.zero_le _, Nat.zero_le _⟩ 3 0 rfl rfl rfl rfl hl.1 rfl (Nat.le_of_ble_eq_true rfl) dX3_behind_8 (fun H locs hP hD hS => ?_)
  refine lv_aload_n hx hb dX3_behind_11 rfl (lv_at hl 1 rfl) ?_
  refine lv_iload_n hx hb dX3_behind_12 rfl (lv_at hl 0 rfl) ?_
  refine lv_iload_n hx hb dX3_behind_13 rfl (lv_at hl 3 rfl) ?_
  obtain ⟨r14, hr14, hF⟩ := opb hF
  refine kVI (As := [.int r2, .int x2]) (rest := [.int r8]) (ws' := (wd_X3_behind cI a_t a_p a_madeFor a_weight a_inCell a_all a_starting a_p_often c_all c_starting c_weight c_p_total c_p_often)) ⟨hx, hb, hml, hown, hts⟩ (c_X3_startingOf l D cI a_t a_madeFor a_weight a_inCell a_all a_starting H.size c_starting r2 x2 r14 hr14) (cwV 2 hts mw_X3_47 rfl rfl rfl hd_X3_startingOf ⟨Nat.le_of_ble_eq_true rfl, Nat.le_of_ble_eq_true rfl⟩) hS hA hG hK hP hD [0, 2] rfl rfl rfl rfl rfl ⟨Nat.zero_le _, Nat.zero_le _⟩ 3 0 rfl rfl rfl rfl hl.1 rfl (Nat.le_of_ble_eq_true rfl) dX3_behind_14 (fun H locs hP hD hS => ?_)
  refine lv_isub hx hb dX3_behind_17 ?_
  have ho := Option.some.inj hF
  exact hret H locs ls 18 (r8 - r14) _ hP hS rfl ho dX3_behind_18
abbrev wd_X4_length (cI : ClassId) (a_t a_codes : Nat) (c_length : Int32) : va_W := [(a_t, .inr (4, [.ref a_codes, .int c_length]))]
def rm_X4_length : Room := { frames := 0, cells := 0, slots := 0, locals := 0 }
set_option maxHeartbeats 4000000 in
set_option maxRecDepth 100000 in
theorem c_X4_length (l : Launch) (D : va_G) (cI : ClassId) (a_t a_codes : Nat) (sz : Nat) (c_length : Int32) (o : Int32) (hF : F_X4_length c_length = some o) : Met l yX4_length (Cond.code yX4_length cX4_length 1 (some .int) :: WL) rm_X4_length (preM D [(cI, .int)] (wd_X4_length cI a_t a_codes c_length) sz [.ref a_t]) (postI D o (wd_X4_length cI a_t a_codes c_length) (wd_X4_length cI a_t a_codes c_length) sz) 0 0 (va_A (wd_X4_length cI a_t a_codes c_length) sz) := by
  refine mofI (by decide +kernel) (Nat.le_of_ble_eq_true rfl) ?_
  intro p e s m args below meth c Q A ls hx hb hml hown hts hK hP hD hS hA hG hl hret hsz0
  have hl : lv_has ls 1 [(0, .ref a_t)] := hl
  unfold F_X4_length at hF
  have hP : va_P D vwCl (wd_X4_length cI a_t a_codes c_length) s.heap := hP
  obtain ⟨H, hH⟩ : ∃ H, H = s.heap := ⟨_, rfl⟩
  rw [← hH]
  rw [← hH] at hP
  obtain ⟨locs, hlo⟩ : ∃ z : List Loc, z = [] := ⟨_, rfl⟩
  rw [← hlo]
  have hS : va_S A s.heap H locs := by rw [hH, hlo]; exact hS
  refine lv_aload_n hx hb dX4_length_0 rfl (lv_at hl 0 rfl) ?_
  refine get_X4_15 hx hb hts hown hK hP 0 rfl rfl dX4_length_1 ?_
  have ho := Option.some.inj hF
  exact hret H locs ls 4 c_length _ hP hS rfl ho dX4_length_4
abbrev wd_X4_at (cI : ClassId) (a_t a_codes : Nat) (c_length : Int32) (c_codes : Nat → Int32) : va_W := [(a_t, .inr (4, [.ref a_codes, .int c_length])), (a_codes, .inl (cI, 60, .inl c_codes))]
def rm_X4_at : Room := { frames := 0, cells := 0, slots := 0, locals := 0 }
set_option maxHeartbeats 4000000 in
set_option maxRecDepth 100000 in
theorem c_X4_at (l : Launch) (D : va_G) (cI : ClassId) (a_t a_codes : Nat) (sz : Nat) (c_length : Int32) (c_codes : Nat → Int32) (x1 : Int32) (o : Int32) (hF : F_X4_at c_length c_codes x1 = some o) : Met l yX4_at (Cond.code yX4_at cX4_at 2 (some .int) :: WL) rm_X4_at (preM D [(cI, .int)] (wd_X4_at cI a_t a_codes c_length c_codes) sz [.ref a_t, .int x1]) (postI D o (wd_X4_at cI a_t a_codes c_length c_codes) (wd_X4_at cI a_t a_codes c_length c_codes) sz) 0 0 (va_A (wd_X4_at cI a_t a_codes c_length c_codes) sz) := by
  refine mofI (by decide +kernel) (Nat.le_of_ble_eq_true rfl) ?_
  intro p e s m args below meth c Q A ls hx hb hml hown hts hK hP hD hS hA hG hl hret hsz0
  have hl : lv_has ls 2 [(0, .ref a_t), (1, .int x1)] := hl
  unfold F_X4_at at hF
  have hP : va_P D vwCl (wd_X4_at cI a_t a_codes c_length c_codes) s.heap := hP
  obtain ⟨H, hH⟩ : ∃ H, H = s.heap := ⟨_, rfl⟩
  rw [← hH]
  rw [← hH] at hP
  obtain ⟨locs, hlo⟩ : ∃ z : List Loc, z = [] := ⟨_, rfl⟩
  rw [← hlo]
  have hS : va_S A s.heap H locs := by rw [hH, hlo]; exact hS
  refine lv_iload_n hx hb dX4_at_0 rfl (lv_at hl 1 rfl) ?_
  refine lv_if_lt (tgt := 27) hx hb dX4_at_1 (by decide) (fun k1 => ?_) (fun k1 => ?_)
  · replace hF := (if_pos k1).symm.trans hF
    refine lv_iconst (v := 0) hx hb dX4_at_27 (by decide) ?_
    have ho := Option.some.inj hF
    exact hret H locs ls 28 (0 : Int32) _ hP hS rfl ho dX4_at_28
  · replace hF := (if_neg k1).symm.trans hF
    refine lv_iload_n hx hb dX4_at_4 rfl (lv_at hl 1 rfl) ?_
    refine lv_aload_n hx hb dX4_at_5 rfl (lv_at hl 0 rfl) ?_
    refine get_X4_15 hx hb hts hown hK hP 0 rfl rfl dX4_at_6 ?_
    refine lv_icmp_ge (tgt := 27) hx hb dX4_at_9 (by decide) (fun k9 => ?_) (fun k9 => ?_)
    · replace hF := (if_pos k9).symm.trans hF
      refine lv_iconst (v := 0) hx hb dX4_at_27 (by decide) ?_
      have ho := Option.some.inj hF
      exact hret H locs ls 28 (0 : Int32) _ hP hS rfl ho dX4_at_28
    · replace hF := (if_neg k9).symm.trans hF
      refine lv_iload_n hx hb dX4_at_12 rfl (lv_at hl 1 rfl) ?_
      refine lv_bipush (v := 60) hx hb dX4_at_13 (by decide) ?_
      refine lv_icmp_ge (tgt := 27) hx hb dX4_at_15 (by decide) (fun k15 => ?_) (fun k15 => ?_)
      · replace hF := (if_pos k15).symm.trans hF
        refine lv_iconst (v := 0) hx hb dX4_at_27 (by decide) ?_
        have ho := Option.some.inj hF
        exact hret H locs ls 28 (0 : Int32) _ hP hS rfl ho dX4_at_28
      · replace hF := (if_neg k15).symm.trans hF
        refine lv_aload_n hx hb dX4_at_18 rfl (lv_at hl 0 rfl) ?_
        refine get_X4_9 hx hb hts hown hK hP 0 rfl rfl dX4_at_19 ?_
        refine lv_iload_n hx hb dX4_at_22 rfl (lv_at hl 1 rfl) ?_
        obtain ⟨g23, hF⟩ := gdb hF
        refine va_iald hx hb hK hP 1 0 rfl rfl (vinb g23) dX4_at_23 ?_
        refine lv_goto (tgt := 28) hx hb dX4_at_24 (by decide) ?_
        have ho := Option.some.inj hF
        exact hret H locs ls 28 (c_codes (x1).toNatClampNeg) _ hP hS rfl ho dX4_at_28
abbrev wd_X4_add (cI : ClassId) (a_t a_codes : Nat) (c_length : Int32) (c_codes : Nat → Int32) : va_W := [(a_t, .inr (4, [.ref a_codes, .int c_length])), (a_codes, .inl (cI, 60, .inl c_codes))]
def rm_X4_add : Room := { frames := 0, cells := 0, slots := 0, locals := 0 }
set_option maxHeartbeats 4000000 in
set_option maxRecDepth 100000 in
theorem c_X4_add (l : Launch) (D : va_G) (cI : ClassId) (a_t a_codes : Nat) (sz : Nat) (c_length : Int32) (c_codes : Nat → Int32) (x1 : Int32) (o : Int32 × (Nat → Int32)) (hF : F_X4_add c_length c_codes x1 = some o) : Met l yX4_add (Cond.code yX4_add cX4_add 2 none :: WL) rm_X4_add (preM D [(cI, .int)] (wd_X4_add cI a_t a_codes c_length c_codes) sz [.ref a_t, .int x1]) (postV D (wd_X4_add cI a_t a_codes o.1 o.2) (wd_X4_add cI a_t a_codes c_length c_codes) sz) 0 0 (va_A (wd_X4_add cI a_t a_codes c_length c_codes) sz) := by
  refine mofV (by decide +kernel) (Nat.le_of_ble_eq_true rfl) ?_
  intro p e s m args below meth c Q A ls hx hb hml hown hts hK hP hD hS hA hG hl hret hsz0
  have hl : lv_has ls 2 [(0, .ref a_t), (1, .int x1)] := hl
  unfold F_X4_add at hF
  have hP : va_P D vwCl (wd_X4_add cI a_t a_codes c_length c_codes) s.heap := hP
  obtain ⟨H, hH⟩ : ∃ H, H = s.heap := ⟨_, rfl⟩
  rw [← hH]
  rw [← hH] at hP
  obtain ⟨locs, hlo⟩ : ∃ z : List Loc, z = [] := ⟨_, rfl⟩
  rw [← hlo]
  have hS : va_S A s.heap H locs := by rw [hH, hlo]; exact hS
  refine lv_aload_n hx hb dX4_add_0 rfl (lv_at hl 0 rfl) ?_
  refine get_X4_15 hx hb hts hown hK hP 0 rfl rfl dX4_add_1 ?_
  refine lv_if_lt (tgt := 36) hx hb dX4_add_4 (by decide) (fun k4 => ?_) (fun k4 => ?_)
  · replace hF := (if_pos k4).symm.trans hF
    have ho := Option.some.inj hF
    exact hret H locs ls 36 _ hP hS (by rw [← ho]) dX4_add_36
  · replace hF := (if_neg k4).symm.trans hF
    refine lv_aload_n hx hb dX4_add_7 rfl (lv_at hl 0 rfl) ?_
    refine get_X4_15 hx hb hts hown hK hP 0 rfl rfl dX4_add_8 ?_
    refine lv_bipush (v := 60) hx hb dX4_add_11 (by decide) ?_
    refine lv_icmp_ge (tgt := 36) hx hb dX4_add_13 (by decide) (fun k13 => ?_) (fun k13 => ?_)
    · replace hF := (if_pos k13).symm.trans hF
      have ho := Option.some.inj hF
      exact hret H locs ls 36 _ hP hS (by rw [← ho]) dX4_add_36
    · replace hF := (if_neg k13).symm.trans hF
      refine lv_aload_n hx hb dX4_add_16 rfl (lv_at hl 0 rfl) ?_
      refine get_X4_9 hx hb hts hown hK hP 0 rfl rfl dX4_add_17 ?_
      refine lv_aload_n hx hb dX4_add_20 rfl (lv_at hl 0 rfl) ?_
      refine get_X4_15 hx hb hts hown hK hP 0 rfl rfl dX4_add_21 ?_
      refine lv_iload_n hx hb dX4_add_24 rfl (lv_at hl 1 rfl) ?_
      obtain ⟨g25, hF⟩ := gdb hF
      refine va_iast hx hb hK hP hD hS 1 0 rfl rfl (vinb g25) dX4_add_25 (fun H locs hP hD hS => ?_)
      have hP : va_P D vwCl (wd_X4_add cI a_t a_codes c_length (upd c_codes (c_length).toNatClampNeg x1)) H := hP
      have hD : va_D A (wd_X4_add cI a_t a_codes c_length (upd c_codes (c_length).toNatClampNeg x1)) := hD
      refine lv_aload_n hx hb dX4_add_26 rfl (lv_at hl 0 rfl) ?_
      refine lv_dup hx hb dX4_add_27 rfl ?_
      refine get_X4_15 hx hb hts hown hK hP 0 rfl rfl dX4_add_28 ?_
      refine lv_iconst (v := 1) hx hb dX4_add_31 (by decide) ?_
      refine lv_iadd hx hb dX4_add_32 ?_
      refine put_X4_15 hx hb hts hown hK hP hD hS 0 rfl rfl rfl (Nat.le_of_ble_eq_true rfl) dX4_add_33 (fun H locs hP hD hS => ?_)
      have hP : va_P D vwCl (wd_X4_add cI a_t a_codes (c_length + (1 : Int32)) (upd c_codes (c_length).toNatClampNeg x1)) H := hP
      have hD : va_D A (wd_X4_add cI a_t a_codes (c_length + (1 : Int32)) (upd c_codes (c_length).toNatClampNeg x1)) := hD
      have ho := Option.some.inj hF
      exact hret H locs ls 36 _ hP hS (by rw [← ho]) dX4_add_36
abbrev wd_X4_clear (cI : ClassId) (a_t a_codes : Nat) (c_length : Int32) : va_W := [(a_t, .inr (4, [.ref a_codes, .int c_length]))]
def rm_X4_clear : Room := { frames := 0, cells := 0, slots := 0, locals := 0 }
set_option maxHeartbeats 4000000 in
set_option maxRecDepth 100000 in
theorem c_X4_clear (l : Launch) (D : va_G) (cI : ClassId) (a_t a_codes : Nat) (sz : Nat) (c_length : Int32) (o : Int32) (hF : F_X4_clear c_length = some o) : Met l yX4_clear (Cond.code yX4_clear cX4_clear 1 none :: WL) rm_X4_clear (preM D [(cI, .int)] (wd_X4_clear cI a_t a_codes c_length) sz [.ref a_t]) (postV D (wd_X4_clear cI a_t a_codes o) (wd_X4_clear cI a_t a_codes c_length) sz) 0 0 (va_A (wd_X4_clear cI a_t a_codes c_length) sz) := by
  refine mofV (by decide +kernel) (Nat.le_of_ble_eq_true rfl) ?_
  intro p e s m args below meth c Q A ls hx hb hml hown hts hK hP hD hS hA hG hl hret hsz0
  have hl : lv_has ls 1 [(0, .ref a_t)] := hl
  unfold F_X4_clear at hF
  have hP : va_P D vwCl (wd_X4_clear cI a_t a_codes c_length) s.heap := hP
  obtain ⟨H, hH⟩ : ∃ H, H = s.heap := ⟨_, rfl⟩
  rw [← hH]
  rw [← hH] at hP
  obtain ⟨locs, hlo⟩ : ∃ z : List Loc, z = [] := ⟨_, rfl⟩
  rw [← hlo]
  have hS : va_S A s.heap H locs := by rw [hH, hlo]; exact hS
  refine lv_aload_n hx hb dX4_clear_0 rfl (lv_at hl 0 rfl) ?_
  refine lv_iconst (v := 0) hx hb dX4_clear_1 (by decide) ?_
  refine put_X4_15 hx hb hts hown hK hP hD hS 0 rfl rfl rfl (Nat.le_of_ble_eq_true rfl) dX4_clear_2 (fun H locs hP hD hS => ?_)
  have hP : va_P D vwCl (wd_X4_clear cI a_t a_codes (0 : Int32)) H := hP
  have hD : va_D A (wd_X4_clear cI a_t a_codes (0 : Int32)) := hD
  have ho := Option.some.inj hF
  exact hret H locs ls 5 _ hP hS (by rw [← ho]) dX4_clear_5
abbrev wd_X4_isLetter (cI : ClassId) (a_t a_codes : Nat) (c_length : Int32) (c_codes : Nat → Int32) : va_W := [(a_t, .inr (4, [.ref a_codes, .int c_length])), (a_codes, .inl (cI, 60, .inl c_codes))]
def rm_X4_isLetter : Room := { frames := 1, cells := 0, slots := 0, locals := 21 }
set_option maxHeartbeats 4000000 in
set_option maxRecDepth 100000 in
theorem c_X4_isLetter (l : Launch) (D : va_G) (cI : ClassId) (a_t a_codes : Nat) (sz : Nat) (c_length : Int32) (c_codes : Nat → Int32) (x1 : Int32) (o : Int32) (hF : F_X4_isLetter c_length c_codes x1 = some o) : Met l yX4_isLetter (Cond.code yX4_isLetter cX4_isLetter 2 (some .boolean) :: WL) rm_X4_isLetter (preM D [(cI, .int)] (wd_X4_isLetter cI a_t a_codes c_length c_codes) sz [.ref a_t, .int x1]) (postI D o (wd_X4_isLetter cI a_t a_codes c_length c_codes) (wd_X4_isLetter cI a_t a_codes c_length c_codes) sz) 0 0 (va_A (wd_X4_isLetter cI a_t a_codes c_length c_codes) sz) := by
  refine mofZ (by decide +kernel) (Nat.le_of_ble_eq_true rfl) ?_
  intro p e s m args below meth c Q A ls hx hb hml hown hts hK hP hD hS hA hG hl hret hsz0
  have hl : lv_has ls 2 [(0, .ref a_t), (1, .int x1)] := hl
  unfold F_X4_isLetter at hF
  have hP : va_P D vwCl (wd_X4_isLetter cI a_t a_codes c_length c_codes) s.heap := hP
  obtain ⟨H, hH⟩ : ∃ H, H = s.heap := ⟨_, rfl⟩
  rw [← hH]
  rw [← hH] at hP
  obtain ⟨locs, hlo⟩ : ∃ z : List Loc, z = [] := ⟨_, rfl⟩
  rw [← hlo]
  have hS : va_S A s.heap H locs := by rw [hH, hlo]; exact hS
  refine lv_aload_n hx hb dX4_isLetter_0 rfl (lv_at hl 0 rfl) ?_
  refine lv_iload_n hx hb dX4_isLetter_1 rfl (lv_at hl 1 rfl) ?_
  obtain ⟨r2, hr2, hF⟩ := opb hF
  refine kVI (As := [.int x1]) (rest := []) (ws' := (wd_X4_isLetter cI a_t a_codes c_length c_codes)) ⟨hx, hb, hml, hown, hts⟩ (c_X4_at l D cI a_t a_codes H.size c_length c_codes x1 r2 hr2) (cwV 1 hts mw_X4_19 rfl rfl rfl hd_X4_at ⟨Nat.le_of_ble_eq_true rfl, Nat.le_of_ble_eq_true rfl⟩) hS hA hG hK hP hD [0, 1] rfl rfl rfl rfl rfl ⟨Nat.zero_le _, Nat.zero_le _⟩ 4 0 rfl rfl rfl rfl hl.1 rfl (Nat.le_of_ble_eq_true rfl) dX4_isLetter_2 (fun H locs hP hD hS => ?_)
  refine lv_bipush (v := 97) hx hb dX4_isLetter_5 (by decide) ?_
  refine lv_icmp_lt (tgt := 24) hx hb dX4_isLetter_7 (by decide) (fun k7 => ?_) (fun k7 => ?_)
  · replace hF := (if_pos k7).symm.trans hF
    refine lv_iconst (v := 0) hx hb dX4_isLetter_24 (by decide) ?_
    have ho := Option.some.inj hF
    exact hret H locs ls 25 (0 : Int32) _ hP hS rfl ho (by decide) dX4_isLetter_25
  · replace hF := (if_neg k7).symm.trans hF
    refine lv_aload_n hx hb dX4_isLetter_10 rfl (lv_at hl 0 rfl) ?_
    refine lv_iload_n hx hb dX4_isLetter_11 rfl (lv_at hl 1 rfl) ?_
    obtain ⟨r12, hr12, hF⟩ := opb hF
    refine kVI (As := [.int x1]) (rest := []) (ws' := (wd_X4_isLetter cI a_t a_codes c_length c_codes)) ⟨hx, hb, hml, hown, hts⟩ (c_X4_at l D cI a_t a_codes H.size c_length c_codes x1 r12 hr12) (cwV 1 hts mw_X4_19 rfl rfl rfl hd_X4_at ⟨Nat.le_of_ble_eq_true rfl, Nat.le_of_ble_eq_true rfl⟩) hS hA hG hK hP hD [0, 1] rfl rfl rfl rfl rfl ⟨Nat.zero_le _, Nat.zero_le _⟩ 4 0 rfl rfl rfl rfl hl.1 rfl (Nat.le_of_ble_eq_true rfl) dX4_isLetter_12 (fun H locs hP hD hS => ?_)
    refine lv_bipush (v := 102) hx hb dX4_isLetter_15 (by decide) ?_
    refine lv_icmp_gt (tgt := 24) hx hb dX4_isLetter_17 (by decide) (fun k17 => ?_) (fun k17 => ?_)
    · (try simp only [if_pos k17] at hF)
      refine lv_iconst (v := 0) hx hb dX4_isLetter_24 (by decide) ?_
      have ho := Option.some.inj hF
      exact hret H locs ls 25 (0 : Int32) _ hP hS rfl ho (by decide) dX4_isLetter_25
    · (try simp only [if_neg k17] at hF)
      refine lv_iconst (v := 1) hx hb dX4_isLetter_20 (by decide) ?_
      refine lv_goto (tgt := 25) hx hb dX4_isLetter_21 (by decide) ?_
      have ho := Option.some.inj hF
      exact hret H locs ls 25 (1 : Int32) _ hP hS rfl ho (by decide) dX4_isLetter_25
abbrev wd_X4_adds (cI : ClassId) (a_t a_codes : Nat) (c_length : Int32) (c_codes : Nat → Int32) : va_W := [(a_t, .inr (4, [.ref a_codes, .int c_length])), (a_codes, .inl (cI, 60, .inl c_codes))]
def rm_X4_adds : Room := { frames := 2, cells := 0, slots := 0, locals := 42 }
set_option maxHeartbeats 4000000 in
set_option maxRecDepth 100000 in
theorem c_X4_adds (l : Launch) (D : va_G) (cI : ClassId) (a_t a_codes : Nat) (sz : Nat) (c_length : Int32) (c_codes : Nat → Int32) (x1 : Int32) (o : Int32) (hF : F_X4_adds c_length c_codes x1 = some o) : Met l yX4_adds (Cond.code yX4_adds cX4_adds 3 (some .int) :: WL) rm_X4_adds (preM D [(cI, .int)] (wd_X4_adds cI a_t a_codes c_length c_codes) sz [.ref a_t, .int x1]) (postI D o (wd_X4_adds cI a_t a_codes c_length c_codes) (wd_X4_adds cI a_t a_codes c_length c_codes) sz) 0 0 (va_A (wd_X4_adds cI a_t a_codes c_length c_codes) sz) := by
  refine mofI (by decide +kernel) (Nat.le_of_ble_eq_true rfl) ?_
  intro p e s m args below meth c Q A ls hx hb hml hown hts hK hP hD hS hA hG hl hret hsz0
  have hl : lv_has ls 3 [(0, .ref a_t), (1, .int x1)] := hl
  have K35 : ∀ (v0 : Int32)  (H : Heap) (locs : List Loc) (ls : Array Slot), va_P D vwCl (wd_X4_adds cI a_t a_codes c_length c_codes) H → va_D A (wd_X4_adds cI a_t a_codes c_length c_codes) → va_S A s.heap H locs → lv_has ls 3 [(0, .ref a_t), (1, .int x1)] → F_X4_adds_J35 c_length c_codes x1 v0 = some o → W p l e rm_X4_adds s m args below meth c H locs 0 0 Q (F0 m 35 ls [.int v0]) := by
    intro v0 H locs ls hP hD hS hl hF
    unfold F_X4_adds_J35 at hF
    refine lv_istore_n (lv' := [(2, .int v0), (0, .ref a_t), (1, .int x1)]) hx hb dX4_adds_35 rfl hl (by decide) rfl (fun ls hl => ?_)
    refine lv_iload_n hx hb dX4_adds_36 rfl (lv_at hl 0 rfl) ?_
    refine lv_if_eq (tgt := 61) hx hb dX4_adds_37 (by decide) (fun k37 => ?_) (fun k37 => ?_)
    · replace hF := (if_pos k37).symm.trans hF
      refine lv_iconst (v := 0) hx hb dX4_adds_61 (by decide) ?_
      have ho := Option.some.inj hF
      exact hret H locs ls 62 (0 : Int32) _ hP hS rfl ho dX4_adds_62
    · replace hF := (if_neg k37).symm.trans hF
      refine lv_aload_n hx hb dX4_adds_40 rfl (lv_at hl 1 rfl) ?_
      refine lv_iload_n hx hb dX4_adds_41 rfl (lv_at hl 2 rfl) ?_
      refine lv_iconst (v := 1) hx hb dX4_adds_42 (by decide) ?_
      refine lv_isub hx hb dX4_adds_43 ?_
      obtain ⟨r44, hr44, hF⟩ := opb hF
      refine kVI (As := [.int (x1 - (1 : Int32))]) (rest := []) (ws' := (wd_X4_adds cI a_t a_codes c_length c_codes)) ⟨hx, hb, hml, hown, hts⟩ (c_X4_isLetter l D cI a_t a_codes H.size c_length c_codes (x1 - (1 : Int32)) r44 hr44) (cwV 1 hts mw_X4_23 rfl rfl rfl hd_X4_isLetter ⟨Nat.le_of_ble_eq_true rfl, Nat.le_of_ble_eq_true rfl⟩) hS hA hG hK hP hD [0, 1] rfl rfl rfl rfl rfl ⟨Nat.zero_le _, Nat.zero_le _⟩ 4 0 rfl rfl rfl rfl hl.1 rfl (Nat.le_of_ble_eq_true rfl) dX4_adds_44 (fun H locs hP hD hS => ?_)
      refine lv_if_eq (tgt := 61) hx hb dX4_adds_47 (by decide) (fun k47 => ?_) (fun k47 => ?_)
      · replace hF := (if_pos k47).symm.trans hF
        refine lv_iconst (v := 0) hx hb dX4_adds_61 (by decide) ?_
        have ho := Option.some.inj hF
        exact hret H locs ls 62 (0 : Int32) _ hP hS rfl ho dX4_adds_62
      · replace hF := (if_neg k47).symm.trans hF
        refine lv_aload_n hx hb dX4_adds_50 rfl (lv_at hl 1 rfl) ?_
        refine lv_iload_n hx hb dX4_adds_51 rfl (lv_at hl 2 rfl) ?_
        obtain ⟨r52, hr52, hF⟩ := opb hF
        refine kVI (As := [.int x1]) (rest := []) (ws' := (wd_X4_adds cI a_t a_codes c_length c_codes)) ⟨hx, hb, hml, hown, hts⟩ (c_X4_at l D cI a_t a_codes H.size c_length c_codes x1 r52 hr52) (cwV 1 hts mw_X4_19 rfl rfl rfl hd_X4_at ⟨Nat.le_of_ble_eq_true rfl, Nat.le_of_ble_eq_true rfl⟩) hS hA hG hK hP hD [0, 1] rfl rfl rfl rfl rfl ⟨Nat.zero_le _, Nat.zero_le _⟩ 4 0 rfl rfl rfl rfl hl.1 rfl (Nat.le_of_ble_eq_true rfl) dX4_adds_52 (fun H locs hP hD hS => ?_)
        refine lv_bipush (v := 49) hx hb dX4_adds_55 (by decide) ?_
        refine lv_isub hx hb dX4_adds_57 ?_
        refine lv_goto (tgt := 62) hx hb dX4_adds_58 (by decide) ?_
        have ho := Option.some.inj hF
        exact hret H locs ls 62 (r52 - (49 : Int32)) _ hP hS rfl ho dX4_adds_62
  unfold F_X4_adds at hF
  have hP : va_P D vwCl (wd_X4_adds cI a_t a_codes c_length c_codes) s.heap := hP
  obtain ⟨H, hH⟩ : ∃ H, H = s.heap := ⟨_, rfl⟩
  rw [← hH]
  rw [← hH] at hP
  obtain ⟨locs, hlo⟩ : ∃ z : List Loc, z = [] := ⟨_, rfl⟩
  rw [← hlo]
  have hS : va_S A s.heap H locs := by rw [hH, hlo]; exact hS
  refine lv_aload_n hx hb dX4_adds_0 rfl (lv_at hl 0 rfl) ?_
  refine lv_iload_n hx hb dX4_adds_1 rfl (lv_at hl 1 rfl) ?_
  obtain ⟨r2, hr2, hF⟩ := opb hF
  refine kVI (As := [.int x1]) (rest := []) (ws' := (wd_X4_adds cI a_t a_codes c_length c_codes)) ⟨hx, hb, hml, hown, hts⟩ (c_X4_isLetter l D cI a_t a_codes H.size c_length c_codes x1 r2 hr2) (cwV 1 hts mw_X4_23 rfl rfl rfl hd_X4_isLetter ⟨Nat.le_of_ble_eq_true rfl, Nat.le_of_ble_eq_true rfl⟩) hS hA hG hK hP hD [0, 1] rfl rfl rfl rfl rfl ⟨Nat.zero_le _, Nat.zero_le _⟩ 4 0 rfl rfl rfl rfl hl.1 rfl (Nat.le_of_ble_eq_true rfl) dX4_adds_2 (fun H locs hP hD hS => ?_)
  refine lv_if_eq (tgt := 10) hx hb dX4_adds_5 (by decide) (fun k5 => ?_) (fun k5 => ?_)
  · replace hF := (if_pos k5).symm.trans hF
    refine lv_aload_n hx hb dX4_adds_10 rfl (lv_at hl 0 rfl) ?_
    refine lv_iload_n hx hb dX4_adds_11 rfl (lv_at hl 1 rfl) ?_
    obtain ⟨r12, hr12, hF⟩ := opb hF
    refine kVI (As := [.int x1]) (rest := []) (ws' := (wd_X4_adds cI a_t a_codes c_length c_codes)) ⟨hx, hb, hml, hown, hts⟩ (c_X4_at l D cI a_t a_codes H.size c_length c_codes x1 r12 hr12) (cwV 1 hts mw_X4_19 rfl rfl rfl hd_X4_at ⟨Nat.le_of_ble_eq_true rfl, Nat.le_of_ble_eq_true rfl⟩) hS hA hG hK hP hD [0, 1] rfl rfl rfl rfl rfl ⟨Nat.zero_le _, Nat.zero_le _⟩ 4 0 rfl rfl rfl rfl hl.1 rfl (Nat.le_of_ble_eq_true rfl) dX4_adds_12 (fun H locs hP hD hS => ?_)
    refine lv_bipush (v := 50) hx hb dX4_adds_15 (by decide) ?_
    refine lv_icmp_lt (tgt := 34) hx hb dX4_adds_17 (by decide) (fun k17 => ?_) (fun k17 => ?_)
    · replace hF := (if_pos k17).symm.trans hF
      refine lv_iconst (v := 0) hx hb dX4_adds_34 (by decide) ?_
      exact K35 (0 : Int32) H locs ls hP hD hS (lv_sub hl [0, 1] rfl) hF
    · replace hF := (if_neg k17).symm.trans hF
      refine lv_aload_n hx hb dX4_adds_20 rfl (lv_at hl 0 rfl) ?_
      refine lv_iload_n hx hb dX4_adds_21 rfl (lv_at hl 1 rfl) ?_
      obtain ⟨r22, hr22, hF⟩ := opb hF
      refine kVI (As := [.int x1]) (rest := []) (ws' := (wd_X4_adds cI a_t a_codes c_length c_codes)) ⟨hx, hb, hml, hown, hts⟩ (c_X4_at l D cI a_t a_codes H.size c_length c_codes x1 r22 hr22) (cwV 1 hts mw_X4_19 rfl rfl rfl hd_X4_at ⟨Nat.le_of_ble_eq_true rfl, Nat.le_of_ble_eq_true rfl⟩) hS hA hG hK hP hD [0, 1] rfl rfl rfl rfl rfl ⟨Nat.zero_le _, Nat.zero_le _⟩ 4 0 rfl rfl rfl rfl hl.1 rfl (Nat.le_of_ble_eq_true rfl) dX4_adds_22 (fun H locs hP hD hS => ?_)
      refine lv_bipush (v := 57) hx hb dX4_adds_25 (by decide) ?_
      refine lv_icmp_gt (tgt := 34) hx hb dX4_adds_27 (by decide) (fun k27 => ?_) (fun k27 => ?_)
      · (try simp only [if_pos k27] at hF)
        refine lv_iconst (v := 0) hx hb dX4_adds_34 (by decide) ?_
        exact K35 (0 : Int32) H locs ls hP hD hS (lv_sub hl [0, 1] rfl) hF
      · (try simp only [if_neg k27] at hF)
        refine lv_iconst (v := 1) hx hb dX4_adds_30 (by decide) ?_
        refine lv_goto (tgt := 35) hx hb dX4_adds_31 (by decide) ?_
        exact K35 (1 : Int32) H locs ls hP hD hS (lv_sub hl [0, 1] rfl) hF
  · replace hF := (if_neg k5).symm.trans hF
    refine lv_iconst (v := 1) hx hb dX4_adds_8 (by decide) ?_
    have ho := Option.some.inj hF
    exact hret H locs ls 9 (1 : Int32) _ hP hS rfl ho dX4_adds_9
abbrev wd_X4_firstBad (cI : ClassId) (a_t a_codes : Nat) (c_length : Int32) (c_codes : Nat → Int32) : va_W := [(a_t, .inr (4, [.ref a_codes, .int c_length])), (a_codes, .inl (cI, 60, .inl c_codes))]
def rm_X4_firstBad : Room := { frames := 3, cells := 0, slots := 0, locals := 64 }
set_option maxHeartbeats 4000000 in
set_option maxRecDepth 100000 in
theorem c_X4_firstBad (l : Launch) (D : va_G) (cI : ClassId) (a_t a_codes : Nat) (sz : Nat) (c_length : Int32) (c_codes : Nat → Int32) (o : Int32) (hF : F_X4_firstBad c_length c_codes = some o) : Met l yX4_firstBad (Cond.code yX4_firstBad cX4_firstBad 4 (some .int) :: WL) rm_X4_firstBad (preM D [(cI, .int)] (wd_X4_firstBad cI a_t a_codes c_length c_codes) sz [.ref a_t]) (postI D o (wd_X4_firstBad cI a_t a_codes c_length c_codes) (wd_X4_firstBad cI a_t a_codes c_length c_codes) sz) 0 0 (va_A (wd_X4_firstBad cI a_t a_codes c_length c_codes) sz) := by
  refine mofI (by decide +kernel) (Nat.le_of_ble_eq_true rfl) ?_
  intro p e s m args below meth c Q A ls hx hb hml hown hts hK hP hD hS hA hG hl hret hsz0
  have hl : lv_has ls 4 [(0, .ref a_t)] := hl
  have K4 : ∀ (n4 : Nat) (x1 : Int32) (x2 : Int32) (H : Heap) (locs : List Loc) (ls : Array Slot), va_P D vwCl (wd_X4_firstBad cI a_t a_codes c_length c_codes) H → va_D A (wd_X4_firstBad cI a_t a_codes c_length c_codes) → va_S A s.heap H locs → lv_has ls 4 [(0, .ref a_t), (1, .int x1), (2, .int x2)] → F_X4_firstBad_L4 c_length c_codes n4 x1 x2 = some o → W p l e rm_X4_firstBad s m args below meth c H locs 0 0 Q (F0 m 4 ls []) := by
    intro n4
    induction n4 with
    | zero => intro x1 x2 H locs ls hP hD hS hl hF; exact nos hF
    | succ n4 ih4 =>
      intro x1 x2 H locs ls hP hD hS hl hF
      rw [F_X4_firstBad_L4] at hF
      refine lv_iload_n hx hb dX4_firstBad_4 rfl (lv_at hl 2 rfl) ?_
      refine lv_aload_n hx hb dX4_firstBad_5 rfl (lv_at hl 0 rfl) ?_
      refine get_X4_15 hx hb hts hown hK hP 0 rfl rfl dX4_firstBad_6 ?_
      refine lv_icmp_ge (tgt := 40) hx hb dX4_firstBad_9 (by decide) (fun k9 => ?_) (fun k9 => ?_)
      · replace hF := (if_pos k9).symm.trans hF
        refine lv_aload_n hx hb dX4_firstBad_40 rfl (lv_at hl 0 rfl) ?_
        refine get_X4_15 hx hb hts hown hK hP 0 rfl rfl dX4_firstBad_41 ?_
        have ho := Option.some.inj hF
        exact hret H locs ls 44 c_length _ hP hS rfl ho dX4_firstBad_44
      · replace hF := (if_neg k9).symm.trans hF
        refine lv_aload_n hx hb dX4_firstBad_12 rfl (lv_at hl 0 rfl) ?_
        refine lv_iload_n hx hb dX4_firstBad_13 rfl (lv_at hl 2 rfl) ?_
        obtain ⟨r14, hr14, hF⟩ := opb hF
        refine kVI (As := [.int x2]) (rest := []) (ws' := (wd_X4_firstBad cI a_t a_codes c_length c_codes)) ⟨hx, hb, hml, hown, hts⟩ (c_X4_adds l D cI a_t a_codes H.size c_length c_codes x2 r14 hr14) (cwV 1 hts mw_X4_27 rfl rfl rfl hd_X4_adds ⟨Nat.le_of_ble_eq_true rfl, Nat.le_of_ble_eq_true rfl⟩) hS hA hG hK hP hD [0, 1] rfl rfl rfl rfl rfl ⟨Nat.zero_le _, Nat.zero_le _⟩ 4 0 rfl rfl rfl rfl hl.1 rfl (Nat.le_of_ble_eq_true rfl) dX4_firstBad_14 (fun H locs hP hD hS => ?_)
        refine lv_istore_n (lv' := [(3, .int r14), (0, .ref a_t), (1, .int x1), (2, .int x2)]) hx hb dX4_firstBad_17 rfl hl (by decide) rfl (fun ls hl => ?_)
        refine lv_iload_n hx hb dX4_firstBad_18 rfl (lv_at hl 2 rfl) ?_
        refine lv_iload_n hx hb dX4_firstBad_19 rfl (lv_at hl 0 rfl) ?_
        refine lv_iadd hx hb dX4_firstBad_20 ?_
        refine lv_istore_n (lv' := [(1, .int (x1 + r14)), (3, .int r14), (0, .ref a_t), (2, .int x2)]) hx hb dX4_firstBad_21 rfl hl (by decide) rfl (fun ls hl => ?_)
        refine lv_iload_n hx hb dX4_firstBad_22 rfl (lv_at hl 1 rfl) ?_
        refine lv_if_eq (tgt := 32) hx hb dX4_firstBad_23 (by decide) (fun k23 => ?_) (fun k23 => ?_)
        · replace hF := (if_pos k23).symm.trans hF
          refine lv_iload_n hx hb dX4_firstBad_32 rfl (lv_at hl 3 rfl) ?_
          have ho := Option.some.inj hF
          exact hret H locs ls 33 x2 _ hP hS rfl ho dX4_firstBad_33
        · replace hF := (if_neg k23).symm.trans hF
          refine lv_iload_n hx hb dX4_firstBad_26 rfl (lv_at hl 0 rfl) ?_
          refine lv_bipush (v := 11) hx hb dX4_firstBad_27 (by decide) ?_
          refine lv_icmp_le (tgt := 34) hx hb dX4_firstBad_29 (by decide) (fun k29 => ?_) (fun k29 => ?_)
          · replace hF := (if_pos k29).symm.trans hF
            refine lv_iinc (v := x2 + 1) (lv' := [(2, .int (x2 + 1)), (1, .int (x1 + r14)), (3, .int r14), (0, .ref a_t)]) hx hb dX4_firstBad_34 hl (k := 3) rfl rfl (by decide) rfl (fun ls hl => ?_)
            refine lv_goto (tgt := 4) hx hb dX4_firstBad_37 (by decide) ?_
            exact ih4 (x1 + r14) (x2 + 1) H locs ls hP hD hS (lv_sub hl [3, 1, 0] rfl) hF
          · replace hF := (if_neg k29).symm.trans hF
            refine lv_iload_n hx hb dX4_firstBad_32 rfl (lv_at hl 3 rfl) ?_
            have ho := Option.some.inj hF
            exact hret H locs ls 33 x2 _ hP hS rfl ho dX4_firstBad_33
  unfold F_X4_firstBad at hF
  have hP : va_P D vwCl (wd_X4_firstBad cI a_t a_codes c_length c_codes) s.heap := hP
  obtain ⟨H, hH⟩ : ∃ H, H = s.heap := ⟨_, rfl⟩
  rw [← hH]
  rw [← hH] at hP
  obtain ⟨locs, hlo⟩ : ∃ z : List Loc, z = [] := ⟨_, rfl⟩
  rw [← hlo]
  have hS : va_S A s.heap H locs := by rw [hH, hlo]; exact hS
  refine lv_iconst (v := 0) hx hb dX4_firstBad_0 (by decide) ?_
  refine lv_istore_n (lv' := [(1, .int (0 : Int32)), (0, .ref a_t)]) hx hb dX4_firstBad_1 rfl hl (by decide) rfl (fun ls hl => ?_)
  refine lv_iconst (v := 0) hx hb dX4_firstBad_2 (by decide) ?_
  refine lv_istore_n (lv' := [(2, .int (0 : Int32)), (1, .int (0 : Int32)), (0, .ref a_t)]) hx hb dX4_firstBad_3 rfl hl (by decide) rfl (fun ls hl => ?_)
  exact K4 FU (0 : Int32) (0 : Int32) H locs ls hP hD hS (lv_sub hl [2, 1, 0] rfl) hF
abbrev wd_X4_writeTo (cI : ClassId) (a_t a_p a_codes a_p_signs : Nat) (c_length : Int32) (c_codes : Nat → Int32) (c_p_length : Int32) (c_p_signs : Nat → Int32) : va_W := [(a_t, .inr (4, [.ref a_codes, .int c_length])), (a_codes, .inl (cI, 60, .inl c_codes)), (a_p, .inr (1, [.ref a_p_signs, .int c_p_length])), (a_p_signs, .inl (cI, 11, .inl c_p_signs))]
def rm_X4_writeTo : Room := { frames := 3, cells := 0, slots := 0, locals := 64 }
set_option maxHeartbeats 4000000 in
set_option maxRecDepth 100000 in
theorem c_X4_writeTo (l : Launch) (D : va_G) (cI : ClassId) (a_t a_p a_codes a_p_signs : Nat) (sz : Nat) (c_length : Int32) (c_codes : Nat → Int32) (c_p_length : Int32) (c_p_signs : Nat → Int32) (o : Int32 × (Nat → Int32)) (hF : F_X4_writeTo c_length c_codes c_p_length c_p_signs = some o) : Met l yX4_writeTo (Cond.code yX4_writeTo cX4_writeTo 6 none :: WL) rm_X4_writeTo (preM D [(cI, .int)] (wd_X4_writeTo cI a_t a_p a_codes a_p_signs c_length c_codes c_p_length c_p_signs) sz [.ref a_t, .ref a_p]) (postV D (wd_X4_writeTo cI a_t a_p a_codes a_p_signs c_length c_codes o.1 o.2) (wd_X4_writeTo cI a_t a_p a_codes a_p_signs c_length c_codes c_p_length c_p_signs) sz) 0 0 (va_A (wd_X4_writeTo cI a_t a_p a_codes a_p_signs c_length c_codes c_p_length c_p_signs) sz) := by
  refine mofV (by decide +kernel) (Nat.le_of_ble_eq_true rfl) ?_
  intro p e s m args below meth c Q A ls hx hb hml hown hts hK hP hD hS hA hG hl hret hsz0
  have hl : lv_has ls 6 [(0, .ref a_t), (1, .ref a_p)] := hl
  have K6 : ∀ (n6 : Nat) (c_p_length : Int32) (c_p_signs : Nat → Int32) (x2 : Int32) (H : Heap) (locs : List Loc) (ls : Array Slot), va_P D vwCl (wd_X4_writeTo cI a_t a_p a_codes a_p_signs c_length c_codes c_p_length c_p_signs) H → va_D A (wd_X4_writeTo cI a_t a_p a_codes a_p_signs c_length c_codes c_p_length c_p_signs) → va_S A s.heap H locs → lv_has ls 6 [(0, .ref a_t), (1, .ref a_p), (2, .int x2)] → F_X4_writeTo_L6 c_length c_codes n6 c_p_length c_p_signs x2 = some o → W p l e rm_X4_writeTo s m args below meth c H locs 0 0 Q (F0 m 6 ls []) := by
    intro n6
    induction n6 with
    | zero => intro c_p_length c_p_signs x2 H locs ls hP hD hS hl hF; exact nos hF
    | succ n6 ih6 =>
      have K48 : ∀ (n48 : Nat) (c_p_length : Int32) (c_p_signs : Nat → Int32) (x2 : Int32) (x3 : Int32) (x4 : Int32) (x5 : Int32) (H : Heap) (locs : List Loc) (ls : Array Slot), va_P D vwCl (wd_X4_writeTo cI a_t a_p a_codes a_p_signs c_length c_codes c_p_length c_p_signs) H → va_D A (wd_X4_writeTo cI a_t a_p a_codes a_p_signs c_length c_codes c_p_length c_p_signs) → va_S A s.heap H locs → lv_has ls 6 [(0, .ref a_t), (1, .ref a_p), (2, .int x2), (3, .int x3), (4, .int x4), (5, .int x5)] → F_X4_writeTo_L48 (F_X4_writeTo_L6 c_length c_codes n6) c_length c_codes n48 c_p_length c_p_signs x2 x3 x4 x5 = some o → W p l e rm_X4_writeTo s m args below meth c H locs 0 0 Q (F0 m 48 ls []) := by
        intro n48
        induction n48 with
        | zero => intro c_p_length c_p_signs x2 x3 x4 x5 H locs ls hP hD hS hl hF; exact nos hF
        | succ n48 ih48 =>
          intro c_p_length c_p_signs x2 x3 x4 x5 H locs ls hP hD hS hl hF
          rw [F_X4_writeTo_L48] at hF
          refine lv_iload hx hb dX4_writeTo_48 (lv_at hl 5 rfl) ?_
          refine lv_iload hx hb dX4_writeTo_50 (lv_at hl 4 rfl) ?_
          refine lv_icmp_ge (tgt := 69) hx hb dX4_writeTo_52 (by decide) (fun k52 => ?_) (fun k52 => ?_)
          · replace hF := (if_pos k52).symm.trans hF
            refine lv_iinc (v := x2 + 1) (lv' := [(2, .int (x2 + 1)), (0, .ref a_t), (1, .ref a_p), (3, .int x3), (4, .int x4), (5, .int x5)]) hx hb dX4_writeTo_69 hl (k := 2) rfl rfl (by decide) rfl (fun ls hl => ?_)
            refine lv_goto (tgt := 6) hx hb dX4_writeTo_72 (by decide) ?_
            exact ih6 c_p_length c_p_signs (x2 + 1) H locs ls hP hD hS (lv_sub hl [1, 2, 0] rfl) hF
          · replace hF := (if_neg k52).symm.trans hF
            refine lv_aload_n hx hb dX4_writeTo_55 rfl (lv_at hl 1 rfl) ?_
            refine lv_iload_n hx hb dX4_writeTo_56 rfl (lv_at hl 3 rfl) ?_
            refine lv_bipush (v := 97) hx hb dX4_writeTo_57 (by decide) ?_
            refine lv_isub hx hb dX4_writeTo_59 ?_
            obtain ⟨r60, hr60, hF⟩ := opb hF
            refine kVV (As := [.int (x3 - (97 : Int32))]) (rest := []) (ws' := (wd_X4_writeTo cI a_t a_p a_codes a_p_signs c_length c_codes r60.1 r60.2)) ⟨hx, hb, hml, hown, hts⟩ (c_X1_add l D cI a_p a_p_signs H.size c_p_length c_p_signs (x3 - (97 : Int32)) r60 hr60) (cwV 1 hts mw_X4_35 rfl rfl rfl hd_X1_add ⟨Nat.le_of_ble_eq_true rfl, Nat.le_of_ble_eq_true rfl⟩) hS hA hG hK hP hD [2, 3] rfl rfl rfl rfl rfl ⟨Nat.zero_le _, Nat.zero_le _⟩ 1 2 rfl rfl rfl rfl hl.1 rfl (Nat.le_of_ble_eq_true rfl) dX4_writeTo_60 (fun H locs hP hD hS => ?_)
            refine lv_iinc (v := x5 + 1) (lv' := [(5, .int (x5 + 1)), (0, .ref a_t), (1, .ref a_p), (2, .int x2), (3, .int x3), (4, .int x4)]) hx hb dX4_writeTo_63 hl (k := 5) rfl rfl (by decide) rfl (fun ls hl => ?_)
            refine lv_goto (tgt := 48) hx hb dX4_writeTo_66 (by decide) ?_
            exact ih48 r60.1 r60.2 x2 x3 x4 (x5 + 1) H locs ls hP hD hS (lv_sub hl [1, 2, 3, 4, 5, 0] rfl) hF
      have K37 : ∀ (c_p_length : Int32) (c_p_signs : Nat → Int32) (x2 : Int32) (v0 : Int32)  (H : Heap) (locs : List Loc) (ls : Array Slot), va_P D vwCl (wd_X4_writeTo cI a_t a_p a_codes a_p_signs c_length c_codes c_p_length c_p_signs) H → va_D A (wd_X4_writeTo cI a_t a_p a_codes a_p_signs c_length c_codes c_p_length c_p_signs) → va_S A s.heap H locs → lv_has ls 6 [(0, .ref a_t), (1, .ref a_p), (2, .int x2)] → F_X4_writeTo_J37 (F_X4_writeTo_L6 c_length c_codes n6) c_length c_codes c_p_length c_p_signs x2 v0 = some o → W p l e rm_X4_writeTo s m args below meth c H locs 0 0 Q (F0 m 37 ls [.int v0]) := by
        intro c_p_length c_p_signs x2 v0 H locs ls hP hD hS hl hF
        unfold F_X4_writeTo_J37 at hF
        refine lv_istore_n (lv' := [(3, .int v0), (0, .ref a_t), (1, .ref a_p), (2, .int x2)]) hx hb dX4_writeTo_37 rfl hl (by decide) rfl (fun ls hl => ?_)
        refine lv_aload_n hx hb dX4_writeTo_38 rfl (lv_at hl 1 rfl) ?_
        refine lv_iload_n hx hb dX4_writeTo_39 rfl (lv_at hl 3 rfl) ?_
        obtain ⟨r40, hr40, hF⟩ := opb hF
        refine kVI (As := [.int x2]) (rest := []) (ws' := (wd_X4_writeTo cI a_t a_p a_codes a_p_signs c_length c_codes c_p_length c_p_signs)) ⟨hx, hb, hml, hown, hts⟩ (c_X4_adds l D cI a_t a_codes H.size c_length c_codes x2 r40 hr40) (cwV 1 hts mw_X4_27 rfl rfl rfl hd_X4_adds ⟨Nat.le_of_ble_eq_true rfl, Nat.le_of_ble_eq_true rfl⟩) hS hA hG hK hP hD [0, 1] rfl rfl rfl rfl rfl ⟨Nat.zero_le _, Nat.zero_le _⟩ 4 0 rfl rfl rfl rfl hl.1 rfl (Nat.le_of_ble_eq_true rfl) dX4_writeTo_40 (fun H locs hP hD hS => ?_)
        refine lv_istore (lv' := [(4, .int r40), (3, .int v0), (0, .ref a_t), (1, .ref a_p), (2, .int x2)]) hx hb dX4_writeTo_43 hl (by decide) rfl (fun ls hl => ?_)
        refine lv_iconst (v := 0) hx hb dX4_writeTo_45 (by decide) ?_
        refine lv_istore (lv' := [(5, .int (0 : Int32)), (4, .int r40), (3, .int v0), (0, .ref a_t), (1, .ref a_p), (2, .int x2)]) hx hb dX4_writeTo_46 hl (by decide) rfl (fun ls hl => ?_)
        exact K48 FU c_p_length c_p_signs x2 v0 r40 (0 : Int32) H locs ls hP hD hS (lv_sub hl [3, 4, 5, 2, 1, 0] rfl) hF
      intro c_p_length c_p_signs x2 H locs ls hP hD hS hl hF
      rw [F_X4_writeTo_L6] at hF
      refine lv_iload_n hx hb dX4_writeTo_6 rfl (lv_at hl 2 rfl) ?_
      refine lv_aload_n hx hb dX4_writeTo_7 rfl (lv_at hl 0 rfl) ?_
      refine get_X4_15 hx hb hts hown hK hP 0 rfl rfl dX4_writeTo_8 ?_
      refine lv_icmp_ge (tgt := 75) hx hb dX4_writeTo_11 (by decide) (fun k11 => ?_) (fun k11 => ?_)
      · replace hF := (if_pos k11).symm.trans hF
        have ho := Option.some.inj hF
        exact hret H locs ls 75 _ hP hS (by rw [← ho]) dX4_writeTo_75
      · replace hF := (if_neg k11).symm.trans hF
        refine lv_aload_n hx hb dX4_writeTo_14 rfl (lv_at hl 0 rfl) ?_
        refine lv_iload_n hx hb dX4_writeTo_15 rfl (lv_at hl 2 rfl) ?_
        obtain ⟨r16, hr16, hF⟩ := opb hF
        refine kVI (As := [.int x2]) (rest := []) (ws' := (wd_X4_writeTo cI a_t a_p a_codes a_p_signs c_length c_codes c_p_length c_p_signs)) ⟨hx, hb, hml, hown, hts⟩ (c_X4_isLetter l D cI a_t a_codes H.size c_length c_codes x2 r16 hr16) (cwV 1 hts mw_X4_23 rfl rfl rfl hd_X4_isLetter ⟨Nat.le_of_ble_eq_true rfl, Nat.le_of_ble_eq_true rfl⟩) hS hA hG hK hP hD [0, 1] rfl rfl rfl rfl rfl ⟨Nat.zero_le _, Nat.zero_le _⟩ 4 0 rfl rfl rfl rfl hl.1 rfl (Nat.le_of_ble_eq_true rfl) dX4_writeTo_16 (fun H locs hP hD hS => ?_)
        refine lv_if_eq (tgt := 30) hx hb dX4_writeTo_19 (by decide) (fun k19 => ?_) (fun k19 => ?_)
        · replace hF := (if_pos k19).symm.trans hF
          refine lv_aload_n hx hb dX4_writeTo_30 rfl (lv_at hl 0 rfl) ?_
          refine lv_iload_n hx hb dX4_writeTo_31 rfl (lv_at hl 2 rfl) ?_
          refine lv_iconst (v := 1) hx hb dX4_writeTo_32 (by decide) ?_
          refine lv_isub hx hb dX4_writeTo_33 ?_
          obtain ⟨r34, hr34, hF⟩ := opb hF
          refine kVI (As := [.int (x2 - (1 : Int32))]) (rest := []) (ws' := (wd_X4_writeTo cI a_t a_p a_codes a_p_signs c_length c_codes c_p_length c_p_signs)) ⟨hx, hb, hml, hown, hts⟩ (c_X4_at l D cI a_t a_codes H.size c_length c_codes (x2 - (1 : Int32)) r34 hr34) (cwV 1 hts mw_X4_19 rfl rfl rfl hd_X4_at ⟨Nat.le_of_ble_eq_true rfl, Nat.le_of_ble_eq_true rfl⟩) hS hA hG hK hP hD [0, 1] rfl rfl rfl rfl rfl ⟨Nat.zero_le _, Nat.zero_le _⟩ 4 0 rfl rfl rfl rfl hl.1 rfl (Nat.le_of_ble_eq_true rfl) dX4_writeTo_34 (fun H locs hP hD hS => ?_)
          exact K37 c_p_length c_p_signs x2 r34 H locs ls hP hD hS (lv_sub hl [0, 1, 2] rfl) hF
        · replace hF := (if_neg k19).symm.trans hF
          refine lv_aload_n hx hb dX4_writeTo_22 rfl (lv_at hl 0 rfl) ?_
          refine lv_iload_n hx hb dX4_writeTo_23 rfl (lv_at hl 2 rfl) ?_
          obtain ⟨r24, hr24, hF⟩ := opb hF
          refine kVI (As := [.int x2]) (rest := []) (ws' := (wd_X4_writeTo cI a_t a_p a_codes a_p_signs c_length c_codes c_p_length c_p_signs)) ⟨hx, hb, hml, hown, hts⟩ (c_X4_at l D cI a_t a_codes H.size c_length c_codes x2 r24 hr24) (cwV 1 hts mw_X4_19 rfl rfl rfl hd_X4_at ⟨Nat.le_of_ble_eq_true rfl, Nat.le_of_ble_eq_true rfl⟩) hS hA hG hK hP hD [0, 1] rfl rfl rfl rfl rfl ⟨Nat.zero_le _, Nat.zero_le _⟩ 4 0 rfl rfl rfl rfl hl.1 rfl (Nat.le_of_ble_eq_true rfl) dX4_writeTo_24 (fun H locs hP hD hS => ?_)
          refine lv_goto (tgt := 37) hx hb dX4_writeTo_27 (by decide) ?_
          exact K37 c_p_length c_p_signs x2 r24 H locs ls hP hD hS (lv_sub hl [0, 1, 2] rfl) hF
  unfold F_X4_writeTo at hF
  have hP : va_P D vwCl (wd_X4_writeTo cI a_t a_p a_codes a_p_signs c_length c_codes c_p_length c_p_signs) s.heap := hP
  obtain ⟨H, hH⟩ : ∃ H, H = s.heap := ⟨_, rfl⟩
  rw [← hH]
  rw [← hH] at hP
  obtain ⟨locs, hlo⟩ : ∃ z : List Loc, z = [] := ⟨_, rfl⟩
  rw [← hlo]
  have hS : va_S A s.heap H locs := by rw [hH, hlo]; exact hS
  refine lv_aload_n hx hb dX4_writeTo_0 rfl (lv_at hl 1 rfl) ?_
  obtain ⟨r1, hr1, hF⟩ := opb hF
  refine kVV (As := []) (rest := []) (ws' := (wd_X4_writeTo cI a_t a_p a_codes a_p_signs c_length c_codes r1 c_p_signs)) ⟨hx, hb, hml, hown, hts⟩ (c_X1_clear l D cI a_p a_p_signs H.size c_p_length  r1 hr1) (cwV 0 hts mw_X4_30 rfl rfl rfl hd_X1_clear ⟨Nat.le_of_ble_eq_true rfl, Nat.le_of_ble_eq_true rfl⟩) hS hA hG hK hP hD [2] rfl rfl rfl rfl rfl ⟨Nat.zero_le _, Nat.zero_le _⟩ 1 2 rfl rfl rfl rfl hl.1 rfl (Nat.le_of_ble_eq_true rfl) dX4_writeTo_1 (fun H locs hP hD hS => ?_)
  refine lv_iconst (v := 0) hx hb dX4_writeTo_4 (by decide) ?_
  refine lv_istore_n (lv' := [(2, .int (0 : Int32)), (0, .ref a_t), (1, .ref a_p)]) hx hb dX4_writeTo_5 rfl hl (by decide) rfl (fun ls hl => ?_)
  exact K6 FU r1 c_p_signs (0 : Int32) H locs ls hP hD hS (lv_sub hl [1, 2, 0] rfl) hF
